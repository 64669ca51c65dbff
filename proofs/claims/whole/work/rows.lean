section
-- ===== PART A: goes FIRST, ahead of the names: the tables' words, and 'selects' of the private methods out of them =====
/-- a private method of a class that the tables say can be made, by its rows of tables_1 -/
def lw_okq (q : MethodName × Nat) : Prop := (q.1.cls ≠ "java/lang/invoke/MethodHandle" ∧ q.1.cls ≠ "java/lang/invoke/VarHandle") ∧ Cond.instantiable q.1.cls q.2 ∈ tables_1 ∧ Cond.privateMethod q.1 ∈ tables_1 ∧ Cond.instanceMethod q.1 ∈ tables_1
theorem lw_p0 : lw_okq (⟨"LoneAdjective$Reader", "skipBlanks", "()V"⟩, 6) := ⟨⟨by decide +kernel, by decide +kernel⟩, List.mem_of_getElem? (i := 30) (by decide +kernel), List.mem_of_getElem? (i := 393) (by decide +kernel), List.mem_of_getElem? (i := 394) (by decide +kernel)⟩
theorem lw_p1 : lw_okq (⟨"LoneAdjective$Reader", "readClause", "(LLoneAdjective$Town;)V"⟩, 6) := ⟨⟨by decide +kernel, by decide +kernel⟩, List.mem_of_getElem? (i := 30) (by decide +kernel), List.mem_of_getElem? (i := 397) (by decide +kernel), List.mem_of_getElem? (i := 398) (by decide +kernel)⟩
theorem lw_p2 : lw_okq (⟨"LoneAdjective$Reader", "readNumber", "(LLoneAdjective$Town;II)V"⟩, 6) := ⟨⟨by decide +kernel, by decide +kernel⟩, List.mem_of_getElem? (i := 30) (by decide +kernel), List.mem_of_getElem? (i := 492) (by decide +kernel), List.mem_of_getElem? (i := 493) (by decide +kernel)⟩
theorem lw_p3 : lw_okq (⟨"LoneAdjective$Reader", "highest", "(LLoneAdjective$Town;II)I"⟩, 6) := ⟨⟨by decide +kernel, by decide +kernel⟩, List.mem_of_getElem? (i := 30) (by decide +kernel), List.mem_of_getElem? (i := 502) (by decide +kernel), List.mem_of_getElem? (i := 503) (by decide +kernel)⟩
theorem lw_p4 : lw_okq (⟨"LoneAdjective$Reader", "again", "(LLoneAdjective$Town;III)Z"⟩, 6) := ⟨⟨by decide +kernel, by decide +kernel⟩, List.mem_of_getElem? (i := 30) (by decide +kernel), List.mem_of_getElem? (i := 508) (by decide +kernel), List.mem_of_getElem? (i := 509) (by decide +kernel)⟩
theorem lw_p5 : lw_okq (⟨"LoneAdjective$Reader", "readEnd", "(LLoneAdjective$Town;I)V"⟩, 6) := ⟨⟨by decide +kernel, by decide +kernel⟩, List.mem_of_getElem? (i := 30) (by decide +kernel), List.mem_of_getElem? (i := 512) (by decide +kernel), List.mem_of_getElem? (i := 513) (by decide +kernel)⟩
theorem lw_p6 : lw_okq (⟨"LoneAdjective$Reader", "take", "(LLoneAdjective$Town;I)V"⟩, 6) := ⟨⟨by decide +kernel, by decide +kernel⟩, List.mem_of_getElem? (i := 30) (by decide +kernel), List.mem_of_getElem? (i := 516) (by decide +kernel), List.mem_of_getElem? (i := 517) (by decide +kernel)⟩
theorem lw_p7 : lw_okq (⟨"LoneAdjective$Reader", "takeDeed", "(LLoneAdjective$Town;)V"⟩, 6) := ⟨⟨by decide +kernel, by decide +kernel⟩, List.mem_of_getElem? (i := 30) (by decide +kernel), List.mem_of_getElem? (i := 520) (by decide +kernel), List.mem_of_getElem? (i := 521) (by decide +kernel)⟩
theorem lw_p8 : lw_okq (⟨"LoneAdjective$Town", "shorten", "(III)V"⟩, 16) := ⟨⟨by decide +kernel, by decide +kernel⟩, List.mem_of_getElem? (i := 59) (by decide +kernel), List.mem_of_getElem? (i := 528) (by decide +kernel), List.mem_of_getElem? (i := 529) (by decide +kernel)⟩
theorem lw_p9 : lw_okq (⟨"LoneAdjective", "deedsThatAre", "(I)I"⟩, 16) := ⟨⟨by decide +kernel, by decide +kernel⟩, List.mem_of_getElem? (i := 22) (by decide +kernel), List.mem_of_getElem? (i := 545) (by decide +kernel), List.mem_of_getElem? (i := 546) (by decide +kernel)⟩
theorem lw_p10 : lw_okq (⟨"LoneAdjective", "driftOnce", "()V"⟩, 16) := ⟨⟨by decide +kernel, by decide +kernel⟩, List.mem_of_getElem? (i := 22) (by decide +kernel), List.mem_of_getElem? (i := 639) (by decide +kernel), List.mem_of_getElem? (i := 640) (by decide +kernel)⟩
theorem lw_p11 : lw_okq (⟨"LoneAdjective", "firstOpenOf", "(I)I"⟩, 16) := ⟨⟨by decide +kernel, by decide +kernel⟩, List.mem_of_getElem? (i := 22) (by decide +kernel), List.mem_of_getElem? (i := 651) (by decide +kernel), List.mem_of_getElem? (i := 652) (by decide +kernel)⟩
theorem lw_p12 : lw_okq (⟨"LoneAdjective$Days", "agrees", "()Z"⟩, 8) := ⟨⟨by decide +kernel, by decide +kernel⟩, List.mem_of_getElem? (i := 264) (by decide +kernel), List.mem_of_getElem? (i := 692) (by decide +kernel), List.mem_of_getElem? (i := 693) (by decide +kernel)⟩
theorem lw_p13 : lw_okq (⟨"LoneAdjective$Days", "placeOf", "(LLoneAdjective$Town;I)I"⟩, 8) := ⟨⟨by decide +kernel, by decide +kernel⟩, List.mem_of_getElem? (i := 264) (by decide +kernel), List.mem_of_getElem? (i := 696) (by decide +kernel), List.mem_of_getElem? (i := 697) (by decide +kernel)⟩
theorem lw_p14 : lw_okq (⟨"LoneAdjective", "mostBeside", "(II)I"⟩, 16) := ⟨⟨by decide +kernel, by decide +kernel⟩, List.mem_of_getElem? (i := 22) (by decide +kernel), List.mem_of_getElem? (i := 729) (by decide +kernel), List.mem_of_getElem? (i := 730) (by decide +kernel)⟩
theorem lw_p15 : lw_okq (⟨"LoneAdjective$Chains", "compare", "(III)V"⟩, 2) := ⟨⟨by decide +kernel, by decide +kernel⟩, List.mem_of_getElem? (i := 294) (by decide +kernel), List.mem_of_getElem? (i := 755) (by decide +kernel), List.mem_of_getElem? (i := 756) (by decide +kernel)⟩
def lw_privs_1 : List (MethodName × Nat) := [(⟨"LoneAdjective$Reader", "skipBlanks", "()V"⟩, 6), (⟨"LoneAdjective$Reader", "readClause", "(LLoneAdjective$Town;)V"⟩, 6), (⟨"LoneAdjective$Reader", "readNumber", "(LLoneAdjective$Town;II)V"⟩, 6), (⟨"LoneAdjective$Reader", "highest", "(LLoneAdjective$Town;II)I"⟩, 6), (⟨"LoneAdjective$Reader", "again", "(LLoneAdjective$Town;III)Z"⟩, 6), (⟨"LoneAdjective$Reader", "readEnd", "(LLoneAdjective$Town;I)V"⟩, 6), (⟨"LoneAdjective$Reader", "take", "(LLoneAdjective$Town;I)V"⟩, 6), (⟨"LoneAdjective$Reader", "takeDeed", "(LLoneAdjective$Town;)V"⟩, 6), (⟨"LoneAdjective$Town", "shorten", "(III)V"⟩, 16), (⟨"LoneAdjective", "deedsThatAre", "(I)I"⟩, 16), (⟨"LoneAdjective", "driftOnce", "()V"⟩, 16), (⟨"LoneAdjective", "firstOpenOf", "(I)I"⟩, 16), (⟨"LoneAdjective$Days", "agrees", "()Z"⟩, 8), (⟨"LoneAdjective$Days", "placeOf", "(LLoneAdjective$Town;I)I"⟩, 8), (⟨"LoneAdjective", "mostBeside", "(II)I"⟩, 16), (⟨"LoneAdjective$Chains", "compare", "(III)V"⟩, 2)]
theorem lw_r1 : ∀ q ∈ lw_privs_1, lw_okq q := List.forall_mem_cons.mpr ⟨lw_p0, List.forall_mem_cons.mpr ⟨lw_p1, List.forall_mem_cons.mpr ⟨lw_p2, List.forall_mem_cons.mpr ⟨lw_p3, List.forall_mem_cons.mpr ⟨lw_p4, List.forall_mem_cons.mpr ⟨lw_p5, List.forall_mem_cons.mpr ⟨lw_p6, List.forall_mem_cons.mpr ⟨lw_p7, List.forall_mem_cons.mpr ⟨lw_p8, List.forall_mem_cons.mpr ⟨lw_p9, List.forall_mem_cons.mpr ⟨lw_p10, List.forall_mem_cons.mpr ⟨lw_p11, List.forall_mem_cons.mpr ⟨lw_p12, List.forall_mem_cons.mpr ⟨lw_p13, List.forall_mem_cons.mpr ⟨lw_p14, List.forall_mem_cons.mpr ⟨lw_p15, fun _ h => absurd h List.not_mem_nil⟩⟩⟩⟩⟩⟩⟩⟩⟩⟩⟩⟩⟩⟩⟩⟩
theorem lw_p16 : lw_okq (⟨"LoneAdjective", "sellMinute", "()V"⟩, 16) := ⟨⟨by decide +kernel, by decide +kernel⟩, List.mem_of_getElem? (i := 22) (by decide +kernel), List.mem_of_getElem? (i := 769) (by decide +kernel), List.mem_of_getElem? (i := 770) (by decide +kernel)⟩
theorem lw_p17 : lw_okq (⟨"LoneAdjective", "highestBidder", "(I)I"⟩, 16) := ⟨⟨by decide +kernel, by decide +kernel⟩, List.mem_of_getElem? (i := 22) (by decide +kernel), List.mem_of_getElem? (i := 773) (by decide +kernel), List.mem_of_getElem? (i := 774) (by decide +kernel)⟩
theorem lw_p18 : lw_okq (⟨"LoneAdjective", "bidOf", "(I)I"⟩, 16) := ⟨⟨by decide +kernel, by decide +kernel⟩, List.mem_of_getElem? (i := 22) (by decide +kernel), List.mem_of_getElem? (i := 777) (by decide +kernel), List.mem_of_getElem? (i := 778) (by decide +kernel)⟩
theorem lw_p19 : lw_okq (⟨"LoneAdjective$Chase", "decideAt", "(LLoneAdjective$Town;I)Z"⟩, 2) := ⟨⟨by decide +kernel, by decide +kernel⟩, List.mem_of_getElem? (i := 309) (by decide +kernel), List.mem_of_getElem? (i := 793) (by decide +kernel), List.mem_of_getElem? (i := 794) (by decide +kernel)⟩
theorem lw_p20 : lw_okq (⟨"LoneAdjective$Chase", "decide", "(LLoneAdjective$Town;IIII)Z"⟩, 2) := ⟨⟨by decide +kernel, by decide +kernel⟩, List.mem_of_getElem? (i := 309) (by decide +kernel), List.mem_of_getElem? (i := 797) (by decide +kernel), List.mem_of_getElem? (i := 798) (by decide +kernel)⟩
theorem lw_p21 : lw_okq (⟨"LoneAdjective", "wordForMost", "(I)I"⟩, 16) := ⟨⟨by decide +kernel, by decide +kernel⟩, List.mem_of_getElem? (i := 22) (by decide +kernel), List.mem_of_getElem? (i := 810) (by decide +kernel), List.mem_of_getElem? (i := 811) (by decide +kernel)⟩
theorem lw_p22 : lw_okq (⟨"LoneAdjective", "mostVoted", "()I"⟩, 16) := ⟨⟨by decide +kernel, by decide +kernel⟩, List.mem_of_getElem? (i := 22) (by decide +kernel), List.mem_of_getElem? (i := 814) (by decide +kernel), List.mem_of_getElem? (i := 815) (by decide +kernel)⟩
theorem lw_p23 : lw_okq (⟨"LoneAdjectiveModel", "readTown", "()Z"⟩, 50) := ⟨⟨by decide +kernel, by decide +kernel⟩, List.mem_of_getElem? (i := 883) (by decide +kernel), List.mem_of_getElem? (i := 1054) (by decide +kernel), List.mem_of_getElem? (i := 1055) (by decide +kernel)⟩
theorem lw_p24 : lw_okq (⟨"LoneAdjectiveModel", "nextToken", "()V"⟩, 50) := ⟨⟨by decide +kernel, by decide +kernel⟩, List.mem_of_getElem? (i := 883) (by decide +kernel), List.mem_of_getElem? (i := 1058) (by decide +kernel), List.mem_of_getElem? (i := 1059) (by decide +kernel)⟩
theorem lw_p25 : lw_okq (⟨"LoneAdjectiveModel", "takes", "(I)Z"⟩, 50) := ⟨⟨by decide +kernel, by decide +kernel⟩, List.mem_of_getElem? (i := 883) (by decide +kernel), List.mem_of_getElem? (i := 1065) (by decide +kernel), List.mem_of_getElem? (i := 1066) (by decide +kernel)⟩
theorem lw_p26 : lw_okq (⟨"LoneAdjectiveModel", "faults", "(I)Z"⟩, 50) := ⟨⟨by decide +kernel, by decide +kernel⟩, List.mem_of_getElem? (i := 883) (by decide +kernel), List.mem_of_getElem? (i := 1069) (by decide +kernel), List.mem_of_getElem? (i := 1070) (by decide +kernel)⟩
theorem lw_p27 : lw_okq (⟨"LoneAdjectiveModel", "isNumber", "(II)Z"⟩, 50) := ⟨⟨by decide +kernel, by decide +kernel⟩, List.mem_of_getElem? (i := 883) (by decide +kernel), List.mem_of_getElem? (i := 1073) (by decide +kernel), List.mem_of_getElem? (i := 1074) (by decide +kernel)⟩
theorem lw_p28 : lw_okq (⟨"LoneAdjectiveModel", "taken", "()I"⟩, 50) := ⟨⟨by decide +kernel, by decide +kernel⟩, List.mem_of_getElem? (i := 883) (by decide +kernel), List.mem_of_getElem? (i := 1077) (by decide +kernel), List.mem_of_getElem? (i := 1078) (by decide +kernel)⟩
theorem lw_p29 : lw_okq (⟨"LoneAdjectiveModel", "readWay", "()Z"⟩, 50) := ⟨⟨by decide +kernel, by decide +kernel⟩, List.mem_of_getElem? (i := 883) (by decide +kernel), List.mem_of_getElem? (i := 1081) (by decide +kernel), List.mem_of_getElem? (i := 1082) (by decide +kernel)⟩
theorem lw_p30 : lw_okq (⟨"LoneAdjectiveModel", "readPerson", "()Z"⟩, 50) := ⟨⟨by decide +kernel, by decide +kernel⟩, List.mem_of_getElem? (i := 883) (by decide +kernel), List.mem_of_getElem? (i := 1085) (by decide +kernel), List.mem_of_getElem? (i := 1086) (by decide +kernel)⟩
theorem lw_p31 : lw_okq (⟨"LoneAdjectiveModel", "readDeed", "()Z"⟩, 50) := ⟨⟨by decide +kernel, by decide +kernel⟩, List.mem_of_getElem? (i := 883) (by decide +kernel), List.mem_of_getElem? (i := 1089) (by decide +kernel), List.mem_of_getElem? (i := 1090) (by decide +kernel)⟩
def lw_privs_2 : List (MethodName × Nat) := [(⟨"LoneAdjective", "sellMinute", "()V"⟩, 16), (⟨"LoneAdjective", "highestBidder", "(I)I"⟩, 16), (⟨"LoneAdjective", "bidOf", "(I)I"⟩, 16), (⟨"LoneAdjective$Chase", "decideAt", "(LLoneAdjective$Town;I)Z"⟩, 2), (⟨"LoneAdjective$Chase", "decide", "(LLoneAdjective$Town;IIII)Z"⟩, 2), (⟨"LoneAdjective", "wordForMost", "(I)I"⟩, 16), (⟨"LoneAdjective", "mostVoted", "()I"⟩, 16), (⟨"LoneAdjectiveModel", "readTown", "()Z"⟩, 50), (⟨"LoneAdjectiveModel", "nextToken", "()V"⟩, 50), (⟨"LoneAdjectiveModel", "takes", "(I)Z"⟩, 50), (⟨"LoneAdjectiveModel", "faults", "(I)Z"⟩, 50), (⟨"LoneAdjectiveModel", "isNumber", "(II)Z"⟩, 50), (⟨"LoneAdjectiveModel", "taken", "()I"⟩, 50), (⟨"LoneAdjectiveModel", "readWay", "()Z"⟩, 50), (⟨"LoneAdjectiveModel", "readPerson", "()Z"⟩, 50), (⟨"LoneAdjectiveModel", "readDeed", "()Z"⟩, 50)]
theorem lw_r2 : ∀ q ∈ lw_privs_2, lw_okq q := List.forall_mem_cons.mpr ⟨lw_p16, List.forall_mem_cons.mpr ⟨lw_p17, List.forall_mem_cons.mpr ⟨lw_p18, List.forall_mem_cons.mpr ⟨lw_p19, List.forall_mem_cons.mpr ⟨lw_p20, List.forall_mem_cons.mpr ⟨lw_p21, List.forall_mem_cons.mpr ⟨lw_p22, List.forall_mem_cons.mpr ⟨lw_p23, List.forall_mem_cons.mpr ⟨lw_p24, List.forall_mem_cons.mpr ⟨lw_p25, List.forall_mem_cons.mpr ⟨lw_p26, List.forall_mem_cons.mpr ⟨lw_p27, List.forall_mem_cons.mpr ⟨lw_p28, List.forall_mem_cons.mpr ⟨lw_p29, List.forall_mem_cons.mpr ⟨lw_p30, List.forall_mem_cons.mpr ⟨lw_p31, fun _ h => absurd h List.not_mem_nil⟩⟩⟩⟩⟩⟩⟩⟩⟩⟩⟩⟩⟩⟩⟩⟩
theorem lw_p32 : lw_okq (⟨"LoneAdjectiveModel", "readReword", "()Z"⟩, 50) := ⟨⟨by decide +kernel, by decide +kernel⟩, List.mem_of_getElem? (i := 883) (by decide +kernel), List.mem_of_getElem? (i := 1093) (by decide +kernel), List.mem_of_getElem? (i := 1094) (by decide +kernel)⟩
theorem lw_p33 : lw_okq (⟨"LoneAdjectiveModel", "readTrust", "()Z"⟩, 50) := ⟨⟨by decide +kernel, by decide +kernel⟩, List.mem_of_getElem? (i := 883) (by decide +kernel), List.mem_of_getElem? (i := 1097) (by decide +kernel), List.mem_of_getElem? (i := 1098) (by decide +kernel)⟩
theorem lw_p34 : lw_okq (⟨"LoneAdjectiveModel", "readOther", "()Z"⟩, 50) := ⟨⟨by decide +kernel, by decide +kernel⟩, List.mem_of_getElem? (i := 883) (by decide +kernel), List.mem_of_getElem? (i := 1101) (by decide +kernel), List.mem_of_getElem? (i := 1102) (by decide +kernel)⟩
theorem lw_p35 : lw_okq (⟨"LoneAdjectiveModel", "findFars", "()V"⟩, 50) := ⟨⟨by decide +kernel, by decide +kernel⟩, List.mem_of_getElem? (i := 883) (by decide +kernel), List.mem_of_getElem? (i := 1105) (by decide +kernel), List.mem_of_getElem? (i := 1106) (by decide +kernel)⟩
theorem lw_p36 : lw_okq (⟨"LoneAdjectiveModel", "deedsThatAre", "(I)I"⟩, 50) := ⟨⟨by decide +kernel, by decide +kernel⟩, List.mem_of_getElem? (i := 883) (by decide +kernel), List.mem_of_getElem? (i := 1117) (by decide +kernel), List.mem_of_getElem? (i := 1118) (by decide +kernel)⟩
theorem lw_p37 : lw_okq (⟨"LoneAdjectiveModel", "howOf", "(I)I"⟩, 50) := ⟨⟨by decide +kernel, by decide +kernel⟩, List.mem_of_getElem? (i := 883) (by decide +kernel), List.mem_of_getElem? (i := 1121) (by decide +kernel), List.mem_of_getElem? (i := 1122) (by decide +kernel)⟩
theorem lw_p38 : lw_okq (⟨"LoneAdjectiveModel", "worthOf", "(I)I"⟩, 50) := ⟨⟨by decide +kernel, by decide +kernel⟩, List.mem_of_getElem? (i := 883) (by decide +kernel), List.mem_of_getElem? (i := 1125) (by decide +kernel), List.mem_of_getElem? (i := 1126) (by decide +kernel)⟩
theorem lw_p39 : lw_okq (⟨"LoneAdjectiveModel", "isSquare", "(I)Z"⟩, 50) := ⟨⟨by decide +kernel, by decide +kernel⟩, List.mem_of_getElem? (i := 883) (by decide +kernel), List.mem_of_getElem? (i := 1136) (by decide +kernel), List.mem_of_getElem? (i := 1137) (by decide +kernel)⟩
theorem lw_p40 : lw_okq (⟨"LoneAdjectiveModel", "farOf", "(II)I"⟩, 50) := ⟨⟨by decide +kernel, by decide +kernel⟩, List.mem_of_getElem? (i := 883) (by decide +kernel), List.mem_of_getElem? (i := 1140) (by decide +kernel), List.mem_of_getElem? (i := 1141) (by decide +kernel)⟩
theorem lw_p41 : lw_okq (⟨"LoneAdjectiveModel", "isPerson", "(I)Z"⟩, 50) := ⟨⟨by decide +kernel, by decide +kernel⟩, List.mem_of_getElem? (i := 883) (by decide +kernel), List.mem_of_getElem? (i := 1149) (by decide +kernel), List.mem_of_getElem? (i := 1150) (by decide +kernel)⟩
theorem lw_p42 : lw_okq (⟨"LoneAdjectiveModel", "isDeed", "(I)Z"⟩, 50) := ⟨⟨by decide +kernel, by decide +kernel⟩, List.mem_of_getElem? (i := 883) (by decide +kernel), List.mem_of_getElem? (i := 1157) (by decide +kernel), List.mem_of_getElem? (i := 1158) (by decide +kernel)⟩
theorem lw_p43 : lw_okq (⟨"LoneAdjectiveModel", "areTwo", "(II)Z"⟩, 50) := ⟨⟨by decide +kernel, by decide +kernel⟩, List.mem_of_getElem? (i := 883) (by decide +kernel), List.mem_of_getElem? (i := 1166) (by decide +kernel), List.mem_of_getElem? (i := 1167) (by decide +kernel)⟩
theorem lw_p44 : lw_okq (⟨"LoneAdjectiveModel", "walkTo", "(II)V"⟩, 50) := ⟨⟨by decide +kernel, by decide +kernel⟩, List.mem_of_getElem? (i := 883) (by decide +kernel), List.mem_of_getElem? (i := 1180) (by decide +kernel), List.mem_of_getElem? (i := 1181) (by decide +kernel)⟩
theorem lw_p45 : lw_okq (⟨"LoneAdjectiveModel", "doNow", "(I)V"⟩, 50) := ⟨⟨by decide +kernel, by decide +kernel⟩, List.mem_of_getElem? (i := 883) (by decide +kernel), List.mem_of_getElem? (i := 1188) (by decide +kernel), List.mem_of_getElem? (i := 1189) (by decide +kernel)⟩
theorem lw_p46 : lw_okq (⟨"LoneAdjectiveModel", "draw", "(I)I"⟩, 50) := ⟨⟨by decide +kernel, by decide +kernel⟩, List.mem_of_getElem? (i := 883) (by decide +kernel), List.mem_of_getElem? (i := 1206) (by decide +kernel), List.mem_of_getElem? (i := 1207) (by decide +kernel)⟩
theorem lw_p47 : lw_okq (⟨"LoneAdjectiveModel", "findEnds", "(III)V"⟩, 50) := ⟨⟨by decide +kernel, by decide +kernel⟩, List.mem_of_getElem? (i := 883) (by decide +kernel), List.mem_of_getElem? (i := 1218) (by decide +kernel), List.mem_of_getElem? (i := 1219) (by decide +kernel)⟩
def lw_privs_3 : List (MethodName × Nat) := [(⟨"LoneAdjectiveModel", "readReword", "()Z"⟩, 50), (⟨"LoneAdjectiveModel", "readTrust", "()Z"⟩, 50), (⟨"LoneAdjectiveModel", "readOther", "()Z"⟩, 50), (⟨"LoneAdjectiveModel", "findFars", "()V"⟩, 50), (⟨"LoneAdjectiveModel", "deedsThatAre", "(I)I"⟩, 50), (⟨"LoneAdjectiveModel", "howOf", "(I)I"⟩, 50), (⟨"LoneAdjectiveModel", "worthOf", "(I)I"⟩, 50), (⟨"LoneAdjectiveModel", "isSquare", "(I)Z"⟩, 50), (⟨"LoneAdjectiveModel", "farOf", "(II)I"⟩, 50), (⟨"LoneAdjectiveModel", "isPerson", "(I)Z"⟩, 50), (⟨"LoneAdjectiveModel", "isDeed", "(I)Z"⟩, 50), (⟨"LoneAdjectiveModel", "areTwo", "(II)Z"⟩, 50), (⟨"LoneAdjectiveModel", "walkTo", "(II)V"⟩, 50), (⟨"LoneAdjectiveModel", "doNow", "(I)V"⟩, 50), (⟨"LoneAdjectiveModel", "draw", "(I)I"⟩, 50), (⟨"LoneAdjectiveModel", "findEnds", "(III)V"⟩, 50)]
theorem lw_r3 : ∀ q ∈ lw_privs_3, lw_okq q := List.forall_mem_cons.mpr ⟨lw_p32, List.forall_mem_cons.mpr ⟨lw_p33, List.forall_mem_cons.mpr ⟨lw_p34, List.forall_mem_cons.mpr ⟨lw_p35, List.forall_mem_cons.mpr ⟨lw_p36, List.forall_mem_cons.mpr ⟨lw_p37, List.forall_mem_cons.mpr ⟨lw_p38, List.forall_mem_cons.mpr ⟨lw_p39, List.forall_mem_cons.mpr ⟨lw_p40, List.forall_mem_cons.mpr ⟨lw_p41, List.forall_mem_cons.mpr ⟨lw_p42, List.forall_mem_cons.mpr ⟨lw_p43, List.forall_mem_cons.mpr ⟨lw_p44, List.forall_mem_cons.mpr ⟨lw_p45, List.forall_mem_cons.mpr ⟨lw_p46, List.forall_mem_cons.mpr ⟨lw_p47, fun _ h => absurd h List.not_mem_nil⟩⟩⟩⟩⟩⟩⟩⟩⟩⟩⟩⟩⟩⟩⟩⟩
theorem lw_p48 : lw_okq (⟨"LoneAdjectiveModel", "endBehind", "(III)I"⟩, 50) := ⟨⟨by decide +kernel, by decide +kernel⟩, List.mem_of_getElem? (i := 883) (by decide +kernel), List.mem_of_getElem? (i := 1222) (by decide +kernel), List.mem_of_getElem? (i := 1223) (by decide +kernel)⟩
theorem lw_p49 : lw_okq (⟨"LoneAdjectiveModel", "placeOf", "(I)I"⟩, 50) := ⟨⟨by decide +kernel, by decide +kernel⟩, List.mem_of_getElem? (i := 883) (by decide +kernel), List.mem_of_getElem? (i := 1226) (by decide +kernel), List.mem_of_getElem? (i := 1227) (by decide +kernel)⟩
theorem lw_p50 : lw_okq (⟨"LoneAdjectiveModel", "endOf", "(II)I"⟩, 50) := ⟨⟨by decide +kernel, by decide +kernel⟩, List.mem_of_getElem? (i := 883) (by decide +kernel), List.mem_of_getElem? (i := 1230) (by decide +kernel), List.mem_of_getElem? (i := 1231) (by decide +kernel)⟩
theorem lw_p51 : lw_okq (⟨"LoneAdjectiveModel", "firstRow", "(III)I"⟩, 50) := ⟨⟨by decide +kernel, by decide +kernel⟩, List.mem_of_getElem? (i := 883) (by decide +kernel), List.mem_of_getElem? (i := 1234) (by decide +kernel), List.mem_of_getElem? (i := 1235) (by decide +kernel)⟩
theorem lw_p52 : lw_okq (⟨"LoneAdjectiveModel", "digits", "(II)I"⟩, 50) := ⟨⟨by decide +kernel, by decide +kernel⟩, List.mem_of_getElem? (i := 883) (by decide +kernel), List.mem_of_getElem? (i := 1238) (by decide +kernel), List.mem_of_getElem? (i := 1239) (by decide +kernel)⟩
theorem lw_p53 : lw_okq (⟨"LoneAdjectiveModel", "isRow", "(III)Z"⟩, 50) := ⟨⟨by decide +kernel, by decide +kernel⟩, List.mem_of_getElem? (i := 883) (by decide +kernel), List.mem_of_getElem? (i := 1242) (by decide +kernel), List.mem_of_getElem? (i := 1243) (by decide +kernel)⟩
theorem lw_p54 : lw_okq (⟨"LoneAdjectiveModel", "isAhead", "(II)Z"⟩, 50) := ⟨⟨by decide +kernel, by decide +kernel⟩, List.mem_of_getElem? (i := 883) (by decide +kernel), List.mem_of_getElem? (i := 1246) (by decide +kernel), List.mem_of_getElem? (i := 1247) (by decide +kernel)⟩
theorem lw_p55 : lw_okq (⟨"LoneAdjectiveModel", "costOf", "(I)I"⟩, 50) := ⟨⟨by decide +kernel, by decide +kernel⟩, List.mem_of_getElem? (i := 883) (by decide +kernel), List.mem_of_getElem? (i := 1258) (by decide +kernel), List.mem_of_getElem? (i := 1259) (by decide +kernel)⟩
theorem lw_p56 : lw_okq (⟨"LoneAdjectiveModel", "oddsOf", "(IIII)I"⟩, 50) := ⟨⟨by decide +kernel, by decide +kernel⟩, List.mem_of_getElem? (i := 883) (by decide +kernel), List.mem_of_getElem? (i := 1266) (by decide +kernel), List.mem_of_getElem? (i := 1267) (by decide +kernel)⟩
theorem lw_p57 : lw_okq (⟨"LoneAdjectiveModel", "bidOf", "(I)I"⟩, 50) := ⟨⟨by decide +kernel, by decide +kernel⟩, List.mem_of_getElem? (i := 883) (by decide +kernel), List.mem_of_getElem? (i := 1281) (by decide +kernel), List.mem_of_getElem? (i := 1282) (by decide +kernel)⟩
theorem lw_p58 : lw_okq (⟨"LoneAdjectiveModel", "findThief", "(I)V"⟩, 50) := ⟨⟨by decide +kernel, by decide +kernel⟩, List.mem_of_getElem? (i := 883) (by decide +kernel), List.mem_of_getElem? (i := 1289) (by decide +kernel), List.mem_of_getElem? (i := 1290) (by decide +kernel)⟩
theorem lw_p59 : lw_okq (⟨"LoneAdjectiveModel", "escapesFrom", "(III)I"⟩, 50) := ⟨⟨by decide +kernel, by decide +kernel⟩, List.mem_of_getElem? (i := 883) (by decide +kernel), List.mem_of_getElem? (i := 1293) (by decide +kernel), List.mem_of_getElem? (i := 1294) (by decide +kernel)⟩
theorem lw_p60 : lw_okq (⟨"LoneAdjectiveModel", "leads", "(II)Z"⟩, 50) := ⟨⟨by decide +kernel, by decide +kernel⟩, List.mem_of_getElem? (i := 883) (by decide +kernel), List.mem_of_getElem? (i := 1297) (by decide +kernel), List.mem_of_getElem? (i := 1298) (by decide +kernel)⟩
theorem lw_p61 : lw_okq (⟨"LoneAdjectiveModel", "catchesFrom", "(III)I"⟩, 50) := ⟨⟨by decide +kernel, by decide +kernel⟩, List.mem_of_getElem? (i := 883) (by decide +kernel), List.mem_of_getElem? (i := 1301) (by decide +kernel), List.mem_of_getElem? (i := 1302) (by decide +kernel)⟩
theorem lw_p62 : lw_okq (⟨"LoneAdjectiveModel", "votesFor", "(I)I"⟩, 50) := ⟨⟨by decide +kernel, by decide +kernel⟩, List.mem_of_getElem? (i := 883) (by decide +kernel), List.mem_of_getElem? (i := 1310) (by decide +kernel), List.mem_of_getElem? (i := 1311) (by decide +kernel)⟩
theorem lw_p63 : lw_okq (⟨"LoneAdjectiveModel", "voteOf", "(I)I"⟩, 50) := ⟨⟨by decide +kernel, by decide +kernel⟩, List.mem_of_getElem? (i := 883) (by decide +kernel), List.mem_of_getElem? (i := 1314) (by decide +kernel), List.mem_of_getElem? (i := 1315) (by decide +kernel)⟩
def lw_privs_4 : List (MethodName × Nat) := [(⟨"LoneAdjectiveModel", "endBehind", "(III)I"⟩, 50), (⟨"LoneAdjectiveModel", "placeOf", "(I)I"⟩, 50), (⟨"LoneAdjectiveModel", "endOf", "(II)I"⟩, 50), (⟨"LoneAdjectiveModel", "firstRow", "(III)I"⟩, 50), (⟨"LoneAdjectiveModel", "digits", "(II)I"⟩, 50), (⟨"LoneAdjectiveModel", "isRow", "(III)Z"⟩, 50), (⟨"LoneAdjectiveModel", "isAhead", "(II)Z"⟩, 50), (⟨"LoneAdjectiveModel", "costOf", "(I)I"⟩, 50), (⟨"LoneAdjectiveModel", "oddsOf", "(IIII)I"⟩, 50), (⟨"LoneAdjectiveModel", "bidOf", "(I)I"⟩, 50), (⟨"LoneAdjectiveModel", "findThief", "(I)V"⟩, 50), (⟨"LoneAdjectiveModel", "escapesFrom", "(III)I"⟩, 50), (⟨"LoneAdjectiveModel", "leads", "(II)Z"⟩, 50), (⟨"LoneAdjectiveModel", "catchesFrom", "(III)I"⟩, 50), (⟨"LoneAdjectiveModel", "votesFor", "(I)I"⟩, 50), (⟨"LoneAdjectiveModel", "voteOf", "(I)I"⟩, 50)]
theorem lw_r4 : ∀ q ∈ lw_privs_4, lw_okq q := List.forall_mem_cons.mpr ⟨lw_p48, List.forall_mem_cons.mpr ⟨lw_p49, List.forall_mem_cons.mpr ⟨lw_p50, List.forall_mem_cons.mpr ⟨lw_p51, List.forall_mem_cons.mpr ⟨lw_p52, List.forall_mem_cons.mpr ⟨lw_p53, List.forall_mem_cons.mpr ⟨lw_p54, List.forall_mem_cons.mpr ⟨lw_p55, List.forall_mem_cons.mpr ⟨lw_p56, List.forall_mem_cons.mpr ⟨lw_p57, List.forall_mem_cons.mpr ⟨lw_p58, List.forall_mem_cons.mpr ⟨lw_p59, List.forall_mem_cons.mpr ⟨lw_p60, List.forall_mem_cons.mpr ⟨lw_p61, List.forall_mem_cons.mpr ⟨lw_p62, List.forall_mem_cons.mpr ⟨lw_p63, fun _ h => absurd h List.not_mem_nil⟩⟩⟩⟩⟩⟩⟩⟩⟩⟩⟩⟩⟩⟩⟩⟩
theorem lw_p64 : lw_okq (⟨"LoneAdjectiveModel", "deedsOf", "(I)I"⟩, 50) := ⟨⟨by decide +kernel, by decide +kernel⟩, List.mem_of_getElem? (i := 883) (by decide +kernel), List.mem_of_getElem? (i := 1318) (by decide +kernel), List.mem_of_getElem? (i := 1319) (by decide +kernel)⟩
theorem lw_p65 : lw_okq (⟨"LoneAdjectiveModel", "findDays", "(I)I"⟩, 50) := ⟨⟨by decide +kernel, by decide +kernel⟩, List.mem_of_getElem? (i := 883) (by decide +kernel), List.mem_of_getElem? (i := 1334) (by decide +kernel), List.mem_of_getElem? (i := 1335) (by decide +kernel)⟩
theorem lw_p66 : lw_okq (⟨"LoneAdjectiveModel", "isDay", "(I)Z"⟩, 50) := ⟨⟨by decide +kernel, by decide +kernel⟩, List.mem_of_getElem? (i := 883) (by decide +kernel), List.mem_of_getElem? (i := 1338) (by decide +kernel), List.mem_of_getElem? (i := 1339) (by decide +kernel)⟩
def lw_privs_5 : List (MethodName × Nat) := [(⟨"LoneAdjectiveModel", "deedsOf", "(I)I"⟩, 50), (⟨"LoneAdjectiveModel", "findDays", "(I)I"⟩, 50), (⟨"LoneAdjectiveModel", "isDay", "(I)Z"⟩, 50)]
theorem lw_r5 : ∀ q ∈ lw_privs_5, lw_okq q := List.forall_mem_cons.mpr ⟨lw_p64, List.forall_mem_cons.mpr ⟨lw_p65, List.forall_mem_cons.mpr ⟨lw_p66, fun _ h => absurd h List.not_mem_nil⟩⟩⟩
def lw_privs : List (MethodName × Nat) := lw_privs_1 ++ (lw_privs_2 ++ (lw_privs_3 ++ (lw_privs_4 ++ (lw_privs_5))))
def lw_tbl : List Cond := k2_sels lw_privs ++ tables_1
theorem lw_privs_ok : ∀ q ∈ lw_privs, lw_okq q := by
  show ∀ q ∈ lw_privs_1 ++ (lw_privs_2 ++ (lw_privs_3 ++ (lw_privs_4 ++ (lw_privs_5)))), lw_okq q
  exact List.forall_mem_append.mpr ⟨lw_r1, List.forall_mem_append.mpr ⟨lw_r2, List.forall_mem_append.mpr ⟨lw_r3, List.forall_mem_append.mpr ⟨lw_r4, lw_r5⟩⟩⟩⟩
end
section
def RX0 : String := "LoneAdjective$BestRound"
def TX0 : u_T := fun k => match k with
  | 0 => ("LoneAdjective$Rounds", "row", "[I", true)
  | 1 => ("LoneAdjective$Rounds", "endAt", "[I", true)
  | 2 => ("LoneAdjective$BestRound", "worth", "I", false)
  | 3 => ("LoneAdjective$BestRound", "end", "I", false)
  | 4 => ("LoneAdjective$BestRound", "length", "I", false)
  | _ => ("LoneAdjective$BestRound", "best", "[I", true)
def tyX0 : Nat → FieldType := fun k => match k with
  | 0 => .array .int
  | 1 => .array .int
  | 2 => .int
  | 3 => .int
  | 4 => .int
  | _ => .array .int
abbrev wsX00 : List Cond := u_ws RX0 TX0 6
theorem nmX0 : ∀ a, a < 6 → ∀ b, b < 6 → a ≠ b → (TX0 a).2.1 ≠ (TX0 b).2.1 := by decide +kernel
theorem tyX0_ok : ∀ k, k < 6 → parseFieldDescriptor (TX0 k).2.2.1 = some (tyX0 k) := by decide +kernel
abbrev cX0_init : ByteArray := prog_2_method_1_code
def yX0_init : MethodName := ⟨RX0, "<init>", "()V"⟩
abbrev cX0_find : ByteArray := prog_2_method_2_code
def yX0_find : MethodName := ⟨RX0, "find", "(LLoneAdjective$Town;III)V"⟩
abbrev cX0_meet : ByteArray := prog_2_method_3_code
def yX0_meet : MethodName := ⟨RX0, "meet", "(LLoneAdjective$Town;II)V"⟩
def RX1 : String := "LoneAdjective$Chains"
def TX1 : u_T := fun k => match k with
  | 0 => ("LoneAdjective$Chains", "bestOdds", "[I", true)
  | _ => ("LoneAdjective$Chains", "fewest", "[I", true)
def tyX1 : Nat → FieldType := fun k => match k with
  | 0 => .array .int
  | _ => .array .int
abbrev wsX10 : List Cond := u_ws RX1 TX1 2
theorem nmX1 : ∀ a, a < 2 → ∀ b, b < 2 → a ≠ b → (TX1 a).2.1 ≠ (TX1 b).2.1 := by decide +kernel
theorem tyX1_ok : ∀ k, k < 2 → parseFieldDescriptor (TX1 k).2.2.1 = some (tyX1 k) := by decide +kernel
abbrev cX1_init : ByteArray := prog_3_method_1_code
def yX1_init : MethodName := ⟨RX1, "<init>", "()V"⟩
abbrev cX1_find : ByteArray := prog_3_method_2_code
def yX1_find : MethodName := ⟨RX1, "find", "(LLoneAdjective$Town;I)V"⟩
abbrev cX1_lendOn : ByteArray := prog_3_method_3_code
def yX1_lendOn : MethodName := ⟨RX1, "lendOn", "(LLoneAdjective$Chains;LLoneAdjective$Town;IIII)V"⟩
abbrev cX1_compare : ByteArray := prog_3_method_4_code
def yX1_compare : MethodName := ⟨RX1, "compare", "(III)V"⟩
def RX2 : String := "LoneAdjective$Chase"
def TX2 : u_T := fun k => match k with
  | 0 => ("LoneAdjective$Chase", "ending", "[I", true)
  | _ => ("LoneAdjective$Chase", "moves", "[I", true)
def tyX2 : Nat → FieldType := fun k => match k with
  | 0 => .array .int
  | _ => .array .int
abbrev wsX20 : List Cond := u_ws RX2 TX2 2
theorem nmX2 : ∀ a, a < 2 → ∀ b, b < 2 → a ≠ b → (TX2 a).2.1 ≠ (TX2 b).2.1 := by decide +kernel
theorem tyX2_ok : ∀ k, k < 2 → parseFieldDescriptor (TX2 k).2.2.1 = some (tyX2 k) := by decide +kernel
abbrev cX2_init : ByteArray := prog_4_method_1_code
def yX2_init : MethodName := ⟨RX2, "<init>", "()V"⟩
abbrev cX2_place : ByteArray := prog_4_method_2_code
def yX2_place : MethodName := ⟨RX2, "place", "(III)I"⟩
abbrev cX2_solve : ByteArray := prog_4_method_3_code
def yX2_solve : MethodName := ⟨RX2, "solve", "(LLoneAdjective$Town;I)V"⟩
abbrev cX2_decideAt : ByteArray := prog_4_method_4_code
def yX2_decideAt : MethodName := ⟨RX2, "decideAt", "(LLoneAdjective$Town;I)Z"⟩
abbrev cX2_decide : ByteArray := prog_4_method_5_code
def yX2_decide : MethodName := ⟨RX2, "decide", "(LLoneAdjective$Town;IIII)Z"⟩
def RX3 : String := "LoneAdjective$Days"
def TX3 : u_T := fun k => match k with
  | 0 => ("LoneAdjective$Rounds", "row", "[I", true)
  | 1 => ("LoneAdjective$Rounds", "endAt", "[I", true)
  | 2 => ("LoneAdjective$Days", "told", "I", false)
  | 3 => ("LoneAdjective$Days", "count", "I", false)
  | 4 => ("LoneAdjective$Days", "squares", "I", false)
  | 5 => ("LoneAdjective$Days", "asked", "I", false)
  | 6 => ("LoneAdjective$Days", "toldDeed", "[I", true)
  | _ => ("LoneAdjective$Days", "toldEnd", "[I", true)
def tyX3 : Nat → FieldType := fun k => match k with
  | 0 => .array .int
  | 1 => .array .int
  | 2 => .int
  | 3 => .int
  | 4 => .int
  | 5 => .int
  | 6 => .array .int
  | _ => .array .int
abbrev wsX30 : List Cond := u_ws RX3 TX3 8
theorem nmX3 : ∀ a, a < 8 → ∀ b, b < 8 → a ≠ b → (TX3 a).2.1 ≠ (TX3 b).2.1 := by decide +kernel
theorem tyX3_ok : ∀ k, k < 8 → parseFieldDescriptor (TX3 k).2.2.1 = some (tyX3 k) := by decide +kernel
abbrev cX3_init : ByteArray := prog_5_method_1_code
def yX3_init : MethodName := ⟨RX3, "<init>", "()V"⟩
abbrev cX3_add : ByteArray := prog_5_method_2_code
def yX3_add : MethodName := ⟨RX3, "add", "(II)Z"⟩
abbrev cX3_find : ByteArray := prog_5_method_3_code
def yX3_find : MethodName := ⟨RX3, "find", "(LLoneAdjective$Town;I)V"⟩
abbrev cX3_meet : ByteArray := prog_5_method_4_code
def yX3_meet : MethodName := ⟨RX3, "meet", "(LLoneAdjective$Town;II)V"⟩
abbrev cX3_agrees : ByteArray := prog_5_method_5_code
def yX3_agrees : MethodName := ⟨RX3, "agrees", "()Z"⟩
abbrev cX3_placeOf : ByteArray := prog_5_method_6_code
def yX3_placeOf : MethodName := ⟨RX3, "placeOf", "(LLoneAdjective$Town;I)I"⟩
def RX4 : String := "LoneAdjective$Diary"
def TX4 : u_T := fun k => match k with
  | 0 => ("LoneAdjective$Diary", "entries", "I", false)
  | 1 => ("LoneAdjective$Diary", "deed", "[I", true)
  | _ => ("LoneAdjective$Diary", "minute", "[I", true)
def tyX4 : Nat → FieldType := fun k => match k with
  | 0 => .int
  | 1 => .array .int
  | _ => .array .int
abbrev wsX40 : List Cond := u_ws RX4 TX4 3
theorem nmX4 : ∀ a, a < 3 → ∀ b, b < 3 → a ≠ b → (TX4 a).2.1 ≠ (TX4 b).2.1 := by decide +kernel
theorem tyX4_ok : ∀ k, k < 3 → parseFieldDescriptor (TX4 k).2.2.1 = some (tyX4 k) := by decide +kernel
abbrev cX4_init : ByteArray := prog_6_method_1_code
def yX4_init : MethodName := ⟨RX4, "<init>", "()V"⟩
abbrev cX4_add : ByteArray := prog_6_method_2_code
def yX4_add : MethodName := ⟨RX4, "add", "(II)Z"⟩
abbrev cX4_firstWrong : ByteArray := prog_6_method_3_code
def yX4_firstWrong : MethodName := ⟨RX4, "firstWrong", "(LLoneAdjective$State;)I"⟩
def RX5 : String := "LoneAdjective$DoneSets"
def TX5 : u_T := fun k => match k with
  | 0 => ("LoneAdjective$Rounds", "row", "[I", true)
  | 1 => ("LoneAdjective$Rounds", "endAt", "[I", true)
  | _ => ("LoneAdjective$DoneSets", "can", "[Z", true)
def tyX5 : Nat → FieldType := fun k => match k with
  | 0 => .array .int
  | 1 => .array .int
  | _ => .array .boolean
abbrev wsX50 : List Cond := u_ws RX5 TX5 3
theorem nmX5 : ∀ a, a < 3 → ∀ b, b < 3 → a ≠ b → (TX5 a).2.1 ≠ (TX5 b).2.1 := by decide +kernel
theorem tyX5_ok : ∀ k, k < 3 → parseFieldDescriptor (TX5 k).2.2.1 = some (tyX5 k) := by decide +kernel
abbrev cX5_init : ByteArray := prog_7_method_1_code
def yX5_init : MethodName := ⟨RX5, "<init>", "()V"⟩
abbrev cX5_find : ByteArray := prog_7_method_2_code
def yX5_find : MethodName := ⟨RX5, "find", "(LLoneAdjective$Town;III)V"⟩
abbrev cX5_meet : ByteArray := prog_7_method_3_code
def yX5_meet : MethodName := ⟨RX5, "meet", "(LLoneAdjective$Town;II)V"⟩
def RX6 : String := "LoneAdjective$Reader"
def TX6 : u_T := fun k => match k with
  | 0 => ("LoneAdjective$Reader", "letters", "I", false)
  | 1 => ("LoneAdjective$Reader", "at", "I", false)
  | 2 => ("LoneAdjective$Reader", "fault", "I", false)
  | 3 => ("LoneAdjective$Reader", "text", "[C", true)
  | 4 => ("LoneAdjective$Reader", "count", "[I", true)
  | _ => ("LoneAdjective$Reader", "number", "[I", true)
def tyX6 : Nat → FieldType := fun k => match k with
  | 0 => .int
  | 1 => .int
  | 2 => .int
  | 3 => .array .char
  | 4 => .array .int
  | _ => .array .int
abbrev wsX60 : List Cond := u_ws RX6 TX6 6
theorem nmX6 : ∀ a, a < 6 → ∀ b, b < 6 → a ≠ b → (TX6 a).2.1 ≠ (TX6 b).2.1 := by decide +kernel
theorem tyX6_ok : ∀ k, k < 6 → parseFieldDescriptor (TX6 k).2.2.1 = some (tyX6 k) := by decide +kernel
abbrev cX6_init : ByteArray := prog_8_method_1_code
def yX6_init : MethodName := ⟨RX6, "<init>", "()V"⟩
abbrev cX6_add : ByteArray := prog_8_method_2_code
def yX6_add : MethodName := ⟨RX6, "add", "(C)Z"⟩
abbrev cX6_read : ByteArray := prog_8_method_3_code
def yX6_read : MethodName := ⟨RX6, "read", "(LLoneAdjective$Town;)I"⟩
abbrev cX6_skipBlanks : ByteArray := prog_8_method_4_code
def yX6_skipBlanks : MethodName := ⟨RX6, "skipBlanks", "()V"⟩
abbrev cX6_readClause : ByteArray := prog_8_method_5_code
def yX6_readClause : MethodName := ⟨RX6, "readClause", "(LLoneAdjective$Town;)V"⟩
abbrev cX6_readEnd : ByteArray := prog_8_method_6_code
def yX6_readEnd : MethodName := ⟨RX6, "readEnd", "(LLoneAdjective$Town;I)V"⟩
abbrev cX6_isFigure : ByteArray := prog_8_method_7_code
def yX6_isFigure : MethodName := ⟨RX6, "isFigure", "(C)Z"⟩
abbrev cX6_readNumber : ByteArray := prog_8_method_8_code
def yX6_readNumber : MethodName := ⟨RX6, "readNumber", "(LLoneAdjective$Town;II)V"⟩
abbrev cX6_lowest : ByteArray := prog_8_method_9_code
def yX6_lowest : MethodName := ⟨RX6, "lowest", "(II)I"⟩
abbrev cX6_highest : ByteArray := prog_8_method_10_code
def yX6_highest : MethodName := ⟨RX6, "highest", "(LLoneAdjective$Town;II)I"⟩
abbrev cX6_again : ByteArray := prog_8_method_11_code
def yX6_again : MethodName := ⟨RX6, "again", "(LLoneAdjective$Town;III)Z"⟩
abbrev cX6_take : ByteArray := prog_8_method_12_code
def yX6_take : MethodName := ⟨RX6, "take", "(LLoneAdjective$Town;I)V"⟩
abbrev cX6_takeDeed : ByteArray := prog_8_method_13_code
def yX6_takeDeed : MethodName := ⟨RX6, "takeDeed", "(LLoneAdjective$Town;)V"⟩
def RX7 : String := "LoneAdjective$Rounds"
def TX7 : u_T := fun k => match k with
  | _ => ("", "", "", false)
def tyX7 : Nat → FieldType := fun k => match k with
  | _ => .int
abbrev wsX70 : List Cond := u_ws RX7 TX7 0
theorem nmX7 : ∀ a, a < 0 → ∀ b, b < 0 → a ≠ b → (TX7 a).2.1 ≠ (TX7 b).2.1 := by decide +kernel
theorem tyX7_ok : ∀ k, k < 0 → parseFieldDescriptor (TX7 k).2.2.1 = some (tyX7 k) := by decide +kernel
abbrev cX7_init : ByteArray := prog_9_method_1_code
def yX7_init : MethodName := ⟨RX7, "<init>", "()V"⟩
abbrev cX7_tryAll : ByteArray := prog_9_method_3_code
def yX7_tryAll : MethodName := ⟨RX7, "tryAll", "(LLoneAdjective$Town;III)V"⟩
abbrev cX7_goOn : ByteArray := prog_9_method_4_code
def yX7_goOn : MethodName := ⟨RX7, "goOn", "(LLoneAdjective$Rounds;LLoneAdjective$Town;IIII)V"⟩
abbrev cX7_setOfRow : ByteArray := prog_9_method_5_code
def yX7_setOfRow : MethodName := ⟨RX7, "setOfRow", "(I)I"⟩
def RX8 : String := "LoneAdjective$State"
def TX8 : u_T := fun k => match k with
  | 0 => ("LoneAdjective$State", "minutes", "I", false)
  | 1 => ("LoneAdjective$State", "square", "I", false)
  | 2 => ("LoneAdjective$State", "holder", "I", false)
  | 3 => ("LoneAdjective$State", "seed", "I", false)
  | 4 => ("LoneAdjective$State", "kept", "Z", false)
  | _ => ("LoneAdjective$State", "doneAt", "[I", true)
def tyX8 : Nat → FieldType := fun k => match k with
  | 0 => .int
  | 1 => .int
  | 2 => .int
  | 3 => .int
  | 4 => .boolean
  | _ => .array .int
abbrev wsX80 : List Cond := u_ws RX8 TX8 6
theorem nmX8 : ∀ a, a < 6 → ∀ b, b < 6 → a ≠ b → (TX8 a).2.1 ≠ (TX8 b).2.1 := by decide +kernel
theorem tyX8_ok : ∀ k, k < 6 → parseFieldDescriptor (TX8 k).2.2.1 = some (tyX8 k) := by decide +kernel
abbrev cX8_init : ByteArray := prog_10_method_1_code
def yX8_init : MethodName := ⟨RX8, "<init>", "()V"⟩
abbrev cX8_beginIn : ByteArray := prog_10_method_2_code
def yX8_beginIn : MethodName := ⟨RX8, "beginIn", "(LLoneAdjective$Town;)V"⟩
abbrev cX8_become : ByteArray := prog_10_method_3_code
def yX8_become : MethodName := ⟨RX8, "become", "(LLoneAdjective$State;)V"⟩
abbrev cX8_standOf : ByteArray := prog_10_method_4_code
def yX8_standOf : MethodName := ⟨RX8, "standOf", "(LLoneAdjective$Town;I)I"⟩
abbrev cX8_reaches : ByteArray := prog_10_method_5_code
def yX8_reaches : MethodName := ⟨RX8, "reaches", "(LLoneAdjective$Town;I)Z"⟩
abbrev cX8_hand : ByteArray := prog_10_method_6_code
def yX8_hand : MethodName := ⟨RX8, "hand", "(LLoneAdjective$Town;I)V"⟩
abbrev cX8_finish : ByteArray := prog_10_method_7_code
def yX8_finish : MethodName := ⟨RX8, "finish", "(LLoneAdjective$Town;I)V"⟩
abbrev cX8_draw : ByteArray := prog_10_method_8_code
def yX8_draw : MethodName := ⟨RX8, "draw", "(I)I"⟩
def RX9 : String := "LoneAdjective$Town"
def TX9 : u_T := fun k => match k with
  | 0 => ("LoneAdjective$Town", "squares", "I", false)
  | 1 => ("LoneAdjective$Town", "start", "I", false)
  | 2 => ("LoneAdjective$Town", "people", "I", false)
  | 3 => ("LoneAdjective$Town", "deeds", "I", false)
  | 4 => ("LoneAdjective$Town", "words", "I", false)
  | 5 => ("LoneAdjective$Town", "way", "[[I", true)
  | 6 => ("LoneAdjective$Town", "apart", "[[I", true)
  | 7 => ("LoneAdjective$Town", "home", "[I", true)
  | 8 => ("LoneAdjective$Town", "bid", "[I", true)
  | 9 => ("LoneAdjective$Town", "doer", "[I", true)
  | 10 => ("LoneAdjective$Town", "lasts", "[I", true)
  | 11 => ("LoneAdjective$Town", "due", "[I", true)
  | 12 => ("LoneAdjective$Town", "worth", "[I", true)
  | 13 => ("LoneAdjective$Town", "price", "[I", true)
  | 14 => ("LoneAdjective$Town", "odds", "[[I", true)
  | _ => ("LoneAdjective$Town", "allowed", "[I", true)
def tyX9 : Nat → FieldType := fun k => match k with
  | 0 => .int
  | 1 => .int
  | 2 => .int
  | 3 => .int
  | 4 => .int
  | 5 => .array (.array .int)
  | 6 => .array (.array .int)
  | 7 => .array .int
  | 8 => .array .int
  | 9 => .array .int
  | 10 => .array .int
  | 11 => .array .int
  | 12 => .array .int
  | 13 => .array .int
  | 14 => .array (.array .int)
  | _ => .array .int
abbrev wsX90 : List Cond := u_ws RX9 TX9 16
theorem nmX9 : ∀ a, a < 16 → ∀ b, b < 16 → a ≠ b → (TX9 a).2.1 ≠ (TX9 b).2.1 := by decide +kernel
theorem tyX9_ok : ∀ k, k < 16 → parseFieldDescriptor (TX9 k).2.2.1 = some (tyX9 k) := by decide +kernel
abbrev cX9_init : ByteArray := prog_11_method_1_code
def yX9_init : MethodName := ⟨RX9, "<init>", "()V"⟩
abbrev cX9_clear : ByteArray := prog_11_method_2_code
def yX9_clear : MethodName := ⟨RX9, "clear", "()V"⟩
abbrev cX9_isSquare : ByteArray := prog_11_method_3_code
def yX9_isSquare : MethodName := ⟨RX9, "isSquare", "(I)Z"⟩
abbrev cX9_isPerson : ByteArray := prog_11_method_4_code
def yX9_isPerson : MethodName := ⟨RX9, "isPerson", "(I)Z"⟩
abbrev cX9_areTwoPeople : ByteArray := prog_11_method_5_code
def yX9_areTwoPeople : MethodName := ⟨RX9, "areTwoPeople", "(II)Z"⟩
abbrev cX9_isDeed : ByteArray := prog_11_method_6_code
def yX9_isDeed : MethodName := ⟨RX9, "isDeed", "(I)Z"⟩
abbrev cX9_isWord : ByteArray := prog_11_method_7_code
def yX9_isWord : MethodName := ⟨RX9, "isWord", "(I)Z"⟩
abbrev cX9_measure : ByteArray := prog_11_method_8_code
def yX9_measure : MethodName := ⟨RX9, "measure", "()V"⟩
abbrev cX9_shorten : ByteArray := prog_11_method_9_code
def yX9_shorten : MethodName := ⟨RX9, "shorten", "(III)V"⟩
abbrev cX9_between : ByteArray := prog_11_method_10_code
def yX9_between : MethodName := ⟨RX9, "between", "(II)I"⟩
abbrev cX9_squareOf : ByteArray := prog_11_method_11_code
def yX9_squareOf : MethodName := ⟨RX9, "squareOf", "(I)I"⟩
abbrev cX9_worthOf : ByteArray := prog_11_method_12_code
def yX9_worthOf : MethodName := ⟨RX9, "worthOf", "(I)I"⟩
abbrev cX9_costOf : ByteArray := prog_11_method_13_code
def yX9_costOf : MethodName := ⟨RX9, "costOf", "(I)I"⟩
abbrev cX9_deedsOf : ByteArray := prog_11_method_14_code
def yX9_deedsOf : MethodName := ⟨RX9, "deedsOf", "(I)I"⟩
abbrev cX9_endOf : ByteArray := prog_11_method_15_code
def yX9_endOf : MethodName := ⟨RX9, "endOf", "(III)I"⟩
def RX10 : String := "LoneAdjective"
def TX10 : u_T := fun k => match k with
  | 0 => ("LoneAdjective", "reader", "LLoneAdjective$Reader;", true)
  | 1 => ("LoneAdjective", "faultAt", "I", false)
  | 2 => ("LoneAdjective", "current", "LLoneAdjective$Town;", false)
  | 3 => ("LoneAdjective", "draft", "LLoneAdjective$Town;", false)
  | 4 => ("LoneAdjective", "now", "LLoneAdjective$State;", true)
  | 5 => ("LoneAdjective", "firstImage", "LLoneAdjective$State;", true)
  | 6 => ("LoneAdjective", "secondImage", "LLoneAdjective$State;", true)
  | 7 => ("LoneAdjective", "diary", "LLoneAdjective$Diary;", true)
  | 8 => ("LoneAdjective", "bestRound", "LLoneAdjective$BestRound;", true)
  | 9 => ("LoneAdjective", "ownSets", "LLoneAdjective$DoneSets;", true)
  | 10 => ("LoneAdjective", "otherSets", "LLoneAdjective$DoneSets;", true)
  | 11 => ("LoneAdjective", "fitting", "LLoneAdjective$Days;", true)
  | 12 => ("LoneAdjective", "chains", "LLoneAdjective$Chains;", true)
  | 13 => ("LoneAdjective", "chase", "LLoneAdjective$Chase;", true)
  | 14 => ("LoneAdjective", "tally", "[I", true)
  | _ => ("LoneAdjective", "paid", "[I", true)
def tyX10 : Nat → FieldType := fun k => match k with
  | 0 => .object "LoneAdjective$Reader"
  | 1 => .int
  | 2 => .object "LoneAdjective$Town"
  | 3 => .object "LoneAdjective$Town"
  | 4 => .object "LoneAdjective$State"
  | 5 => .object "LoneAdjective$State"
  | 6 => .object "LoneAdjective$State"
  | 7 => .object "LoneAdjective$Diary"
  | 8 => .object "LoneAdjective$BestRound"
  | 9 => .object "LoneAdjective$DoneSets"
  | 10 => .object "LoneAdjective$DoneSets"
  | 11 => .object "LoneAdjective$Days"
  | 12 => .object "LoneAdjective$Chains"
  | 13 => .object "LoneAdjective$Chase"
  | 14 => .array .int
  | _ => .array .int
abbrev wsX100 : List Cond := u_ws RX10 TX10 16
theorem nmX10 : ∀ a, a < 16 → ∀ b, b < 16 → a ≠ b → (TX10 a).2.1 ≠ (TX10 b).2.1 := by decide +kernel
theorem tyX10_ok : ∀ k, k < 16 → parseFieldDescriptor (TX10 k).2.2.1 = some (tyX10 k) := by decide +kernel
abbrev cX10_init : ByteArray := prog_1_method_1_code
def yX10_init : MethodName := ⟨RX10, "<init>", "()V"⟩
abbrev cX10_feed : ByteArray := prog_1_method_2_code
def yX10_feed : MethodName := ⟨RX10, "feed", "(I)I"⟩
abbrev cX10_town : ByteArray := prog_1_method_3_code
def yX10_town : MethodName := ⟨RX10, "town", "()I"⟩
abbrev cX10_fault : ByteArray := prog_1_method_4_code
def yX10_fault : MethodName := ⟨RX10, "fault", "()I"⟩
abbrev cX10_told : ByteArray := prog_1_method_5_code
def yX10_told : MethodName := ⟨RX10, "told", "(I)I"⟩
abbrev cX10_far : ByteArray := prog_1_method_6_code
def yX10_far : MethodName := ⟨RX10, "far", "(II)I"⟩
abbrev cX10_person : ByteArray := prog_1_method_7_code
def yX10_person : MethodName := ⟨RX10, "person", "(II)I"⟩
abbrev cX10_deed : ByteArray := prog_1_method_8_code
def yX10_deed : MethodName := ⟨RX10, "deed", "(II)I"⟩
abbrev cX10_trust : ByteArray := prog_1_method_9_code
def yX10_trust : MethodName := ⟨RX10, "trust", "(II)I"⟩
abbrev cX10_lets : ByteArray := prog_1_method_10_code
def yX10_lets : MethodName := ⟨RX10, "lets", "(I)I"⟩
abbrev cX10_lend : ByteArray := prog_1_method_11_code
def yX10_lend : MethodName := ⟨RX10, "lend", "(I)I"⟩
abbrev cX10_act : ByteArray := prog_1_method_12_code
def yX10_act : MethodName := ⟨RX10, "act", "(I)I"⟩
abbrev cX10_drop : ByteArray := prog_1_method_13_code
def yX10_drop : MethodName := ⟨RX10, "drop", "()I"⟩
abbrev cX10_pass : ByteArray := prog_1_method_14_code
def yX10_pass : MethodName := ⟨RX10, "pass", "(I)I"⟩
abbrev cX10_drift : ByteArray := prog_1_method_15_code
def yX10_drift : MethodName := ⟨RX10, "drift", "(I)I"⟩
abbrev cX10_round : ByteArray := prog_1_method_16_code
def yX10_round : MethodName := ⟨RX10, "round", "(I)I"⟩
abbrev cX10_two : ByteArray := prog_1_method_17_code
def yX10_two : MethodName := ⟨RX10, "two", "(I)I"⟩
abbrev cX10_reword : ByteArray := prog_1_method_18_code
def yX10_reword : MethodName := ⟨RX10, "reword", "(I)I"⟩
abbrev cX10_chain : ByteArray := prog_1_method_19_code
def yX10_chain : MethodName := ⟨RX10, "chain", "(III)I"⟩
abbrev cX10_lost : ByteArray := prog_1_method_20_code
def yX10_lost : MethodName := ⟨RX10, "lost", "(I)I"⟩
abbrev cX10_sold : ByteArray := prog_1_method_21_code
def yX10_sold : MethodName := ⟨RX10, "sold", "(III)I"⟩
abbrev cX10_thief : ByteArray := prog_1_method_22_code
def yX10_thief : MethodName := ⟨RX10, "thief", "(IIII)I"⟩
abbrev cX10_vote : ByteArray := prog_1_method_23_code
def yX10_vote : MethodName := ⟨RX10, "vote", "(I)I"⟩
abbrev cX10_bestWord : ByteArray := prog_1_method_24_code
def yX10_bestWord : MethodName := ⟨RX10, "bestWord", "()I"⟩
abbrev cX10_tell : ByteArray := prog_1_method_25_code
def yX10_tell : MethodName := ⟨RX10, "tell", "(II)I"⟩
abbrev cX10_days : ByteArray := prog_1_method_26_code
def yX10_days : MethodName := ⟨RX10, "days", "()I"⟩
abbrev cX10_where : ByteArray := prog_1_method_27_code
def yX10_where : MethodName := ⟨RX10, "where", "(I)I"⟩
abbrev cX10_write : ByteArray := prog_1_method_28_code
def yX10_write : MethodName := ⟨RX10, "write", "(II)I"⟩
abbrev cX10_judge : ByteArray := prog_1_method_29_code
def yX10_judge : MethodName := ⟨RX10, "judge", "()I"⟩
abbrev cX10_tear : ByteArray := prog_1_method_30_code
def yX10_tear : MethodName := ⟨RX10, "tear", "()I"⟩
abbrev cX10_seed : ByteArray := prog_1_method_31_code
def yX10_seed : MethodName := ⟨RX10, "seed", "(I)I"⟩
abbrev cX10_keep : ByteArray := prog_1_method_32_code
def yX10_keep : MethodName := ⟨RX10, "keep", "(I)I"⟩
abbrev cX10_goBack : ByteArray := prog_1_method_33_code
def yX10_goBack : MethodName := ⟨RX10, "goBack", "(I)I"⟩
abbrev cX10_deedsThatAre : ByteArray := prog_1_method_34_code
def yX10_deedsThatAre : MethodName := ⟨RX10, "deedsThatAre", "(I)I"⟩
abbrev cX10_driftOnce : ByteArray := prog_1_method_35_code
def yX10_driftOnce : MethodName := ⟨RX10, "driftOnce", "()V"⟩
abbrev cX10_firstOpenOf : ByteArray := prog_1_method_36_code
def yX10_firstOpenOf : MethodName := ⟨RX10, "firstOpenOf", "(I)I"⟩
abbrev cX10_mostBeside : ByteArray := prog_1_method_37_code
def yX10_mostBeside : MethodName := ⟨RX10, "mostBeside", "(II)I"⟩
abbrev cX10_sellMinute : ByteArray := prog_1_method_38_code
def yX10_sellMinute : MethodName := ⟨RX10, "sellMinute", "()V"⟩
abbrev cX10_bidOf : ByteArray := prog_1_method_39_code
def yX10_bidOf : MethodName := ⟨RX10, "bidOf", "(I)I"⟩
abbrev cX10_highestBidder : ByteArray := prog_1_method_40_code
def yX10_highestBidder : MethodName := ⟨RX10, "highestBidder", "(I)I"⟩
abbrev cX10_wordForMost : ByteArray := prog_1_method_41_code
def yX10_wordForMost : MethodName := ⟨RX10, "wordForMost", "(I)I"⟩
abbrev cX10_mostVoted : ByteArray := prog_1_method_42_code
def yX10_mostVoted : MethodName := ⟨RX10, "mostVoted", "()I"⟩
def RX11 : String := "LoneAdjectiveModel"
def TX11 : u_T := fun k => match k with
  | 0 => ("LoneAdjectiveModel", "text", "[I", true)
  | 1 => ("LoneAdjectiveModel", "letters", "I", false)
  | 2 => ("LoneAdjectiveModel", "faulty", "I", false)
  | 3 => ("LoneAdjectiveModel", "squares", "I", false)
  | 4 => ("LoneAdjectiveModel", "firstAt", "I", false)
  | 5 => ("LoneAdjectiveModel", "fars", "[I", true)
  | 6 => ("LoneAdjectiveModel", "ways", "[Z", true)
  | 7 => ("LoneAdjectiveModel", "homes", "[I", true)
  | 8 => ("LoneAdjectiveModel", "bids", "[I", true)
  | 9 => ("LoneAdjectiveModel", "people", "I", false)
  | 10 => ("LoneAdjectiveModel", "told", "[I", true)
  | 11 => ("LoneAdjectiveModel", "deeds", "I", false)
  | 12 => ("LoneAdjectiveModel", "trusts", "[I", true)
  | 13 => ("LoneAdjectiveModel", "lets", "[I", true)
  | 14 => ("LoneAdjectiveModel", "others", "I", false)
  | 15 => ("LoneAdjectiveModel", "st", "[I", true)
  | 16 => ("LoneAdjectiveModel", "tolds", "[I", true)
  | 17 => ("LoneAdjectiveModel", "toldMany", "I", false)
  | 18 => ("LoneAdjectiveModel", "entries", "[I", true)
  | 19 => ("LoneAdjectiveModel", "entryMany", "I", false)
  | 20 => ("LoneAdjectiveModel", "place", "I", false)
  | 21 => ("LoneAdjectiveModel", "token", "I", false)
  | 22 => ("LoneAdjectiveModel", "value", "I", false)
  | 23 => ("LoneAdjectiveModel", "begins", "I", false)
  | 24 => ("LoneAdjectiveModel", "wrong", "I", false)
  | 25 => ("LoneAdjectiveModel", "readSquares", "I", false)
  | 26 => ("LoneAdjectiveModel", "readAt", "I", false)
  | 27 => ("LoneAdjectiveModel", "readWays", "[I", true)
  | 28 => ("LoneAdjectiveModel", "readWayMany", "I", false)
  | 29 => ("LoneAdjectiveModel", "readPeople", "[I", true)
  | 30 => ("LoneAdjectiveModel", "readPersons", "I", false)
  | 31 => ("LoneAdjectiveModel", "readTold", "[I", true)
  | 32 => ("LoneAdjectiveModel", "readDeeds", "I", false)
  | 33 => ("LoneAdjectiveModel", "readTrusts", "[I", true)
  | 34 => ("LoneAdjectiveModel", "readTrustMany", "I", false)
  | 35 => ("LoneAdjectiveModel", "readLets", "[I", true)
  | 36 => ("LoneAdjectiveModel", "readOthers", "I", false)
  | 37 => ("LoneAdjectiveModel", "ends", "[I", true)
  | 38 => ("LoneAdjectiveModel", "row", "[I", true)
  | 39 => ("LoneAdjectiveModel", "bestRow", "[I", true)
  | 40 => ("LoneAdjectiveModel", "can", "[Z", true)
  | 41 => ("LoneAdjectiveModel", "bought", "[I", true)
  | 42 => ("LoneAdjectiveModel", "paid", "[I", true)
  | 43 => ("LoneAdjectiveModel", "escapes", "[I", true)
  | 44 => ("LoneAdjectiveModel", "catches", "[I", true)
  | 45 => ("LoneAdjectiveModel", "begun", "[I", true)
  | 46 => ("LoneAdjectiveModel", "doneAt", "[I", true)
  | 47 => ("LoneAdjectiveModel", "squaresAt", "I", false)
  | 48 => ("LoneAdjectiveModel", "isKept", "[Z", true)
  | _ => ("LoneAdjectiveModel", "kept", "[I", true)
def tyX11 : Nat → FieldType := fun k => match k with
  | 0 => .array .int
  | 1 => .int
  | 2 => .int
  | 3 => .int
  | 4 => .int
  | 5 => .array .int
  | 6 => .array .boolean
  | 7 => .array .int
  | 8 => .array .int
  | 9 => .int
  | 10 => .array .int
  | 11 => .int
  | 12 => .array .int
  | 13 => .array .int
  | 14 => .int
  | 15 => .array .int
  | 16 => .array .int
  | 17 => .int
  | 18 => .array .int
  | 19 => .int
  | 20 => .int
  | 21 => .int
  | 22 => .int
  | 23 => .int
  | 24 => .int
  | 25 => .int
  | 26 => .int
  | 27 => .array .int
  | 28 => .int
  | 29 => .array .int
  | 30 => .int
  | 31 => .array .int
  | 32 => .int
  | 33 => .array .int
  | 34 => .int
  | 35 => .array .int
  | 36 => .int
  | 37 => .array .int
  | 38 => .array .int
  | 39 => .array .int
  | 40 => .array .boolean
  | 41 => .array .int
  | 42 => .array .int
  | 43 => .array .int
  | 44 => .array .int
  | 45 => .array .int
  | 46 => .array .int
  | 47 => .int
  | 48 => .array .boolean
  | _ => .array .int
abbrev wsX110 : List Cond := u_ws RX11 TX11 50
theorem nmX11 : ∀ a, a < 50 → ∀ b, b < 50 → a ≠ b → (TX11 a).2.1 ≠ (TX11 b).2.1 := by decide +kernel
theorem tyX11_ok : ∀ k, k < 50 → parseFieldDescriptor (TX11 k).2.2.1 = some (tyX11 k) := by decide +kernel
abbrev cX11_init : ByteArray := prog_13_method_1_code
def yX11_init : MethodName := ⟨RX11, "<init>", "()V"⟩
abbrev cX11_in : ByteArray := prog_13_method_2_code
def yX11_in : MethodName := ⟨RX11, "in", "(JJJ)Z"⟩
abbrev cX11_has : ByteArray := prog_13_method_3_code
def yX11_has : MethodName := ⟨RX11, "has", "(II)Z"⟩
abbrev cX11_isSquare : ByteArray := prog_13_method_4_code
def yX11_isSquare : MethodName := ⟨RX11, "isSquare", "(I)Z"⟩
abbrev cX11_isPerson : ByteArray := prog_13_method_5_code
def yX11_isPerson : MethodName := ⟨RX11, "isPerson", "(I)Z"⟩
abbrev cX11_isDeed : ByteArray := prog_13_method_6_code
def yX11_isDeed : MethodName := ⟨RX11, "isDeed", "(I)Z"⟩
abbrev cX11_feed : ByteArray := prog_13_method_7_code
def yX11_feed : MethodName := ⟨RX11, "feed", "(I)I"⟩
abbrev cX11_nextToken : ByteArray := prog_13_method_8_code
def yX11_nextToken : MethodName := ⟨RX11, "nextToken", "()V"⟩
abbrev cX11_faults : ByteArray := prog_13_method_9_code
def yX11_faults : MethodName := ⟨RX11, "faults", "(I)Z"⟩
abbrev cX11_takes : ByteArray := prog_13_method_10_code
def yX11_takes : MethodName := ⟨RX11, "takes", "(I)Z"⟩
abbrev cX11_isNumber : ByteArray := prog_13_method_11_code
def yX11_isNumber : MethodName := ⟨RX11, "isNumber", "(II)Z"⟩
abbrev cX11_taken : ByteArray := prog_13_method_12_code
def yX11_taken : MethodName := ⟨RX11, "taken", "()I"⟩
abbrev cX11_readWay : ByteArray := prog_13_method_13_code
def yX11_readWay : MethodName := ⟨RX11, "readWay", "()Z"⟩
abbrev cX11_readPerson : ByteArray := prog_13_method_14_code
def yX11_readPerson : MethodName := ⟨RX11, "readPerson", "()Z"⟩
abbrev cX11_readDeed : ByteArray := prog_13_method_15_code
def yX11_readDeed : MethodName := ⟨RX11, "readDeed", "()Z"⟩
abbrev cX11_readReword : ByteArray := prog_13_method_16_code
def yX11_readReword : MethodName := ⟨RX11, "readReword", "()Z"⟩
abbrev cX11_readTrust : ByteArray := prog_13_method_17_code
def yX11_readTrust : MethodName := ⟨RX11, "readTrust", "()Z"⟩
abbrev cX11_readOther : ByteArray := prog_13_method_18_code
def yX11_readOther : MethodName := ⟨RX11, "readOther", "()Z"⟩
abbrev cX11_readTown : ByteArray := prog_13_method_19_code
def yX11_readTown : MethodName := ⟨RX11, "readTown", "()Z"⟩
abbrev cX11_findFars : ByteArray := prog_13_method_20_code
def yX11_findFars : MethodName := ⟨RX11, "findFars", "()V"⟩
abbrev cX11_town : ByteArray := prog_13_method_21_code
def yX11_town : MethodName := ⟨RX11, "town", "()I"⟩
abbrev cX11_fault : ByteArray := prog_13_method_22_code
def yX11_fault : MethodName := ⟨RX11, "fault", "()I"⟩
abbrev cX11_howOf : ByteArray := prog_13_method_23_code
def yX11_howOf : MethodName := ⟨RX11, "howOf", "(I)I"⟩
abbrev cX11_deedsThatAre : ByteArray := prog_13_method_24_code
def yX11_deedsThatAre : MethodName := ⟨RX11, "deedsThatAre", "(I)I"⟩
abbrev cX11_worthOf : ByteArray := prog_13_method_25_code
def yX11_worthOf : MethodName := ⟨RX11, "worthOf", "(I)I"⟩
abbrev cX11_told : ByteArray := prog_13_method_26_code
def yX11_told : MethodName := ⟨RX11, "told", "(I)I"⟩
abbrev cX11_farOf : ByteArray := prog_13_method_27_code
def yX11_farOf : MethodName := ⟨RX11, "farOf", "(II)I"⟩
abbrev cX11_far : ByteArray := prog_13_method_28_code
def yX11_far : MethodName := ⟨RX11, "far", "(II)I"⟩
abbrev cX11_person : ByteArray := prog_13_method_29_code
def yX11_person : MethodName := ⟨RX11, "person", "(II)I"⟩
abbrev cX11_deed : ByteArray := prog_13_method_30_code
def yX11_deed : MethodName := ⟨RX11, "deed", "(II)I"⟩
abbrev cX11_areTwo : ByteArray := prog_13_method_31_code
def yX11_areTwo : MethodName := ⟨RX11, "areTwo", "(II)Z"⟩
abbrev cX11_trust : ByteArray := prog_13_method_32_code
def yX11_trust : MethodName := ⟨RX11, "trust", "(II)I"⟩
abbrev cX11_lets : ByteArray := prog_13_method_33_code
def yX11_lets : MethodName := ⟨RX11, "lets", "(I)I"⟩
abbrev cX11_placeOf : ByteArray := prog_13_method_34_code
def yX11_placeOf : MethodName := ⟨RX11, "placeOf", "(I)I"⟩
abbrev cX11_lend : ByteArray := prog_13_method_35_code
def yX11_lend : MethodName := ⟨RX11, "lend", "(I)I"⟩
abbrev cX11_walkTo : ByteArray := prog_13_method_36_code
def yX11_walkTo : MethodName := ⟨RX11, "walkTo", "(II)V"⟩
abbrev cX11_doNow : ByteArray := prog_13_method_37_code
def yX11_doNow : MethodName := ⟨RX11, "doNow", "(I)V"⟩
abbrev cX11_act : ByteArray := prog_13_method_38_code
def yX11_act : MethodName := ⟨RX11, "act", "(I)I"⟩
abbrev cX11_drop : ByteArray := prog_13_method_39_code
def yX11_drop : MethodName := ⟨RX11, "drop", "()I"⟩
abbrev cX11_pass : ByteArray := prog_13_method_40_code
def yX11_pass : MethodName := ⟨RX11, "pass", "(I)I"⟩
abbrev cX11_draw : ByteArray := prog_13_method_41_code
def yX11_draw : MethodName := ⟨RX11, "draw", "(I)I"⟩
abbrev cX11_drift : ByteArray := prog_13_method_42_code
def yX11_drift : MethodName := ⟨RX11, "drift", "(I)I"⟩
abbrev cX11_endBehind : ByteArray := prog_13_method_43_code
def yX11_endBehind : MethodName := ⟨RX11, "endBehind", "(III)I"⟩
abbrev cX11_findEnds : ByteArray := prog_13_method_44_code
def yX11_findEnds : MethodName := ⟨RX11, "findEnds", "(III)V"⟩
abbrev cX11_endOf : ByteArray := prog_13_method_45_code
def yX11_endOf : MethodName := ⟨RX11, "endOf", "(II)I"⟩
abbrev cX11_isRow : ByteArray := prog_13_method_46_code
def yX11_isRow : MethodName := ⟨RX11, "isRow", "(III)Z"⟩
abbrev cX11_firstRow : ByteArray := prog_13_method_47_code
def yX11_firstRow : MethodName := ⟨RX11, "firstRow", "(III)I"⟩
abbrev cX11_digits : ByteArray := prog_13_method_48_code
def yX11_digits : MethodName := ⟨RX11, "digits", "(II)I"⟩
abbrev cX11_isAhead : ByteArray := prog_13_method_49_code
def yX11_isAhead : MethodName := ⟨RX11, "isAhead", "(II)Z"⟩
abbrev cX11_round : ByteArray := prog_13_method_50_code
def yX11_round : MethodName := ⟨RX11, "round", "(I)I"⟩
abbrev cX11_two : ByteArray := prog_13_method_51_code
def yX11_two : MethodName := ⟨RX11, "two", "(I)I"⟩
abbrev cX11_costOf : ByteArray := prog_13_method_52_code
def yX11_costOf : MethodName := ⟨RX11, "costOf", "(I)I"⟩
abbrev cX11_reword : ByteArray := prog_13_method_53_code
def yX11_reword : MethodName := ⟨RX11, "reword", "(I)I"⟩
abbrev cX11_chain : ByteArray := prog_13_method_54_code
def yX11_chain : MethodName := ⟨RX11, "chain", "(III)I"⟩
abbrev cX11_oddsOf : ByteArray := prog_13_method_55_code
def yX11_oddsOf : MethodName := ⟨RX11, "oddsOf", "(IIII)I"⟩
abbrev cX11_lost : ByteArray := prog_13_method_56_code
def yX11_lost : MethodName := ⟨RX11, "lost", "(I)I"⟩
abbrev cX11_bidOf : ByteArray := prog_13_method_57_code
def yX11_bidOf : MethodName := ⟨RX11, "bidOf", "(I)I"⟩
abbrev cX11_sold : ByteArray := prog_13_method_58_code
def yX11_sold : MethodName := ⟨RX11, "sold", "(III)I"⟩
abbrev cX11_leads : ByteArray := prog_13_method_59_code
def yX11_leads : MethodName := ⟨RX11, "leads", "(II)Z"⟩
abbrev cX11_escapesFrom : ByteArray := prog_13_method_60_code
def yX11_escapesFrom : MethodName := ⟨RX11, "escapesFrom", "(III)I"⟩
abbrev cX11_catchesFrom : ByteArray := prog_13_method_61_code
def yX11_catchesFrom : MethodName := ⟨RX11, "catchesFrom", "(III)I"⟩
abbrev cX11_findThief : ByteArray := prog_13_method_62_code
def yX11_findThief : MethodName := ⟨RX11, "findThief", "(I)V"⟩
abbrev cX11_thief : ByteArray := prog_13_method_63_code
def yX11_thief : MethodName := ⟨RX11, "thief", "(IIII)I"⟩
abbrev cX11_deedsOf : ByteArray := prog_13_method_64_code
def yX11_deedsOf : MethodName := ⟨RX11, "deedsOf", "(I)I"⟩
abbrev cX11_voteOf : ByteArray := prog_13_method_65_code
def yX11_voteOf : MethodName := ⟨RX11, "voteOf", "(I)I"⟩
abbrev cX11_votesFor : ByteArray := prog_13_method_66_code
def yX11_votesFor : MethodName := ⟨RX11, "votesFor", "(I)I"⟩
abbrev cX11_vote : ByteArray := prog_13_method_67_code
def yX11_vote : MethodName := ⟨RX11, "vote", "(I)I"⟩
abbrev cX11_bestWord : ByteArray := prog_13_method_68_code
def yX11_bestWord : MethodName := ⟨RX11, "bestWord", "()I"⟩
abbrev cX11_tell : ByteArray := prog_13_method_69_code
def yX11_tell : MethodName := ⟨RX11, "tell", "(II)I"⟩
abbrev cX11_isDay : ByteArray := prog_13_method_70_code
def yX11_isDay : MethodName := ⟨RX11, "isDay", "(I)Z"⟩
abbrev cX11_findDays : ByteArray := prog_13_method_71_code
def yX11_findDays : MethodName := ⟨RX11, "findDays", "(I)I"⟩
abbrev cX11_days : ByteArray := prog_13_method_72_code
def yX11_days : MethodName := ⟨RX11, "days", "()I"⟩
abbrev cX11_where : ByteArray := prog_13_method_73_code
def yX11_where : MethodName := ⟨RX11, "where", "(I)I"⟩
abbrev cX11_write : ByteArray := prog_13_method_74_code
def yX11_write : MethodName := ⟨RX11, "write", "(II)I"⟩
abbrev cX11_judge : ByteArray := prog_13_method_75_code
def yX11_judge : MethodName := ⟨RX11, "judge", "()I"⟩
abbrev cX11_tear : ByteArray := prog_13_method_76_code
def yX11_tear : MethodName := ⟨RX11, "tear", "()I"⟩
abbrev cX11_seed : ByteArray := prog_13_method_77_code
def yX11_seed : MethodName := ⟨RX11, "seed", "(I)I"⟩
abbrev cX11_keep : ByteArray := prog_13_method_78_code
def yX11_keep : MethodName := ⟨RX11, "keep", "(I)I"⟩
abbrev cX11_goBack : ByteArray := prog_13_method_79_code
def yX11_goBack : MethodName := ⟨RX11, "goBack", "(I)I"⟩
def RJx145de : String := "java/io/Serializable"
def TJx145de : u_T := fun k => match k with
  | _ => ("", "", "", false)
def tyJx145de : Nat → FieldType := fun k => match k with
  | _ => .int
abbrev wsJx145de0 : List Cond := u_ws RJx145de TJx145de 0
theorem nmJx145de : ∀ a, a < 0 → ∀ b, b < 0 → a ≠ b → (TJx145de a).2.1 ≠ (TJx145de b).2.1 := by decide +kernel
theorem tyJx145de_ok : ∀ k, k < 0 → parseFieldDescriptor (TJx145de k).2.2.1 = some (tyJx145de k) := by decide +kernel
def RJx9f9b0 : String := "java/lang/CharSequence"
def TJx9f9b0 : u_T := fun k => match k with
  | _ => ("", "", "", false)
def tyJx9f9b0 : Nat → FieldType := fun k => match k with
  | _ => .int
abbrev wsJx9f9b00 : List Cond := u_ws RJx9f9b0 TJx9f9b0 0
theorem nmJx9f9b0 : ∀ a, a < 0 → ∀ b, b < 0 → a ≠ b → (TJx9f9b0 a).2.1 ≠ (TJx9f9b0 b).2.1 := by decide +kernel
theorem tyJx9f9b0_ok : ∀ k, k < 0 → parseFieldDescriptor (TJx9f9b0 k).2.2.1 = some (tyJx9f9b0 k) := by decide +kernel
def RJ11 : String := "java/lang/Character"
def TJ11 : u_T := fun k => match k with
  | _ => ("", "", "", false)
def tyJ11 : Nat → FieldType := fun k => match k with
  | _ => .int
abbrev wsJ110 : List Cond := u_ws RJ11 TJ11 0
theorem nmJ11 : ∀ a, a < 0 → ∀ b, b < 0 → a ≠ b → (TJ11 a).2.1 ≠ (TJ11 b).2.1 := by decide +kernel
theorem tyJ11_ok : ∀ k, k < 0 → parseFieldDescriptor (TJ11 k).2.2.1 = some (tyJ11 k) := by decide +kernel
abbrev cJ11_isValidCodePoint_9a6ad : ByteArray := prog_14_method_11_code
def yJ11_isValidCodePoint_9a6ad : MethodName := ⟨RJ11, "isValidCodePoint", "(I)Z"⟩
abbrev cJ11_highSurrogate_5068e : ByteArray := prog_14_method_28_code
def yJ11_highSurrogate_5068e : MethodName := ⟨RJ11, "highSurrogate", "(I)C"⟩
abbrev cJ11_lowSurrogate_5068e : ByteArray := prog_14_method_29_code
def yJ11_lowSurrogate_5068e : MethodName := ⟨RJ11, "lowSurrogate", "(I)C"⟩
def RJxb160c : String := "java/lang/Comparable"
def TJxb160c : u_T := fun k => match k with
  | _ => ("", "", "", false)
def tyJxb160c : Nat → FieldType := fun k => match k with
  | _ => .int
abbrev wsJxb160c0 : List Cond := u_ws RJxb160c TJxb160c 0
theorem nmJxb160c : ∀ a, a < 0 → ∀ b, b < 0 → a ≠ b → (TJxb160c a).2.1 ≠ (TJxb160c b).2.1 := by decide +kernel
theorem tyJxb160c_ok : ∀ k, k < 0 → parseFieldDescriptor (TJxb160c k).2.2.1 = some (tyJxb160c k) := by decide +kernel
def RJ9 : String := "java/lang/Math"
def TJ9 : u_T := fun k => match k with
  | _ => ("", "", "", false)
def tyJ9 : Nat → FieldType := fun k => match k with
  | _ => .int
abbrev wsJ90 : List Cond := u_ws RJ9 TJ9 0
theorem nmJ9 : ∀ a, a < 0 → ∀ b, b < 0 → a ≠ b → (TJ9 a).2.1 ≠ (TJ9 b).2.1 := by decide +kernel
theorem tyJ9_ok : ∀ k, k < 0 → parseFieldDescriptor (TJ9 k).2.2.1 = some (tyJ9 k) := by decide +kernel
abbrev cJ9_max_7cf53 : ByteArray := prog_15_method_65_code
def yJ9_max_7cf53 : MethodName := ⟨RJ9, "max", "(II)I"⟩
abbrev cJ9_min_7cf53 : ByteArray := prog_15_method_69_code
def yJ9_min_7cf53 : MethodName := ⟨RJ9, "min", "(II)I"⟩
def RJ0 : String := "java/lang/String"
def TJ0 : u_T := fun k => match k with
  | _ => ("", "", "", false)
def tyJ0 : Nat → FieldType := fun k => match k with
  | _ => .int
abbrev wsJ00 : List Cond := u_ws RJ0 TJ0 0
theorem nmJ0 : ∀ a, a < 0 → ∀ b, b < 0 → a ≠ b → (TJ0 a).2.1 ≠ (TJ0 b).2.1 := by decide +kernel
theorem tyJ0_ok : ∀ k, k < 0 → parseFieldDescriptor (TJ0 k).2.2.1 = some (tyJ0 k) := by decide +kernel
abbrev cJ0_length_8abf5 : ByteArray := prog_16_method_54_code
def yJ0_length_8abf5 : MethodName := ⟨RJ0, "length", "()I"⟩
abbrev cJ0_indexOf_0f7a4 : ByteArray := prog_16_method_79_code
def yJ0_indexOf_0f7a4 : MethodName := ⟨RJ0, "indexOf", "(I)I"⟩
abbrev cJ0_indexOf_7cf53 : ByteArray := prog_16_method_80_code
def yJ0_indexOf_7cf53 : MethodName := ⟨RJ0, "indexOf", "(II)I"⟩
abbrev cJ0_coder_7d493 : ByteArray := prog_16_method_152_code
def yJ0_coder_7d493 : MethodName := ⟨RJ0, "coder", "()B"⟩
abbrev cJ0_isLatin1_aae02 : ByteArray := prog_16_method_154_code
def yJ0_isLatin1_aae02 : MethodName := ⟨RJ0, "isLatin1", "()Z"⟩
abbrev cJ0_checkBoundsBeginEnd_23922 : ByteArray := prog_16_method_158_code
def yJ0_checkBoundsBeginEnd_23922 : MethodName := ⟨RJ0, "checkBoundsBeginEnd", "(III)V"⟩
def RJ1 : String := "java/lang/StringLatin1"
def TJ1 : u_T := fun k => match k with
  | _ => ("", "", "", false)
def tyJ1 : Nat → FieldType := fun k => match k with
  | _ => .int
abbrev wsJ10 : List Cond := u_ws RJ1 TJ1 0
theorem nmJ1 : ∀ a, a < 0 → ∀ b, b < 0 → a ≠ b → (TJ1 a).2.1 ≠ (TJ1 b).2.1 := by decide +kernel
theorem tyJ1_ok : ∀ k, k < 0 → parseFieldDescriptor (TJ1 k).2.2.1 = some (tyJ1 k) := by decide +kernel
abbrev cJ1_canEncode_9a6ad : ByteArray := prog_17_method_4_code
def yJ1_canEncode_9a6ad : MethodName := ⟨RJ1, "canEncode", "(I)Z"⟩
abbrev cJ1_indexOf_4cfef : ByteArray := prog_17_method_22_code
def yJ1_indexOf_4cfef : MethodName := ⟨RJ1, "indexOf", "([BIII)I"⟩
abbrev cJ1_indexOfChar_4cfef : ByteArray := prog_17_method_23_code
def yJ1_indexOfChar_4cfef : MethodName := ⟨RJ1, "indexOfChar", "([BIII)I"⟩
def RJ2 : String := "java/lang/StringUTF16"
def TJ2 : u_T := fun k => match k with
  | _ => ("", "", "", false)
def tyJ2 : Nat → FieldType := fun k => match k with
  | _ => .int
abbrev wsJ20 : List Cond := u_ws RJ2 TJ2 0
theorem nmJ2 : ∀ a, a < 0 → ∀ b, b < 0 → a ≠ b → (TJ2 a).2.1 ≠ (TJ2 b).2.1 := by decide +kernel
theorem tyJ2_ok : ∀ k, k < 0 → parseFieldDescriptor (TJ2 k).2.2.1 = some (tyJ2 k) := by decide +kernel
abbrev cJ2_getChar_3b067 : ByteArray := prog_18_method_5_code
def yJ2_getChar_3b067 : MethodName := ⟨RJ2, "getChar", "([BI)C"⟩
abbrev cJ2_length_9d52b : ByteArray := prog_18_method_6_code
def yJ2_length_9d52b : MethodName := ⟨RJ2, "length", "([B)I"⟩
abbrev cJ2_indexOf_4cfef : ByteArray := prog_18_method_40_code
def yJ2_indexOf_4cfef : MethodName := ⟨RJ2, "indexOf", "([BIII)I"⟩
abbrev cJ2_indexOfChar_4cfef : ByteArray := prog_18_method_47_code
def yJ2_indexOfChar_4cfef : MethodName := ⟨RJ2, "indexOfChar", "([BIII)I"⟩
abbrev cJ2_indexOfCharUnsafe_4cfef : ByteArray := prog_18_method_48_code
def yJ2_indexOfCharUnsafe_4cfef : MethodName := ⟨RJ2, "indexOfCharUnsafe", "([BIII)I"⟩
abbrev cJ2_indexOfSupplementary_4cfef : ByteArray := prog_18_method_49_code
def yJ2_indexOfSupplementary_4cfef : MethodName := ⟨RJ2, "indexOfSupplementary", "([BIII)I"⟩
abbrev cJ2_checkBoundsBeginEnd_d044e : ByteArray := prog_18_method_93_code
def yJ2_checkBoundsBeginEnd_d044e : MethodName := ⟨RJ2, "checkBoundsBeginEnd", "(II[B)V"⟩
def RJ10 : String := "java/lang/System"
def TJ10 : u_T := fun k => match k with
  | _ => ("", "", "", false)
def tyJ10 : Nat → FieldType := fun k => match k with
  | _ => .int
abbrev wsJ100 : List Cond := u_ws RJ10 TJ10 0
theorem nmJ10 : ∀ a, a < 0 → ∀ b, b < 0 → a ≠ b → (TJ10 a).2.1 ≠ (TJ10 b).2.1 := by decide +kernel
theorem tyJ10_ok : ∀ k, k < 0 → parseFieldDescriptor (TJ10 k).2.2.1 = some (tyJ10 k) := by decide +kernel
def RJxfd54e : String := "java/lang/constant/Constable"
def TJxfd54e : u_T := fun k => match k with
  | _ => ("", "", "", false)
def tyJxfd54e : Nat → FieldType := fun k => match k with
  | _ => .int
abbrev wsJxfd54e0 : List Cond := u_ws RJxfd54e TJxfd54e 0
theorem nmJxfd54e : ∀ a, a < 0 → ∀ b, b < 0 → a ≠ b → (TJxfd54e a).2.1 ≠ (TJxfd54e b).2.1 := by decide +kernel
theorem tyJxfd54e_ok : ∀ k, k < 0 → parseFieldDescriptor (TJxfd54e k).2.2.1 = some (tyJxfd54e k) := by decide +kernel
def RJx3cf43 : String := "java/lang/constant/ConstantDesc"
def TJx3cf43 : u_T := fun k => match k with
  | _ => ("", "", "", false)
def tyJx3cf43 : Nat → FieldType := fun k => match k with
  | _ => .int
abbrev wsJx3cf430 : List Cond := u_ws RJx3cf43 TJx3cf43 0
theorem nmJx3cf43 : ∀ a, a < 0 → ∀ b, b < 0 → a ≠ b → (TJx3cf43 a).2.1 ≠ (TJx3cf43 b).2.1 := by decide +kernel
theorem tyJx3cf43_ok : ∀ k, k < 0 → parseFieldDescriptor (TJx3cf43 k).2.2.1 = some (tyJx3cf43 k) := by decide +kernel
def RJ7 : String := "java/util/Arrays"
def TJ7 : u_T := fun k => match k with
  | _ => ("", "", "", false)
def tyJ7 : Nat → FieldType := fun k => match k with
  | _ => .int
abbrev wsJ70 : List Cond := u_ws RJ7 TJ7 0
theorem nmJ7 : ∀ a, a < 0 → ∀ b, b < 0 → a ≠ b → (TJ7 a).2.1 ≠ (TJ7 b).2.1 := by decide +kernel
theorem tyJ7_ok : ∀ k, k < 0 → parseFieldDescriptor (TJ7 k).2.2.1 = some (tyJ7 k) := by decide +kernel
abbrev cJ7_fill_53178 : ByteArray := prog_20_method_103_code
def yJ7_fill_53178 : MethodName := ⟨RJ7, "fill", "([II)V"⟩
def RJ3 : String := "jdk/internal/util/Preconditions"
def TJ3 : u_T := fun k => match k with
  | _ => ("", "", "", false)
def tyJ3 : Nat → FieldType := fun k => match k with
  | _ => .int
abbrev wsJ30 : List Cond := u_ws RJ3 TJ3 0
theorem nmJ3 : ∀ a, a < 0 → ∀ b, b < 0 → a ≠ b → (TJ3 a).2.1 ≠ (TJ3 b).2.1 := by decide +kernel
theorem tyJ3_ok : ∀ k, k < 0 → parseFieldDescriptor (TJ3 k).2.2.1 = some (tyJ3 k) := by decide +kernel
abbrev cJ3_checkFromToIndex_8c36e : ByteArray := prog_21_method_12_code
def yJ3_checkFromToIndex_8c36e : MethodName := ⟨RJ3, "checkFromToIndex", "(IIILjava/util/function/BiFunction;)I"⟩
def RL : String := "LoneAdjectiveLaw"
abbrev cL_law : ByteArray := code
def yL_law : MethodName := ⟨RL, "law", "([I)Z"⟩
abbrev vwCl : List vw_C := [(RX0, TX0, 6), (RX1, TX1, 2), (RX2, TX2, 2), (RX3, TX3, 8), (RX4, TX4, 3), (RX5, TX5, 3), (RX6, TX6, 6), (RX8, TX8, 6), (RX9, TX9, 16), (RX10, TX10, 16), (RX11, TX11, 50)]
end
section
/-! an instruction, with three numbers of ours: 0 ordinary, 1 a call, 2 a return; a place; a number -/
abbrev ab_E : Type := Instr × (Nat × (Nat × Int))
end
section
/-- LoneAdjective$BestRound.<init>()V -/
noncomputable def ab_c0 : List (Nat × ab_E) := [(0, .aload_n 0, 0, 0, 0), (1, .invokespecial 3, 1, 37, 1), (4, .aload_n 0, 0, 0, 0), (5, .bipush 6, 0, 0, 0), (7, .newarray .int, 0, 0, 20), (9, .putfield 9, 0, 5, 0), (12, .return_, 2, 0, 2)]
/-- LoneAdjective$BestRound.find(LLoneAdjective$Town;III)V -/
noncomputable def ab_c1 : List (Nat × ab_E) := [(0, .aload_n 0, 0, 0, 0), (1, .iconst (-1), 0, 0, 0), (2, .putfield 15, 0, 2, 0), (5, .aload_n 0, 0, 0, 0), (6, .aload_n 1, 0, 0, 0), (7, .iload_n 2, 0, 0, 0), (8, .iload_n 3, 0, 0, 0), (9, .iload 4, 0, 0, 0), (11, .invokevirtual 19, 1, 1038, 5), (14, .return_, 2, 0, 2)]
/-- LoneAdjective$BestRound.meet(LLoneAdjective$Town;II)V -/
noncomputable def ab_c2_0 : List (Nat × ab_E) := [(0, .aload_n 1, 0, 0, 0), (1, .aload_n 0, 0, 0, 0), (2, .iload_n 2, 0, 0, 0), (3, .invokevirtual 23, 1, 1040, 2), (6, .invokevirtual 27, 1, 60, 2), (9, .istore 4, 0, 0, 0), (11, .iload 4, 0, 0, 0), (13, .aload_n 0, 0, 0, 0), (14, .getfield 15, 0, 2, 0), (17, .if_icmp .gt 20, 0, 37, 0), (20, .iload 4, 0, 0, 0), (22, .aload_n 0, 0, 0, 0), (23, .getfield 15, 0, 2, 0), (26, .if_icmp .ne 41, 0, 67, 0), (29, .iload_n 3, 0, 0, 0), (30, .aload_n 0, 0, 0, 0), (31, .getfield 32, 0, 3, 0), (34, .if_icmp .ge 33, 0, 67, 0), (37, .aload_n 0, 0, 0, 0), (38, .iload 4, 0, 0, 0), (40, .putfield 15, 0, 2, 0), (43, .aload_n 0, 0, 0, 0), (44, .iload_n 3, 0, 0, 0), (45, .putfield 32, 0, 3, 0), (48, .aload_n 0, 0, 0, 0), (49, .iload_n 2, 0, 0, 0), (50, .putfield 35, 0, 4, 0), (53, .aload_n 0, 0, 0, 0), (54, .getfield 38, 0, 0, 0), (57, .iconst 0, 0, 0, 0)]
noncomputable def ab_c2_1 : List (Nat × ab_E) := [(58, .aload_n 0, 0, 0, 0), (59, .getfield 9, 0, 5, 0), (62, .iconst 0, 0, 0, 0), (63, .iload_n 2, 0, 0, 0), (64, .invokestatic 41, 0, 901, 5), (67, .return_, 2, 0, 2)]
noncomputable def ab_c2 : List (Nat × ab_E) := List.append ab_c2_0 (ab_c2_1)
/-- LoneAdjective$Chains.<init>()V -/
noncomputable def ab_c3 : List (Nat × ab_E) := [(0, .aload_n 0, 0, 0, 0), (1, .invokespecial 3, 0, 900, 1), (4, .aload_n 0, 0, 0, 0), (5, .bipush 6, 0, 0, 0), (7, .newarray .int, 0, 0, 20), (9, .putfield 9, 0, 0, 1), (12, .aload_n 0, 0, 0, 0), (13, .bipush 6, 0, 0, 0), (15, .newarray .int, 0, 0, 20), (17, .putfield 15, 0, 1, 1), (20, .return_, 2, 0, 2)]
/-- LoneAdjective$Chains.find(LLoneAdjective$Town;I)V -/
noncomputable def ab_c4 : List (Nat × ab_E) := [(0, .aload_n 0, 0, 0, 0), (1, .getfield 9, 0, 0, 1), (4, .iconst (-1), 0, 0, 0), (5, .invokestatic 18, 1, 193, 2), (8, .aload_n 0, 0, 0, 0), (9, .getfield 15, 0, 1, 1), (12, .iconst (-1), 0, 0, 0), (13, .invokestatic 18, 1, 193, 2), (16, .aload_n 0, 0, 0, 0), (17, .aload_n 1, 0, 0, 0), (18, .iload_n 2, 0, 0, 0), (19, .ldc 24, 0, 0, 1000000000), (21, .iconst 0, 0, 0, 0), (22, .iconst 1, 0, 0, 0), (23, .invokestatic 25, 1, 5, 6), (26, .return_, 2, 0, 2)]
/-- LoneAdjective$Chains.lendOn(LLoneAdjective$Chains;LLoneAdjective$Town;IIII)V -/
noncomputable def ab_c5_0 : List (Nat × ab_E) := [(0, .aload_n 0, 0, 0, 0), (1, .iload_n 2, 0, 0, 0), (2, .iload_n 3, 0, 0, 0), (3, .iload 5, 0, 0, 0), (5, .invokevirtual 29, 1, 6, 4), (8, .iload 5, 0, 0, 0), (10, .bipush 6, 0, 0, 0), (12, .if_icmp .lt 4, 0, 16, 0), (15, .return_, 2, 0, 2), (16, .iload 4, 0, 0, 0), (18, .iconst 1, 0, 0, 0), (19, .iload_n 2, 0, 0, 0), (20, .ishl, 0, 0, 0), (21, .ior, 0, 0, 0), (22, .istore 6, 0, 0, 0), (24, .iconst 0, 0, 0, 0), (25, .istore 7, 0, 0, 0), (27, .iload 7, 0, 0, 0), (29, .aload_n 1, 0, 0, 0), (30, .getfield 33, 0, 2, 8), (33, .if_icmp .ge 67, 0, 100, 0), (36, .iload 6, 0, 0, 0), (38, .iload 7, 0, 0, 0), (40, .ishr, 0, 0, 0), (41, .iconst 1, 0, 0, 0), (42, .iand, 0, 0, 0), (43, .ifCond .ne 51, 0, 94, 0), (46, .aload_n 1, 0, 0, 0), (47, .getfield 39, 0, 14, 8), (50, .iload_n 2, 0, 0, 0)]
noncomputable def ab_c5_1 : List (Nat × ab_E) := [(51, .aaload, 0, 0, 0), (52, .iload 7, 0, 0, 0), (54, .iaload, 0, 0, 0), (55, .iconst (-1), 0, 0, 0), (56, .if_icmp .eq 38, 0, 94, 0), (59, .iload_n 3, 0, 0, 0), (60, .i2l, 0, 0, 0), (61, .aload_n 1, 0, 0, 0), (62, .getfield 39, 0, 14, 8), (65, .iload_n 2, 0, 0, 0), (66, .aaload, 0, 0, 0), (67, .iload 7, 0, 0, 0), (69, .iaload, 0, 0, 0), (70, .i2l, 0, 0, 0), (71, .lmul, 0, 0, 0), (72, .ldc2_w 43, 0, 0, 10), (75, .ldiv, 0, 0, 0), (76, .l2i, 0, 0, 0), (77, .istore 8, 0, 0, 0), (79, .aload_n 0, 0, 0, 0), (80, .aload_n 1, 0, 0, 0), (81, .iload 7, 0, 0, 0), (83, .iload 8, 0, 0, 0), (85, .iload 6, 0, 0, 0), (87, .iload 5, 0, 0, 0), (89, .iconst 1, 0, 0, 0), (90, .iadd, 0, 0, 0), (91, .invokestatic 25, 1, 5, 6), (94, .iinc 7 1, 0, 0, 0), (97, .goto (-70), 0, 27, 0)]
noncomputable def ab_c5_2 : List (Nat × ab_E) := [(100, .return_, 2, 0, 2)]
noncomputable def ab_c5 : List (Nat × ab_E) := List.append ab_c5_0 (List.append ab_c5_1 (ab_c5_2))
/-- LoneAdjective$Chains.compare(III)V -/
noncomputable def ab_c6 : List (Nat × ab_E) := [(0, .iload_n 2, 0, 0, 0), (1, .aload_n 0, 0, 0, 0), (2, .getfield 9, 0, 0, 1), (5, .iload_n 1, 0, 0, 0), (6, .iaload, 0, 0, 0), (7, .if_icmp .gt 23, 0, 30, 0), (10, .iload_n 2, 0, 0, 0), (11, .aload_n 0, 0, 0, 0), (12, .getfield 9, 0, 0, 1), (15, .iload_n 1, 0, 0, 0), (16, .iaload, 0, 0, 0), (17, .if_icmp .ne 27, 0, 44, 0), (20, .iload_n 3, 0, 0, 0), (21, .aload_n 0, 0, 0, 0), (22, .getfield 15, 0, 1, 1), (25, .iload_n 1, 0, 0, 0), (26, .iaload, 0, 0, 0), (27, .if_icmp .ge 17, 0, 44, 0), (30, .aload_n 0, 0, 0, 0), (31, .getfield 9, 0, 0, 1), (34, .iload_n 1, 0, 0, 0), (35, .iload_n 2, 0, 0, 0), (36, .iastore, 0, 0, 0), (37, .aload_n 0, 0, 0, 0), (38, .getfield 15, 0, 1, 1), (41, .iload_n 1, 0, 0, 0), (42, .iload_n 3, 0, 0, 0), (43, .iastore, 0, 0, 0), (44, .return_, 2, 0, 2)]
/-- LoneAdjective$Chase.<init>()V -/
noncomputable def ab_c7 : List (Nat × ab_E) := [(0, .aload_n 0, 0, 0, 0), (1, .invokespecial 3, 0, 900, 1), (4, .aload_n 0, 0, 0, 0), (5, .bipush 98, 0, 0, 0), (7, .newarray .int, 0, 0, 20), (9, .putfield 11, 0, 0, 2), (12, .aload_n 0, 0, 0, 0), (13, .bipush 98, 0, 0, 0), (15, .newarray .int, 0, 0, 20), (17, .putfield 15, 0, 1, 2), (20, .return_, 2, 0, 2)]
/-- LoneAdjective$Chase.place(III)I -/
noncomputable def ab_c8 : List (Nat × ab_E) := [(0, .iload_n 0, 0, 0, 0), (1, .bipush 7, 0, 0, 0), (3, .imul, 0, 0, 0), (4, .iload_n 1, 0, 0, 0), (5, .iadd, 0, 0, 0), (6, .iconst 2, 0, 0, 0), (7, .imul, 0, 0, 0), (8, .iload_n 2, 0, 0, 0), (9, .iadd, 0, 0, 0), (10, .ireturn, 2, 1, 0)]
/-- LoneAdjective$Chase.solve(LLoneAdjective$Town;I)V -/
noncomputable def ab_c9_0 : List (Nat × ab_E) := [(0, .aload_n 0, 0, 0, 0), (1, .getfield 11, 0, 0, 2), (4, .iconst 0, 0, 0, 0), (5, .invokestatic 18, 1, 193, 2), (8, .aload_n 0, 0, 0, 0), (9, .getfield 15, 0, 1, 2), (12, .iconst 0, 0, 0, 0), (13, .invokestatic 18, 1, 193, 2), (16, .iconst 0, 0, 0, 0), (17, .istore_n 3, 0, 0, 0), (18, .iload_n 3, 0, 0, 0), (19, .aload_n 1, 0, 0, 0), (20, .getfield 24, 0, 0, 8), (23, .if_icmp .ge 77, 0, 100, 0), (26, .iconst 0, 0, 0, 0), (27, .istore 4, 0, 0, 0), (29, .iload 4, 0, 0, 0), (31, .aload_n 1, 0, 0, 0), (32, .getfield 24, 0, 0, 8), (35, .if_icmp .ge 59, 0, 94, 0), (38, .iload_n 3, 0, 0, 0), (39, .iload 4, 0, 0, 0), (41, .if_icmp .ne 7, 0, 48, 0), (44, .iconst 2, 0, 0, 0), (45, .goto 13, 0, 58, 0), (48, .iload_n 3, 0, 0, 0), (49, .iload_n 2, 0, 0, 0), (50, .if_icmp .ne 7, 0, 57, 0), (53, .iconst 1, 0, 0, 0), (54, .goto 4, 0, 58, 0)]
noncomputable def ab_c9_1 : List (Nat × ab_E) := [(57, .iconst 0, 0, 0, 0), (58, .istore 5, 0, 0, 0), (60, .aload_n 0, 0, 0, 0), (61, .getfield 11, 0, 0, 2), (64, .iload_n 3, 0, 0, 0), (65, .iload 4, 0, 0, 0), (67, .iconst 0, 0, 0, 0), (68, .invokestatic 30, 1, 8, 3), (71, .iload 5, 0, 0, 0), (73, .iastore, 0, 0, 0), (74, .aload_n 0, 0, 0, 0), (75, .getfield 11, 0, 0, 2), (78, .iload_n 3, 0, 0, 0), (79, .iload 4, 0, 0, 0), (81, .iconst 1, 0, 0, 0), (82, .invokestatic 30, 1, 8, 3), (85, .iload 5, 0, 0, 0), (87, .iastore, 0, 0, 0), (88, .iinc 4 1, 0, 0, 0), (91, .goto (-62), 0, 29, 0), (94, .iinc 3 1, 0, 0, 0), (97, .goto (-79), 0, 18, 0), (100, .iconst 1, 0, 0, 0), (101, .istore_n 3, 0, 0, 0), (102, .iconst 1, 0, 0, 0), (103, .istore 4, 0, 0, 0), (105, .iload 4, 0, 0, 0), (107, .bipush 98, 0, 0, 0), (109, .if_icmp .gt 21, 0, 130, 0), (112, .iload_n 3, 0, 0, 0)]
noncomputable def ab_c9_2 : List (Nat × ab_E) := [(113, .ifCond .eq 17, 0, 130, 0), (116, .aload_n 0, 0, 0, 0), (117, .aload_n 1, 0, 0, 0), (118, .iload 4, 0, 0, 0), (120, .invokevirtual 34, 1, 10, 3), (123, .istore_n 3, 0, 0, 0), (124, .iinc 4 1, 0, 0, 0), (127, .goto (-22), 0, 105, 0), (130, .return_, 2, 0, 2)]
noncomputable def ab_c9 : List (Nat × ab_E) := List.append ab_c9_0 (List.append ab_c9_1 (ab_c9_2))
/-- LoneAdjective$Chase.decideAt(LLoneAdjective$Town;I)Z -/
noncomputable def ab_c10_0 : List (Nat × ab_E) := [(0, .iconst 0, 0, 0, 0), (1, .istore_n 3, 0, 0, 0), (2, .iconst 0, 0, 0, 0), (3, .istore 4, 0, 0, 0), (5, .iload 4, 0, 0, 0), (7, .aload_n 1, 0, 0, 0), (8, .getfield 24, 0, 0, 8), (11, .if_icmp .ge 55, 0, 66, 0), (14, .iconst 0, 0, 0, 0), (15, .istore 5, 0, 0, 0), (17, .iload 5, 0, 0, 0), (19, .aload_n 1, 0, 0, 0), (20, .getfield 24, 0, 0, 8), (23, .if_icmp .ge 37, 0, 60, 0), (26, .iload_n 3, 0, 0, 0), (27, .aload_n 0, 0, 0, 0), (28, .aload_n 1, 0, 0, 0), (29, .iload 4, 0, 0, 0), (31, .iload 5, 0, 0, 0), (33, .iconst 0, 0, 0, 0), (34, .iload_n 2, 0, 0, 0), (35, .invokevirtual 38, 1, 11, 6), (38, .ior, 0, 0, 0), (39, .istore_n 3, 0, 0, 0), (40, .iload_n 3, 0, 0, 0), (41, .aload_n 0, 0, 0, 0), (42, .aload_n 1, 0, 0, 0), (43, .iload 4, 0, 0, 0), (45, .iload 5, 0, 0, 0), (47, .iconst 1, 0, 0, 0)]
noncomputable def ab_c10_1 : List (Nat × ab_E) := [(48, .iload_n 2, 0, 0, 0), (49, .invokevirtual 38, 1, 11, 6), (52, .ior, 0, 0, 0), (53, .istore_n 3, 0, 0, 0), (54, .iinc 5 1, 0, 0, 0), (57, .goto (-40), 0, 17, 0), (60, .iinc 4 1, 0, 0, 0), (63, .goto (-58), 0, 5, 0), (66, .iload_n 3, 0, 0, 0), (67, .ireturn, 2, 1, 1)]
noncomputable def ab_c10 : List (Nat × ab_E) := List.append ab_c10_0 (ab_c10_1)
/-- LoneAdjective$Chase.decide(LLoneAdjective$Town;IIII)Z -/
noncomputable def ab_c11_0 : List (Nat × ab_E) := [(0, .iload_n 2, 0, 0, 0), (1, .iload_n 3, 0, 0, 0), (2, .iload 4, 0, 0, 0), (4, .invokestatic 30, 1, 8, 3), (7, .istore 6, 0, 0, 0), (9, .aload_n 0, 0, 0, 0), (10, .getfield 11, 0, 0, 2), (13, .iload 6, 0, 0, 0), (15, .iaload, 0, 0, 0), (16, .ifCond .eq 5, 0, 21, 0), (19, .iconst 0, 0, 0, 0), (20, .ireturn, 2, 1, 1), (21, .iload 4, 0, 0, 0), (23, .ifCond .ne 7, 0, 30, 0), (26, .iconst 1, 0, 0, 0), (27, .goto 4, 0, 31, 0), (30, .iconst 2, 0, 0, 0), (31, .istore 7, 0, 0, 0), (33, .iload 4, 0, 0, 0), (35, .ifCond .ne 7, 0, 42, 0), (38, .iload_n 2, 0, 0, 0), (39, .goto 4, 0, 43, 0), (42, .iload_n 3, 0, 0, 0), (43, .istore 8, 0, 0, 0), (45, .iconst 1, 0, 0, 0), (46, .istore 9, 0, 0, 0), (48, .iconst 0, 0, 0, 0), (49, .istore 10, 0, 0, 0), (51, .iconst 0, 0, 0, 0), (52, .istore 11, 0, 0, 0)]
noncomputable def ab_c11_1 : List (Nat × ab_E) := [(54, .iload 11, 0, 0, 0), (56, .aload_n 1, 0, 0, 0), (57, .getfield 24, 0, 0, 8), (60, .if_icmp .ge 118, 0, 178, 0), (63, .iload 11, 0, 0, 0), (65, .iload 8, 0, 0, 0), (67, .if_icmp .eq 17, 0, 84, 0), (70, .aload_n 1, 0, 0, 0), (71, .getfield 42, 0, 5, 8), (74, .iload 8, 0, 0, 0), (76, .aaload, 0, 0, 0), (77, .iload 11, 0, 0, 0), (79, .iaload, 0, 0, 0), (80, .iconst (-1), 0, 0, 0), (81, .if_icmp .eq 91, 0, 172, 0), (84, .iload 4, 0, 0, 0), (86, .ifCond .ne 13, 0, 99, 0), (89, .iload 11, 0, 0, 0), (91, .iload_n 3, 0, 0, 0), (92, .iconst 1, 0, 0, 0), (93, .invokestatic 30, 1, 8, 3), (96, .goto 10, 0, 106, 0), (99, .iload_n 2, 0, 0, 0), (100, .iload 11, 0, 0, 0), (102, .iconst 0, 0, 0, 0), (103, .invokestatic 30, 1, 8, 3), (106, .istore 12, 0, 0, 0), (108, .aload_n 0, 0, 0, 0), (109, .getfield 15, 0, 1, 2), (112, .iload 12, 0, 0, 0)]
noncomputable def ab_c11_2 : List (Nat × ab_E) := [(114, .iaload, 0, 0, 0), (115, .iload 5, 0, 0, 0), (117, .if_icmp .ge 13, 0, 130, 0), (120, .aload_n 0, 0, 0, 0), (121, .getfield 11, 0, 0, 2), (124, .iload 12, 0, 0, 0), (126, .iaload, 0, 0, 0), (127, .goto 4, 0, 131, 0), (130, .iconst 0, 0, 0, 0), (131, .istore 13, 0, 0, 0), (133, .iload 10, 0, 0, 0), (135, .iload 13, 0, 0, 0), (137, .iload 7, 0, 0, 0), (139, .if_icmp .ne 7, 0, 146, 0), (142, .iconst 1, 0, 0, 0), (143, .goto 4, 0, 147, 0), (146, .iconst 0, 0, 0, 0), (147, .ior, 0, 0, 0), (148, .istore 10, 0, 0, 0), (150, .iload 9, 0, 0, 0), (152, .iload 13, 0, 0, 0), (154, .ifCond .eq 14, 0, 168, 0), (157, .iload 13, 0, 0, 0), (159, .iload 7, 0, 0, 0), (161, .if_icmp .eq 7, 0, 168, 0), (164, .iconst 1, 0, 0, 0), (165, .goto 4, 0, 169, 0), (168, .iconst 0, 0, 0, 0), (169, .iand, 0, 0, 0), (170, .istore 9, 0, 0, 0)]
noncomputable def ab_c11_3 : List (Nat × ab_E) := [(172, .iinc 11 1, 0, 0, 0), (175, .goto (-121), 0, 54, 0), (178, .iload 10, 0, 0, 0), (180, .ifCond .ne 10, 0, 190, 0), (183, .iload 9, 0, 0, 0), (185, .ifCond .ne 5, 0, 190, 0), (188, .iconst 0, 0, 0, 0), (189, .ireturn, 2, 1, 1), (190, .aload_n 0, 0, 0, 0), (191, .getfield 11, 0, 0, 2), (194, .iload 6, 0, 0, 0), (196, .iload 10, 0, 0, 0), (198, .ifCond .eq 8, 0, 206, 0), (201, .iload 7, 0, 0, 0), (203, .goto 7, 0, 210, 0), (206, .iconst 3, 0, 0, 0), (207, .iload 7, 0, 0, 0), (209, .isub, 0, 0, 0), (210, .iastore, 0, 0, 0), (211, .aload_n 0, 0, 0, 0), (212, .getfield 15, 0, 1, 2), (215, .iload 6, 0, 0, 0), (217, .iload 5, 0, 0, 0), (219, .iastore, 0, 0, 0), (220, .iconst 1, 0, 0, 0), (221, .ireturn, 2, 1, 1)]
noncomputable def ab_c11 : List (Nat × ab_E) := List.append ab_c11_0 (List.append ab_c11_1 (List.append ab_c11_2 (ab_c11_3)))
/-- LoneAdjective$Days.<init>()V -/
noncomputable def ab_c12 : List (Nat × ab_E) := [(0, .aload_n 0, 0, 0, 0), (1, .invokespecial 3, 1, 37, 1), (4, .aload_n 0, 0, 0, 0), (5, .bipush 6, 0, 0, 0), (7, .newarray .int, 0, 0, 20), (9, .putfield 9, 0, 6, 3), (12, .aload_n 0, 0, 0, 0), (13, .bipush 6, 0, 0, 0), (15, .newarray .int, 0, 0, 20), (17, .putfield 15, 0, 7, 3), (20, .return_, 2, 0, 2)]
/-- LoneAdjective$Days.add(II)Z -/
noncomputable def ab_c13 : List (Nat × ab_E) := [(0, .aload_n 0, 0, 0, 0), (1, .getfield 18, 0, 2, 3), (4, .bipush 6, 0, 0, 0), (6, .if_icmp .lt 5, 0, 11, 0), (9, .iconst 0, 0, 0, 0), (10, .ireturn, 2, 1, 1), (11, .aload_n 0, 0, 0, 0), (12, .getfield 9, 0, 6, 3), (15, .aload_n 0, 0, 0, 0), (16, .getfield 18, 0, 2, 3), (19, .iload_n 1, 0, 0, 0), (20, .iastore, 0, 0, 0), (21, .aload_n 0, 0, 0, 0), (22, .getfield 15, 0, 7, 3), (25, .aload_n 0, 0, 0, 0), (26, .getfield 18, 0, 2, 3), (29, .iload_n 2, 0, 0, 0), (30, .iastore, 0, 0, 0), (31, .aload_n 0, 0, 0, 0), (32, .dup, 0, 0, 0), (33, .getfield 18, 0, 2, 3), (36, .iconst 1, 0, 0, 0), (37, .iadd, 0, 0, 0), (38, .putfield 18, 0, 2, 3), (41, .iconst 1, 0, 0, 0), (42, .ireturn, 2, 1, 1)]
/-- LoneAdjective$Days.find(LLoneAdjective$Town;I)V -/
noncomputable def ab_c14 : List (Nat × ab_E) := [(0, .aload_n 0, 0, 0, 0), (1, .iconst 0, 0, 0, 0), (2, .putfield 22, 0, 3, 3), (5, .aload_n 0, 0, 0, 0), (6, .iconst 0, 0, 0, 0), (7, .putfield 25, 0, 4, 3), (10, .aload_n 0, 0, 0, 0), (11, .iload_n 2, 0, 0, 0), (12, .putfield 28, 0, 5, 3), (15, .aload_n 1, 0, 0, 0), (16, .getfield 31, 0, 0, 8), (19, .ifCond .le 21, 0, 40, 0), (22, .aload_n 0, 0, 0, 0), (23, .aload_n 1, 0, 0, 0), (24, .iconst 1, 0, 0, 0), (25, .aload_n 1, 0, 0, 0), (26, .getfield 34, 0, 3, 8), (29, .ishl, 0, 0, 0), (30, .iconst 1, 0, 0, 0), (31, .isub, 0, 0, 0), (32, .aload_n 1, 0, 0, 0), (33, .getfield 37, 0, 1, 8), (36, .iconst 0, 0, 0, 0), (37, .invokevirtual 40, 1, 4038, 5), (40, .return_, 2, 0, 2)]
/-- LoneAdjective$Days.meet(LLoneAdjective$Town;II)V -/
noncomputable def ab_c15 : List (Nat × ab_E) := [(0, .aload_n 0, 0, 0, 0), (1, .invokevirtual 44, 1, 16, 1), (4, .ifCond .eq 30, 0, 34, 0), (7, .aload_n 0, 0, 0, 0), (8, .dup, 0, 0, 0), (9, .getfield 22, 0, 3, 3), (12, .iconst 1, 0, 0, 0), (13, .iadd, 0, 0, 0), (14, .putfield 22, 0, 3, 3), (17, .aload_n 0, 0, 0, 0), (18, .dup, 0, 0, 0), (19, .getfield 25, 0, 4, 3), (22, .iconst 1, 0, 0, 0), (23, .aload_n 0, 0, 0, 0), (24, .aload_n 1, 0, 0, 0), (25, .iload_n 2, 0, 0, 0), (26, .invokevirtual 48, 1, 17, 3), (29, .ishl, 0, 0, 0), (30, .ior, 0, 0, 0), (31, .putfield 25, 0, 4, 3), (34, .return_, 2, 0, 2)]
/-- LoneAdjective$Days.agrees()Z -/
noncomputable def ab_c16 : List (Nat × ab_E) := [(0, .iconst 0, 0, 0, 0), (1, .istore_n 1, 0, 0, 0), (2, .iload_n 1, 0, 0, 0), (3, .aload_n 0, 0, 0, 0), (4, .getfield 18, 0, 2, 3), (7, .if_icmp .ge 31, 0, 38, 0), (10, .aload_n 0, 0, 0, 0), (11, .getfield 52, 0, 1, 3), (14, .aload_n 0, 0, 0, 0), (15, .getfield 9, 0, 6, 3), (18, .iload_n 1, 0, 0, 0), (19, .iaload, 0, 0, 0), (20, .iaload, 0, 0, 0), (21, .aload_n 0, 0, 0, 0), (22, .getfield 15, 0, 7, 3), (25, .iload_n 1, 0, 0, 0), (26, .iaload, 0, 0, 0), (27, .if_icmp .eq 5, 0, 32, 0), (30, .iconst 0, 0, 0, 0), (31, .ireturn, 2, 1, 1), (32, .iinc 1 1, 0, 0, 0), (35, .goto (-33), 0, 2, 0), (38, .iconst 1, 0, 0, 0), (39, .ireturn, 2, 1, 1)]
/-- LoneAdjective$Days.placeOf(LLoneAdjective$Town;I)I -/
noncomputable def ab_c17_0 : List (Nat × ab_E) := [(0, .aload_n 1, 0, 0, 0), (1, .getfield 37, 0, 1, 8), (4, .istore_n 3, 0, 0, 0), (5, .iconst 0, 0, 0, 0), (6, .istore 4, 0, 0, 0), (8, .iconst 0, 0, 0, 0), (9, .istore 5, 0, 0, 0), (11, .iload 5, 0, 0, 0), (13, .iload_n 2, 0, 0, 0), (14, .if_icmp .ge 44, 0, 58, 0), (17, .iload 4, 0, 0, 0), (19, .aload_n 0, 0, 0, 0), (20, .getfield 28, 0, 5, 3), (23, .if_icmp .gt 35, 0, 58, 0), (26, .aload_n 1, 0, 0, 0), (27, .aload_n 0, 0, 0, 0), (28, .getfield 55, 0, 0, 3), (31, .iload 5, 0, 0, 0), (33, .iaload, 0, 0, 0), (34, .invokevirtual 58, 1, 59, 2), (37, .istore_n 3, 0, 0, 0), (38, .aload_n 0, 0, 0, 0), (39, .getfield 52, 0, 1, 3), (42, .aload_n 0, 0, 0, 0), (43, .getfield 55, 0, 0, 3), (46, .iload 5, 0, 0, 0), (48, .iaload, 0, 0, 0), (49, .iaload, 0, 0, 0), (50, .istore 4, 0, 0, 0), (52, .iinc 5 1, 0, 0, 0)]
noncomputable def ab_c17_1 : List (Nat × ab_E) := [(55, .goto (-44), 0, 11, 0), (58, .iload_n 3, 0, 0, 0), (59, .ireturn, 2, 1, 0)]
noncomputable def ab_c17 : List (Nat × ab_E) := List.append ab_c17_0 (ab_c17_1)
/-- LoneAdjective$Diary.<init>()V -/
noncomputable def ab_c18 : List (Nat × ab_E) := [(0, .aload_n 0, 0, 0, 0), (1, .invokespecial 3, 0, 900, 1), (4, .aload_n 0, 0, 0, 0), (5, .bipush 15, 0, 0, 0), (7, .newarray .int, 0, 0, 20), (9, .putfield 9, 0, 1, 4), (12, .aload_n 0, 0, 0, 0), (13, .bipush 15, 0, 0, 0), (15, .newarray .int, 0, 0, 20), (17, .putfield 15, 0, 2, 4), (20, .return_, 2, 0, 2)]
/-- LoneAdjective$Diary.add(II)Z -/
noncomputable def ab_c19 : List (Nat × ab_E) := [(0, .aload_n 0, 0, 0, 0), (1, .getfield 18, 0, 0, 4), (4, .bipush 15, 0, 0, 0), (6, .if_icmp .lt 5, 0, 11, 0), (9, .iconst 0, 0, 0, 0), (10, .ireturn, 2, 1, 1), (11, .aload_n 0, 0, 0, 0), (12, .getfield 9, 0, 1, 4), (15, .aload_n 0, 0, 0, 0), (16, .getfield 18, 0, 0, 4), (19, .iload_n 1, 0, 0, 0), (20, .iastore, 0, 0, 0), (21, .aload_n 0, 0, 0, 0), (22, .getfield 15, 0, 2, 4), (25, .aload_n 0, 0, 0, 0), (26, .getfield 18, 0, 0, 4), (29, .iload_n 2, 0, 0, 0), (30, .iastore, 0, 0, 0), (31, .aload_n 0, 0, 0, 0), (32, .dup, 0, 0, 0), (33, .getfield 18, 0, 0, 4), (36, .iconst 1, 0, 0, 0), (37, .iadd, 0, 0, 0), (38, .putfield 18, 0, 0, 4), (41, .iconst 1, 0, 0, 0), (42, .ireturn, 2, 1, 1)]
/-- LoneAdjective$Diary.firstWrong(LLoneAdjective$State;)I -/
noncomputable def ab_c20 : List (Nat × ab_E) := [(0, .iconst 0, 0, 0, 0), (1, .istore_n 2, 0, 0, 0), (2, .iload_n 2, 0, 0, 0), (3, .aload_n 0, 0, 0, 0), (4, .getfield 18, 0, 0, 4), (7, .if_icmp .ge 31, 0, 38, 0), (10, .aload_n 1, 0, 0, 0), (11, .getfield 22, 0, 5, 7), (14, .aload_n 0, 0, 0, 0), (15, .getfield 9, 0, 1, 4), (18, .iload_n 2, 0, 0, 0), (19, .iaload, 0, 0, 0), (20, .iaload, 0, 0, 0), (21, .aload_n 0, 0, 0, 0), (22, .getfield 15, 0, 2, 4), (25, .iload_n 2, 0, 0, 0), (26, .iaload, 0, 0, 0), (27, .if_icmp .eq 5, 0, 32, 0), (30, .iload_n 2, 0, 0, 0), (31, .ireturn, 2, 1, 0), (32, .iinc 2 1, 0, 0, 0), (35, .goto (-33), 0, 2, 0), (38, .iconst (-1), 0, 0, 0), (39, .ireturn, 2, 1, 0)]
/-- LoneAdjective$DoneSets.<init>()V -/
noncomputable def ab_c21 : List (Nat × ab_E) := [(0, .aload_n 0, 0, 0, 0), (1, .invokespecial 3, 1, 37, 1), (4, .aload_n 0, 0, 0, 0), (5, .bipush 64, 0, 0, 0), (7, .newarray .boolean, 0, 0, 21), (9, .putfield 9, 0, 2, 5), (12, .return_, 2, 0, 2)]
/-- LoneAdjective$DoneSets.find(LLoneAdjective$Town;III)V -/
noncomputable def ab_c22 : List (Nat × ab_E) := [(0, .iconst 0, 0, 0, 0), (1, .istore 5, 0, 0, 0), (3, .iload 5, 0, 0, 0), (5, .aload_n 0, 0, 0, 0), (6, .getfield 9, 0, 2, 5), (9, .arraylength, 0, 0, 0), (10, .if_icmp .ge 17, 0, 27, 0), (13, .aload_n 0, 0, 0, 0), (14, .getfield 9, 0, 2, 5), (17, .iload 5, 0, 0, 0), (19, .iconst 0, 0, 0, 0), (20, .bastore, 0, 0, 0), (21, .iinc 5 1, 0, 0, 0), (24, .goto (-21), 0, 3, 0), (27, .aload_n 0, 0, 0, 0), (28, .aload_n 1, 0, 0, 0), (29, .iload_n 2, 0, 0, 0), (30, .iload_n 3, 0, 0, 0), (31, .iload 4, 0, 0, 0), (33, .invokevirtual 15, 1, 6038, 5), (36, .return_, 2, 0, 2)]
/-- LoneAdjective$DoneSets.meet(LLoneAdjective$Town;II)V -/
noncomputable def ab_c23 : List (Nat × ab_E) := [(0, .aload_n 0, 0, 0, 0), (1, .getfield 9, 0, 2, 5), (4, .aload_n 0, 0, 0, 0), (5, .iload_n 2, 0, 0, 0), (6, .invokevirtual 19, 1, 6040, 2), (9, .iconst 1, 0, 0, 0), (10, .bastore, 0, 0, 0), (11, .return_, 2, 0, 2)]
/-- LoneAdjective$Reader.<init>()V -/
noncomputable def ab_c24 : List (Nat × ab_E) := [(0, .aload_n 0, 0, 0, 0), (1, .invokespecial 3, 0, 900, 1), (4, .aload_n 0, 0, 0, 0), (5, .sipush 250, 0, 0, 0), (8, .newarray .char, 0, 0, 22), (10, .putfield 9, 0, 3, 6), (13, .aload_n 0, 0, 0, 0), (14, .bipush 7, 0, 0, 0), (16, .newarray .int, 0, 0, 20), (18, .putfield 15, 0, 4, 6), (21, .aload_n 0, 0, 0, 0), (22, .iconst 4, 0, 0, 0), (23, .newarray .int, 0, 0, 20), (25, .putfield 19, 0, 5, 6), (28, .return_, 2, 0, 2)]
/-- LoneAdjective$Reader.add(C)Z -/
noncomputable def ab_c25 : List (Nat × ab_E) := [(0, .aload_n 0, 0, 0, 0), (1, .getfield 22, 0, 0, 6), (4, .sipush 250, 0, 0, 0), (7, .if_icmp .lt 5, 0, 12, 0), (10, .iconst 0, 0, 0, 0), (11, .ireturn, 2, 1, 1), (12, .aload_n 0, 0, 0, 0), (13, .getfield 9, 0, 3, 6), (16, .aload_n 0, 0, 0, 0), (17, .getfield 22, 0, 0, 6), (20, .iload_n 1, 0, 0, 0), (21, .castore, 0, 0, 0), (22, .aload_n 0, 0, 0, 0), (23, .dup, 0, 0, 0), (24, .getfield 22, 0, 0, 6), (27, .iconst 1, 0, 0, 0), (28, .iadd, 0, 0, 0), (29, .putfield 22, 0, 0, 6), (32, .iconst 1, 0, 0, 0), (33, .ireturn, 2, 1, 1)]
/-- LoneAdjective$Reader.read(LLoneAdjective$Town;)I -/
noncomputable def ab_c26_0 : List (Nat × ab_E) := [(0, .aload_n 0, 0, 0, 0), (1, .iconst 0, 0, 0, 0), (2, .putfield 26, 0, 1, 6), (5, .aload_n 0, 0, 0, 0), (6, .iconst 0, 0, 0, 0), (7, .putfield 29, 0, 2, 6), (10, .aload_n 0, 0, 0, 0), (11, .getfield 15, 0, 4, 6), (14, .iconst 0, 0, 0, 0), (15, .invokestatic 32, 1, 193, 2), (18, .aload_n 1, 0, 0, 0), (19, .invokevirtual 38, 1, 50, 1), (22, .aload_n 0, 0, 0, 0), (23, .invokevirtual 43, 1, 27, 1), (26, .iconst 0, 0, 0, 0), (27, .istore_n 2, 0, 0, 0), (28, .iload_n 2, 0, 0, 0), (29, .sipush 250, 0, 0, 0), (32, .if_icmp .ge 32, 0, 64, 0), (35, .aload_n 0, 0, 0, 0), (36, .getfield 26, 0, 1, 6), (39, .aload_n 0, 0, 0, 0), (40, .getfield 22, 0, 0, 6), (43, .if_icmp .ge 21, 0, 64, 0), (46, .aload_n 0, 0, 0, 0), (47, .getfield 29, 0, 2, 6), (50, .ifCond .ne 14, 0, 64, 0), (53, .aload_n 0, 0, 0, 0), (54, .aload_n 1, 0, 0, 0), (55, .invokevirtual 46, 1, 28, 2)]
noncomputable def ab_c26_1 : List (Nat × ab_E) := [(58, .iinc 2 1, 0, 0, 0), (61, .goto (-33), 0, 28, 0), (64, .aload_n 0, 0, 0, 0), (65, .getfield 29, 0, 2, 6), (68, .ireturn, 2, 1, 0)]
noncomputable def ab_c26 : List (Nat × ab_E) := List.append ab_c26_0 (ab_c26_1)
/-- LoneAdjective$Reader.skipBlanks()V -/
noncomputable def ab_c27 : List (Nat × ab_E) := [(0, .aload_n 0, 0, 0, 0), (1, .getfield 26, 0, 1, 6), (4, .aload_n 0, 0, 0, 0), (5, .getfield 22, 0, 0, 6), (8, .if_icmp .ge 30, 0, 38, 0), (11, .aload_n 0, 0, 0, 0), (12, .getfield 9, 0, 3, 6), (15, .aload_n 0, 0, 0, 0), (16, .getfield 26, 0, 1, 6), (19, .caload, 0, 0, 0), (20, .bipush 32, 0, 0, 0), (22, .if_icmp .ne 16, 0, 38, 0), (25, .aload_n 0, 0, 0, 0), (26, .dup, 0, 0, 0), (27, .getfield 26, 0, 1, 6), (30, .iconst 1, 0, 0, 0), (31, .iadd, 0, 0, 0), (32, .putfield 26, 0, 1, 6), (35, .goto (-35), 0, 0, 0), (38, .return_, 2, 0, 2)]
/-- LoneAdjective$Reader.readClause(LLoneAdjective$Town;)V -/
noncomputable def ab_c28_0 : List (Nat × ab_E) := [(0, .ldc 50, 0, 1, 0), (2, .aload_n 0, 0, 0, 0), (3, .getfield 9, 0, 3, 6), (6, .aload_n 0, 0, 0, 0), (7, .getfield 26, 0, 1, 6), (10, .caload, 0, 0, 0), (11, .invokevirtual 52, 1, 186, 2), (14, .istore_n 2, 0, 0, 0), (15, .iload_n 2, 0, 0, 0), (16, .ifCond .lt 16, 0, 32, 0), (19, .iload_n 2, 0, 0, 0), (20, .ifCond .eq 18, 0, 38, 0), (23, .aload_n 0, 0, 0, 0), (24, .getfield 15, 0, 4, 6), (27, .iconst 0, 0, 0, 0), (28, .iaload, 0, 0, 0), (29, .ifCond .ne 9, 0, 38, 0), (32, .aload_n 0, 0, 0, 0), (33, .iconst 1, 0, 0, 0), (34, .putfield 29, 0, 2, 6), (37, .return_, 2, 0, 2), (38, .aload_n 0, 0, 0, 0), (39, .getfield 15, 0, 4, 6), (42, .iload_n 2, 0, 0, 0), (43, .iaload, 0, 0, 0), (44, .getstatic 58, 0, 1002, 0), (47, .iload_n 2, 0, 0, 0), (48, .iaload, 0, 0, 0), (49, .if_icmp .lt 9, 0, 58, 0), (52, .aload_n 0, 0, 0, 0)]
noncomputable def ab_c28_1 : List (Nat × ab_E) := [(53, .iconst 3, 0, 0, 0), (54, .putfield 29, 0, 2, 6), (57, .return_, 2, 0, 2), (58, .aload_n 0, 0, 0, 0), (59, .getfield 15, 0, 4, 6), (62, .iload_n 2, 0, 0, 0), (63, .dup2, 0, 0, 0), (64, .iaload, 0, 0, 0), (65, .iconst 1, 0, 0, 0), (66, .iadd, 0, 0, 0), (67, .iastore, 0, 0, 0), (68, .aload_n 0, 0, 0, 0), (69, .dup, 0, 0, 0), (70, .getfield 26, 0, 1, 6), (73, .iconst 1, 0, 0, 0), (74, .iadd, 0, 0, 0), (75, .putfield 26, 0, 1, 6), (78, .iconst 0, 0, 0, 0), (79, .istore_n 3, 0, 0, 0), (80, .iload_n 3, 0, 0, 0), (81, .getstatic 61, 0, 1001, 0), (84, .iload_n 2, 0, 0, 0), (85, .iaload, 0, 0, 0), (86, .if_icmp .ge 23, 0, 109, 0), (89, .aload_n 0, 0, 0, 0), (90, .getfield 29, 0, 2, 6), (93, .ifCond .ne 16, 0, 109, 0), (96, .aload_n 0, 0, 0, 0), (97, .aload_n 1, 0, 0, 0), (98, .iload_n 2, 0, 0, 0)]
noncomputable def ab_c28_2 : List (Nat × ab_E) := [(99, .iload_n 3, 0, 0, 0), (100, .invokevirtual 64, 1, 31, 4), (103, .iinc 3 1, 0, 0, 0), (106, .goto (-26), 0, 80, 0), (109, .aload_n 0, 0, 0, 0), (110, .getfield 29, 0, 2, 6), (113, .ifCond .ne 9, 0, 122, 0), (116, .aload_n 0, 0, 0, 0), (117, .aload_n 1, 0, 0, 0), (118, .iload_n 2, 0, 0, 0), (119, .invokevirtual 68, 1, 29, 3), (122, .return_, 2, 0, 2)]
noncomputable def ab_c28 : List (Nat × ab_E) := List.append ab_c28_0 (List.append ab_c28_1 (ab_c28_2))
/-- LoneAdjective$Reader.readEnd(LLoneAdjective$Town;I)V -/
noncomputable def ab_c29_0 : List (Nat × ab_E) := [(0, .aload_n 0, 0, 0, 0), (1, .invokevirtual 43, 1, 27, 1), (4, .aload_n 0, 0, 0, 0), (5, .getfield 26, 0, 1, 6), (8, .aload_n 0, 0, 0, 0), (9, .getfield 22, 0, 0, 6), (12, .if_icmp .ge 17, 0, 29, 0), (15, .aload_n 0, 0, 0, 0), (16, .getfield 9, 0, 3, 6), (19, .aload_n 0, 0, 0, 0), (20, .getfield 26, 0, 1, 6), (23, .caload, 0, 0, 0), (24, .bipush 59, 0, 0, 0), (26, .if_icmp .eq 9, 0, 35, 0), (29, .aload_n 0, 0, 0, 0), (30, .iconst 1, 0, 0, 0), (31, .putfield 29, 0, 2, 6), (34, .return_, 2, 0, 2), (35, .aload_n 0, 0, 0, 0), (36, .dup, 0, 0, 0), (37, .getfield 26, 0, 1, 6), (40, .iconst 1, 0, 0, 0), (41, .iadd, 0, 0, 0), (42, .putfield 26, 0, 1, 6), (45, .aload_n 0, 0, 0, 0), (46, .aload_n 1, 0, 0, 0), (47, .iload_n 2, 0, 0, 0), (48, .invokevirtual 72, 1, 35, 3), (51, .aload_n 0, 0, 0, 0), (52, .invokevirtual 43, 1, 27, 1)]
noncomputable def ab_c29_1 : List (Nat × ab_E) := [(55, .return_, 2, 0, 2)]
noncomputable def ab_c29 : List (Nat × ab_E) := List.append ab_c29_0 (ab_c29_1)
/-- LoneAdjective$Reader.isFigure(C)Z -/
noncomputable def ab_c30 : List (Nat × ab_E) := [(0, .iload_n 0, 0, 0, 0), (1, .bipush 48, 0, 0, 0), (3, .if_icmp .lt 13, 0, 16, 0), (6, .iload_n 0, 0, 0, 0), (7, .bipush 57, 0, 0, 0), (9, .if_icmp .gt 7, 0, 16, 0), (12, .iconst 1, 0, 0, 0), (13, .goto 4, 0, 17, 0), (16, .iconst 0, 0, 0, 0), (17, .ireturn, 2, 1, 1)]
/-- LoneAdjective$Reader.readNumber(LLoneAdjective$Town;II)V -/
noncomputable def ab_c31_0 : List (Nat × ab_E) := [(0, .aload_n 0, 0, 0, 0), (1, .invokevirtual 43, 1, 27, 1), (4, .aload_n 0, 0, 0, 0), (5, .getfield 26, 0, 1, 6), (8, .istore 4, 0, 0, 0), (10, .iconst 0, 0, 0, 0), (11, .istore 5, 0, 0, 0), (13, .aload_n 0, 0, 0, 0), (14, .getfield 26, 0, 1, 6), (17, .aload_n 0, 0, 0, 0), (18, .getfield 22, 0, 0, 6), (21, .if_icmp .ge 67, 0, 88, 0), (24, .aload_n 0, 0, 0, 0), (25, .getfield 9, 0, 3, 6), (28, .aload_n 0, 0, 0, 0), (29, .getfield 26, 0, 1, 6), (32, .caload, 0, 0, 0), (33, .invokestatic 75, 1, 30, 1), (36, .ifCond .eq 52, 0, 88, 0), (39, .aload_n 0, 0, 0, 0), (40, .getfield 26, 0, 1, 6), (43, .iload 4, 0, 0, 0), (45, .isub, 0, 0, 0), (46, .iconst 3, 0, 0, 0), (47, .if_icmp .ge 24, 0, 71, 0), (50, .iload 5, 0, 0, 0), (52, .bipush 10, 0, 0, 0), (54, .imul, 0, 0, 0), (55, .aload_n 0, 0, 0, 0), (56, .getfield 9, 0, 3, 6)]
noncomputable def ab_c31_1 : List (Nat × ab_E) := [(59, .aload_n 0, 0, 0, 0), (60, .getfield 26, 0, 1, 6), (63, .caload, 0, 0, 0), (64, .bipush 48, 0, 0, 0), (66, .isub, 0, 0, 0), (67, .iadd, 0, 0, 0), (68, .goto 5, 0, 73, 0), (71, .iload 5, 0, 0, 0), (73, .istore 5, 0, 0, 0), (75, .aload_n 0, 0, 0, 0), (76, .dup, 0, 0, 0), (77, .getfield 26, 0, 1, 6), (80, .iconst 1, 0, 0, 0), (81, .iadd, 0, 0, 0), (82, .putfield 26, 0, 1, 6), (85, .goto (-72), 0, 13, 0), (88, .aload_n 0, 0, 0, 0), (89, .getfield 26, 0, 1, 6), (92, .iload 4, 0, 0, 0), (94, .isub, 0, 0, 0), (95, .istore 6, 0, 0, 0), (97, .iload 6, 0, 0, 0), (99, .ifCond .ne 11, 0, 110, 0), (102, .aload_n 0, 0, 0, 0), (103, .iconst 1, 0, 0, 0), (104, .putfield 29, 0, 2, 6), (107, .goto 56, 0, 163, 0), (110, .iload 6, 0, 0, 0), (112, .iconst 3, 0, 0, 0), (113, .if_icmp .gt 25, 0, 138, 0)]
noncomputable def ab_c31_2 : List (Nat × ab_E) := [(116, .iload 5, 0, 0, 0), (118, .iload_n 2, 0, 0, 0), (119, .iload_n 3, 0, 0, 0), (120, .invokestatic 79, 1, 32, 2), (123, .if_icmp .lt 15, 0, 138, 0), (126, .iload 5, 0, 0, 0), (128, .aload_n 0, 0, 0, 0), (129, .aload_n 1, 0, 0, 0), (130, .iload_n 2, 0, 0, 0), (131, .iload_n 3, 0, 0, 0), (132, .invokevirtual 83, 1, 33, 4), (135, .if_icmp .le 11, 0, 146, 0), (138, .aload_n 0, 0, 0, 0), (139, .iconst 2, 0, 0, 0), (140, .putfield 29, 0, 2, 6), (143, .goto 20, 0, 163, 0), (146, .aload_n 0, 0, 0, 0), (147, .aload_n 1, 0, 0, 0), (148, .iload_n 2, 0, 0, 0), (149, .iload_n 3, 0, 0, 0), (150, .iload 5, 0, 0, 0), (152, .invokevirtual 87, 1, 34, 5), (155, .ifCond .eq 8, 0, 163, 0), (158, .aload_n 0, 0, 0, 0), (159, .iconst 4, 0, 0, 0), (160, .putfield 29, 0, 2, 6), (163, .aload_n 0, 0, 0, 0), (164, .getfield 19, 0, 5, 6), (167, .iload_n 3, 0, 0, 0), (168, .iload 5, 0, 0, 0)]
noncomputable def ab_c31_3 : List (Nat × ab_E) := [(170, .iastore, 0, 0, 0), (171, .aload_n 0, 0, 0, 0), (172, .aload_n 0, 0, 0, 0), (173, .getfield 29, 0, 2, 6), (176, .ifCond .ne 10, 0, 186, 0), (179, .aload_n 0, 0, 0, 0), (180, .getfield 26, 0, 1, 6), (183, .goto 5, 0, 188, 0), (186, .iload 4, 0, 0, 0), (188, .putfield 26, 0, 1, 6), (191, .return_, 2, 0, 2)]
noncomputable def ab_c31 : List (Nat × ab_E) := List.append ab_c31_0 (List.append ab_c31_1 (List.append ab_c31_2 (ab_c31_3)))
/-- LoneAdjective$Reader.lowest(II)I -/
noncomputable def ab_c32 : List (Nat × ab_E) := [(0, .iload_n 0, 0, 0, 0), (1, .tableswitch 82 0 6 #[43, 53, 82, 64, 82, 82, 80], 0, 83, 0), (44, .iload_n 1, 0, 0, 0), (45, .ifCond .ne 7, 0, 52, 0), (48, .iconst 1, 0, 0, 0), (49, .goto 4, 0, 53, 0), (52, .iconst 0, 0, 0, 0), (53, .ireturn, 2, 1, 0), (54, .iload_n 1, 0, 0, 0), (55, .iconst 2, 0, 0, 0), (56, .if_icmp .ne 7, 0, 63, 0), (59, .iconst 1, 0, 0, 0), (60, .goto 4, 0, 64, 0), (63, .iconst 0, 0, 0, 0), (64, .ireturn, 2, 1, 0), (65, .iload_n 1, 0, 0, 0), (66, .iconst 1, 0, 0, 0), (67, .if_icmp .eq 8, 0, 75, 0), (70, .iload_n 1, 0, 0, 0), (71, .iconst 2, 0, 0, 0), (72, .if_icmp .ne 7, 0, 79, 0), (75, .iconst 1, 0, 0, 0), (76, .goto 4, 0, 80, 0), (79, .iconst 0, 0, 0, 0), (80, .ireturn, 2, 1, 0), (81, .iconst 1, 0, 0, 0), (82, .ireturn, 2, 1, 0), (83, .iconst 0, 0, 0, 0), (84, .ireturn, 2, 1, 0)]
/-- LoneAdjective$Reader.highest(LLoneAdjective$Town;II)I -/
noncomputable def ab_c33_0 : List (Nat × ab_E) := [(0, .iload_n 2, 0, 0, 0), (1, .tableswitch 142 0 5 #[39, 57, 74, 90, 109, 125], 0, 143, 0), (40, .iload_n 3, 0, 0, 0), (41, .ifCond .ne 8, 0, 49, 0), (44, .bipush 7, 0, 0, 0), (46, .goto 11, 0, 57, 0), (49, .aload_n 0, 0, 0, 0), (50, .getfield 19, 0, 5, 6), (53, .iconst 0, 0, 0, 0), (54, .iaload, 0, 0, 0), (55, .iconst 1, 0, 0, 0), (56, .isub, 0, 0, 0), (57, .ireturn, 2, 1, 0), (58, .iload_n 3, 0, 0, 0), (59, .iconst 2, 0, 0, 0), (60, .if_icmp .ge 12, 0, 72, 0), (63, .aload_n 1, 0, 0, 0), (64, .getfield 91, 0, 0, 8), (67, .iconst 1, 0, 0, 0), (68, .isub, 0, 0, 0), (69, .goto 5, 0, 74, 0), (72, .bipush 30, 0, 0, 0), (74, .ireturn, 2, 1, 0), (75, .iload_n 3, 0, 0, 0), (76, .ifCond .ne 12, 0, 88, 0), (79, .aload_n 1, 0, 0, 0), (80, .getfield 91, 0, 0, 8), (83, .iconst 1, 0, 0, 0), (84, .isub, 0, 0, 0), (85, .goto 5, 0, 90, 0)]
noncomputable def ab_c33_1 : List (Nat × ab_E) := [(88, .bipush 99, 0, 0, 0), (90, .ireturn, 2, 1, 0), (91, .iload_n 3, 0, 0, 0), (92, .ifCond .ne 12, 0, 104, 0), (95, .aload_n 1, 0, 0, 0), (96, .getfield 94, 0, 2, 8), (99, .iconst 1, 0, 0, 0), (100, .isub, 0, 0, 0), (101, .goto 8, 0, 109, 0), (104, .getstatic 97, 0, 1003, 0), (107, .iload_n 3, 0, 0, 0), (108, .iaload, 0, 0, 0), (109, .ireturn, 2, 1, 0), (110, .iload_n 3, 0, 0, 0), (111, .ifCond .ne 12, 0, 123, 0), (114, .aload_n 1, 0, 0, 0), (115, .getfield 100, 0, 3, 8), (118, .iconst 1, 0, 0, 0), (119, .isub, 0, 0, 0), (120, .goto 5, 0, 125, 0), (123, .bipush 99, 0, 0, 0), (125, .ireturn, 2, 1, 0), (126, .iload_n 3, 0, 0, 0), (127, .iconst 2, 0, 0, 0), (128, .if_icmp .ge 12, 0, 140, 0), (131, .aload_n 1, 0, 0, 0), (132, .getfield 94, 0, 2, 8), (135, .iconst 1, 0, 0, 0), (136, .isub, 0, 0, 0), (137, .goto 5, 0, 142, 0)]
noncomputable def ab_c33_2 : List (Nat × ab_E) := [(140, .bipush 10, 0, 0, 0), (142, .ireturn, 2, 1, 0), (143, .iconst 1, 0, 0, 0), (144, .aload_n 1, 0, 0, 0), (145, .getfield 100, 0, 3, 8), (148, .ishl, 0, 0, 0), (149, .iconst 1, 0, 0, 0), (150, .isub, 0, 0, 0), (151, .ireturn, 2, 1, 0)]
noncomputable def ab_c33 : List (Nat × ab_E) := List.append ab_c33_0 (List.append ab_c33_1 (ab_c33_2))
/-- LoneAdjective$Reader.again(LLoneAdjective$Town;III)Z -/
noncomputable def ab_c34_0 : List (Nat × ab_E) := [(0, .iload_n 2, 0, 0, 0), (1, .iconst 4, 0, 0, 0), (2, .if_icmp .ne 24, 0, 26, 0), (5, .iload_n 3, 0, 0, 0), (6, .ifCond .ne 20, 0, 26, 0), (9, .aload_n 1, 0, 0, 0), (10, .getfield 103, 0, 13, 8), (13, .iload 4, 0, 0, 0), (15, .iaload, 0, 0, 0), (16, .iconst (-1), 0, 0, 0), (17, .if_icmp .eq 7, 0, 24, 0), (20, .iconst 1, 0, 0, 0), (21, .goto 4, 0, 25, 0), (24, .iconst 0, 0, 0, 0), (25, .ireturn, 2, 1, 1), (26, .iload_n 3, 0, 0, 0), (27, .iconst 1, 0, 0, 0), (28, .if_icmp .eq 5, 0, 33, 0), (31, .iconst 0, 0, 0, 0), (32, .ireturn, 2, 1, 1), (33, .iload_n 2, 0, 0, 0), (34, .iconst 1, 0, 0, 0), (35, .if_icmp .ne 38, 0, 73, 0), (38, .iload 4, 0, 0, 0), (40, .aload_n 0, 0, 0, 0), (41, .getfield 19, 0, 5, 6), (44, .iconst 0, 0, 0, 0), (45, .iaload, 0, 0, 0), (46, .if_icmp .eq 21, 0, 67, 0), (49, .aload_n 1, 0, 0, 0)]
noncomputable def ab_c34_1 : List (Nat × ab_E) := [(50, .getfield 106, 0, 5, 8), (53, .aload_n 0, 0, 0, 0), (54, .getfield 19, 0, 5, 6), (57, .iconst 0, 0, 0, 0), (58, .iaload, 0, 0, 0), (59, .aaload, 0, 0, 0), (60, .iload 4, 0, 0, 0), (62, .iaload, 0, 0, 0), (63, .iconst (-1), 0, 0, 0), (64, .if_icmp .eq 7, 0, 71, 0), (67, .iconst 1, 0, 0, 0), (68, .goto 4, 0, 72, 0), (71, .iconst 0, 0, 0, 0), (72, .ireturn, 2, 1, 1), (73, .iload_n 2, 0, 0, 0), (74, .iconst 5, 0, 0, 0), (75, .if_icmp .ne 36, 0, 111, 0), (78, .iload 4, 0, 0, 0), (80, .aload_n 0, 0, 0, 0), (81, .getfield 19, 0, 5, 6), (84, .iconst 0, 0, 0, 0), (85, .iaload, 0, 0, 0), (86, .if_icmp .eq 21, 0, 107, 0), (89, .aload_n 1, 0, 0, 0), (90, .getfield 110, 0, 14, 8), (93, .aload_n 0, 0, 0, 0), (94, .getfield 19, 0, 5, 6), (97, .iconst 0, 0, 0, 0), (98, .iaload, 0, 0, 0), (99, .aaload, 0, 0, 0)]
noncomputable def ab_c34_2 : List (Nat × ab_E) := [(100, .iload 4, 0, 0, 0), (102, .iaload, 0, 0, 0), (103, .iconst (-1), 0, 0, 0), (104, .if_icmp .eq 7, 0, 111, 0), (107, .iconst 1, 0, 0, 0), (108, .goto 4, 0, 112, 0), (111, .iconst 0, 0, 0, 0), (112, .ireturn, 2, 1, 1)]
noncomputable def ab_c34 : List (Nat × ab_E) := List.append ab_c34_0 (List.append ab_c34_1 (ab_c34_2))
/-- LoneAdjective$Reader.take(LLoneAdjective$Town;I)V -/
noncomputable def ab_c35_0 : List (Nat × ab_E) := [(0, .iload_n 2, 0, 0, 0), (1, .tableswitch 211 0 5 #[39, 62, 113, 156, 164, 184], 0, 212, 0), (40, .aload_n 1, 0, 0, 0), (41, .aload_n 0, 0, 0, 0), (42, .getfield 19, 0, 5, 6), (45, .iconst 0, 0, 0, 0), (46, .iaload, 0, 0, 0), (47, .putfield 91, 0, 0, 8), (50, .aload_n 1, 0, 0, 0), (51, .aload_n 0, 0, 0, 0), (52, .getfield 19, 0, 5, 6), (55, .iconst 1, 0, 0, 0), (56, .iaload, 0, 0, 0), (57, .putfield 113, 0, 1, 8), (60, .goto 177, 0, 237, 0), (63, .aload_n 1, 0, 0, 0), (64, .getfield 106, 0, 5, 8), (67, .aload_n 0, 0, 0, 0), (68, .getfield 19, 0, 5, 6), (71, .iconst 0, 0, 0, 0), (72, .iaload, 0, 0, 0), (73, .aaload, 0, 0, 0), (74, .aload_n 0, 0, 0, 0), (75, .getfield 19, 0, 5, 6), (78, .iconst 1, 0, 0, 0), (79, .iaload, 0, 0, 0), (80, .aload_n 0, 0, 0, 0), (81, .getfield 19, 0, 5, 6), (84, .iconst 2, 0, 0, 0), (85, .iaload, 0, 0, 0)]
noncomputable def ab_c35_1 : List (Nat × ab_E) := [(86, .iastore, 0, 0, 0), (87, .aload_n 1, 0, 0, 0), (88, .getfield 106, 0, 5, 8), (91, .aload_n 0, 0, 0, 0), (92, .getfield 19, 0, 5, 6), (95, .iconst 1, 0, 0, 0), (96, .iaload, 0, 0, 0), (97, .aaload, 0, 0, 0), (98, .aload_n 0, 0, 0, 0), (99, .getfield 19, 0, 5, 6), (102, .iconst 0, 0, 0, 0), (103, .iaload, 0, 0, 0), (104, .aload_n 0, 0, 0, 0), (105, .getfield 19, 0, 5, 6), (108, .iconst 2, 0, 0, 0), (109, .iaload, 0, 0, 0), (110, .iastore, 0, 0, 0), (111, .goto 126, 0, 237, 0), (114, .aload_n 1, 0, 0, 0), (115, .getfield 116, 0, 7, 8), (118, .aload_n 1, 0, 0, 0), (119, .getfield 94, 0, 2, 8), (122, .aload_n 0, 0, 0, 0), (123, .getfield 19, 0, 5, 6), (126, .iconst 0, 0, 0, 0), (127, .iaload, 0, 0, 0), (128, .iastore, 0, 0, 0), (129, .aload_n 1, 0, 0, 0), (130, .getfield 119, 0, 8, 8), (133, .aload_n 1, 0, 0, 0)]
noncomputable def ab_c35_2 : List (Nat × ab_E) := [(134, .getfield 94, 0, 2, 8), (137, .aload_n 0, 0, 0, 0), (138, .getfield 19, 0, 5, 6), (141, .iconst 1, 0, 0, 0), (142, .iaload, 0, 0, 0), (143, .iastore, 0, 0, 0), (144, .aload_n 1, 0, 0, 0), (145, .dup, 0, 0, 0), (146, .getfield 94, 0, 2, 8), (149, .iconst 1, 0, 0, 0), (150, .iadd, 0, 0, 0), (151, .putfield 94, 0, 2, 8), (154, .goto 83, 0, 237, 0), (157, .aload_n 0, 0, 0, 0), (158, .aload_n 1, 0, 0, 0), (159, .invokevirtual 122, 1, 36, 2), (162, .goto 75, 0, 237, 0), (165, .aload_n 1, 0, 0, 0), (166, .getfield 103, 0, 13, 8), (169, .aload_n 0, 0, 0, 0), (170, .getfield 19, 0, 5, 6), (173, .iconst 0, 0, 0, 0), (174, .iaload, 0, 0, 0), (175, .aload_n 0, 0, 0, 0), (176, .getfield 19, 0, 5, 6), (179, .iconst 1, 0, 0, 0), (180, .iaload, 0, 0, 0), (181, .iastore, 0, 0, 0), (182, .goto 55, 0, 237, 0), (185, .aload_n 1, 0, 0, 0)]
noncomputable def ab_c35_3 : List (Nat × ab_E) := [(186, .getfield 110, 0, 14, 8), (189, .aload_n 0, 0, 0, 0), (190, .getfield 19, 0, 5, 6), (193, .iconst 0, 0, 0, 0), (194, .iaload, 0, 0, 0), (195, .aaload, 0, 0, 0), (196, .aload_n 0, 0, 0, 0), (197, .getfield 19, 0, 5, 6), (200, .iconst 1, 0, 0, 0), (201, .iaload, 0, 0, 0), (202, .aload_n 0, 0, 0, 0), (203, .getfield 19, 0, 5, 6), (206, .iconst 2, 0, 0, 0), (207, .iaload, 0, 0, 0), (208, .iastore, 0, 0, 0), (209, .goto 28, 0, 237, 0), (212, .aload_n 1, 0, 0, 0), (213, .getfield 125, 0, 15, 8), (216, .aload_n 1, 0, 0, 0), (217, .getfield 128, 0, 4, 8), (220, .aload_n 0, 0, 0, 0), (221, .getfield 19, 0, 5, 6), (224, .iconst 0, 0, 0, 0), (225, .iaload, 0, 0, 0), (226, .iastore, 0, 0, 0), (227, .aload_n 1, 0, 0, 0), (228, .dup, 0, 0, 0), (229, .getfield 128, 0, 4, 8), (232, .iconst 1, 0, 0, 0), (233, .iadd, 0, 0, 0)]
noncomputable def ab_c35_4 : List (Nat × ab_E) := [(234, .putfield 128, 0, 4, 8), (237, .return_, 2, 0, 2)]
noncomputable def ab_c35 : List (Nat × ab_E) := List.append ab_c35_0 (List.append ab_c35_1 (List.append ab_c35_2 (List.append ab_c35_3 (ab_c35_4))))
/-- LoneAdjective$Reader.takeDeed(LLoneAdjective$Town;)V -/
noncomputable def ab_c36_0 : List (Nat × ab_E) := [(0, .aload_n 1, 0, 0, 0), (1, .getfield 100, 0, 3, 8), (4, .istore_n 2, 0, 0, 0), (5, .aload_n 1, 0, 0, 0), (6, .getfield 131, 0, 9, 8), (9, .iload_n 2, 0, 0, 0), (10, .aload_n 0, 0, 0, 0), (11, .getfield 19, 0, 5, 6), (14, .iconst 0, 0, 0, 0), (15, .iaload, 0, 0, 0), (16, .iastore, 0, 0, 0), (17, .aload_n 1, 0, 0, 0), (18, .getfield 134, 0, 10, 8), (21, .iload_n 2, 0, 0, 0), (22, .aload_n 0, 0, 0, 0), (23, .getfield 19, 0, 5, 6), (26, .iconst 1, 0, 0, 0), (27, .iaload, 0, 0, 0), (28, .iastore, 0, 0, 0), (29, .aload_n 1, 0, 0, 0), (30, .getfield 137, 0, 11, 8), (33, .iload_n 2, 0, 0, 0), (34, .aload_n 0, 0, 0, 0), (35, .getfield 19, 0, 5, 6), (38, .iconst 2, 0, 0, 0), (39, .iaload, 0, 0, 0), (40, .iastore, 0, 0, 0), (41, .aload_n 1, 0, 0, 0), (42, .getfield 140, 0, 12, 8), (45, .iload_n 2, 0, 0, 0)]
noncomputable def ab_c36_1 : List (Nat × ab_E) := [(46, .aload_n 0, 0, 0, 0), (47, .getfield 19, 0, 5, 6), (50, .iconst 3, 0, 0, 0), (51, .iaload, 0, 0, 0), (52, .iastore, 0, 0, 0), (53, .aload_n 1, 0, 0, 0), (54, .dup, 0, 0, 0), (55, .getfield 100, 0, 3, 8), (58, .iconst 1, 0, 0, 0), (59, .iadd, 0, 0, 0), (60, .putfield 100, 0, 3, 8), (63, .return_, 2, 0, 2)]
noncomputable def ab_c36 : List (Nat × ab_E) := List.append ab_c36_0 (ab_c36_1)
/-- LoneAdjective$Rounds.<init>()V -/
noncomputable def ab_c37 : List (Nat × ab_E) := [(0, .aload_n 0, 0, 0, 0), (1, .invokespecial 3, 0, 900, 1), (4, .aload_n 0, 0, 0, 0), (5, .bipush 6, 0, 0, 0), (7, .newarray .int, 0, 0, 20), (9, .putfield 9, 0, 0, 50), (12, .aload_n 0, 0, 0, 0), (13, .bipush 6, 0, 0, 0), (15, .newarray .int, 0, 0, 20), (17, .putfield 15, 0, 1, 50), (20, .return_, 2, 0, 2)]
/-- LoneAdjective$Rounds.tryAll(LLoneAdjective$Town;III)V -/
noncomputable def ab_c38 : List (Nat × ab_E) := [(0, .aload_n 0, 0, 0, 0), (1, .getfield 15, 0, 1, 50), (4, .iconst (-1), 0, 0, 0), (5, .invokestatic 18, 1, 193, 2), (8, .aload_n 0, 0, 0, 0), (9, .aload_n 1, 0, 0, 0), (10, .iload_n 2, 0, 0, 0), (11, .iload_n 3, 0, 0, 0), (12, .iload 4, 0, 0, 0), (14, .iconst 0, 0, 0, 0), (15, .invokestatic 24, 1, 39, 6), (18, .return_, 2, 0, 2)]
/-- LoneAdjective$Rounds.goOn(LLoneAdjective$Rounds;LLoneAdjective$Town;IIII)V -/
noncomputable def ab_c39_0 : List (Nat × ab_E) := [(0, .aload_n 0, 0, 0, 0), (1, .aload_n 1, 0, 0, 0), (2, .iload 5, 0, 0, 0), (4, .iload 4, 0, 0, 0), (6, .invokevirtual 28, 1, 300, 4), (9, .iload 5, 0, 0, 0), (11, .bipush 6, 0, 0, 0), (13, .if_icmp .lt 4, 0, 17, 0), (16, .return_, 2, 0, 2), (17, .iconst 0, 0, 0, 0), (18, .istore 6, 0, 0, 0), (20, .iload 6, 0, 0, 0), (22, .aload_n 1, 0, 0, 0), (23, .getfield 32, 0, 3, 8), (26, .if_icmp .ge 90, 0, 116, 0), (29, .iload_n 2, 0, 0, 0), (30, .iload 6, 0, 0, 0), (32, .ishr, 0, 0, 0), (33, .iconst 1, 0, 0, 0), (34, .iand, 0, 0, 0), (35, .ifCond .ne 7, 0, 42, 0), (38, .iconst (-1), 0, 0, 0), (39, .goto 12, 0, 51, 0), (42, .aload_n 1, 0, 0, 0), (43, .iload 6, 0, 0, 0), (45, .iload_n 3, 0, 0, 0), (46, .iload 4, 0, 0, 0), (48, .invokevirtual 38, 1, 63, 4), (51, .istore 7, 0, 0, 0), (53, .iload 7, 0, 0, 0)]
noncomputable def ab_c39_1 : List (Nat × ab_E) := [(55, .iconst (-1), 0, 0, 0), (56, .if_icmp .eq 54, 0, 110, 0), (59, .aload_n 0, 0, 0, 0), (60, .getfield 9, 0, 0, 50), (63, .iload 5, 0, 0, 0), (65, .iload 6, 0, 0, 0), (67, .iastore, 0, 0, 0), (68, .aload_n 0, 0, 0, 0), (69, .getfield 15, 0, 1, 50), (72, .iload 6, 0, 0, 0), (74, .iload 7, 0, 0, 0), (76, .iastore, 0, 0, 0), (77, .aload_n 0, 0, 0, 0), (78, .aload_n 1, 0, 0, 0), (79, .iload_n 2, 0, 0, 0), (80, .iconst 1, 0, 0, 0), (81, .iload 6, 0, 0, 0), (83, .ishl, 0, 0, 0), (84, .iconst (-1), 0, 0, 0), (85, .ixor, 0, 0, 0), (86, .iand, 0, 0, 0), (87, .aload_n 1, 0, 0, 0), (88, .iload 6, 0, 0, 0), (90, .invokevirtual 42, 1, 59, 2), (93, .iload 7, 0, 0, 0), (95, .iload 5, 0, 0, 0), (97, .iconst 1, 0, 0, 0), (98, .iadd, 0, 0, 0), (99, .invokestatic 24, 1, 39, 6), (102, .aload_n 0, 0, 0, 0)]
noncomputable def ab_c39_2 : List (Nat × ab_E) := [(103, .getfield 15, 0, 1, 50), (106, .iload 6, 0, 0, 0), (108, .iconst (-1), 0, 0, 0), (109, .iastore, 0, 0, 0), (110, .iinc 6 1, 0, 0, 0), (113, .goto (-93), 0, 20, 0), (116, .return_, 2, 0, 2)]
noncomputable def ab_c39 : List (Nat × ab_E) := List.append ab_c39_0 (List.append ab_c39_1 (ab_c39_2))
/-- LoneAdjective$Rounds.setOfRow(I)I -/
noncomputable def ab_c40 : List (Nat × ab_E) := [(0, .iconst 0, 0, 0, 0), (1, .istore_n 2, 0, 0, 0), (2, .iconst 0, 0, 0, 0), (3, .istore_n 3, 0, 0, 0), (4, .iload_n 3, 0, 0, 0), (5, .iload_n 1, 0, 0, 0), (6, .if_icmp .ge 20, 0, 26, 0), (9, .iload_n 2, 0, 0, 0), (10, .iconst 1, 0, 0, 0), (11, .aload_n 0, 0, 0, 0), (12, .getfield 9, 0, 0, 50), (15, .iload_n 3, 0, 0, 0), (16, .iaload, 0, 0, 0), (17, .ishl, 0, 0, 0), (18, .ior, 0, 0, 0), (19, .istore_n 2, 0, 0, 0), (20, .iinc 3 1, 0, 0, 0), (23, .goto (-19), 0, 4, 0), (26, .iload_n 2, 0, 0, 0), (27, .ireturn, 2, 1, 0)]
/-- LoneAdjective$State.<init>()V -/
noncomputable def ab_c41 : List (Nat × ab_E) := [(0, .aload_n 0, 0, 0, 0), (1, .invokespecial 3, 0, 900, 1), (4, .aload_n 0, 0, 0, 0), (5, .iconst (-1), 0, 0, 0), (6, .putfield 9, 0, 1, 7), (9, .aload_n 0, 0, 0, 0), (10, .iconst (-1), 0, 0, 0), (11, .putfield 15, 0, 2, 7), (14, .aload_n 0, 0, 0, 0), (15, .bipush 6, 0, 0, 0), (17, .newarray .int, 0, 0, 20), (19, .putfield 18, 0, 5, 7), (22, .aload_n 0, 0, 0, 0), (23, .getfield 18, 0, 5, 7), (26, .iconst (-1), 0, 0, 0), (27, .invokestatic 22, 1, 193, 2), (30, .return_, 2, 0, 2)]
/-- LoneAdjective$State.beginIn(LLoneAdjective$Town;)V -/
noncomputable def ab_c42 : List (Nat × ab_E) := [(0, .aload_n 0, 0, 0, 0), (1, .iconst 0, 0, 0, 0), (2, .putfield 28, 0, 0, 7), (5, .aload_n 0, 0, 0, 0), (6, .aload_n 1, 0, 0, 0), (7, .getfield 31, 0, 1, 8), (10, .putfield 9, 0, 1, 7), (13, .aload_n 0, 0, 0, 0), (14, .iconst (-1), 0, 0, 0), (15, .putfield 15, 0, 2, 7), (18, .aload_n 0, 0, 0, 0), (19, .getfield 18, 0, 5, 7), (22, .iconst (-1), 0, 0, 0), (23, .invokestatic 22, 1, 193, 2), (26, .return_, 2, 0, 2)]
/-- LoneAdjective$State.become(LLoneAdjective$State;)V -/
noncomputable def ab_c43 : List (Nat × ab_E) := [(0, .aload_n 0, 0, 0, 0), (1, .aload_n 1, 0, 0, 0), (2, .getfield 28, 0, 0, 7), (5, .putfield 28, 0, 0, 7), (8, .aload_n 0, 0, 0, 0), (9, .aload_n 1, 0, 0, 0), (10, .getfield 9, 0, 1, 7), (13, .putfield 9, 0, 1, 7), (16, .aload_n 0, 0, 0, 0), (17, .aload_n 1, 0, 0, 0), (18, .getfield 15, 0, 2, 7), (21, .putfield 15, 0, 2, 7), (24, .aload_n 0, 0, 0, 0), (25, .aload_n 1, 0, 0, 0), (26, .getfield 36, 0, 3, 7), (29, .putfield 36, 0, 3, 7), (32, .aload_n 1, 0, 0, 0), (33, .getfield 18, 0, 5, 7), (36, .iconst 0, 0, 0, 0), (37, .aload_n 0, 0, 0, 0), (38, .getfield 18, 0, 5, 7), (41, .iconst 0, 0, 0, 0), (42, .bipush 6, 0, 0, 0), (44, .invokestatic 39, 0, 901, 5), (47, .return_, 2, 0, 2)]
/-- LoneAdjective$State.standOf(LLoneAdjective$Town;I)I -/
noncomputable def ab_c44 : List (Nat × ab_E) := [(0, .aload_n 0, 0, 0, 0), (1, .getfield 18, 0, 5, 7), (4, .iload_n 2, 0, 0, 0), (5, .iaload, 0, 0, 0), (6, .iconst (-1), 0, 0, 0), (7, .if_icmp .eq 5, 0, 12, 0), (10, .iconst 1, 0, 0, 0), (11, .ireturn, 2, 1, 0), (12, .aload_n 0, 0, 0, 0), (13, .getfield 28, 0, 0, 7), (16, .aload_n 1, 0, 0, 0), (17, .getfield 45, 0, 11, 8), (20, .iload_n 2, 0, 0, 0), (21, .iaload, 0, 0, 0), (22, .aload_n 1, 0, 0, 0), (23, .getfield 48, 0, 10, 8), (26, .iload_n 2, 0, 0, 0), (27, .iaload, 0, 0, 0), (28, .isub, 0, 0, 0), (29, .if_icmp .le 7, 0, 36, 0), (32, .iconst 2, 0, 0, 0), (33, .goto 4, 0, 37, 0), (36, .iconst 0, 0, 0, 0), (37, .ireturn, 2, 1, 0)]
/-- LoneAdjective$State.reaches(LLoneAdjective$Town;I)Z -/
noncomputable def ab_c45 : List (Nat × ab_E) := [(0, .aload_n 1, 0, 0, 0), (1, .aload_n 0, 0, 0, 0), (2, .getfield 9, 0, 1, 7), (5, .aload_n 1, 0, 0, 0), (6, .getfield 51, 0, 7, 8), (9, .iload_n 2, 0, 0, 0), (10, .iaload, 0, 0, 0), (11, .invokevirtual 54, 1, 58, 3), (14, .iconst (-1), 0, 0, 0), (15, .if_icmp .eq 7, 0, 22, 0), (18, .iconst 1, 0, 0, 0), (19, .goto 4, 0, 23, 0), (22, .iconst 0, 0, 0, 0), (23, .ireturn, 2, 1, 1)]
/-- LoneAdjective$State.hand(LLoneAdjective$Town;I)V -/
noncomputable def ab_c46 : List (Nat × ab_E) := [(0, .aload_n 0, 0, 0, 0), (1, .dup, 0, 0, 0), (2, .getfield 28, 0, 0, 7), (5, .aload_n 1, 0, 0, 0), (6, .aload_n 0, 0, 0, 0), (7, .getfield 9, 0, 1, 7), (10, .aload_n 1, 0, 0, 0), (11, .getfield 51, 0, 7, 8), (14, .iload_n 2, 0, 0, 0), (15, .iaload, 0, 0, 0), (16, .invokevirtual 54, 1, 58, 3), (19, .iadd, 0, 0, 0), (20, .putfield 28, 0, 0, 7), (23, .aload_n 0, 0, 0, 0), (24, .aload_n 1, 0, 0, 0), (25, .getfield 51, 0, 7, 8), (28, .iload_n 2, 0, 0, 0), (29, .iaload, 0, 0, 0), (30, .putfield 9, 0, 1, 7), (33, .aload_n 0, 0, 0, 0), (34, .iload_n 2, 0, 0, 0), (35, .putfield 15, 0, 2, 7), (38, .return_, 2, 0, 2)]
/-- LoneAdjective$State.finish(LLoneAdjective$Town;I)V -/
noncomputable def ab_c47 : List (Nat × ab_E) := [(0, .aload_n 0, 0, 0, 0), (1, .dup, 0, 0, 0), (2, .getfield 28, 0, 0, 7), (5, .aload_n 1, 0, 0, 0), (6, .getfield 48, 0, 10, 8), (9, .iload_n 2, 0, 0, 0), (10, .iaload, 0, 0, 0), (11, .iadd, 0, 0, 0), (12, .putfield 28, 0, 0, 7), (15, .aload_n 0, 0, 0, 0), (16, .getfield 18, 0, 5, 7), (19, .iload_n 2, 0, 0, 0), (20, .aload_n 0, 0, 0, 0), (21, .getfield 28, 0, 0, 7), (24, .iastore, 0, 0, 0), (25, .return_, 2, 0, 2)]
/-- LoneAdjective$State.draw(I)I -/
noncomputable def ab_c48 : List (Nat × ab_E) := [(0, .aload_n 0, 0, 0, 0), (1, .aload_n 0, 0, 0, 0), (2, .getfield 36, 0, 3, 7), (5, .i2l, 0, 0, 0), (6, .ldc2_w 58, 0, 0, 1103515245), (9, .lmul, 0, 0, 0), (10, .ldc2_w 60, 0, 0, 12345), (13, .ladd, 0, 0, 0), (14, .ldc2_w 62, 0, 0, 2147483647), (17, .land, 0, 0, 0), (18, .l2i, 0, 0, 0), (19, .putfield 36, 0, 3, 7), (22, .iload_n 1, 0, 0, 0), (23, .ifCond .le 15, 0, 38, 0), (26, .aload_n 0, 0, 0, 0), (27, .getfield 36, 0, 3, 7), (30, .ldc 64, 0, 0, 65536), (32, .idiv, 0, 0, 0), (33, .iload_n 1, 0, 0, 0), (34, .irem, 0, 0, 0), (35, .goto 4, 0, 39, 0), (38, .iconst 0, 0, 0, 0), (39, .ireturn, 2, 1, 0)]
/-- LoneAdjective$Town.<init>()V -/
noncomputable def ab_c49_0 : List (Nat × ab_E) := [(0, .aload_n 0, 0, 0, 0), (1, .invokespecial 3, 0, 900, 1), (4, .aload_n 0, 0, 0, 0), (5, .iconst (-1), 0, 0, 0), (6, .putfield 9, 0, 1, 8), (9, .aload_n 0, 0, 0, 0), (10, .bipush 7, 0, 0, 0), (12, .bipush 7, 0, 0, 0), (14, .multianewarray 15 2, 0, 0, 0), (18, .putfield 17, 0, 5, 8), (21, .aload_n 0, 0, 0, 0), (22, .bipush 7, 0, 0, 0), (24, .bipush 7, 0, 0, 0), (26, .multianewarray 15 2, 0, 0, 0), (30, .putfield 20, 0, 6, 8), (33, .aload_n 0, 0, 0, 0), (34, .bipush 6, 0, 0, 0), (36, .newarray .int, 0, 0, 20), (38, .putfield 23, 0, 7, 8), (41, .aload_n 0, 0, 0, 0), (42, .bipush 6, 0, 0, 0), (44, .newarray .int, 0, 0, 20), (46, .putfield 27, 0, 8, 8), (49, .aload_n 0, 0, 0, 0), (50, .bipush 6, 0, 0, 0), (52, .newarray .int, 0, 0, 20), (54, .putfield 30, 0, 9, 8), (57, .aload_n 0, 0, 0, 0), (58, .bipush 6, 0, 0, 0), (60, .newarray .int, 0, 0, 20)]
noncomputable def ab_c49_1 : List (Nat × ab_E) := [(62, .putfield 33, 0, 10, 8), (65, .aload_n 0, 0, 0, 0), (66, .bipush 6, 0, 0, 0), (68, .newarray .int, 0, 0, 20), (70, .putfield 36, 0, 11, 8), (73, .aload_n 0, 0, 0, 0), (74, .bipush 6, 0, 0, 0), (76, .newarray .int, 0, 0, 20), (78, .putfield 39, 0, 12, 8), (81, .aload_n 0, 0, 0, 0), (82, .bipush 6, 0, 0, 0), (84, .newarray .int, 0, 0, 20), (86, .putfield 42, 0, 13, 8), (89, .aload_n 0, 0, 0, 0), (90, .bipush 6, 0, 0, 0), (92, .bipush 6, 0, 0, 0), (94, .multianewarray 15 2, 0, 0, 0), (98, .putfield 45, 0, 14, 8), (101, .aload_n 0, 0, 0, 0), (102, .iconst 4, 0, 0, 0), (103, .newarray .int, 0, 0, 20), (105, .putfield 48, 0, 15, 8), (108, .aload_n 0, 0, 0, 0), (109, .invokevirtual 51, 1, 50, 1), (112, .return_, 2, 0, 2)]
noncomputable def ab_c49 : List (Nat × ab_E) := List.append ab_c49_0 (ab_c49_1)
/-- LoneAdjective$Town.clear()V -/
noncomputable def ab_c50_0 : List (Nat × ab_E) := [(0, .aload_n 0, 0, 0, 0), (1, .iconst 0, 0, 0, 0), (2, .putfield 54, 0, 0, 8), (5, .aload_n 0, 0, 0, 0), (6, .iconst (-1), 0, 0, 0), (7, .putfield 9, 0, 1, 8), (10, .aload_n 0, 0, 0, 0), (11, .iconst 0, 0, 0, 0), (12, .putfield 57, 0, 2, 8), (15, .aload_n 0, 0, 0, 0), (16, .iconst 0, 0, 0, 0), (17, .putfield 60, 0, 3, 8), (20, .aload_n 0, 0, 0, 0), (21, .iconst 0, 0, 0, 0), (22, .putfield 63, 0, 4, 8), (25, .iconst 0, 0, 0, 0), (26, .istore_n 1, 0, 0, 0), (27, .iload_n 1, 0, 0, 0), (28, .bipush 7, 0, 0, 0), (30, .if_icmp .ge 19, 0, 49, 0), (33, .aload_n 0, 0, 0, 0), (34, .getfield 17, 0, 5, 8), (37, .iload_n 1, 0, 0, 0), (38, .aaload, 0, 0, 0), (39, .iconst (-1), 0, 0, 0), (40, .invokestatic 66, 1, 193, 2), (43, .iinc 1 1, 0, 0, 0), (46, .goto (-19), 0, 27, 0), (49, .iconst 0, 0, 0, 0), (50, .istore_n 1, 0, 0, 0)]
noncomputable def ab_c50_1 : List (Nat × ab_E) := [(51, .iload_n 1, 0, 0, 0), (52, .bipush 6, 0, 0, 0), (54, .if_icmp .ge 19, 0, 73, 0), (57, .aload_n 0, 0, 0, 0), (58, .getfield 45, 0, 14, 8), (61, .iload_n 1, 0, 0, 0), (62, .aaload, 0, 0, 0), (63, .iconst (-1), 0, 0, 0), (64, .invokestatic 66, 1, 193, 2), (67, .iinc 1 1, 0, 0, 0), (70, .goto (-19), 0, 51, 0), (73, .aload_n 0, 0, 0, 0), (74, .getfield 42, 0, 13, 8), (77, .iconst (-1), 0, 0, 0), (78, .invokestatic 66, 1, 193, 2), (81, .return_, 2, 0, 2)]
noncomputable def ab_c50 : List (Nat × ab_E) := List.append ab_c50_0 (ab_c50_1)
/-- LoneAdjective$Town.isSquare(I)Z -/
noncomputable def ab_c51 : List (Nat × ab_E) := [(0, .iload_n 1, 0, 0, 0), (1, .ifCond .lt 15, 0, 16, 0), (4, .iload_n 1, 0, 0, 0), (5, .aload_n 0, 0, 0, 0), (6, .getfield 54, 0, 0, 8), (9, .if_icmp .ge 7, 0, 16, 0), (12, .iconst 1, 0, 0, 0), (13, .goto 4, 0, 17, 0), (16, .iconst 0, 0, 0, 0), (17, .ireturn, 2, 1, 1)]
/-- LoneAdjective$Town.isPerson(I)Z -/
noncomputable def ab_c52 : List (Nat × ab_E) := [(0, .iload_n 1, 0, 0, 0), (1, .ifCond .lt 15, 0, 16, 0), (4, .iload_n 1, 0, 0, 0), (5, .aload_n 0, 0, 0, 0), (6, .getfield 57, 0, 2, 8), (9, .if_icmp .ge 7, 0, 16, 0), (12, .iconst 1, 0, 0, 0), (13, .goto 4, 0, 17, 0), (16, .iconst 0, 0, 0, 0), (17, .ireturn, 2, 1, 1)]
/-- LoneAdjective$Town.areTwoPeople(II)Z -/
noncomputable def ab_c53 : List (Nat × ab_E) := [(0, .aload_n 0, 0, 0, 0), (1, .iload_n 1, 0, 0, 0), (2, .invokevirtual 72, 1, 52, 2), (5, .ifCond .eq 20, 0, 25, 0), (8, .aload_n 0, 0, 0, 0), (9, .iload_n 2, 0, 0, 0), (10, .invokevirtual 72, 1, 52, 2), (13, .ifCond .eq 12, 0, 25, 0), (16, .iload_n 1, 0, 0, 0), (17, .iload_n 2, 0, 0, 0), (18, .if_icmp .eq 7, 0, 25, 0), (21, .iconst 1, 0, 0, 0), (22, .goto 4, 0, 26, 0), (25, .iconst 0, 0, 0, 0), (26, .ireturn, 2, 1, 1)]
/-- LoneAdjective$Town.isDeed(I)Z -/
noncomputable def ab_c54 : List (Nat × ab_E) := [(0, .iload_n 1, 0, 0, 0), (1, .ifCond .lt 15, 0, 16, 0), (4, .iload_n 1, 0, 0, 0), (5, .aload_n 0, 0, 0, 0), (6, .getfield 60, 0, 3, 8), (9, .if_icmp .ge 7, 0, 16, 0), (12, .iconst 1, 0, 0, 0), (13, .goto 4, 0, 17, 0), (16, .iconst 0, 0, 0, 0), (17, .ireturn, 2, 1, 1)]
/-- LoneAdjective$Town.isWord(I)Z -/
noncomputable def ab_c55 : List (Nat × ab_E) := [(0, .iload_n 1, 0, 0, 0), (1, .ifCond .lt 15, 0, 16, 0), (4, .iload_n 1, 0, 0, 0), (5, .aload_n 0, 0, 0, 0), (6, .getfield 63, 0, 4, 8), (9, .if_icmp .ge 7, 0, 16, 0), (12, .iconst 1, 0, 0, 0), (13, .goto 4, 0, 17, 0), (16, .iconst 0, 0, 0, 0), (17, .ireturn, 2, 1, 1)]
/-- LoneAdjective$Town.measure()V -/
noncomputable def ab_c56_0 : List (Nat × ab_E) := [(0, .iconst 0, 0, 0, 0), (1, .istore_n 1, 0, 0, 0), (2, .iload_n 1, 0, 0, 0), (3, .aload_n 0, 0, 0, 0), (4, .getfield 54, 0, 0, 8), (7, .if_icmp .ge 50, 0, 57, 0), (10, .iconst 0, 0, 0, 0), (11, .istore_n 2, 0, 0, 0), (12, .iload_n 2, 0, 0, 0), (13, .aload_n 0, 0, 0, 0), (14, .getfield 54, 0, 0, 8), (17, .if_icmp .ge 34, 0, 51, 0), (20, .aload_n 0, 0, 0, 0), (21, .getfield 20, 0, 6, 8), (24, .iload_n 1, 0, 0, 0), (25, .aaload, 0, 0, 0), (26, .iload_n 2, 0, 0, 0), (27, .iload_n 1, 0, 0, 0), (28, .iload_n 2, 0, 0, 0), (29, .if_icmp .ne 7, 0, 36, 0), (32, .iconst 0, 0, 0, 0), (33, .goto 11, 0, 44, 0), (36, .aload_n 0, 0, 0, 0), (37, .getfield 17, 0, 5, 8), (40, .iload_n 1, 0, 0, 0), (41, .aaload, 0, 0, 0), (42, .iload_n 2, 0, 0, 0), (43, .iaload, 0, 0, 0), (44, .iastore, 0, 0, 0), (45, .iinc 2 1, 0, 0, 0)]
noncomputable def ab_c56_1 : List (Nat × ab_E) := [(48, .goto (-36), 0, 12, 0), (51, .iinc 1 1, 0, 0, 0), (54, .goto (-52), 0, 2, 0), (57, .iconst 0, 0, 0, 0), (58, .istore_n 1, 0, 0, 0), (59, .iload_n 1, 0, 0, 0), (60, .aload_n 0, 0, 0, 0), (61, .getfield 54, 0, 0, 8), (64, .if_icmp .ge 48, 0, 112, 0), (67, .iconst 0, 0, 0, 0), (68, .istore_n 2, 0, 0, 0), (69, .iload_n 2, 0, 0, 0), (70, .aload_n 0, 0, 0, 0), (71, .getfield 54, 0, 0, 8), (74, .if_icmp .ge 32, 0, 106, 0), (77, .iconst 0, 0, 0, 0), (78, .istore_n 3, 0, 0, 0), (79, .iload_n 3, 0, 0, 0), (80, .aload_n 0, 0, 0, 0), (81, .getfield 54, 0, 0, 8), (84, .if_icmp .ge 16, 0, 100, 0), (87, .aload_n 0, 0, 0, 0), (88, .iload_n 2, 0, 0, 0), (89, .iload_n 1, 0, 0, 0), (90, .iload_n 3, 0, 0, 0), (91, .invokevirtual 76, 1, 57, 4), (94, .iinc 3 1, 0, 0, 0), (97, .goto (-18), 0, 79, 0), (100, .iinc 2 1, 0, 0, 0), (103, .goto (-34), 0, 69, 0)]
noncomputable def ab_c56_2 : List (Nat × ab_E) := [(106, .iinc 1 1, 0, 0, 0), (109, .goto (-50), 0, 59, 0), (112, .return_, 2, 0, 2)]
noncomputable def ab_c56 : List (Nat × ab_E) := List.append ab_c56_0 (List.append ab_c56_1 (ab_c56_2))
/-- LoneAdjective$Town.shorten(III)V -/
noncomputable def ab_c57_0 : List (Nat × ab_E) := [(0, .aload_n 0, 0, 0, 0), (1, .getfield 20, 0, 6, 8), (4, .iload_n 1, 0, 0, 0), (5, .aaload, 0, 0, 0), (6, .iload_n 2, 0, 0, 0), (7, .iaload, 0, 0, 0), (8, .iconst (-1), 0, 0, 0), (9, .if_icmp .eq 15, 0, 24, 0), (12, .aload_n 0, 0, 0, 0), (13, .getfield 20, 0, 6, 8), (16, .iload_n 2, 0, 0, 0), (17, .aaload, 0, 0, 0), (18, .iload_n 3, 0, 0, 0), (19, .iaload, 0, 0, 0), (20, .iconst (-1), 0, 0, 0), (21, .if_icmp .ne 4, 0, 25, 0), (24, .return_, 2, 0, 2), (25, .aload_n 0, 0, 0, 0), (26, .getfield 20, 0, 6, 8), (29, .iload_n 1, 0, 0, 0), (30, .aaload, 0, 0, 0), (31, .iload_n 2, 0, 0, 0), (32, .iaload, 0, 0, 0), (33, .aload_n 0, 0, 0, 0), (34, .getfield 20, 0, 6, 8), (37, .iload_n 2, 0, 0, 0), (38, .aaload, 0, 0, 0), (39, .iload_n 3, 0, 0, 0), (40, .iaload, 0, 0, 0), (41, .iadd, 0, 0, 0)]
noncomputable def ab_c57_1 : List (Nat × ab_E) := [(42, .istore 4, 0, 0, 0), (44, .aload_n 0, 0, 0, 0), (45, .getfield 20, 0, 6, 8), (48, .iload_n 1, 0, 0, 0), (49, .aaload, 0, 0, 0), (50, .iload_n 3, 0, 0, 0), (51, .iaload, 0, 0, 0), (52, .iconst (-1), 0, 0, 0), (53, .if_icmp .eq 16, 0, 69, 0), (56, .iload 4, 0, 0, 0), (58, .aload_n 0, 0, 0, 0), (59, .getfield 20, 0, 6, 8), (62, .iload_n 1, 0, 0, 0), (63, .aaload, 0, 0, 0), (64, .iload_n 3, 0, 0, 0), (65, .iaload, 0, 0, 0), (66, .if_icmp .ge 13, 0, 79, 0), (69, .aload_n 0, 0, 0, 0), (70, .getfield 20, 0, 6, 8), (73, .iload_n 1, 0, 0, 0), (74, .aaload, 0, 0, 0), (75, .iload_n 3, 0, 0, 0), (76, .iload 4, 0, 0, 0), (78, .iastore, 0, 0, 0), (79, .return_, 2, 0, 2)]
noncomputable def ab_c57 : List (Nat × ab_E) := List.append ab_c57_0 (ab_c57_1)
/-- LoneAdjective$Town.between(II)I -/
noncomputable def ab_c58 : List (Nat × ab_E) := [(0, .aload_n 0, 0, 0, 0), (1, .iload_n 1, 0, 0, 0), (2, .invokevirtual 80, 1, 51, 2), (5, .ifCond .eq 22, 0, 27, 0), (8, .aload_n 0, 0, 0, 0), (9, .iload_n 2, 0, 0, 0), (10, .invokevirtual 80, 1, 51, 2), (13, .ifCond .eq 14, 0, 27, 0), (16, .aload_n 0, 0, 0, 0), (17, .getfield 20, 0, 6, 8), (20, .iload_n 1, 0, 0, 0), (21, .aaload, 0, 0, 0), (22, .iload_n 2, 0, 0, 0), (23, .iaload, 0, 0, 0), (24, .goto 4, 0, 28, 0), (27, .iconst (-1), 0, 0, 0), (28, .ireturn, 2, 1, 0)]
/-- LoneAdjective$Town.squareOf(I)I -/
noncomputable def ab_c59 : List (Nat × ab_E) := [(0, .aload_n 0, 0, 0, 0), (1, .iload_n 1, 0, 0, 0), (2, .invokevirtual 83, 1, 54, 2), (5, .ifCond .eq 30, 0, 35, 0), (8, .aload_n 0, 0, 0, 0), (9, .aload_n 0, 0, 0, 0), (10, .getfield 30, 0, 9, 8), (13, .iload_n 1, 0, 0, 0), (14, .iaload, 0, 0, 0), (15, .invokevirtual 72, 1, 52, 2), (18, .ifCond .eq 17, 0, 35, 0), (21, .aload_n 0, 0, 0, 0), (22, .getfield 23, 0, 7, 8), (25, .aload_n 0, 0, 0, 0), (26, .getfield 30, 0, 9, 8), (29, .iload_n 1, 0, 0, 0), (30, .iaload, 0, 0, 0), (31, .iaload, 0, 0, 0), (32, .goto 4, 0, 36, 0), (35, .iconst (-1), 0, 0, 0), (36, .ireturn, 2, 1, 0)]
/-- LoneAdjective$Town.worthOf(I)I -/
noncomputable def ab_c60 : List (Nat × ab_E) := [(0, .iconst 0, 0, 0, 0), (1, .istore_n 2, 0, 0, 0), (2, .iconst 0, 0, 0, 0), (3, .istore_n 3, 0, 0, 0), (4, .iload_n 3, 0, 0, 0), (5, .aload_n 0, 0, 0, 0), (6, .getfield 60, 0, 3, 8), (9, .if_icmp .ge 26, 0, 35, 0), (12, .iload_n 1, 0, 0, 0), (13, .iload_n 3, 0, 0, 0), (14, .ishr, 0, 0, 0), (15, .iconst 1, 0, 0, 0), (16, .iand, 0, 0, 0), (17, .ifCond .eq 12, 0, 29, 0), (20, .iload_n 2, 0, 0, 0), (21, .aload_n 0, 0, 0, 0), (22, .getfield 39, 0, 12, 8), (25, .iload_n 3, 0, 0, 0), (26, .iaload, 0, 0, 0), (27, .iadd, 0, 0, 0), (28, .istore_n 2, 0, 0, 0), (29, .iinc 3 1, 0, 0, 0), (32, .goto (-28), 0, 4, 0), (35, .iload_n 2, 0, 0, 0), (36, .ireturn, 2, 1, 0)]
/-- LoneAdjective$Town.costOf(I)I -/
noncomputable def ab_c61_0 : List (Nat × ab_E) := [(0, .iconst 0, 0, 0, 0), (1, .istore_n 2, 0, 0, 0), (2, .iconst 0, 0, 0, 0), (3, .istore_n 3, 0, 0, 0), (4, .iload_n 3, 0, 0, 0), (5, .aload_n 0, 0, 0, 0), (6, .getfield 60, 0, 3, 8), (9, .if_icmp .ge 38, 0, 47, 0), (12, .iload_n 1, 0, 0, 0), (13, .iload_n 3, 0, 0, 0), (14, .ishr, 0, 0, 0), (15, .iconst 1, 0, 0, 0), (16, .iand, 0, 0, 0), (17, .ifCond .eq 24, 0, 41, 0), (20, .aload_n 0, 0, 0, 0), (21, .getfield 42, 0, 13, 8), (24, .iload_n 3, 0, 0, 0), (25, .iaload, 0, 0, 0), (26, .iconst (-1), 0, 0, 0), (27, .if_icmp .ne 5, 0, 32, 0), (30, .iconst (-1), 0, 0, 0), (31, .ireturn, 2, 1, 0), (32, .iload_n 2, 0, 0, 0), (33, .aload_n 0, 0, 0, 0), (34, .getfield 42, 0, 13, 8), (37, .iload_n 3, 0, 0, 0), (38, .iaload, 0, 0, 0), (39, .iadd, 0, 0, 0), (40, .istore_n 2, 0, 0, 0), (41, .iinc 3 1, 0, 0, 0)]
noncomputable def ab_c61_1 : List (Nat × ab_E) := [(44, .goto (-40), 0, 4, 0), (47, .iload_n 2, 0, 0, 0), (48, .ireturn, 2, 1, 0)]
noncomputable def ab_c61 : List (Nat × ab_E) := List.append ab_c61_0 (ab_c61_1)
/-- LoneAdjective$Town.deedsOf(I)I -/
noncomputable def ab_c62 : List (Nat × ab_E) := [(0, .iconst 0, 0, 0, 0), (1, .istore_n 2, 0, 0, 0), (2, .iconst 0, 0, 0, 0), (3, .istore_n 3, 0, 0, 0), (4, .iload_n 3, 0, 0, 0), (5, .aload_n 0, 0, 0, 0), (6, .getfield 60, 0, 3, 8), (9, .if_icmp .ge 25, 0, 34, 0), (12, .aload_n 0, 0, 0, 0), (13, .getfield 30, 0, 9, 8), (16, .iload_n 3, 0, 0, 0), (17, .iaload, 0, 0, 0), (18, .iload_n 1, 0, 0, 0), (19, .if_icmp .ne 9, 0, 28, 0), (22, .iload_n 2, 0, 0, 0), (23, .iconst 1, 0, 0, 0), (24, .iload_n 3, 0, 0, 0), (25, .ishl, 0, 0, 0), (26, .ior, 0, 0, 0), (27, .istore_n 2, 0, 0, 0), (28, .iinc 3 1, 0, 0, 0), (31, .goto (-27), 0, 4, 0), (34, .iload_n 2, 0, 0, 0), (35, .ireturn, 2, 1, 0)]
/-- LoneAdjective$Town.endOf(III)I -/
noncomputable def ab_c63_0 : List (Nat × ab_E) := [(0, .aload_n 0, 0, 0, 0), (1, .iload_n 2, 0, 0, 0), (2, .aload_n 0, 0, 0, 0), (3, .iload_n 1, 0, 0, 0), (4, .invokevirtual 86, 1, 59, 2), (7, .invokevirtual 90, 1, 58, 3), (10, .istore 4, 0, 0, 0), (12, .iload 4, 0, 0, 0), (14, .iconst (-1), 0, 0, 0), (15, .if_icmp .eq 11, 0, 26, 0), (18, .aload_n 0, 0, 0, 0), (19, .iload_n 1, 0, 0, 0), (20, .invokevirtual 83, 1, 54, 2), (23, .ifCond .ne 5, 0, 28, 0), (26, .iconst (-1), 0, 0, 0), (27, .ireturn, 2, 1, 0), (28, .iload_n 3, 0, 0, 0), (29, .iload 4, 0, 0, 0), (31, .iadd, 0, 0, 0), (32, .aload_n 0, 0, 0, 0), (33, .getfield 33, 0, 10, 8), (36, .iload_n 1, 0, 0, 0), (37, .iaload, 0, 0, 0), (38, .iadd, 0, 0, 0), (39, .istore 5, 0, 0, 0), (41, .iload 5, 0, 0, 0), (43, .aload_n 0, 0, 0, 0), (44, .getfield 36, 0, 11, 8), (47, .iload_n 1, 0, 0, 0), (48, .iaload, 0, 0, 0)]
noncomputable def ab_c63_1 : List (Nat × ab_E) := [(49, .if_icmp .le 7, 0, 56, 0), (52, .iconst (-1), 0, 0, 0), (53, .goto 5, 0, 58, 0), (56, .iload 5, 0, 0, 0), (58, .ireturn, 2, 1, 0)]
noncomputable def ab_c63 : List (Nat × ab_E) := List.append ab_c63_0 (ab_c63_1)
/-- LoneAdjective.<init>()V -/
noncomputable def ab_c64_0 : List (Nat × ab_E) := [(0, .aload_n 0, 0, 0, 0), (1, .invokespecial 1, 0, 900, 1), (4, .aload_n 0, 0, 0, 0), (5, .new 7, 0, 0, 6), (8, .dup, 0, 0, 0), (9, .invokespecial 9, 1, 24, 1), (12, .putfield 10, 0, 0, 9), (15, .aload_n 0, 0, 0, 0), (16, .iconst (-1), 0, 0, 0), (17, .putfield 16, 0, 1, 9), (20, .aload_n 0, 0, 0, 0), (21, .new 20, 0, 0, 8), (24, .dup, 0, 0, 0), (25, .invokespecial 22, 1, 49, 1), (28, .putfield 23, 0, 2, 9), (31, .aload_n 0, 0, 0, 0), (32, .new 20, 0, 0, 8), (35, .dup, 0, 0, 0), (36, .invokespecial 22, 1, 49, 1), (39, .putfield 27, 0, 3, 9), (42, .aload_n 0, 0, 0, 0), (43, .new 30, 0, 0, 7), (46, .dup, 0, 0, 0), (47, .invokespecial 32, 1, 41, 1), (50, .putfield 33, 0, 4, 9), (53, .aload_n 0, 0, 0, 0), (54, .new 30, 0, 0, 7), (57, .dup, 0, 0, 0), (58, .invokespecial 32, 1, 41, 1), (61, .putfield 37, 0, 5, 9)]
noncomputable def ab_c64_1 : List (Nat × ab_E) := [(64, .aload_n 0, 0, 0, 0), (65, .new 30, 0, 0, 7), (68, .dup, 0, 0, 0), (69, .invokespecial 32, 1, 41, 1), (72, .putfield 40, 0, 6, 9), (75, .aload_n 0, 0, 0, 0), (76, .new 43, 0, 0, 4), (79, .dup, 0, 0, 0), (80, .invokespecial 45, 1, 18, 1), (83, .putfield 46, 0, 7, 9), (86, .aload_n 0, 0, 0, 0), (87, .new 50, 0, 0, 0), (90, .dup, 0, 0, 0), (91, .invokespecial 52, 1, 0, 1), (94, .putfield 53, 0, 8, 9), (97, .aload_n 0, 0, 0, 0), (98, .new 57, 0, 0, 5), (101, .dup, 0, 0, 0), (102, .invokespecial 59, 1, 21, 1), (105, .putfield 60, 0, 9, 9), (108, .aload_n 0, 0, 0, 0), (109, .new 57, 0, 0, 5), (112, .dup, 0, 0, 0), (113, .invokespecial 59, 1, 21, 1), (116, .putfield 64, 0, 10, 9), (119, .aload_n 0, 0, 0, 0), (120, .new 67, 0, 0, 3), (123, .dup, 0, 0, 0), (124, .invokespecial 69, 1, 12, 1), (127, .putfield 70, 0, 11, 9)]
noncomputable def ab_c64_2 : List (Nat × ab_E) := [(130, .aload_n 0, 0, 0, 0), (131, .new 74, 0, 0, 1), (134, .dup, 0, 0, 0), (135, .invokespecial 76, 1, 3, 1), (138, .putfield 77, 0, 12, 9), (141, .aload_n 0, 0, 0, 0), (142, .new 81, 0, 0, 2), (145, .dup, 0, 0, 0), (146, .invokespecial 83, 1, 7, 1), (149, .putfield 84, 0, 13, 9), (152, .aload_n 0, 0, 0, 0), (153, .bipush 6, 0, 0, 0), (155, .newarray .int, 0, 0, 20), (157, .putfield 88, 0, 14, 9), (160, .aload_n 0, 0, 0, 0), (161, .bipush 6, 0, 0, 0), (163, .newarray .int, 0, 0, 20), (165, .putfield 92, 0, 15, 9), (168, .return_, 2, 0, 2)]
noncomputable def ab_c64 : List (Nat × ab_E) := List.append ab_c64_0 (List.append ab_c64_1 (ab_c64_2))
/-- LoneAdjective.feed(I)I -/
noncomputable def ab_c65 : List (Nat × ab_E) := [(0, .iload_n 1, 0, 0, 0), (1, .ifCond .lt 10, 0, 11, 0), (4, .iload_n 1, 0, 0, 0), (5, .sipush 255, 0, 0, 0), (8, .if_icmp .le 6, 0, 14, 0), (11, .ldc 95, 0, 0, (-1000000002)), (13, .ireturn, 2, 1, 0), (14, .aload_n 0, 0, 0, 0), (15, .getfield 10, 0, 0, 9), (18, .iload_n 1, 0, 0, 0), (19, .i2c, 0, 0, 0), (20, .invokevirtual 96, 1, 25, 2), (23, .ifCond .eq 13, 0, 36, 0), (26, .aload_n 0, 0, 0, 0), (27, .getfield 10, 0, 0, 9), (30, .getfield 100, 0, 0, 6), (33, .goto 5, 0, 38, 0), (36, .ldc 103, 0, 0, (-1000000004)), (38, .ireturn, 2, 1, 0)]
/-- LoneAdjective.town()I -/
noncomputable def ab_c66_0 : List (Nat × ab_E) := [(0, .aload_n 0, 0, 0, 0), (1, .getfield 10, 0, 0, 9), (4, .aload_n 0, 0, 0, 0), (5, .getfield 27, 0, 3, 9), (8, .invokevirtual 104, 1, 26, 2), (11, .istore_n 1, 0, 0, 0), (12, .aload_n 0, 0, 0, 0), (13, .getfield 10, 0, 0, 9), (16, .iconst 0, 0, 0, 0), (17, .putfield 100, 0, 0, 6), (20, .iload_n 1, 0, 0, 0), (21, .ifCond .eq 19, 0, 40, 0), (24, .aload_n 0, 0, 0, 0), (25, .aload_n 0, 0, 0, 0), (26, .getfield 10, 0, 0, 9), (29, .getfield 108, 0, 1, 6), (32, .putfield 16, 0, 1, 9), (35, .bipush (-10), 0, 0, 0), (37, .iload_n 1, 0, 0, 0), (38, .isub, 0, 0, 0), (39, .ireturn, 2, 1, 0), (40, .aload_n 0, 0, 0, 0), (41, .iconst (-1), 0, 0, 0), (42, .putfield 16, 0, 1, 9), (45, .aload_n 0, 0, 0, 0), (46, .getfield 23, 0, 2, 9), (49, .astore_n 2, 0, 0, 0), (50, .aload_n 0, 0, 0, 0), (51, .aload_n 0, 0, 0, 0), (52, .getfield 27, 0, 3, 9)]
noncomputable def ab_c66_1 : List (Nat × ab_E) := [(55, .putfield 23, 0, 2, 9), (58, .aload_n 0, 0, 0, 0), (59, .aload_n 2, 0, 0, 0), (60, .putfield 27, 0, 3, 9), (63, .aload_n 0, 0, 0, 0), (64, .getfield 23, 0, 2, 9), (67, .invokevirtual 111, 1, 56, 1), (70, .aload_n 0, 0, 0, 0), (71, .getfield 33, 0, 4, 9), (74, .aload_n 0, 0, 0, 0), (75, .getfield 23, 0, 2, 9), (78, .invokevirtual 114, 1, 42, 2), (81, .aload_n 0, 0, 0, 0), (82, .getfield 37, 0, 5, 9), (85, .iconst 0, 0, 0, 0), (86, .putfield 118, 0, 4, 7), (89, .aload_n 0, 0, 0, 0), (90, .getfield 40, 0, 6, 9), (93, .iconst 0, 0, 0, 0), (94, .putfield 118, 0, 4, 7), (97, .aload_n 0, 0, 0, 0), (98, .getfield 70, 0, 11, 9), (101, .iconst 0, 0, 0, 0), (102, .putfield 122, 0, 2, 3), (105, .aload_n 0, 0, 0, 0), (106, .getfield 46, 0, 7, 9), (109, .iconst 0, 0, 0, 0), (110, .putfield 125, 0, 0, 4), (113, .aload_n 0, 0, 0, 0), (114, .getfield 23, 0, 2, 9)]
noncomputable def ab_c66_2 : List (Nat × ab_E) := [(117, .getfield 128, 0, 3, 8), (120, .ireturn, 2, 1, 0)]
noncomputable def ab_c66 : List (Nat × ab_E) := List.append ab_c66_0 (List.append ab_c66_1 (ab_c66_2))
/-- LoneAdjective.fault()I -/
noncomputable def ab_c67 : List (Nat × ab_E) := [(0, .aload_n 0, 0, 0, 0), (1, .getfield 16, 0, 1, 9), (4, .ireturn, 2, 1, 0)]
/-- LoneAdjective.told(I)I -/
noncomputable def ab_c68_0 : List (Nat × ab_E) := [(0, .iload_n 1, 0, 0, 0), (1, .tableswitch 172 0 12 #[67, 75, 83, 91, 99, 107, 115, 123, 131, 137, 143, 156, 164], 0, 173, 0), (68, .aload_n 0, 0, 0, 0), (69, .getfield 23, 0, 2, 9), (72, .getfield 131, 0, 0, 8), (75, .ireturn, 2, 1, 0), (76, .aload_n 0, 0, 0, 0), (77, .getfield 23, 0, 2, 9), (80, .getfield 134, 0, 2, 8), (83, .ireturn, 2, 1, 0), (84, .aload_n 0, 0, 0, 0), (85, .getfield 23, 0, 2, 9), (88, .getfield 128, 0, 3, 8), (91, .ireturn, 2, 1, 0), (92, .aload_n 0, 0, 0, 0), (93, .getfield 23, 0, 2, 9), (96, .getfield 137, 0, 4, 8), (99, .ireturn, 2, 1, 0), (100, .aload_n 0, 0, 0, 0), (101, .getfield 10, 0, 0, 9), (104, .getfield 100, 0, 0, 6), (107, .ireturn, 2, 1, 0), (108, .aload_n 0, 0, 0, 0), (109, .getfield 33, 0, 4, 9), (112, .getfield 140, 0, 0, 7), (115, .ireturn, 2, 1, 0), (116, .aload_n 0, 0, 0, 0), (117, .getfield 33, 0, 4, 9), (120, .getfield 143, 0, 1, 7), (123, .ireturn, 2, 1, 0)]
noncomputable def ab_c68_1 : List (Nat × ab_E) := [(124, .aload_n 0, 0, 0, 0), (125, .getfield 33, 0, 4, 9), (128, .getfield 146, 0, 2, 7), (131, .ireturn, 2, 1, 0), (132, .aload_n 0, 0, 0, 0), (133, .iconst 1, 0, 0, 0), (134, .invokevirtual 149, 1, 97, 2), (137, .ireturn, 2, 1, 0), (138, .aload_n 0, 0, 0, 0), (139, .iconst 2, 0, 0, 0), (140, .invokevirtual 149, 1, 97, 2), (143, .ireturn, 2, 1, 0), (144, .aload_n 0, 0, 0, 0), (145, .getfield 23, 0, 2, 9), (148, .aload_n 0, 0, 0, 0), (149, .iconst 1, 0, 0, 0), (150, .invokevirtual 149, 1, 97, 2), (153, .invokevirtual 153, 1, 60, 2), (156, .ireturn, 2, 1, 0), (157, .aload_n 0, 0, 0, 0), (158, .getfield 70, 0, 11, 9), (161, .getfield 122, 0, 2, 3), (164, .ireturn, 2, 1, 0), (165, .aload_n 0, 0, 0, 0), (166, .getfield 46, 0, 7, 9), (169, .getfield 125, 0, 0, 4), (172, .ireturn, 2, 1, 0), (173, .ldc 95, 0, 0, (-1000000002)), (175, .ireturn, 2, 1, 0)]
noncomputable def ab_c68 : List (Nat × ab_E) := List.append ab_c68_0 (ab_c68_1)
/-- LoneAdjective.far(II)I -/
noncomputable def ab_c69 : List (Nat × ab_E) := [(0, .aload_n 0, 0, 0, 0), (1, .getfield 23, 0, 2, 9), (4, .iload_n 1, 0, 0, 0), (5, .invokevirtual 156, 1, 51, 2), (8, .ifCond .eq 14, 0, 22, 0), (11, .aload_n 0, 0, 0, 0), (12, .getfield 23, 0, 2, 9), (15, .iload_n 2, 0, 0, 0), (16, .invokevirtual 156, 1, 51, 2), (19, .ifCond .ne 6, 0, 25, 0), (22, .ldc 160, 0, 0, (-1000000001)), (24, .ireturn, 2, 1, 0), (25, .aload_n 0, 0, 0, 0), (26, .getfield 23, 0, 2, 9), (29, .iload_n 1, 0, 0, 0), (30, .iload_n 2, 0, 0, 0), (31, .invokevirtual 161, 1, 58, 3), (34, .ireturn, 2, 1, 0)]
end
section
/-- LoneAdjective.person(II)I -/
noncomputable def ab_c70 : List (Nat × ab_E) := [(0, .aload_n 0, 0, 0, 0), (1, .getfield 23, 0, 2, 9), (4, .iload_n 1, 0, 0, 0), (5, .invokevirtual 165, 1, 52, 2), (8, .ifCond .ne 6, 0, 14, 0), (11, .ldc 160, 0, 0, (-1000000001)), (13, .ireturn, 2, 1, 0), (14, .iload_n 2, 0, 0, 0), (15, .lookupswitch 45 #[(0, 25), (1, 35)], 0, 60, 0), (40, .aload_n 0, 0, 0, 0), (41, .getfield 23, 0, 2, 9), (44, .getfield 168, 0, 7, 8), (47, .iload_n 1, 0, 0, 0), (48, .iaload, 0, 0, 0), (49, .ireturn, 2, 1, 0), (50, .aload_n 0, 0, 0, 0), (51, .getfield 23, 0, 2, 9), (54, .getfield 171, 0, 8, 8), (57, .iload_n 1, 0, 0, 0), (58, .iaload, 0, 0, 0), (59, .ireturn, 2, 1, 0), (60, .ldc 95, 0, 0, (-1000000002)), (62, .ireturn, 2, 1, 0)]
/-- LoneAdjective.deed(II)I -/
noncomputable def ab_c71_0 : List (Nat × ab_E) := [(0, .aload_n 0, 0, 0, 0), (1, .getfield 23, 0, 2, 9), (4, .iload_n 1, 0, 0, 0), (5, .invokevirtual 174, 1, 54, 2), (8, .ifCond .ne 6, 0, 14, 0), (11, .ldc 160, 0, 0, (-1000000001)), (13, .ireturn, 2, 1, 0), (14, .iload_n 2, 0, 0, 0), (15, .tableswitch 114 0 6 #[41, 51, 61, 71, 81, 91, 104], 0, 129, 0), (56, .aload_n 0, 0, 0, 0), (57, .getfield 23, 0, 2, 9), (60, .getfield 177, 0, 9, 8), (63, .iload_n 1, 0, 0, 0), (64, .iaload, 0, 0, 0), (65, .ireturn, 2, 1, 0), (66, .aload_n 0, 0, 0, 0), (67, .getfield 23, 0, 2, 9), (70, .getfield 180, 0, 10, 8), (73, .iload_n 1, 0, 0, 0), (74, .iaload, 0, 0, 0), (75, .ireturn, 2, 1, 0), (76, .aload_n 0, 0, 0, 0), (77, .getfield 23, 0, 2, 9), (80, .getfield 183, 0, 11, 8), (83, .iload_n 1, 0, 0, 0), (84, .iaload, 0, 0, 0), (85, .ireturn, 2, 1, 0), (86, .aload_n 0, 0, 0, 0), (87, .getfield 23, 0, 2, 9), (90, .getfield 186, 0, 12, 8)]
noncomputable def ab_c71_1 : List (Nat × ab_E) := [(93, .iload_n 1, 0, 0, 0), (94, .iaload, 0, 0, 0), (95, .ireturn, 2, 1, 0), (96, .aload_n 0, 0, 0, 0), (97, .getfield 23, 0, 2, 9), (100, .getfield 189, 0, 13, 8), (103, .iload_n 1, 0, 0, 0), (104, .iaload, 0, 0, 0), (105, .ireturn, 2, 1, 0), (106, .aload_n 0, 0, 0, 0), (107, .getfield 33, 0, 4, 9), (110, .aload_n 0, 0, 0, 0), (111, .getfield 23, 0, 2, 9), (114, .iload_n 1, 0, 0, 0), (115, .invokevirtual 192, 1, 44, 3), (118, .ireturn, 2, 1, 0), (119, .aload_n 0, 0, 0, 0), (120, .getfield 33, 0, 4, 9), (123, .getfield 196, 0, 5, 7), (126, .iload_n 1, 0, 0, 0), (127, .iaload, 0, 0, 0), (128, .ireturn, 2, 1, 0), (129, .ldc 95, 0, 0, (-1000000002)), (131, .ireturn, 2, 1, 0)]
noncomputable def ab_c71 : List (Nat × ab_E) := List.append ab_c71_0 (ab_c71_1)
/-- LoneAdjective.trust(II)I -/
noncomputable def ab_c72 : List (Nat × ab_E) := [(0, .aload_n 0, 0, 0, 0), (1, .getfield 23, 0, 2, 9), (4, .iload_n 1, 0, 0, 0), (5, .iload_n 2, 0, 0, 0), (6, .invokevirtual 199, 1, 53, 3), (9, .ifCond .ne 6, 0, 15, 0), (12, .ldc 160, 0, 0, (-1000000001)), (14, .ireturn, 2, 1, 0), (15, .aload_n 0, 0, 0, 0), (16, .getfield 23, 0, 2, 9), (19, .getfield 203, 0, 14, 8), (22, .iload_n 1, 0, 0, 0), (23, .aaload, 0, 0, 0), (24, .iload_n 2, 0, 0, 0), (25, .iaload, 0, 0, 0), (26, .ireturn, 2, 1, 0)]
/-- LoneAdjective.lets(I)I -/
noncomputable def ab_c73 : List (Nat × ab_E) := [(0, .aload_n 0, 0, 0, 0), (1, .getfield 23, 0, 2, 9), (4, .iload_n 1, 0, 0, 0), (5, .invokevirtual 207, 1, 55, 2), (8, .ifCond .ne 6, 0, 14, 0), (11, .ldc 160, 0, 0, (-1000000001)), (13, .ireturn, 2, 1, 0), (14, .aload_n 0, 0, 0, 0), (15, .getfield 23, 0, 2, 9), (18, .getfield 210, 0, 15, 8), (21, .iload_n 1, 0, 0, 0), (22, .iaload, 0, 0, 0), (23, .ireturn, 2, 1, 0)]
/-- LoneAdjective.lend(I)I -/
noncomputable def ab_c74_0 : List (Nat × ab_E) := [(0, .aload_n 0, 0, 0, 0), (1, .getfield 23, 0, 2, 9), (4, .iload_n 1, 0, 0, 0), (5, .invokevirtual 165, 1, 52, 2), (8, .ifCond .ne 6, 0, 14, 0), (11, .ldc 160, 0, 0, (-1000000001)), (13, .ireturn, 2, 1, 0), (14, .aload_n 0, 0, 0, 0), (15, .getfield 33, 0, 4, 9), (18, .aload_n 0, 0, 0, 0), (19, .getfield 23, 0, 2, 9), (22, .iload_n 1, 0, 0, 0), (23, .invokevirtual 213, 1, 45, 3), (26, .ifCond .ne 6, 0, 32, 0), (29, .ldc 217, 0, 0, (-1000000003)), (31, .ireturn, 2, 1, 0), (32, .aload_n 0, 0, 0, 0), (33, .getfield 33, 0, 4, 9), (36, .getfield 140, 0, 0, 7), (39, .ldc 218, 0, 0, 90000), (41, .if_icmp .le 6, 0, 47, 0), (44, .ldc 103, 0, 0, (-1000000004)), (46, .ireturn, 2, 1, 0), (47, .aload_n 0, 0, 0, 0), (48, .getfield 33, 0, 4, 9), (51, .aload_n 0, 0, 0, 0), (52, .getfield 23, 0, 2, 9), (55, .iload_n 1, 0, 0, 0), (56, .invokevirtual 219, 1, 46, 3), (59, .aload_n 0, 0, 0, 0)]
noncomputable def ab_c74_1 : List (Nat × ab_E) := [(60, .getfield 33, 0, 4, 9), (63, .getfield 140, 0, 0, 7), (66, .ireturn, 2, 1, 0)]
noncomputable def ab_c74 : List (Nat × ab_E) := List.append ab_c74_0 (ab_c74_1)
/-- LoneAdjective.act(I)I -/
noncomputable def ab_c75_0 : List (Nat × ab_E) := [(0, .aload_n 0, 0, 0, 0), (1, .getfield 23, 0, 2, 9), (4, .iload_n 1, 0, 0, 0), (5, .invokevirtual 174, 1, 54, 2), (8, .ifCond .ne 6, 0, 14, 0), (11, .ldc 160, 0, 0, (-1000000001)), (13, .ireturn, 2, 1, 0), (14, .aload_n 0, 0, 0, 0), (15, .getfield 33, 0, 4, 9), (18, .aload_n 0, 0, 0, 0), (19, .getfield 23, 0, 2, 9), (22, .iload_n 1, 0, 0, 0), (23, .invokevirtual 192, 1, 44, 3), (26, .ifCond .ne 22, 0, 48, 0), (29, .aload_n 0, 0, 0, 0), (30, .getfield 33, 0, 4, 9), (33, .getfield 146, 0, 2, 7), (36, .aload_n 0, 0, 0, 0), (37, .getfield 23, 0, 2, 9), (40, .getfield 177, 0, 9, 8), (43, .iload_n 1, 0, 0, 0), (44, .iaload, 0, 0, 0), (45, .if_icmp .eq 6, 0, 51, 0), (48, .ldc 217, 0, 0, (-1000000003)), (50, .ireturn, 2, 1, 0), (51, .aload_n 0, 0, 0, 0), (52, .getfield 33, 0, 4, 9), (55, .aload_n 0, 0, 0, 0), (56, .getfield 23, 0, 2, 9), (59, .iload_n 1, 0, 0, 0)]
noncomputable def ab_c75_1 : List (Nat × ab_E) := [(60, .invokevirtual 223, 1, 47, 3), (63, .aload_n 0, 0, 0, 0), (64, .getfield 33, 0, 4, 9), (67, .getfield 140, 0, 0, 7), (70, .ireturn, 2, 1, 0)]
noncomputable def ab_c75 : List (Nat × ab_E) := List.append ab_c75_0 (ab_c75_1)
/-- LoneAdjective.drop()I -/
noncomputable def ab_c76 : List (Nat × ab_E) := [(0, .aload_n 0, 0, 0, 0), (1, .getfield 33, 0, 4, 9), (4, .getfield 146, 0, 2, 7), (7, .istore_n 1, 0, 0, 0), (8, .aload_n 0, 0, 0, 0), (9, .getfield 33, 0, 4, 9), (12, .iconst (-1), 0, 0, 0), (13, .putfield 146, 0, 2, 7), (16, .iload_n 1, 0, 0, 0), (17, .ireturn, 2, 1, 0)]
/-- LoneAdjective.pass(I)I -/
noncomputable def ab_c77 : List (Nat × ab_E) := [(0, .iload_n 1, 0, 0, 0), (1, .iconst 1, 0, 0, 0), (2, .if_icmp .lt 10, 0, 12, 0), (5, .iload_n 1, 0, 0, 0), (6, .sipush 999, 0, 0, 0), (9, .if_icmp .le 6, 0, 15, 0), (12, .ldc 95, 0, 0, (-1000000002)), (14, .ireturn, 2, 1, 0), (15, .aload_n 0, 0, 0, 0), (16, .getfield 33, 0, 4, 9), (19, .getfield 140, 0, 0, 7), (22, .ldc 218, 0, 0, 90000), (24, .if_icmp .le 6, 0, 30, 0), (27, .ldc 103, 0, 0, (-1000000004)), (29, .ireturn, 2, 1, 0), (30, .aload_n 0, 0, 0, 0), (31, .getfield 33, 0, 4, 9), (34, .dup, 0, 0, 0), (35, .getfield 140, 0, 0, 7), (38, .iload_n 1, 0, 0, 0), (39, .iadd, 0, 0, 0), (40, .putfield 140, 0, 0, 7), (43, .aload_n 0, 0, 0, 0), (44, .getfield 33, 0, 4, 9), (47, .getfield 140, 0, 0, 7), (50, .ireturn, 2, 1, 0)]
/-- LoneAdjective.drift(I)I -/
noncomputable def ab_c78_0 : List (Nat × ab_E) := [(0, .iload_n 1, 0, 0, 0), (1, .iconst 1, 0, 0, 0), (2, .if_icmp .lt 9, 0, 11, 0), (5, .iload_n 1, 0, 0, 0), (6, .bipush 30, 0, 0, 0), (8, .if_icmp .le 6, 0, 14, 0), (11, .ldc 95, 0, 0, (-1000000002)), (13, .ireturn, 2, 1, 0), (14, .aload_n 0, 0, 0, 0), (15, .getfield 23, 0, 2, 9), (18, .getfield 134, 0, 2, 8), (21, .ifCond .ne 6, 0, 27, 0), (24, .ldc 217, 0, 0, (-1000000003)), (26, .ireturn, 2, 1, 0), (27, .aload_n 0, 0, 0, 0), (28, .getfield 33, 0, 4, 9), (31, .getfield 140, 0, 0, 7), (34, .ldc 218, 0, 0, 90000), (36, .if_icmp .le 6, 0, 42, 0), (39, .ldc 103, 0, 0, (-1000000004)), (41, .ireturn, 2, 1, 0), (42, .iconst 0, 0, 0, 0), (43, .istore_n 2, 0, 0, 0), (44, .iload_n 2, 0, 0, 0), (45, .iload_n 1, 0, 0, 0), (46, .if_icmp .ge 13, 0, 59, 0), (49, .aload_n 0, 0, 0, 0), (50, .invokevirtual 226, 1, 98, 1), (53, .iinc 2 1, 0, 0, 0), (56, .goto (-12), 0, 44, 0)]
noncomputable def ab_c78_1 : List (Nat × ab_E) := [(59, .aload_n 0, 0, 0, 0), (60, .getfield 33, 0, 4, 9), (63, .getfield 140, 0, 0, 7), (66, .ireturn, 2, 1, 0)]
noncomputable def ab_c78 : List (Nat × ab_E) := List.append ab_c78_0 (ab_c78_1)
/-- LoneAdjective.round(I)I -/
noncomputable def ab_c79_0 : List (Nat × ab_E) := [(0, .aload_n 0, 0, 0, 0), (1, .getfield 53, 0, 8, 9), (4, .aload_n 0, 0, 0, 0), (5, .getfield 23, 0, 2, 9), (8, .aload_n 0, 0, 0, 0), (9, .iconst 0, 0, 0, 0), (10, .invokevirtual 149, 1, 97, 2), (13, .aload_n 0, 0, 0, 0), (14, .getfield 33, 0, 4, 9), (17, .getfield 143, 0, 1, 7), (20, .aload_n 0, 0, 0, 0), (21, .getfield 33, 0, 4, 9), (24, .getfield 140, 0, 0, 7), (27, .invokevirtual 229, 1, 1, 5), (30, .iload_n 1, 0, 0, 0), (31, .iconst (-1), 0, 0, 0), (32, .if_icmp .ne 11, 0, 43, 0), (35, .aload_n 0, 0, 0, 0), (36, .getfield 53, 0, 8, 9), (39, .getfield 233, 0, 2, 0), (42, .ireturn, 2, 1, 0), (43, .iload_n 1, 0, 0, 0), (44, .bipush (-2), 0, 0, 0), (46, .if_icmp .ne 11, 0, 57, 0), (49, .aload_n 0, 0, 0, 0), (50, .getfield 53, 0, 8, 9), (53, .getfield 235, 0, 3, 0), (56, .ireturn, 2, 1, 0), (57, .iload_n 1, 0, 0, 0), (58, .ifCond .lt 26, 0, 84, 0)]
noncomputable def ab_c79_1 : List (Nat × ab_E) := [(61, .iload_n 1, 0, 0, 0), (62, .aload_n 0, 0, 0, 0), (63, .getfield 53, 0, 8, 9), (66, .getfield 238, 0, 4, 0), (69, .if_icmp .ge 15, 0, 84, 0), (72, .aload_n 0, 0, 0, 0), (73, .getfield 53, 0, 8, 9), (76, .getfield 241, 0, 5, 0), (79, .iload_n 1, 0, 0, 0), (80, .iaload, 0, 0, 0), (81, .goto 4, 0, 85, 0), (84, .iconst (-1), 0, 0, 0), (85, .ireturn, 2, 1, 0)]
noncomputable def ab_c79 : List (Nat × ab_E) := List.append ab_c79_0 (ab_c79_1)
/-- LoneAdjective.two(I)I -/
noncomputable def ab_c80_0 : List (Nat × ab_E) := [(0, .aload_n 0, 0, 0, 0), (1, .getfield 23, 0, 2, 9), (4, .iload_n 1, 0, 0, 0), (5, .invokevirtual 156, 1, 51, 2), (8, .ifCond .ne 6, 0, 14, 0), (11, .ldc 160, 0, 0, (-1000000001)), (13, .ireturn, 2, 1, 0), (14, .aload_n 0, 0, 0, 0), (15, .iconst 0, 0, 0, 0), (16, .invokevirtual 149, 1, 97, 2), (19, .istore_n 2, 0, 0, 0), (20, .aload_n 0, 0, 0, 0), (21, .getfield 60, 0, 9, 9), (24, .aload_n 0, 0, 0, 0), (25, .getfield 23, 0, 2, 9), (28, .iload_n 2, 0, 0, 0), (29, .aload_n 0, 0, 0, 0), (30, .getfield 33, 0, 4, 9), (33, .getfield 143, 0, 1, 7), (36, .aload_n 0, 0, 0, 0), (37, .getfield 33, 0, 4, 9), (40, .getfield 140, 0, 0, 7), (43, .invokevirtual 244, 1, 22, 5), (46, .aload_n 0, 0, 0, 0), (47, .getfield 64, 0, 10, 9), (50, .aload_n 0, 0, 0, 0), (51, .getfield 23, 0, 2, 9), (54, .iload_n 2, 0, 0, 0), (55, .iload_n 1, 0, 0, 0), (56, .aload_n 0, 0, 0, 0)]
noncomputable def ab_c80_1 : List (Nat × ab_E) := [(57, .getfield 33, 0, 4, 9), (60, .getfield 140, 0, 0, 7), (63, .invokevirtual 244, 1, 22, 5), (66, .iconst 0, 0, 0, 0), (67, .istore_n 3, 0, 0, 0), (68, .iconst 0, 0, 0, 0), (69, .istore 4, 0, 0, 0), (71, .iload 4, 0, 0, 0), (73, .iload_n 2, 0, 0, 0), (74, .if_icmp .gt 44, 0, 118, 0), (77, .aload_n 0, 0, 0, 0), (78, .getfield 60, 0, 9, 9), (81, .getfield 245, 0, 2, 5), (84, .iload 4, 0, 0, 0), (86, .baload, 0, 0, 0), (87, .ifCond .eq 25, 0, 112, 0), (90, .iload_n 3, 0, 0, 0), (91, .aload_n 0, 0, 0, 0), (92, .getfield 23, 0, 2, 9), (95, .iload 4, 0, 0, 0), (97, .invokevirtual 153, 1, 60, 2), (100, .aload_n 0, 0, 0, 0), (101, .iload 4, 0, 0, 0), (103, .iload_n 2, 0, 0, 0), (104, .invokevirtual 249, 1, 100, 3), (107, .iadd, 0, 0, 0), (108, .invokestatic 252, 0, 902, 2), (111, .istore_n 3, 0, 0, 0), (112, .iinc 4 1, 0, 0, 0), (115, .goto (-44), 0, 71, 0)]
noncomputable def ab_c80_2 : List (Nat × ab_E) := [(118, .iload_n 3, 0, 0, 0), (119, .ireturn, 2, 1, 0)]
noncomputable def ab_c80 : List (Nat × ab_E) := List.append ab_c80_0 (List.append ab_c80_1 (ab_c80_2))
/-- LoneAdjective.reword(I)I -/
noncomputable def ab_c81_0 : List (Nat × ab_E) := [(0, .iload_n 1, 0, 0, 0), (1, .ifCond .lt 8, 0, 9, 0), (4, .iload_n 1, 0, 0, 0), (5, .iconst 1, 0, 0, 0), (6, .if_icmp .le 6, 0, 12, 0), (9, .ldc 95, 0, 0, (-1000000002)), (11, .ireturn, 2, 1, 0), (12, .aload_n 0, 0, 0, 0), (13, .iconst 0, 0, 0, 0), (14, .invokevirtual 149, 1, 97, 2), (17, .istore_n 2, 0, 0, 0), (18, .aload_n 0, 0, 0, 0), (19, .getfield 60, 0, 9, 9), (22, .aload_n 0, 0, 0, 0), (23, .getfield 23, 0, 2, 9), (26, .iload_n 2, 0, 0, 0), (27, .aload_n 0, 0, 0, 0), (28, .getfield 33, 0, 4, 9), (31, .getfield 143, 0, 1, 7), (34, .aload_n 0, 0, 0, 0), (35, .getfield 33, 0, 4, 9), (38, .getfield 140, 0, 0, 7), (41, .invokevirtual 244, 1, 22, 5), (44, .iconst (-1), 0, 0, 0), (45, .istore_n 3, 0, 0, 0), (46, .iconst (-1), 0, 0, 0), (47, .istore 4, 0, 0, 0), (49, .iconst 0, 0, 0, 0), (50, .istore 5, 0, 0, 0), (52, .iload 5, 0, 0, 0)]
noncomputable def ab_c81_1 : List (Nat × ab_E) := [(54, .iload_n 2, 0, 0, 0), (55, .if_icmp .gt 76, 0, 131, 0), (58, .iload 5, 0, 0, 0), (60, .iload_n 2, 0, 0, 0), (61, .iconst (-1), 0, 0, 0), (62, .ixor, 0, 0, 0), (63, .iand, 0, 0, 0), (64, .ifCond .ne 32, 0, 96, 0), (67, .aload_n 0, 0, 0, 0), (68, .getfield 60, 0, 9, 9), (71, .getfield 245, 0, 2, 5), (74, .iload_n 2, 0, 0, 0), (75, .iload 5, 0, 0, 0), (77, .iconst (-1), 0, 0, 0), (78, .ixor, 0, 0, 0), (79, .iand, 0, 0, 0), (80, .baload, 0, 0, 0), (81, .ifCond .eq 15, 0, 96, 0), (84, .aload_n 0, 0, 0, 0), (85, .getfield 23, 0, 2, 9), (88, .iload 5, 0, 0, 0), (90, .invokevirtual 257, 1, 61, 2), (93, .goto 4, 0, 97, 0), (96, .iconst (-1), 0, 0, 0), (97, .istore 6, 0, 0, 0), (99, .iload 6, 0, 0, 0), (101, .iconst (-1), 0, 0, 0), (102, .if_icmp .eq 23, 0, 125, 0), (105, .iload 4, 0, 0, 0), (107, .iconst (-1), 0, 0, 0)]
noncomputable def ab_c81_2 : List (Nat × ab_E) := [(108, .if_icmp .eq 10, 0, 118, 0), (111, .iload 6, 0, 0, 0), (113, .iload 4, 0, 0, 0), (115, .if_icmp .ge 10, 0, 125, 0), (118, .iload 5, 0, 0, 0), (120, .istore_n 3, 0, 0, 0), (121, .iload 6, 0, 0, 0), (123, .istore 4, 0, 0, 0), (125, .iinc 5 1, 0, 0, 0), (128, .goto (-76), 0, 52, 0), (131, .iload_n 1, 0, 0, 0), (132, .ifCond .ne 7, 0, 139, 0), (135, .iload_n 3, 0, 0, 0), (136, .goto 5, 0, 141, 0), (139, .iload 4, 0, 0, 0), (141, .ireturn, 2, 1, 0)]
noncomputable def ab_c81 : List (Nat × ab_E) := List.append ab_c81_0 (List.append ab_c81_1 (ab_c81_2))
/-- LoneAdjective.chain(III)I -/
noncomputable def ab_c82_0 : List (Nat × ab_E) := [(0, .aload_n 0, 0, 0, 0), (1, .getfield 23, 0, 2, 9), (4, .iload_n 1, 0, 0, 0), (5, .iload_n 2, 0, 0, 0), (6, .invokevirtual 199, 1, 53, 3), (9, .ifCond .ne 6, 0, 15, 0), (12, .ldc 160, 0, 0, (-1000000001)), (14, .ireturn, 2, 1, 0), (15, .iload_n 3, 0, 0, 0), (16, .ifCond .lt 8, 0, 24, 0), (19, .iload_n 3, 0, 0, 0), (20, .iconst 1, 0, 0, 0), (21, .if_icmp .le 6, 0, 27, 0), (24, .ldc 95, 0, 0, (-1000000002)), (26, .ireturn, 2, 1, 0), (27, .aload_n 0, 0, 0, 0), (28, .getfield 77, 0, 12, 9), (31, .aload_n 0, 0, 0, 0), (32, .getfield 23, 0, 2, 9), (35, .iload_n 1, 0, 0, 0), (36, .invokevirtual 260, 1, 4, 3), (39, .iload_n 3, 0, 0, 0), (40, .ifCond .ne 15, 0, 55, 0), (43, .aload_n 0, 0, 0, 0), (44, .getfield 77, 0, 12, 9), (47, .getfield 262, 0, 0, 1), (50, .iload_n 2, 0, 0, 0), (51, .iaload, 0, 0, 0), (52, .goto 12, 0, 64, 0), (55, .aload_n 0, 0, 0, 0)]
noncomputable def ab_c82_1 : List (Nat × ab_E) := [(56, .getfield 77, 0, 12, 9), (59, .getfield 265, 0, 1, 1), (62, .iload_n 2, 0, 0, 0), (63, .iaload, 0, 0, 0), (64, .ireturn, 2, 1, 0)]
noncomputable def ab_c82 : List (Nat × ab_E) := List.append ab_c82_0 (ab_c82_1)
/-- LoneAdjective.lost(I)I -/
noncomputable def ab_c83_0 : List (Nat × ab_E) := [(0, .aload_n 0, 0, 0, 0), (1, .getfield 23, 0, 2, 9), (4, .iload_n 1, 0, 0, 0), (5, .invokevirtual 165, 1, 52, 2), (8, .ifCond .ne 6, 0, 14, 0), (11, .ldc 160, 0, 0, (-1000000001)), (13, .ireturn, 2, 1, 0), (14, .aload_n 0, 0, 0, 0), (15, .getfield 77, 0, 12, 9), (18, .aload_n 0, 0, 0, 0), (19, .getfield 23, 0, 2, 9), (22, .iload_n 1, 0, 0, 0), (23, .invokevirtual 260, 1, 4, 3), (26, .iconst 0, 0, 0, 0), (27, .istore_n 2, 0, 0, 0), (28, .iconst 0, 0, 0, 0), (29, .istore_n 3, 0, 0, 0), (30, .iload_n 3, 0, 0, 0), (31, .aload_n 0, 0, 0, 0), (32, .getfield 23, 0, 2, 9), (35, .getfield 134, 0, 2, 8), (38, .if_icmp .ge 27, 0, 65, 0), (41, .aload_n 0, 0, 0, 0), (42, .getfield 77, 0, 12, 9), (45, .getfield 262, 0, 0, 1), (48, .iload_n 3, 0, 0, 0), (49, .iaload, 0, 0, 0), (50, .ifCond .gt 9, 0, 59, 0), (53, .iload_n 2, 0, 0, 0), (54, .iconst 1, 0, 0, 0)]
noncomputable def ab_c83_1 : List (Nat × ab_E) := [(55, .iload_n 3, 0, 0, 0), (56, .ishl, 0, 0, 0), (57, .ior, 0, 0, 0), (58, .istore_n 2, 0, 0, 0), (59, .iinc 3 1, 0, 0, 0), (62, .goto (-32), 0, 30, 0), (65, .iload_n 2, 0, 0, 0), (66, .ireturn, 2, 1, 0)]
noncomputable def ab_c83 : List (Nat × ab_E) := List.append ab_c83_0 (ab_c83_1)
/-- LoneAdjective.sold(III)I -/
noncomputable def ab_c84_0 : List (Nat × ab_E) := [(0, .aload_n 0, 0, 0, 0), (1, .getfield 23, 0, 2, 9), (4, .iload_n 2, 0, 0, 0), (5, .invokevirtual 165, 1, 52, 2), (8, .ifCond .ne 6, 0, 14, 0), (11, .ldc 160, 0, 0, (-1000000001)), (13, .ireturn, 2, 1, 0), (14, .iload_n 1, 0, 0, 0), (15, .iconst 1, 0, 0, 0), (16, .if_icmp .lt 18, 0, 34, 0), (19, .iload_n 1, 0, 0, 0), (20, .bipush 9, 0, 0, 0), (22, .if_icmp .gt 12, 0, 34, 0), (25, .iload_n 3, 0, 0, 0), (26, .ifCond .lt 8, 0, 34, 0), (29, .iload_n 3, 0, 0, 0), (30, .iconst 1, 0, 0, 0), (31, .if_icmp .le 6, 0, 37, 0), (34, .ldc 95, 0, 0, (-1000000002)), (36, .ireturn, 2, 1, 0), (37, .aload_n 0, 0, 0, 0), (38, .getfield 88, 0, 14, 9), (41, .iconst 0, 0, 0, 0), (42, .invokestatic 268, 1, 193, 2), (45, .aload_n 0, 0, 0, 0), (46, .getfield 92, 0, 15, 9), (49, .iconst 0, 0, 0, 0), (50, .invokestatic 268, 1, 193, 2), (53, .iconst 0, 0, 0, 0), (54, .istore 4, 0, 0, 0)]
noncomputable def ab_c84_1 : List (Nat × ab_E) := [(56, .iload 4, 0, 0, 0), (58, .iload_n 1, 0, 0, 0), (59, .if_icmp .ge 13, 0, 72, 0), (62, .aload_n 0, 0, 0, 0), (63, .invokevirtual 274, 1, 101, 1), (66, .iinc 4 1, 0, 0, 0), (69, .goto (-13), 0, 56, 0), (72, .iload_n 3, 0, 0, 0), (73, .ifCond .ne 12, 0, 85, 0), (76, .aload_n 0, 0, 0, 0), (77, .getfield 88, 0, 14, 9), (80, .iload_n 2, 0, 0, 0), (81, .iaload, 0, 0, 0), (82, .goto 9, 0, 91, 0), (85, .aload_n 0, 0, 0, 0), (86, .getfield 92, 0, 15, 9), (89, .iload_n 2, 0, 0, 0), (90, .iaload, 0, 0, 0), (91, .ireturn, 2, 1, 0)]
noncomputable def ab_c84 : List (Nat × ab_E) := List.append ab_c84_0 (ab_c84_1)
/-- LoneAdjective.thief(IIII)I -/
noncomputable def ab_c85_0 : List (Nat × ab_E) := [(0, .aload_n 0, 0, 0, 0), (1, .getfield 23, 0, 2, 9), (4, .iload_n 1, 0, 0, 0), (5, .invokevirtual 156, 1, 51, 2), (8, .ifCond .eq 25, 0, 33, 0), (11, .aload_n 0, 0, 0, 0), (12, .getfield 23, 0, 2, 9), (15, .iload_n 2, 0, 0, 0), (16, .invokevirtual 156, 1, 51, 2), (19, .ifCond .eq 14, 0, 33, 0), (22, .aload_n 0, 0, 0, 0), (23, .getfield 23, 0, 2, 9), (26, .iload_n 3, 0, 0, 0), (27, .invokevirtual 156, 1, 51, 2), (30, .ifCond .ne 6, 0, 36, 0), (33, .ldc 160, 0, 0, (-1000000001)), (35, .ireturn, 2, 1, 0), (36, .iload 4, 0, 0, 0), (38, .ifCond .lt 9, 0, 47, 0), (41, .iload 4, 0, 0, 0), (43, .iconst 1, 0, 0, 0), (44, .if_icmp .le 6, 0, 50, 0), (47, .ldc 95, 0, 0, (-1000000002)), (49, .ireturn, 2, 1, 0), (50, .aload_n 0, 0, 0, 0), (51, .getfield 84, 0, 13, 9), (54, .aload_n 0, 0, 0, 0), (55, .getfield 23, 0, 2, 9), (58, .iload_n 3, 0, 0, 0), (59, .invokevirtual 277, 1, 9, 3)]
noncomputable def ab_c85_1 : List (Nat × ab_E) := [(62, .iload_n 1, 0, 0, 0), (63, .iload_n 2, 0, 0, 0), (64, .iconst 0, 0, 0, 0), (65, .invokestatic 280, 1, 8, 3), (68, .istore 5, 0, 0, 0), (70, .iload 4, 0, 0, 0), (72, .ifCond .ne 14, 0, 86, 0), (75, .aload_n 0, 0, 0, 0), (76, .getfield 84, 0, 13, 9), (79, .getfield 284, 0, 0, 2), (82, .iload 5, 0, 0, 0), (84, .iaload, 0, 0, 0), (85, .ireturn, 2, 1, 0), (86, .aload_n 0, 0, 0, 0), (87, .getfield 84, 0, 13, 9), (90, .getfield 284, 0, 0, 2), (93, .iload 5, 0, 0, 0), (95, .iaload, 0, 0, 0), (96, .ifCond .ne 7, 0, 103, 0), (99, .iconst (-1), 0, 0, 0), (100, .goto 17, 0, 117, 0), (103, .aload_n 0, 0, 0, 0), (104, .getfield 84, 0, 13, 9), (107, .getfield 287, 0, 1, 2), (110, .iload 5, 0, 0, 0), (112, .iaload, 0, 0, 0), (113, .iconst 1, 0, 0, 0), (114, .iadd, 0, 0, 0), (115, .iconst 2, 0, 0, 0), (116, .idiv, 0, 0, 0)]
noncomputable def ab_c85_2 : List (Nat × ab_E) := [(117, .ireturn, 2, 1, 0)]
noncomputable def ab_c85 : List (Nat × ab_E) := List.append ab_c85_0 (List.append ab_c85_1 (ab_c85_2))
/-- LoneAdjective.vote(I)I -/
noncomputable def ab_c86_0 : List (Nat × ab_E) := [(0, .iload_n 1, 0, 0, 0), (1, .iconst (-1), 0, 0, 0), (2, .if_icmp .eq 17, 0, 19, 0), (5, .aload_n 0, 0, 0, 0), (6, .getfield 23, 0, 2, 9), (9, .iload_n 1, 0, 0, 0), (10, .invokevirtual 207, 1, 55, 2), (13, .ifCond .ne 6, 0, 19, 0), (16, .ldc 160, 0, 0, (-1000000001)), (18, .ireturn, 2, 1, 0), (19, .aload_n 0, 0, 0, 0), (20, .getfield 88, 0, 14, 9), (23, .iconst 0, 0, 0, 0), (24, .invokestatic 268, 1, 193, 2), (27, .aload_n 0, 0, 0, 0), (28, .iconst 0, 0, 0, 0), (29, .invokevirtual 149, 1, 97, 2), (32, .istore_n 2, 0, 0, 0), (33, .iconst 0, 0, 0, 0), (34, .istore_n 3, 0, 0, 0), (35, .iload_n 3, 0, 0, 0), (36, .aload_n 0, 0, 0, 0), (37, .getfield 23, 0, 2, 9), (40, .getfield 134, 0, 2, 8), (43, .if_icmp .ge 69, 0, 112, 0), (46, .iload_n 2, 0, 0, 0), (47, .aload_n 0, 0, 0, 0), (48, .getfield 23, 0, 2, 9), (51, .iload_n 3, 0, 0, 0), (52, .invokevirtual 290, 1, 62, 2)]
noncomputable def ab_c86_1 : List (Nat × ab_E) := [(55, .iand, 0, 0, 0), (56, .istore 4, 0, 0, 0), (58, .aload_n 0, 0, 0, 0), (59, .iload 4, 0, 0, 0), (61, .invokevirtual 293, 1, 104, 2), (64, .istore 5, 0, 0, 0), (66, .iload 5, 0, 0, 0), (68, .iconst (-1), 0, 0, 0), (69, .if_icmp .eq 37, 0, 106, 0), (72, .aload_n 0, 0, 0, 0), (73, .getfield 23, 0, 2, 9), (76, .iload 4, 0, 0, 0), (78, .aload_n 0, 0, 0, 0), (79, .getfield 23, 0, 2, 9), (82, .getfield 210, 0, 15, 8), (85, .iload 5, 0, 0, 0), (87, .iaload, 0, 0, 0), (88, .iand, 0, 0, 0), (89, .invokevirtual 153, 1, 60, 2), (92, .ifCond .le 14, 0, 106, 0), (95, .aload_n 0, 0, 0, 0), (96, .getfield 88, 0, 14, 9), (99, .iload 5, 0, 0, 0), (101, .dup2, 0, 0, 0), (102, .iaload, 0, 0, 0), (103, .iconst 1, 0, 0, 0), (104, .iadd, 0, 0, 0), (105, .iastore, 0, 0, 0), (106, .iinc 3 1, 0, 0, 0), (109, .goto (-74), 0, 35, 0)]
noncomputable def ab_c86_2 : List (Nat × ab_E) := [(112, .iload_n 1, 0, 0, 0), (113, .iconst (-1), 0, 0, 0), (114, .if_icmp .ne 10, 0, 124, 0), (117, .aload_n 0, 0, 0, 0), (118, .invokevirtual 296, 1, 105, 1), (121, .goto 9, 0, 130, 0), (124, .aload_n 0, 0, 0, 0), (125, .getfield 88, 0, 14, 9), (128, .iload_n 1, 0, 0, 0), (129, .iaload, 0, 0, 0), (130, .ireturn, 2, 1, 0)]
noncomputable def ab_c86 : List (Nat × ab_E) := List.append ab_c86_0 (List.append ab_c86_1 (ab_c86_2))
/-- LoneAdjective.bestWord()I -/
noncomputable def ab_c87 : List (Nat × ab_E) := [(0, .aload_n 0, 0, 0, 0), (1, .aload_n 0, 0, 0, 0), (2, .iconst 0, 0, 0, 0), (3, .invokevirtual 149, 1, 97, 2), (6, .invokevirtual 293, 1, 104, 2), (9, .ireturn, 2, 1, 0)]
/-- LoneAdjective.tell(II)I -/
noncomputable def ab_c88 : List (Nat × ab_E) := [(0, .aload_n 0, 0, 0, 0), (1, .getfield 23, 0, 2, 9), (4, .iload_n 1, 0, 0, 0), (5, .invokevirtual 174, 1, 54, 2), (8, .ifCond .ne 6, 0, 14, 0), (11, .ldc 160, 0, 0, (-1000000001)), (13, .ireturn, 2, 1, 0), (14, .iload_n 2, 0, 0, 0), (15, .iconst 1, 0, 0, 0), (16, .if_icmp .lt 10, 0, 26, 0), (19, .iload_n 2, 0, 0, 0), (20, .sipush 999, 0, 0, 0), (23, .if_icmp .le 6, 0, 29, 0), (26, .ldc 95, 0, 0, (-1000000002)), (28, .ireturn, 2, 1, 0), (29, .aload_n 0, 0, 0, 0), (30, .getfield 70, 0, 11, 9), (33, .iload_n 1, 0, 0, 0), (34, .iload_n 2, 0, 0, 0), (35, .invokevirtual 300, 1, 13, 3), (38, .ifCond .eq 13, 0, 51, 0), (41, .aload_n 0, 0, 0, 0), (42, .getfield 70, 0, 11, 9), (45, .getfield 122, 0, 2, 3), (48, .goto 5, 0, 53, 0), (51, .ldc 103, 0, 0, (-1000000004)), (53, .ireturn, 2, 1, 0)]
/-- LoneAdjective.days()I -/
noncomputable def ab_c89 : List (Nat × ab_E) := [(0, .aload_n 0, 0, 0, 0), (1, .getfield 70, 0, 11, 9), (4, .aload_n 0, 0, 0, 0), (5, .getfield 23, 0, 2, 9), (8, .iconst 0, 0, 0, 0), (9, .invokevirtual 302, 1, 14, 3), (12, .aload_n 0, 0, 0, 0), (13, .getfield 70, 0, 11, 9), (16, .getfield 303, 0, 3, 3), (19, .ireturn, 2, 1, 0)]
/-- LoneAdjective.where(I)I -/
noncomputable def ab_c90 : List (Nat × ab_E) := [(0, .iload_n 1, 0, 0, 0), (1, .ifCond .lt 10, 0, 11, 0), (4, .iload_n 1, 0, 0, 0), (5, .sipush 999, 0, 0, 0), (8, .if_icmp .le 6, 0, 14, 0), (11, .ldc 95, 0, 0, (-1000000002)), (13, .ireturn, 2, 1, 0), (14, .aload_n 0, 0, 0, 0), (15, .getfield 70, 0, 11, 9), (18, .aload_n 0, 0, 0, 0), (19, .getfield 23, 0, 2, 9), (22, .iload_n 1, 0, 0, 0), (23, .invokevirtual 302, 1, 14, 3), (26, .aload_n 0, 0, 0, 0), (27, .getfield 70, 0, 11, 9), (30, .getfield 306, 0, 4, 3), (33, .ireturn, 2, 1, 0)]
/-- LoneAdjective.write(II)I -/
noncomputable def ab_c91 : List (Nat × ab_E) := [(0, .aload_n 0, 0, 0, 0), (1, .getfield 23, 0, 2, 9), (4, .iload_n 1, 0, 0, 0), (5, .invokevirtual 174, 1, 54, 2), (8, .ifCond .ne 6, 0, 14, 0), (11, .ldc 160, 0, 0, (-1000000001)), (13, .ireturn, 2, 1, 0), (14, .iload_n 2, 0, 0, 0), (15, .ifCond .lt 10, 0, 25, 0), (18, .iload_n 2, 0, 0, 0), (19, .ldc_w 307, 0, 0, 99999), (22, .if_icmp .le 6, 0, 28, 0), (25, .ldc 95, 0, 0, (-1000000002)), (27, .ireturn, 2, 1, 0), (28, .aload_n 0, 0, 0, 0), (29, .getfield 46, 0, 7, 9), (32, .iload_n 1, 0, 0, 0), (33, .iload_n 2, 0, 0, 0), (34, .invokevirtual 308, 1, 19, 3), (37, .ifCond .eq 13, 0, 50, 0), (40, .aload_n 0, 0, 0, 0), (41, .getfield 46, 0, 7, 9), (44, .getfield 125, 0, 0, 4), (47, .goto 5, 0, 52, 0), (50, .ldc 103, 0, 0, (-1000000004)), (52, .ireturn, 2, 1, 0)]
/-- LoneAdjective.judge()I -/
noncomputable def ab_c92 : List (Nat × ab_E) := [(0, .aload_n 0, 0, 0, 0), (1, .getfield 46, 0, 7, 9), (4, .aload_n 0, 0, 0, 0), (5, .getfield 33, 0, 4, 9), (8, .invokevirtual 309, 1, 20, 2), (11, .ireturn, 2, 1, 0)]
/-- LoneAdjective.tear()I -/
noncomputable def ab_c93 : List (Nat × ab_E) := [(0, .aload_n 0, 0, 0, 0), (1, .getfield 70, 0, 11, 9), (4, .getfield 122, 0, 2, 3), (7, .aload_n 0, 0, 0, 0), (8, .getfield 46, 0, 7, 9), (11, .getfield 125, 0, 0, 4), (14, .iadd, 0, 0, 0), (15, .istore_n 1, 0, 0, 0), (16, .aload_n 0, 0, 0, 0), (17, .getfield 70, 0, 11, 9), (20, .iconst 0, 0, 0, 0), (21, .putfield 122, 0, 2, 3), (24, .aload_n 0, 0, 0, 0), (25, .getfield 46, 0, 7, 9), (28, .iconst 0, 0, 0, 0), (29, .putfield 125, 0, 0, 4), (32, .iload_n 1, 0, 0, 0), (33, .ireturn, 2, 1, 0)]
/-- LoneAdjective.seed(I)I -/
noncomputable def ab_c94 : List (Nat × ab_E) := [(0, .iload_n 1, 0, 0, 0), (1, .ifCond .ge 6, 0, 7, 0), (4, .ldc 95, 0, 0, (-1000000002)), (6, .ireturn, 2, 1, 0), (7, .aload_n 0, 0, 0, 0), (8, .getfield 33, 0, 4, 9), (11, .getfield 313, 0, 3, 7), (14, .istore_n 2, 0, 0, 0), (15, .aload_n 0, 0, 0, 0), (16, .getfield 33, 0, 4, 9), (19, .iload_n 1, 0, 0, 0), (20, .putfield 313, 0, 3, 7), (23, .iload_n 2, 0, 0, 0), (24, .ireturn, 2, 1, 0)]
/-- LoneAdjective.keep(I)I -/
noncomputable def ab_c95 : List (Nat × ab_E) := [(0, .iload_n 1, 0, 0, 0), (1, .ifCond .lt 8, 0, 9, 0), (4, .iload_n 1, 0, 0, 0), (5, .iconst 1, 0, 0, 0), (6, .if_icmp .le 6, 0, 12, 0), (9, .ldc 160, 0, 0, (-1000000001)), (11, .ireturn, 2, 1, 0), (12, .iload_n 1, 0, 0, 0), (13, .ifCond .ne 10, 0, 23, 0), (16, .aload_n 0, 0, 0, 0), (17, .getfield 37, 0, 5, 9), (20, .goto 7, 0, 27, 0), (23, .aload_n 0, 0, 0, 0), (24, .getfield 40, 0, 6, 9), (27, .astore_n 2, 0, 0, 0), (28, .aload_n 2, 0, 0, 0), (29, .aload_n 0, 0, 0, 0), (30, .getfield 33, 0, 4, 9), (33, .invokevirtual 316, 1, 43, 2), (36, .aload_n 2, 0, 0, 0), (37, .iconst 1, 0, 0, 0), (38, .putfield 118, 0, 4, 7), (41, .iconst 1, 0, 0, 0), (42, .ireturn, 2, 1, 0)]
/-- LoneAdjective.goBack(I)I -/
noncomputable def ab_c96 : List (Nat × ab_E) := [(0, .iload_n 1, 0, 0, 0), (1, .ifCond .lt 8, 0, 9, 0), (4, .iload_n 1, 0, 0, 0), (5, .iconst 1, 0, 0, 0), (6, .if_icmp .le 6, 0, 12, 0), (9, .ldc 160, 0, 0, (-1000000001)), (11, .ireturn, 2, 1, 0), (12, .iload_n 1, 0, 0, 0), (13, .ifCond .ne 10, 0, 23, 0), (16, .aload_n 0, 0, 0, 0), (17, .getfield 37, 0, 5, 9), (20, .goto 7, 0, 27, 0), (23, .aload_n 0, 0, 0, 0), (24, .getfield 40, 0, 6, 9), (27, .astore_n 2, 0, 0, 0), (28, .aload_n 2, 0, 0, 0), (29, .getfield 118, 0, 4, 7), (32, .ifCond .ne 6, 0, 38, 0), (35, .ldc 217, 0, 0, (-1000000003)), (37, .ireturn, 2, 1, 0), (38, .aload_n 0, 0, 0, 0), (39, .getfield 33, 0, 4, 9), (42, .aload_n 2, 0, 0, 0), (43, .invokevirtual 316, 1, 43, 2), (46, .iconst 1, 0, 0, 0), (47, .ireturn, 2, 1, 0)]
/-- LoneAdjective.deedsThatAre(I)I -/
noncomputable def ab_c97 : List (Nat × ab_E) := [(0, .iconst 0, 0, 0, 0), (1, .istore_n 2, 0, 0, 0), (2, .iconst 0, 0, 0, 0), (3, .istore_n 3, 0, 0, 0), (4, .iload_n 3, 0, 0, 0), (5, .aload_n 0, 0, 0, 0), (6, .getfield 23, 0, 2, 9), (9, .getfield 128, 0, 3, 8), (12, .if_icmp .ge 31, 0, 43, 0), (15, .aload_n 0, 0, 0, 0), (16, .getfield 33, 0, 4, 9), (19, .aload_n 0, 0, 0, 0), (20, .getfield 23, 0, 2, 9), (23, .iload_n 3, 0, 0, 0), (24, .invokevirtual 192, 1, 44, 3), (27, .iload_n 1, 0, 0, 0), (28, .if_icmp .ne 9, 0, 37, 0), (31, .iload_n 2, 0, 0, 0), (32, .iconst 1, 0, 0, 0), (33, .iload_n 3, 0, 0, 0), (34, .ishl, 0, 0, 0), (35, .ior, 0, 0, 0), (36, .istore_n 2, 0, 0, 0), (37, .iinc 3 1, 0, 0, 0), (40, .goto (-36), 0, 4, 0), (43, .iload_n 2, 0, 0, 0), (44, .ireturn, 2, 1, 0)]
/-- LoneAdjective.driftOnce()V -/
noncomputable def ab_c98_0 : List (Nat × ab_E) := [(0, .aload_n 0, 0, 0, 0), (1, .getfield 33, 0, 4, 9), (4, .aload_n 0, 0, 0, 0), (5, .getfield 23, 0, 2, 9), (8, .getfield 134, 0, 2, 8), (11, .invokevirtual 320, 1, 48, 2), (14, .istore_n 1, 0, 0, 0), (15, .aload_n 0, 0, 0, 0), (16, .getfield 33, 0, 4, 9), (19, .aload_n 0, 0, 0, 0), (20, .getfield 23, 0, 2, 9), (23, .iload_n 1, 0, 0, 0), (24, .invokevirtual 213, 1, 45, 3), (27, .ifCond .eq 15, 0, 42, 0), (30, .aload_n 0, 0, 0, 0), (31, .getfield 33, 0, 4, 9), (34, .aload_n 0, 0, 0, 0), (35, .getfield 23, 0, 2, 9), (38, .iload_n 1, 0, 0, 0), (39, .invokevirtual 219, 1, 46, 3), (42, .aload_n 0, 0, 0, 0), (43, .iload_n 1, 0, 0, 0), (44, .invokevirtual 323, 1, 99, 2), (47, .istore_n 2, 0, 0, 0), (48, .iload_n 2, 0, 0, 0), (49, .iconst (-1), 0, 0, 0), (50, .if_icmp .eq 29, 0, 79, 0), (53, .aload_n 0, 0, 0, 0), (54, .getfield 33, 0, 4, 9), (57, .getfield 146, 0, 2, 7)]
noncomputable def ab_c98_1 : List (Nat × ab_E) := [(60, .iload_n 1, 0, 0, 0), (61, .if_icmp .ne 18, 0, 79, 0), (64, .aload_n 0, 0, 0, 0), (65, .getfield 33, 0, 4, 9), (68, .aload_n 0, 0, 0, 0), (69, .getfield 23, 0, 2, 9), (72, .iload_n 2, 0, 0, 0), (73, .invokevirtual 223, 1, 47, 3), (76, .goto 16, 0, 92, 0), (79, .aload_n 0, 0, 0, 0), (80, .getfield 33, 0, 4, 9), (83, .dup, 0, 0, 0), (84, .getfield 140, 0, 0, 7), (87, .iconst 1, 0, 0, 0), (88, .iadd, 0, 0, 0), (89, .putfield 140, 0, 0, 7), (92, .return_, 2, 0, 2)]
noncomputable def ab_c98 : List (Nat × ab_E) := List.append ab_c98_0 (ab_c98_1)
/-- LoneAdjective.firstOpenOf(I)I -/
noncomputable def ab_c99 : List (Nat × ab_E) := [(0, .iconst 0, 0, 0, 0), (1, .istore_n 2, 0, 0, 0), (2, .iload_n 2, 0, 0, 0), (3, .aload_n 0, 0, 0, 0), (4, .getfield 23, 0, 2, 9), (7, .getfield 128, 0, 3, 8), (10, .if_icmp .ge 39, 0, 49, 0), (13, .aload_n 0, 0, 0, 0), (14, .getfield 23, 0, 2, 9), (17, .getfield 177, 0, 9, 8), (20, .iload_n 2, 0, 0, 0), (21, .iaload, 0, 0, 0), (22, .iload_n 1, 0, 0, 0), (23, .if_icmp .ne 20, 0, 43, 0), (26, .aload_n 0, 0, 0, 0), (27, .getfield 33, 0, 4, 9), (30, .aload_n 0, 0, 0, 0), (31, .getfield 23, 0, 2, 9), (34, .iload_n 2, 0, 0, 0), (35, .invokevirtual 192, 1, 44, 3), (38, .ifCond .ne 5, 0, 43, 0), (41, .iload_n 2, 0, 0, 0), (42, .ireturn, 2, 1, 0), (43, .iinc 2 1, 0, 0, 0), (46, .goto (-44), 0, 2, 0), (49, .iconst (-1), 0, 0, 0), (50, .ireturn, 2, 1, 0)]
/-- LoneAdjective.mostBeside(II)I -/
noncomputable def ab_c100 : List (Nat × ab_E) := [(0, .iconst 0, 0, 0, 0), (1, .istore_n 3, 0, 0, 0), (2, .iconst 0, 0, 0, 0), (3, .istore 4, 0, 0, 0), (5, .iload 4, 0, 0, 0), (7, .iload_n 2, 0, 0, 0), (8, .if_icmp .gt 43, 0, 51, 0), (11, .iload 4, 0, 0, 0), (13, .iload_n 1, 0, 0, 0), (14, .iand, 0, 0, 0), (15, .ifCond .ne 30, 0, 45, 0), (18, .aload_n 0, 0, 0, 0), (19, .getfield 64, 0, 10, 9), (22, .getfield 245, 0, 2, 5), (25, .iload 4, 0, 0, 0), (27, .baload, 0, 0, 0), (28, .ifCond .eq 17, 0, 45, 0), (31, .iload_n 3, 0, 0, 0), (32, .aload_n 0, 0, 0, 0), (33, .getfield 23, 0, 2, 9), (36, .iload 4, 0, 0, 0), (38, .invokevirtual 153, 1, 60, 2), (41, .invokestatic 252, 0, 902, 2), (44, .istore_n 3, 0, 0, 0), (45, .iinc 4 1, 0, 0, 0), (48, .goto (-43), 0, 5, 0), (51, .iload_n 3, 0, 0, 0), (52, .ireturn, 2, 1, 0)]
/-- LoneAdjective.sellMinute()V -/
noncomputable def ab_c101_0 : List (Nat × ab_E) := [(0, .aload_n 0, 0, 0, 0), (1, .iconst (-1), 0, 0, 0), (2, .invokevirtual 326, 1, 103, 2), (5, .istore_n 1, 0, 0, 0), (6, .iload_n 1, 0, 0, 0), (7, .iconst (-1), 0, 0, 0), (8, .if_icmp .ne 4, 0, 12, 0), (11, .return_, 2, 0, 2), (12, .aload_n 0, 0, 0, 0), (13, .iload_n 1, 0, 0, 0), (14, .invokevirtual 326, 1, 103, 2), (17, .istore_n 2, 0, 0, 0), (18, .aload_n 0, 0, 0, 0), (19, .getfield 92, 0, 15, 9), (22, .iload_n 1, 0, 0, 0), (23, .dup2, 0, 0, 0), (24, .iaload, 0, 0, 0), (25, .iload_n 2, 0, 0, 0), (26, .iconst (-1), 0, 0, 0), (27, .if_icmp .ne 7, 0, 34, 0), (30, .iconst 0, 0, 0, 0), (31, .goto 8, 0, 39, 0), (34, .aload_n 0, 0, 0, 0), (35, .iload_n 2, 0, 0, 0), (36, .invokevirtual 329, 1, 102, 2), (39, .iadd, 0, 0, 0), (40, .iastore, 0, 0, 0), (41, .aload_n 0, 0, 0, 0), (42, .getfield 88, 0, 14, 9), (45, .iload_n 1, 0, 0, 0)]
noncomputable def ab_c101_1 : List (Nat × ab_E) := [(46, .dup2, 0, 0, 0), (47, .iaload, 0, 0, 0), (48, .iconst 1, 0, 0, 0), (49, .iadd, 0, 0, 0), (50, .iastore, 0, 0, 0), (51, .return_, 2, 0, 2)]
noncomputable def ab_c101 : List (Nat × ab_E) := List.append ab_c101_0 (ab_c101_1)
/-- LoneAdjective.bidOf(I)I -/
noncomputable def ab_c102 : List (Nat × ab_E) := [(0, .iconst 0, 0, 0, 0), (1, .aload_n 0, 0, 0, 0), (2, .getfield 23, 0, 2, 9), (5, .getfield 171, 0, 8, 8), (8, .iload_n 1, 0, 0, 0), (9, .iaload, 0, 0, 0), (10, .aload_n 0, 0, 0, 0), (11, .getfield 88, 0, 14, 9), (14, .iload_n 1, 0, 0, 0), (15, .iaload, 0, 0, 0), (16, .isub, 0, 0, 0), (17, .invokestatic 252, 0, 902, 2), (20, .ireturn, 2, 1, 0)]
/-- LoneAdjective.highestBidder(I)I -/
noncomputable def ab_c103 : List (Nat × ab_E) := [(0, .iconst (-1), 0, 0, 0), (1, .istore_n 2, 0, 0, 0), (2, .iconst 0, 0, 0, 0), (3, .istore_n 3, 0, 0, 0), (4, .iload_n 3, 0, 0, 0), (5, .aload_n 0, 0, 0, 0), (6, .getfield 23, 0, 2, 9), (9, .getfield 134, 0, 2, 8), (12, .if_icmp .ge 34, 0, 46, 0), (15, .iload_n 3, 0, 0, 0), (16, .iload_n 1, 0, 0, 0), (17, .if_icmp .eq 23, 0, 40, 0), (20, .iload_n 2, 0, 0, 0), (21, .iconst (-1), 0, 0, 0), (22, .if_icmp .eq 16, 0, 38, 0), (25, .aload_n 0, 0, 0, 0), (26, .iload_n 3, 0, 0, 0), (27, .invokevirtual 329, 1, 102, 2), (30, .aload_n 0, 0, 0, 0), (31, .iload_n 2, 0, 0, 0), (32, .invokevirtual 329, 1, 102, 2), (35, .if_icmp .le 5, 0, 40, 0), (38, .iload_n 3, 0, 0, 0), (39, .istore_n 2, 0, 0, 0), (40, .iinc 3 1, 0, 0, 0), (43, .goto (-39), 0, 4, 0), (46, .iload_n 2, 0, 0, 0), (47, .ireturn, 2, 1, 0)]
/-- LoneAdjective.wordForMost(I)I -/
noncomputable def ab_c104_0 : List (Nat × ab_E) := [(0, .iconst (-1), 0, 0, 0), (1, .istore_n 2, 0, 0, 0), (2, .iconst (-1), 0, 0, 0), (3, .istore_n 3, 0, 0, 0), (4, .iconst 0, 0, 0, 0), (5, .istore 4, 0, 0, 0), (7, .iload 4, 0, 0, 0), (9, .aload_n 0, 0, 0, 0), (10, .getfield 23, 0, 2, 9), (13, .getfield 137, 0, 4, 8), (16, .if_icmp .ge 42, 0, 58, 0), (19, .aload_n 0, 0, 0, 0), (20, .getfield 23, 0, 2, 9), (23, .iload_n 1, 0, 0, 0), (24, .aload_n 0, 0, 0, 0), (25, .getfield 23, 0, 2, 9), (28, .getfield 210, 0, 15, 8), (31, .iload 4, 0, 0, 0), (33, .iaload, 0, 0, 0), (34, .iand, 0, 0, 0), (35, .invokevirtual 153, 1, 60, 2), (38, .istore 5, 0, 0, 0), (40, .iload 5, 0, 0, 0), (42, .iload_n 3, 0, 0, 0), (43, .if_icmp .le 9, 0, 52, 0), (46, .iload 4, 0, 0, 0), (48, .istore_n 2, 0, 0, 0), (49, .iload 5, 0, 0, 0), (51, .istore_n 3, 0, 0, 0), (52, .iinc 4 1, 0, 0, 0)]
noncomputable def ab_c104_1 : List (Nat × ab_E) := [(55, .goto (-48), 0, 7, 0), (58, .iload_n 2, 0, 0, 0), (59, .ireturn, 2, 1, 0)]
noncomputable def ab_c104 : List (Nat × ab_E) := List.append ab_c104_0 (ab_c104_1)
/-- LoneAdjective.mostVoted()I -/
noncomputable def ab_c105 : List (Nat × ab_E) := [(0, .iconst (-1), 0, 0, 0), (1, .istore_n 1, 0, 0, 0), (2, .iconst 0, 0, 0, 0), (3, .istore_n 2, 0, 0, 0), (4, .iconst 0, 0, 0, 0), (5, .istore_n 3, 0, 0, 0), (6, .iload_n 3, 0, 0, 0), (7, .aload_n 0, 0, 0, 0), (8, .getfield 23, 0, 2, 9), (11, .getfield 137, 0, 4, 8), (14, .if_icmp .ge 28, 0, 42, 0), (17, .aload_n 0, 0, 0, 0), (18, .getfield 88, 0, 14, 9), (21, .iload_n 3, 0, 0, 0), (22, .iaload, 0, 0, 0), (23, .iload_n 2, 0, 0, 0), (24, .if_icmp .le 12, 0, 36, 0), (27, .iload_n 3, 0, 0, 0), (28, .istore_n 1, 0, 0, 0), (29, .aload_n 0, 0, 0, 0), (30, .getfield 88, 0, 14, 9), (33, .iload_n 3, 0, 0, 0), (34, .iaload, 0, 0, 0), (35, .istore_n 2, 0, 0, 0), (36, .iinc 3 1, 0, 0, 0), (39, .goto (-33), 0, 6, 0), (42, .iload_n 1, 0, 0, 0), (43, .ireturn, 2, 1, 0)]
/-- LoneAdjectiveModel.<init>()V -/
noncomputable def ab_c106_0 : List (Nat × ab_E) := [(0, .aload_n 0, 0, 0, 0), (1, .invokespecial 1, 0, 900, 1), (4, .aload_n 0, 0, 0, 0), (5, .sipush 250, 0, 0, 0), (8, .newarray .int, 0, 0, 20), (10, .putfield 7, 0, 0, 10), (13, .aload_n 0, 0, 0, 0), (14, .iconst (-1), 0, 0, 0), (15, .putfield 13, 0, 2, 10), (18, .aload_n 0, 0, 0, 0), (19, .bipush 49, 0, 0, 0), (21, .newarray .int, 0, 0, 20), (23, .putfield 17, 0, 5, 10), (26, .aload_n 0, 0, 0, 0), (27, .bipush 49, 0, 0, 0), (29, .newarray .boolean, 0, 0, 21), (31, .putfield 20, 0, 6, 10), (34, .aload_n 0, 0, 0, 0), (35, .bipush 6, 0, 0, 0), (37, .newarray .int, 0, 0, 20), (39, .putfield 24, 0, 7, 10), (42, .aload_n 0, 0, 0, 0), (43, .bipush 6, 0, 0, 0), (45, .newarray .int, 0, 0, 20), (47, .putfield 27, 0, 8, 10), (50, .aload_n 0, 0, 0, 0), (51, .bipush 30, 0, 0, 0), (53, .newarray .int, 0, 0, 20), (55, .putfield 30, 0, 10, 10), (58, .aload_n 0, 0, 0, 0)]
noncomputable def ab_c106_1 : List (Nat × ab_E) := [(59, .bipush 36, 0, 0, 0), (61, .newarray .int, 0, 0, 20), (63, .putfield 33, 0, 12, 10), (66, .aload_n 0, 0, 0, 0), (67, .iconst 4, 0, 0, 0), (68, .newarray .int, 0, 0, 20), (70, .putfield 36, 0, 13, 10), (73, .aload_n 0, 0, 0, 0), (74, .bipush 10, 0, 0, 0), (76, .newarray .int, 0, 0, 20), (78, .putfield 39, 0, 15, 10), (81, .aload_n 0, 0, 0, 0), (82, .bipush 12, 0, 0, 0), (84, .newarray .int, 0, 0, 20), (86, .putfield 42, 0, 16, 10), (89, .aload_n 0, 0, 0, 0), (90, .bipush 30, 0, 0, 0), (92, .newarray .int, 0, 0, 20), (94, .putfield 45, 0, 18, 10), (97, .aload_n 0, 0, 0, 0), (98, .bipush 49, 0, 0, 0), (100, .newarray .int, 0, 0, 20), (102, .putfield 48, 0, 27, 10), (105, .aload_n 0, 0, 0, 0), (106, .bipush 12, 0, 0, 0), (108, .newarray .int, 0, 0, 20), (110, .putfield 51, 0, 29, 10), (113, .aload_n 0, 0, 0, 0), (114, .bipush 30, 0, 0, 0), (116, .newarray .int, 0, 0, 20)]
noncomputable def ab_c106_2 : List (Nat × ab_E) := [(118, .putfield 54, 0, 31, 10), (121, .aload_n 0, 0, 0, 0), (122, .bipush 36, 0, 0, 0), (124, .newarray .int, 0, 0, 20), (126, .putfield 57, 0, 33, 10), (129, .aload_n 0, 0, 0, 0), (130, .iconst 4, 0, 0, 0), (131, .newarray .int, 0, 0, 20), (133, .putfield 60, 0, 35, 10), (136, .aload_n 0, 0, 0, 0), (137, .sipush 384, 0, 0, 0), (140, .newarray .int, 0, 0, 20), (142, .putfield 63, 0, 37, 10), (145, .aload_n 0, 0, 0, 0), (146, .bipush 6, 0, 0, 0), (148, .newarray .int, 0, 0, 20), (150, .putfield 66, 0, 38, 10), (153, .aload_n 0, 0, 0, 0), (154, .bipush 6, 0, 0, 0), (156, .newarray .int, 0, 0, 20), (158, .putfield 69, 0, 39, 10), (161, .aload_n 0, 0, 0, 0), (162, .bipush 64, 0, 0, 0), (164, .newarray .boolean, 0, 0, 21), (166, .putfield 72, 0, 40, 10), (169, .aload_n 0, 0, 0, 0), (170, .bipush 6, 0, 0, 0), (172, .newarray .int, 0, 0, 20), (174, .putfield 75, 0, 41, 10), (177, .aload_n 0, 0, 0, 0)]
noncomputable def ab_c106_3 : List (Nat × ab_E) := [(178, .bipush 6, 0, 0, 0), (180, .newarray .int, 0, 0, 20), (182, .putfield 78, 0, 42, 10), (185, .aload_n 0, 0, 0, 0), (186, .bipush 49, 0, 0, 0), (188, .newarray .int, 0, 0, 20), (190, .putfield 81, 0, 43, 10), (193, .aload_n 0, 0, 0, 0), (194, .bipush 49, 0, 0, 0), (196, .newarray .int, 0, 0, 20), (198, .putfield 84, 0, 44, 10), (201, .aload_n 0, 0, 0, 0), (202, .bipush 6, 0, 0, 0), (204, .newarray .int, 0, 0, 20), (206, .putfield 87, 0, 45, 10), (209, .aload_n 0, 0, 0, 0), (210, .bipush 6, 0, 0, 0), (212, .newarray .int, 0, 0, 20), (214, .putfield 90, 0, 46, 10), (217, .aload_n 0, 0, 0, 0), (218, .iconst 2, 0, 0, 0), (219, .newarray .boolean, 0, 0, 21), (221, .putfield 93, 0, 48, 10), (224, .aload_n 0, 0, 0, 0), (225, .bipush 20, 0, 0, 0), (227, .newarray .int, 0, 0, 20), (229, .putfield 96, 0, 49, 10), (232, .iconst 0, 0, 0, 0), (233, .istore_n 1, 0, 0, 0), (234, .iload_n 1, 0, 0, 0)]
noncomputable def ab_c106_4 : List (Nat × ab_E) := [(235, .bipush 6, 0, 0, 0), (237, .if_icmp .ge 18, 0, 255, 0), (240, .aload_n 0, 0, 0, 0), (241, .getfield 39, 0, 15, 10), (244, .iconst 4, 0, 0, 0), (245, .iload_n 1, 0, 0, 0), (246, .iadd, 0, 0, 0), (247, .iconst (-1), 0, 0, 0), (248, .iastore, 0, 0, 0), (249, .iinc 1 1, 0, 0, 0), (252, .goto (-18), 0, 234, 0), (255, .aload_n 0, 0, 0, 0), (256, .getfield 39, 0, 15, 10), (259, .iconst 2, 0, 0, 0), (260, .iconst (-1), 0, 0, 0), (261, .iastore, 0, 0, 0), (262, .return_, 2, 0, 2)]
noncomputable def ab_c106 : List (Nat × ab_E) := List.append ab_c106_0 (List.append ab_c106_1 (List.append ab_c106_2 (List.append ab_c106_3 (ab_c106_4))))
/-- LoneAdjectiveModel.in(JJJ)Z -/
noncomputable def ab_c107 : List (Nat × ab_E) := [(0, .lload_n 0, 0, 0, 0), (1, .lload_n 2, 0, 0, 0), (2, .lcmp, 0, 0, 0), (3, .ifCond .lt 14, 0, 17, 0), (6, .lload_n 0, 0, 0, 0), (7, .lload 4, 0, 0, 0), (9, .lcmp, 0, 0, 0), (10, .ifCond .gt 7, 0, 17, 0), (13, .iconst 1, 0, 0, 0), (14, .goto 4, 0, 18, 0), (17, .iconst 0, 0, 0, 0), (18, .ireturn, 2, 1, 1)]
/-- LoneAdjectiveModel.has(II)Z -/
noncomputable def ab_c108 : List (Nat × ab_E) := [(0, .iload_n 0, 0, 0, 0), (1, .iload_n 1, 0, 0, 0), (2, .ishr, 0, 0, 0), (3, .iconst 1, 0, 0, 0), (4, .iand, 0, 0, 0), (5, .iconst 1, 0, 0, 0), (6, .if_icmp .ne 7, 0, 13, 0), (9, .iconst 1, 0, 0, 0), (10, .goto 4, 0, 14, 0), (13, .iconst 0, 0, 0, 0), (14, .ireturn, 2, 1, 1)]
/-- LoneAdjectiveModel.isSquare(I)Z -/
noncomputable def ab_c109 : List (Nat × ab_E) := [(0, .iload_n 1, 0, 0, 0), (1, .i2l, 0, 0, 0), (2, .lconst 0, 0, 0, 0), (3, .aload_n 0, 0, 0, 0), (4, .getfield 99, 0, 3, 10), (7, .iconst 1, 0, 0, 0), (8, .isub, 0, 0, 0), (9, .i2l, 0, 0, 0), (10, .invokestatic 102, 1, 107, 3), (13, .ireturn, 2, 1, 1)]
/-- LoneAdjectiveModel.isPerson(I)Z -/
noncomputable def ab_c110 : List (Nat × ab_E) := [(0, .iload_n 1, 0, 0, 0), (1, .i2l, 0, 0, 0), (2, .lconst 0, 0, 0, 0), (3, .aload_n 0, 0, 0, 0), (4, .getfield 106, 0, 9, 10), (7, .iconst 1, 0, 0, 0), (8, .isub, 0, 0, 0), (9, .i2l, 0, 0, 0), (10, .invokestatic 102, 1, 107, 3), (13, .ireturn, 2, 1, 1)]
/-- LoneAdjectiveModel.isDeed(I)Z -/
noncomputable def ab_c111 : List (Nat × ab_E) := [(0, .iload_n 1, 0, 0, 0), (1, .i2l, 0, 0, 0), (2, .lconst 0, 0, 0, 0), (3, .aload_n 0, 0, 0, 0), (4, .getfield 109, 0, 11, 10), (7, .iconst 1, 0, 0, 0), (8, .isub, 0, 0, 0), (9, .i2l, 0, 0, 0), (10, .invokestatic 102, 1, 107, 3), (13, .ireturn, 2, 1, 1)]
/-- LoneAdjectiveModel.feed(I)I -/
noncomputable def ab_c112 : List (Nat × ab_E) := [(0, .iload_n 1, 0, 0, 0), (1, .i2l, 0, 0, 0), (2, .lconst 0, 0, 0, 0), (3, .ldc2_w 112, 0, 0, 255), (6, .invokestatic 102, 1, 107, 3), (9, .ifCond .ne 6, 0, 15, 0), (12, .ldc 114, 0, 0, (-1000000002)), (14, .ireturn, 2, 1, 0), (15, .aload_n 0, 0, 0, 0), (16, .getfield 115, 0, 1, 10), (19, .sipush 250, 0, 0, 0), (22, .if_icmp .ne 6, 0, 28, 0), (25, .ldc 118, 0, 0, (-1000000004)), (27, .ireturn, 2, 1, 0), (28, .aload_n 0, 0, 0, 0), (29, .getfield 7, 0, 0, 10), (32, .aload_n 0, 0, 0, 0), (33, .getfield 115, 0, 1, 10), (36, .iload_n 1, 0, 0, 0), (37, .iastore, 0, 0, 0), (38, .aload_n 0, 0, 0, 0), (39, .dup, 0, 0, 0), (40, .getfield 115, 0, 1, 10), (43, .iconst 1, 0, 0, 0), (44, .iadd, 0, 0, 0), (45, .putfield 115, 0, 1, 10), (48, .aload_n 0, 0, 0, 0), (49, .getfield 115, 0, 1, 10), (52, .ireturn, 2, 1, 0)]
/-- LoneAdjectiveModel.nextToken()V -/
noncomputable def ab_c113_0 : List (Nat × ab_E) := [(0, .aload_n 0, 0, 0, 0), (1, .getfield 119, 0, 20, 10), (4, .aload_n 0, 0, 0, 0), (5, .getfield 115, 0, 1, 10), (8, .if_icmp .ge 30, 0, 38, 0), (11, .aload_n 0, 0, 0, 0), (12, .getfield 7, 0, 0, 10), (15, .aload_n 0, 0, 0, 0), (16, .getfield 119, 0, 20, 10), (19, .iaload, 0, 0, 0), (20, .bipush 32, 0, 0, 0), (22, .if_icmp .ne 16, 0, 38, 0), (25, .aload_n 0, 0, 0, 0), (26, .dup, 0, 0, 0), (27, .getfield 119, 0, 20, 10), (30, .iconst 1, 0, 0, 0), (31, .iadd, 0, 0, 0), (32, .putfield 119, 0, 20, 10), (35, .goto (-35), 0, 0, 0), (38, .aload_n 0, 0, 0, 0), (39, .aload_n 0, 0, 0, 0), (40, .getfield 119, 0, 20, 10), (43, .putfield 122, 0, 23, 10), (46, .aload_n 0, 0, 0, 0), (47, .aload_n 0, 0, 0, 0), (48, .getfield 119, 0, 20, 10), (51, .aload_n 0, 0, 0, 0), (52, .getfield 115, 0, 1, 10), (55, .if_icmp .ne 7, 0, 62, 0), (58, .iconst 3, 0, 0, 0)]
noncomputable def ab_c113_1 : List (Nat × ab_E) := [(59, .goto 4, 0, 63, 0), (62, .iconst 0, 0, 0, 0), (63, .putfield 125, 0, 21, 10), (66, .aload_n 0, 0, 0, 0), (67, .iconst 0, 0, 0, 0), (68, .putfield 128, 0, 22, 10), (71, .aload_n 0, 0, 0, 0), (72, .getfield 119, 0, 20, 10), (75, .aload_n 0, 0, 0, 0), (76, .getfield 115, 0, 1, 10), (79, .if_icmp .ge 84, 0, 163, 0), (82, .aload_n 0, 0, 0, 0), (83, .getfield 7, 0, 0, 10), (86, .aload_n 0, 0, 0, 0), (87, .getfield 119, 0, 20, 10), (90, .iaload, 0, 0, 0), (91, .i2l, 0, 0, 0), (92, .ldc2_w 131, 0, 0, 48), (95, .ldc2_w 133, 0, 0, 57), (98, .invokestatic 102, 1, 107, 3), (101, .ifCond .eq 62, 0, 163, 0), (104, .aload_n 0, 0, 0, 0), (105, .aload_n 0, 0, 0, 0), (106, .getfield 128, 0, 22, 10), (109, .sipush 9999, 0, 0, 0), (112, .if_icmp .le 10, 0, 122, 0), (115, .aload_n 0, 0, 0, 0), (116, .getfield 128, 0, 22, 10), (119, .goto 23, 0, 142, 0), (122, .bipush 10, 0, 0, 0)]
noncomputable def ab_c113_2 : List (Nat × ab_E) := [(124, .aload_n 0, 0, 0, 0), (125, .getfield 128, 0, 22, 10), (128, .imul, 0, 0, 0), (129, .aload_n 0, 0, 0, 0), (130, .getfield 7, 0, 0, 10), (133, .aload_n 0, 0, 0, 0), (134, .getfield 119, 0, 20, 10), (137, .iaload, 0, 0, 0), (138, .iadd, 0, 0, 0), (139, .bipush 48, 0, 0, 0), (141, .isub, 0, 0, 0), (142, .putfield 128, 0, 22, 10), (145, .aload_n 0, 0, 0, 0), (146, .iconst 2, 0, 0, 0), (147, .putfield 125, 0, 21, 10), (150, .aload_n 0, 0, 0, 0), (151, .dup, 0, 0, 0), (152, .getfield 119, 0, 20, 10), (155, .iconst 1, 0, 0, 0), (156, .iadd, 0, 0, 0), (157, .putfield 119, 0, 20, 10), (160, .goto (-89), 0, 71, 0), (163, .aload_n 0, 0, 0, 0), (164, .getfield 125, 0, 21, 10), (167, .iconst 2, 0, 0, 0), (168, .if_icmp .ne 22, 0, 190, 0), (171, .aload_n 0, 0, 0, 0), (172, .getfield 119, 0, 20, 10), (175, .aload_n 0, 0, 0, 0), (176, .getfield 122, 0, 23, 10)]
noncomputable def ab_c113_3 : List (Nat × ab_E) := [(179, .isub, 0, 0, 0), (180, .iconst 3, 0, 0, 0), (181, .if_icmp .le 9, 0, 190, 0), (184, .aload_n 0, 0, 0, 0), (185, .ldc 135, 0, 0, 1000000), (187, .putfield 128, 0, 22, 10), (190, .aload_n 0, 0, 0, 0), (191, .getfield 125, 0, 21, 10), (194, .ifCond .ne 31, 0, 225, 0), (197, .aload_n 0, 0, 0, 0), (198, .iconst 1, 0, 0, 0), (199, .putfield 125, 0, 21, 10), (202, .aload_n 0, 0, 0, 0), (203, .aload_n 0, 0, 0, 0), (204, .getfield 7, 0, 0, 10), (207, .aload_n 0, 0, 0, 0), (208, .getfield 119, 0, 20, 10), (211, .iaload, 0, 0, 0), (212, .putfield 128, 0, 22, 10), (215, .aload_n 0, 0, 0, 0), (216, .dup, 0, 0, 0), (217, .getfield 119, 0, 20, 10), (220, .iconst 1, 0, 0, 0), (221, .iadd, 0, 0, 0), (222, .putfield 119, 0, 20, 10), (225, .return_, 2, 0, 2)]
noncomputable def ab_c113 : List (Nat × ab_E) := List.append ab_c113_0 (List.append ab_c113_1 (List.append ab_c113_2 (ab_c113_3)))
/-- LoneAdjectiveModel.faults(I)Z -/
noncomputable def ab_c114 : List (Nat × ab_E) := [(0, .aload_n 0, 0, 0, 0), (1, .iload_n 1, 0, 0, 0), (2, .putfield 136, 0, 24, 10), (5, .iconst 0, 0, 0, 0), (6, .ireturn, 2, 1, 1)]
/-- LoneAdjectiveModel.takes(I)Z -/
noncomputable def ab_c115 : List (Nat × ab_E) := [(0, .aload_n 0, 0, 0, 0), (1, .getfield 125, 0, 21, 10), (4, .iconst 1, 0, 0, 0), (5, .if_icmp .ne 11, 0, 16, 0), (8, .aload_n 0, 0, 0, 0), (9, .getfield 128, 0, 22, 10), (12, .iload_n 1, 0, 0, 0), (13, .if_icmp .eq 9, 0, 22, 0), (16, .aload_n 0, 0, 0, 0), (17, .iconst 1, 0, 0, 0), (18, .invokevirtual 139, 1, 114, 2), (21, .ireturn, 2, 1, 1), (22, .aload_n 0, 0, 0, 0), (23, .invokevirtual 143, 1, 113, 1), (26, .iconst 1, 0, 0, 0), (27, .ireturn, 2, 1, 1)]
/-- LoneAdjectiveModel.isNumber(II)Z -/
noncomputable def ab_c116 : List (Nat × ab_E) := [(0, .aload_n 0, 0, 0, 0), (1, .getfield 125, 0, 21, 10), (4, .iconst 2, 0, 0, 0), (5, .if_icmp .ne 34, 0, 39, 0), (8, .aload_n 0, 0, 0, 0), (9, .getfield 128, 0, 22, 10), (12, .i2l, 0, 0, 0), (13, .iload_n 1, 0, 0, 0), (14, .i2l, 0, 0, 0), (15, .iload_n 2, 0, 0, 0), (16, .i2l, 0, 0, 0), (17, .invokestatic 102, 1, 107, 3), (20, .ifCond .ne 11, 0, 31, 0), (23, .aload_n 0, 0, 0, 0), (24, .iconst 2, 0, 0, 0), (25, .invokevirtual 139, 1, 114, 2), (28, .ifCond .eq 7, 0, 35, 0), (31, .iconst 1, 0, 0, 0), (32, .goto 12, 0, 44, 0), (35, .iconst 0, 0, 0, 0), (36, .goto 8, 0, 44, 0), (39, .aload_n 0, 0, 0, 0), (40, .iconst 1, 0, 0, 0), (41, .invokevirtual 139, 1, 114, 2), (44, .ireturn, 2, 1, 1)]
/-- LoneAdjectiveModel.taken()I -/
noncomputable def ab_c117 : List (Nat × ab_E) := [(0, .aload_n 0, 0, 0, 0), (1, .getfield 128, 0, 22, 10), (4, .istore_n 1, 0, 0, 0), (5, .aload_n 0, 0, 0, 0), (6, .invokevirtual 143, 1, 113, 1), (9, .iload_n 1, 0, 0, 0), (10, .ireturn, 2, 1, 0)]
/-- LoneAdjectiveModel.readWay()Z -/
noncomputable def ab_c118_0 : List (Nat × ab_E) := [(0, .aload_n 0, 0, 0, 0), (1, .getfield 146, 0, 28, 10), (4, .bipush 10, 0, 0, 0), (6, .if_icmp .ne 9, 0, 15, 0), (9, .aload_n 0, 0, 0, 0), (10, .iconst 3, 0, 0, 0), (11, .invokevirtual 139, 1, 114, 2), (14, .ireturn, 2, 1, 1), (15, .aload_n 0, 0, 0, 0), (16, .invokevirtual 143, 1, 113, 1), (19, .aload_n 0, 0, 0, 0), (20, .iconst 0, 0, 0, 0), (21, .aload_n 0, 0, 0, 0), (22, .getfield 149, 0, 25, 10), (25, .iconst 1, 0, 0, 0), (26, .isub, 0, 0, 0), (27, .invokevirtual 152, 1, 116, 3), (30, .ifCond .ne 5, 0, 35, 0), (33, .iconst 0, 0, 0, 0), (34, .ireturn, 2, 1, 1), (35, .aload_n 0, 0, 0, 0), (36, .invokevirtual 156, 1, 117, 1), (39, .istore_n 1, 0, 0, 0), (40, .aload_n 0, 0, 0, 0), (41, .iconst 0, 0, 0, 0), (42, .aload_n 0, 0, 0, 0), (43, .getfield 149, 0, 25, 10), (46, .iconst 1, 0, 0, 0), (47, .isub, 0, 0, 0), (48, .invokevirtual 152, 1, 116, 3)]
noncomputable def ab_c118_1 : List (Nat × ab_E) := [(51, .ifCond .eq 36, 0, 87, 0), (54, .iload_n 1, 0, 0, 0), (55, .aload_n 0, 0, 0, 0), (56, .getfield 128, 0, 22, 10), (59, .if_icmp .eq 20, 0, 79, 0), (62, .aload_n 0, 0, 0, 0), (63, .getfield 48, 0, 27, 10), (66, .bipush 7, 0, 0, 0), (68, .iload_n 1, 0, 0, 0), (69, .imul, 0, 0, 0), (70, .aload_n 0, 0, 0, 0), (71, .getfield 128, 0, 22, 10), (74, .iadd, 0, 0, 0), (75, .iaload, 0, 0, 0), (76, .ifCond .le 13, 0, 89, 0), (79, .aload_n 0, 0, 0, 0), (80, .iconst 4, 0, 0, 0), (81, .invokevirtual 139, 1, 114, 2), (84, .ifCond .ne 5, 0, 89, 0), (87, .iconst 0, 0, 0, 0), (88, .ireturn, 2, 1, 1), (89, .aload_n 0, 0, 0, 0), (90, .invokevirtual 156, 1, 117, 1), (93, .istore_n 2, 0, 0, 0), (94, .aload_n 0, 0, 0, 0), (95, .iconst 1, 0, 0, 0), (96, .bipush 30, 0, 0, 0), (98, .invokevirtual 152, 1, 116, 3), (101, .ifCond .ne 5, 0, 106, 0), (104, .iconst 0, 0, 0, 0)]
noncomputable def ab_c118_2 : List (Nat × ab_E) := [(105, .ireturn, 2, 1, 1), (106, .aload_n 0, 0, 0, 0), (107, .getfield 48, 0, 27, 10), (110, .bipush 7, 0, 0, 0), (112, .iload_n 1, 0, 0, 0), (113, .imul, 0, 0, 0), (114, .iload_n 2, 0, 0, 0), (115, .iadd, 0, 0, 0), (116, .aload_n 0, 0, 0, 0), (117, .getfield 128, 0, 22, 10), (120, .iastore, 0, 0, 0), (121, .aload_n 0, 0, 0, 0), (122, .getfield 48, 0, 27, 10), (125, .bipush 7, 0, 0, 0), (127, .iload_n 2, 0, 0, 0), (128, .imul, 0, 0, 0), (129, .iload_n 1, 0, 0, 0), (130, .iadd, 0, 0, 0), (131, .aload_n 0, 0, 0, 0), (132, .invokevirtual 156, 1, 117, 1), (135, .iastore, 0, 0, 0), (136, .aload_n 0, 0, 0, 0), (137, .dup, 0, 0, 0), (138, .getfield 146, 0, 28, 10), (141, .iconst 1, 0, 0, 0), (142, .iadd, 0, 0, 0), (143, .putfield 146, 0, 28, 10), (146, .aload_n 0, 0, 0, 0), (147, .bipush 59, 0, 0, 0), (149, .invokevirtual 160, 1, 115, 2)]
noncomputable def ab_c118_3 : List (Nat × ab_E) := [(152, .ireturn, 2, 1, 1)]
noncomputable def ab_c118 : List (Nat × ab_E) := List.append ab_c118_0 (List.append ab_c118_1 (List.append ab_c118_2 (ab_c118_3)))
/-- LoneAdjectiveModel.readPerson()Z -/
noncomputable def ab_c119_0 : List (Nat × ab_E) := [(0, .aload_n 0, 0, 0, 0), (1, .getfield 163, 0, 30, 10), (4, .bipush 6, 0, 0, 0), (6, .if_icmp .ne 9, 0, 15, 0), (9, .aload_n 0, 0, 0, 0), (10, .iconst 3, 0, 0, 0), (11, .invokevirtual 139, 1, 114, 2), (14, .ireturn, 2, 1, 1), (15, .aload_n 0, 0, 0, 0), (16, .invokevirtual 143, 1, 113, 1), (19, .aload_n 0, 0, 0, 0), (20, .iconst 0, 0, 0, 0), (21, .aload_n 0, 0, 0, 0), (22, .getfield 149, 0, 25, 10), (25, .iconst 1, 0, 0, 0), (26, .isub, 0, 0, 0), (27, .invokevirtual 152, 1, 116, 3), (30, .ifCond .ne 5, 0, 35, 0), (33, .iconst 0, 0, 0, 0), (34, .ireturn, 2, 1, 1), (35, .aload_n 0, 0, 0, 0), (36, .getfield 51, 0, 29, 10), (39, .iconst 2, 0, 0, 0), (40, .aload_n 0, 0, 0, 0), (41, .getfield 163, 0, 30, 10), (44, .imul, 0, 0, 0), (45, .aload_n 0, 0, 0, 0), (46, .invokevirtual 156, 1, 117, 1), (49, .iastore, 0, 0, 0), (50, .aload_n 0, 0, 0, 0)]
noncomputable def ab_c119_1 : List (Nat × ab_E) := [(51, .iconst 0, 0, 0, 0), (52, .bipush 99, 0, 0, 0), (54, .invokevirtual 152, 1, 116, 3), (57, .ifCond .ne 5, 0, 62, 0), (60, .iconst 0, 0, 0, 0), (61, .ireturn, 2, 1, 1), (62, .aload_n 0, 0, 0, 0), (63, .getfield 51, 0, 29, 10), (66, .iconst 2, 0, 0, 0), (67, .aload_n 0, 0, 0, 0), (68, .getfield 163, 0, 30, 10), (71, .imul, 0, 0, 0), (72, .iconst 1, 0, 0, 0), (73, .iadd, 0, 0, 0), (74, .aload_n 0, 0, 0, 0), (75, .invokevirtual 156, 1, 117, 1), (78, .iastore, 0, 0, 0), (79, .aload_n 0, 0, 0, 0), (80, .dup, 0, 0, 0), (81, .getfield 163, 0, 30, 10), (84, .iconst 1, 0, 0, 0), (85, .iadd, 0, 0, 0), (86, .putfield 163, 0, 30, 10), (89, .aload_n 0, 0, 0, 0), (90, .bipush 59, 0, 0, 0), (92, .invokevirtual 160, 1, 115, 2), (95, .ireturn, 2, 1, 1)]
noncomputable def ab_c119 : List (Nat × ab_E) := List.append ab_c119_0 (ab_c119_1)
end
section
/-- LoneAdjectiveModel.readDeed()Z -/
noncomputable def ab_c120_0 : List (Nat × ab_E) := [(0, .aload_n 0, 0, 0, 0), (1, .getfield 166, 0, 32, 10), (4, .bipush 6, 0, 0, 0), (6, .if_icmp .ne 9, 0, 15, 0), (9, .aload_n 0, 0, 0, 0), (10, .iconst 3, 0, 0, 0), (11, .invokevirtual 139, 1, 114, 2), (14, .ireturn, 2, 1, 1), (15, .aload_n 0, 0, 0, 0), (16, .invokevirtual 143, 1, 113, 1), (19, .iconst 0, 0, 0, 0), (20, .istore_n 1, 0, 0, 0), (21, .iload_n 1, 0, 0, 0), (22, .iconst 4, 0, 0, 0), (23, .if_icmp .ge 90, 0, 113, 0), (26, .iload_n 1, 0, 0, 0), (27, .iconst 1, 0, 0, 0), (28, .if_icmp .eq 8, 0, 36, 0), (31, .iload_n 1, 0, 0, 0), (32, .iconst 2, 0, 0, 0), (33, .if_icmp .ne 7, 0, 40, 0), (36, .iconst 1, 0, 0, 0), (37, .goto 4, 0, 41, 0), (40, .iconst 0, 0, 0, 0), (41, .istore_n 2, 0, 0, 0), (42, .iload_n 1, 0, 0, 0), (43, .ifCond .ne 12, 0, 55, 0), (46, .aload_n 0, 0, 0, 0), (47, .getfield 163, 0, 30, 10), (50, .iconst 1, 0, 0, 0)]
noncomputable def ab_c120_1 : List (Nat × ab_E) := [(51, .isub, 0, 0, 0), (52, .goto 26, 0, 78, 0), (55, .iload_n 1, 0, 0, 0), (56, .iconst 1, 0, 0, 0), (57, .if_icmp .ne 8, 0, 65, 0), (60, .bipush 30, 0, 0, 0), (62, .goto 16, 0, 78, 0), (65, .iload_n 1, 0, 0, 0), (66, .iconst 2, 0, 0, 0), (67, .if_icmp .ne 9, 0, 76, 0), (70, .sipush 999, 0, 0, 0), (73, .goto 5, 0, 78, 0), (76, .bipush 99, 0, 0, 0), (78, .istore_n 3, 0, 0, 0), (79, .aload_n 0, 0, 0, 0), (80, .iload_n 2, 0, 0, 0), (81, .iload_n 3, 0, 0, 0), (82, .invokevirtual 152, 1, 116, 3), (85, .ifCond .ne 5, 0, 90, 0), (88, .iconst 0, 0, 0, 0), (89, .ireturn, 2, 1, 1), (90, .aload_n 0, 0, 0, 0), (91, .getfield 54, 0, 31, 10), (94, .iconst 5, 0, 0, 0), (95, .aload_n 0, 0, 0, 0), (96, .getfield 166, 0, 32, 10), (99, .imul, 0, 0, 0), (100, .iload_n 1, 0, 0, 0), (101, .iadd, 0, 0, 0), (102, .aload_n 0, 0, 0, 0)]
noncomputable def ab_c120_2 : List (Nat × ab_E) := [(103, .invokevirtual 156, 1, 117, 1), (106, .iastore, 0, 0, 0), (107, .iinc 1 1, 0, 0, 0), (110, .goto (-89), 0, 21, 0), (113, .aload_n 0, 0, 0, 0), (114, .getfield 54, 0, 31, 10), (117, .iconst 5, 0, 0, 0), (118, .aload_n 0, 0, 0, 0), (119, .getfield 166, 0, 32, 10), (122, .imul, 0, 0, 0), (123, .iconst 4, 0, 0, 0), (124, .iadd, 0, 0, 0), (125, .iconst (-1), 0, 0, 0), (126, .iastore, 0, 0, 0), (127, .aload_n 0, 0, 0, 0), (128, .dup, 0, 0, 0), (129, .getfield 166, 0, 32, 10), (132, .iconst 1, 0, 0, 0), (133, .iadd, 0, 0, 0), (134, .putfield 166, 0, 32, 10), (137, .aload_n 0, 0, 0, 0), (138, .bipush 59, 0, 0, 0), (140, .invokevirtual 160, 1, 115, 2), (143, .ireturn, 2, 1, 1)]
noncomputable def ab_c120 : List (Nat × ab_E) := List.append ab_c120_0 (List.append ab_c120_1 (ab_c120_2))
/-- LoneAdjectiveModel.readReword()Z -/
noncomputable def ab_c121_0 : List (Nat × ab_E) := [(0, .aload_n 0, 0, 0, 0), (1, .invokevirtual 143, 1, 113, 1), (4, .aload_n 0, 0, 0, 0), (5, .iconst 0, 0, 0, 0), (6, .aload_n 0, 0, 0, 0), (7, .getfield 166, 0, 32, 10), (10, .iconst 1, 0, 0, 0), (11, .isub, 0, 0, 0), (12, .invokevirtual 152, 1, 116, 3), (15, .ifCond .eq 27, 0, 42, 0), (18, .aload_n 0, 0, 0, 0), (19, .getfield 54, 0, 31, 10), (22, .iconst 5, 0, 0, 0), (23, .aload_n 0, 0, 0, 0), (24, .getfield 128, 0, 22, 10), (27, .imul, 0, 0, 0), (28, .iconst 4, 0, 0, 0), (29, .iadd, 0, 0, 0), (30, .iaload, 0, 0, 0), (31, .ifCond .lt 13, 0, 44, 0), (34, .aload_n 0, 0, 0, 0), (35, .iconst 4, 0, 0, 0), (36, .invokevirtual 139, 1, 114, 2), (39, .ifCond .ne 5, 0, 44, 0), (42, .iconst 0, 0, 0, 0), (43, .ireturn, 2, 1, 1), (44, .aload_n 0, 0, 0, 0), (45, .invokevirtual 156, 1, 117, 1), (48, .istore_n 1, 0, 0, 0), (49, .aload_n 0, 0, 0, 0)]
noncomputable def ab_c121_1 : List (Nat × ab_E) := [(50, .iconst 0, 0, 0, 0), (51, .bipush 99, 0, 0, 0), (53, .invokevirtual 152, 1, 116, 3), (56, .ifCond .ne 5, 0, 61, 0), (59, .iconst 0, 0, 0, 0), (60, .ireturn, 2, 1, 1), (61, .aload_n 0, 0, 0, 0), (62, .getfield 54, 0, 31, 10), (65, .iconst 5, 0, 0, 0), (66, .iload_n 1, 0, 0, 0), (67, .imul, 0, 0, 0), (68, .iconst 4, 0, 0, 0), (69, .iadd, 0, 0, 0), (70, .aload_n 0, 0, 0, 0), (71, .invokevirtual 156, 1, 117, 1), (74, .iastore, 0, 0, 0), (75, .aload_n 0, 0, 0, 0), (76, .bipush 59, 0, 0, 0), (78, .invokevirtual 160, 1, 115, 2), (81, .ireturn, 2, 1, 1)]
noncomputable def ab_c121 : List (Nat × ab_E) := List.append ab_c121_0 (ab_c121_1)
/-- LoneAdjectiveModel.readTrust()Z -/
noncomputable def ab_c122_0 : List (Nat × ab_E) := [(0, .aload_n 0, 0, 0, 0), (1, .getfield 169, 0, 34, 10), (4, .bipush 12, 0, 0, 0), (6, .if_icmp .ne 9, 0, 15, 0), (9, .aload_n 0, 0, 0, 0), (10, .iconst 3, 0, 0, 0), (11, .invokevirtual 139, 1, 114, 2), (14, .ireturn, 2, 1, 1), (15, .aload_n 0, 0, 0, 0), (16, .invokevirtual 143, 1, 113, 1), (19, .aload_n 0, 0, 0, 0), (20, .iconst 0, 0, 0, 0), (21, .aload_n 0, 0, 0, 0), (22, .getfield 163, 0, 30, 10), (25, .iconst 1, 0, 0, 0), (26, .isub, 0, 0, 0), (27, .invokevirtual 152, 1, 116, 3), (30, .ifCond .ne 5, 0, 35, 0), (33, .iconst 0, 0, 0, 0), (34, .ireturn, 2, 1, 1), (35, .aload_n 0, 0, 0, 0), (36, .invokevirtual 156, 1, 117, 1), (39, .istore_n 1, 0, 0, 0), (40, .aload_n 0, 0, 0, 0), (41, .iconst 0, 0, 0, 0), (42, .aload_n 0, 0, 0, 0), (43, .getfield 163, 0, 30, 10), (46, .iconst 1, 0, 0, 0), (47, .isub, 0, 0, 0), (48, .invokevirtual 152, 1, 116, 3)]
noncomputable def ab_c122_1 : List (Nat × ab_E) := [(51, .ifCond .eq 36, 0, 87, 0), (54, .iload_n 1, 0, 0, 0), (55, .aload_n 0, 0, 0, 0), (56, .getfield 128, 0, 22, 10), (59, .if_icmp .eq 20, 0, 79, 0), (62, .aload_n 0, 0, 0, 0), (63, .getfield 57, 0, 33, 10), (66, .bipush 6, 0, 0, 0), (68, .iload_n 1, 0, 0, 0), (69, .imul, 0, 0, 0), (70, .aload_n 0, 0, 0, 0), (71, .getfield 128, 0, 22, 10), (74, .iadd, 0, 0, 0), (75, .iaload, 0, 0, 0), (76, .ifCond .lt 13, 0, 89, 0), (79, .aload_n 0, 0, 0, 0), (80, .iconst 4, 0, 0, 0), (81, .invokevirtual 139, 1, 114, 2), (84, .ifCond .ne 5, 0, 89, 0), (87, .iconst 0, 0, 0, 0), (88, .ireturn, 2, 1, 1), (89, .aload_n 0, 0, 0, 0), (90, .invokevirtual 156, 1, 117, 1), (93, .istore_n 2, 0, 0, 0), (94, .aload_n 0, 0, 0, 0), (95, .iconst 0, 0, 0, 0), (96, .bipush 10, 0, 0, 0), (98, .invokevirtual 152, 1, 116, 3), (101, .ifCond .ne 5, 0, 106, 0), (104, .iconst 0, 0, 0, 0)]
noncomputable def ab_c122_2 : List (Nat × ab_E) := [(105, .ireturn, 2, 1, 1), (106, .aload_n 0, 0, 0, 0), (107, .getfield 57, 0, 33, 10), (110, .bipush 6, 0, 0, 0), (112, .iload_n 1, 0, 0, 0), (113, .imul, 0, 0, 0), (114, .iload_n 2, 0, 0, 0), (115, .iadd, 0, 0, 0), (116, .aload_n 0, 0, 0, 0), (117, .invokevirtual 156, 1, 117, 1), (120, .iastore, 0, 0, 0), (121, .aload_n 0, 0, 0, 0), (122, .dup, 0, 0, 0), (123, .getfield 169, 0, 34, 10), (126, .iconst 1, 0, 0, 0), (127, .iadd, 0, 0, 0), (128, .putfield 169, 0, 34, 10), (131, .aload_n 0, 0, 0, 0), (132, .bipush 59, 0, 0, 0), (134, .invokevirtual 160, 1, 115, 2), (137, .ireturn, 2, 1, 1)]
noncomputable def ab_c122 : List (Nat × ab_E) := List.append ab_c122_0 (List.append ab_c122_1 (ab_c122_2))
/-- LoneAdjectiveModel.readOther()Z -/
noncomputable def ab_c123_0 : List (Nat × ab_E) := [(0, .aload_n 0, 0, 0, 0), (1, .getfield 172, 0, 36, 10), (4, .iconst 4, 0, 0, 0), (5, .if_icmp .ne 9, 0, 14, 0), (8, .aload_n 0, 0, 0, 0), (9, .iconst 3, 0, 0, 0), (10, .invokevirtual 139, 1, 114, 2), (13, .ireturn, 2, 1, 1), (14, .aload_n 0, 0, 0, 0), (15, .invokevirtual 143, 1, 113, 1), (18, .aload_n 0, 0, 0, 0), (19, .iconst 1, 0, 0, 0), (20, .bipush 63, 0, 0, 0), (22, .invokevirtual 152, 1, 116, 3), (25, .ifCond .eq 23, 0, 48, 0), (28, .aload_n 0, 0, 0, 0), (29, .getfield 128, 0, 22, 10), (32, .aload_n 0, 0, 0, 0), (33, .getfield 166, 0, 32, 10), (36, .ishr, 0, 0, 0), (37, .ifCond .eq 13, 0, 50, 0), (40, .aload_n 0, 0, 0, 0), (41, .iconst 2, 0, 0, 0), (42, .invokevirtual 139, 1, 114, 2), (45, .ifCond .ne 5, 0, 50, 0), (48, .iconst 0, 0, 0, 0), (49, .ireturn, 2, 1, 1), (50, .aload_n 0, 0, 0, 0), (51, .getfield 60, 0, 35, 10), (54, .aload_n 0, 0, 0, 0)]
noncomputable def ab_c123_1 : List (Nat × ab_E) := [(55, .getfield 172, 0, 36, 10), (58, .aload_n 0, 0, 0, 0), (59, .invokevirtual 156, 1, 117, 1), (62, .iastore, 0, 0, 0), (63, .aload_n 0, 0, 0, 0), (64, .dup, 0, 0, 0), (65, .getfield 172, 0, 36, 10), (68, .iconst 1, 0, 0, 0), (69, .iadd, 0, 0, 0), (70, .putfield 172, 0, 36, 10), (73, .aload_n 0, 0, 0, 0), (74, .bipush 59, 0, 0, 0), (76, .invokevirtual 160, 1, 115, 2), (79, .ireturn, 2, 1, 1)]
noncomputable def ab_c123 : List (Nat × ab_E) := List.append ab_c123_0 (ab_c123_1)
/-- LoneAdjectiveModel.readTown()Z -/
noncomputable def ab_c124_0 : List (Nat × ab_E) := [(0, .aload_n 0, 0, 0, 0), (1, .iconst 0, 0, 0, 0), (2, .putfield 119, 0, 20, 10), (5, .aload_n 0, 0, 0, 0), (6, .iconst 0, 0, 0, 0), (7, .putfield 149, 0, 25, 10), (10, .aload_n 0, 0, 0, 0), (11, .iconst 0, 0, 0, 0), (12, .putfield 175, 0, 26, 10), (15, .aload_n 0, 0, 0, 0), (16, .iconst 0, 0, 0, 0), (17, .putfield 146, 0, 28, 10), (20, .aload_n 0, 0, 0, 0), (21, .iconst 0, 0, 0, 0), (22, .putfield 163, 0, 30, 10), (25, .aload_n 0, 0, 0, 0), (26, .iconst 0, 0, 0, 0), (27, .putfield 166, 0, 32, 10), (30, .aload_n 0, 0, 0, 0), (31, .iconst 0, 0, 0, 0), (32, .putfield 169, 0, 34, 10), (35, .aload_n 0, 0, 0, 0), (36, .iconst 0, 0, 0, 0), (37, .putfield 172, 0, 36, 10), (40, .iconst 0, 0, 0, 0), (41, .istore_n 1, 0, 0, 0), (42, .iload_n 1, 0, 0, 0), (43, .bipush 49, 0, 0, 0), (45, .if_icmp .ge 16, 0, 61, 0), (48, .aload_n 0, 0, 0, 0)]
noncomputable def ab_c124_1 : List (Nat × ab_E) := [(49, .getfield 48, 0, 27, 10), (52, .iload_n 1, 0, 0, 0), (53, .iconst 0, 0, 0, 0), (54, .iastore, 0, 0, 0), (55, .iinc 1 1, 0, 0, 0), (58, .goto (-16), 0, 42, 0), (61, .iconst 0, 0, 0, 0), (62, .istore_n 1, 0, 0, 0), (63, .iload_n 1, 0, 0, 0), (64, .bipush 36, 0, 0, 0), (66, .if_icmp .ge 16, 0, 82, 0), (69, .aload_n 0, 0, 0, 0), (70, .getfield 57, 0, 33, 10), (73, .iload_n 1, 0, 0, 0), (74, .iconst (-1), 0, 0, 0), (75, .iastore, 0, 0, 0), (76, .iinc 1 1, 0, 0, 0), (79, .goto (-16), 0, 63, 0), (82, .aload_n 0, 0, 0, 0), (83, .invokevirtual 143, 1, 113, 1), (86, .aload_n 0, 0, 0, 0), (87, .getfield 125, 0, 21, 10), (90, .iconst 3, 0, 0, 0), (91, .if_icmp .ne 5, 0, 96, 0), (94, .iconst 1, 0, 0, 0), (95, .ireturn, 2, 1, 1), (96, .aload_n 0, 0, 0, 0), (97, .bipush 116, 0, 0, 0), (99, .invokevirtual 160, 1, 115, 2), (102, .ifCond .eq 13, 0, 115, 0)]
noncomputable def ab_c124_2 : List (Nat × ab_E) := [(105, .aload_n 0, 0, 0, 0), (106, .iconst 1, 0, 0, 0), (107, .bipush 7, 0, 0, 0), (109, .invokevirtual 152, 1, 116, 3), (112, .ifCond .ne 5, 0, 117, 0), (115, .iconst 0, 0, 0, 0), (116, .ireturn, 2, 1, 1), (117, .aload_n 0, 0, 0, 0), (118, .aload_n 0, 0, 0, 0), (119, .invokevirtual 156, 1, 117, 1), (122, .putfield 149, 0, 25, 10), (125, .aload_n 0, 0, 0, 0), (126, .iconst 0, 0, 0, 0), (127, .aload_n 0, 0, 0, 0), (128, .getfield 149, 0, 25, 10), (131, .iconst 1, 0, 0, 0), (132, .isub, 0, 0, 0), (133, .invokevirtual 152, 1, 116, 3), (136, .ifCond .ne 5, 0, 141, 0), (139, .iconst 0, 0, 0, 0), (140, .ireturn, 2, 1, 1), (141, .aload_n 0, 0, 0, 0), (142, .aload_n 0, 0, 0, 0), (143, .invokevirtual 156, 1, 117, 1), (146, .putfield 175, 0, 26, 10), (149, .aload_n 0, 0, 0, 0), (150, .bipush 59, 0, 0, 0), (152, .invokevirtual 160, 1, 115, 2), (155, .ifCond .ne 5, 0, 160, 0), (158, .iconst 0, 0, 0, 0)]
noncomputable def ab_c124_3 : List (Nat × ab_E) := [(159, .ireturn, 2, 1, 1), (160, .iconst 1, 0, 0, 0), (161, .istore_n 1, 0, 0, 0), (162, .iload_n 1, 0, 0, 0), (163, .ifCond .eq 125, 0, 288, 0), (166, .aload_n 0, 0, 0, 0), (167, .getfield 125, 0, 21, 10), (170, .iconst 3, 0, 0, 0), (171, .if_icmp .eq 117, 0, 288, 0), (174, .aload_n 0, 0, 0, 0), (175, .getfield 125, 0, 21, 10), (178, .iconst 1, 0, 0, 0), (179, .if_icmp .ne 10, 0, 189, 0), (182, .aload_n 0, 0, 0, 0), (183, .getfield 128, 0, 22, 10), (186, .goto 4, 0, 190, 0), (189, .iconst 0, 0, 0, 0), (190, .istore_n 2, 0, 0, 0), (191, .iload_n 2, 0, 0, 0), (192, .bipush 119, 0, 0, 0), (194, .if_icmp .ne 10, 0, 204, 0), (197, .aload_n 0, 0, 0, 0), (198, .invokevirtual 178, 1, 118, 1), (201, .goto 83, 0, 284, 0), (204, .iload_n 2, 0, 0, 0), (205, .bipush 112, 0, 0, 0), (207, .if_icmp .ne 10, 0, 217, 0), (210, .aload_n 0, 0, 0, 0), (211, .invokevirtual 182, 1, 119, 1), (214, .goto 70, 0, 284, 0)]
noncomputable def ab_c124_4 : List (Nat × ab_E) := [(217, .iload_n 2, 0, 0, 0), (218, .bipush 100, 0, 0, 0), (220, .if_icmp .ne 10, 0, 230, 0), (223, .aload_n 0, 0, 0, 0), (224, .invokevirtual 185, 1, 120, 1), (227, .goto 57, 0, 284, 0), (230, .iload_n 2, 0, 0, 0), (231, .bipush 114, 0, 0, 0), (233, .if_icmp .ne 10, 0, 243, 0), (236, .aload_n 0, 0, 0, 0), (237, .invokevirtual 188, 1, 121, 1), (240, .goto 44, 0, 284, 0), (243, .iload_n 2, 0, 0, 0), (244, .bipush 113, 0, 0, 0), (246, .if_icmp .ne 10, 0, 256, 0), (249, .aload_n 0, 0, 0, 0), (250, .invokevirtual 191, 1, 122, 1), (253, .goto 31, 0, 284, 0), (256, .iload_n 2, 0, 0, 0), (257, .bipush 111, 0, 0, 0), (259, .if_icmp .ne 10, 0, 269, 0), (262, .aload_n 0, 0, 0, 0), (263, .invokevirtual 194, 1, 123, 1), (266, .goto 18, 0, 284, 0), (269, .aload_n 0, 0, 0, 0), (270, .iload_n 2, 0, 0, 0), (271, .bipush 116, 0, 0, 0), (273, .if_icmp .ne 7, 0, 280, 0), (276, .iconst 3, 0, 0, 0), (277, .goto 4, 0, 281, 0)]
noncomputable def ab_c124_5 : List (Nat × ab_E) := [(280, .iconst 1, 0, 0, 0), (281, .invokevirtual 139, 1, 114, 2), (284, .istore_n 1, 0, 0, 0), (285, .goto (-123), 0, 162, 0), (288, .iload_n 1, 0, 0, 0), (289, .ireturn, 2, 1, 1)]
noncomputable def ab_c124 : List (Nat × ab_E) := List.append ab_c124_0 (List.append ab_c124_1 (List.append ab_c124_2 (List.append ab_c124_3 (List.append ab_c124_4 (ab_c124_5)))))
/-- LoneAdjectiveModel.findFars()V -/
noncomputable def ab_c125_0 : List (Nat × ab_E) := [(0, .iconst 0, 0, 0, 0), (1, .istore_n 1, 0, 0, 0), (2, .iload_n 1, 0, 0, 0), (3, .bipush 49, 0, 0, 0), (5, .if_icmp .ge 70, 0, 75, 0), (8, .aload_n 0, 0, 0, 0), (9, .getfield 20, 0, 6, 10), (12, .iload_n 1, 0, 0, 0), (13, .aload_n 0, 0, 0, 0), (14, .getfield 48, 0, 27, 10), (17, .iload_n 1, 0, 0, 0), (18, .iaload, 0, 0, 0), (19, .ifCond .le 7, 0, 26, 0), (22, .iconst 1, 0, 0, 0), (23, .goto 4, 0, 27, 0), (26, .iconst 0, 0, 0, 0), (27, .bastore, 0, 0, 0), (28, .aload_n 0, 0, 0, 0), (29, .getfield 17, 0, 5, 10), (32, .iload_n 1, 0, 0, 0), (33, .iload_n 1, 0, 0, 0), (34, .bipush 7, 0, 0, 0), (36, .idiv, 0, 0, 0), (37, .iload_n 1, 0, 0, 0), (38, .bipush 7, 0, 0, 0), (40, .irem, 0, 0, 0), (41, .if_icmp .ne 7, 0, 48, 0), (44, .iconst 0, 0, 0, 0), (45, .goto 23, 0, 68, 0), (48, .aload_n 0, 0, 0, 0)]
noncomputable def ab_c125_1 : List (Nat × ab_E) := [(49, .getfield 48, 0, 27, 10), (52, .iload_n 1, 0, 0, 0), (53, .iaload, 0, 0, 0), (54, .ifCond .le 12, 0, 66, 0), (57, .aload_n 0, 0, 0, 0), (58, .getfield 48, 0, 27, 10), (61, .iload_n 1, 0, 0, 0), (62, .iaload, 0, 0, 0), (63, .goto 5, 0, 68, 0), (66, .ldc 135, 0, 0, 1000000), (68, .iastore, 0, 0, 0), (69, .iinc 1 1, 0, 0, 0), (72, .goto (-70), 0, 2, 0), (75, .iconst 0, 0, 0, 0), (76, .istore_n 1, 0, 0, 0), (77, .iload_n 1, 0, 0, 0), (78, .bipush 7, 0, 0, 0), (80, .if_icmp .ge 79, 0, 159, 0), (83, .iconst 0, 0, 0, 0), (84, .istore_n 2, 0, 0, 0), (85, .iload_n 2, 0, 0, 0), (86, .bipush 49, 0, 0, 0), (88, .if_icmp .ge 65, 0, 153, 0), (91, .aload_n 0, 0, 0, 0), (92, .getfield 17, 0, 5, 10), (95, .iload_n 2, 0, 0, 0), (96, .bipush 7, 0, 0, 0), (98, .idiv, 0, 0, 0), (99, .bipush 7, 0, 0, 0), (101, .imul, 0, 0, 0)]
noncomputable def ab_c125_2 : List (Nat × ab_E) := [(102, .iload_n 1, 0, 0, 0), (103, .iadd, 0, 0, 0), (104, .iaload, 0, 0, 0), (105, .aload_n 0, 0, 0, 0), (106, .getfield 17, 0, 5, 10), (109, .bipush 7, 0, 0, 0), (111, .iload_n 1, 0, 0, 0), (112, .imul, 0, 0, 0), (113, .iload_n 2, 0, 0, 0), (114, .bipush 7, 0, 0, 0), (116, .irem, 0, 0, 0), (117, .iadd, 0, 0, 0), (118, .iaload, 0, 0, 0), (119, .iadd, 0, 0, 0), (120, .istore_n 3, 0, 0, 0), (121, .aload_n 0, 0, 0, 0), (122, .getfield 17, 0, 5, 10), (125, .iload_n 2, 0, 0, 0), (126, .iload_n 3, 0, 0, 0), (127, .aload_n 0, 0, 0, 0), (128, .getfield 17, 0, 5, 10), (131, .iload_n 2, 0, 0, 0), (132, .iaload, 0, 0, 0), (133, .if_icmp .ge 7, 0, 140, 0), (136, .iload_n 3, 0, 0, 0), (137, .goto 9, 0, 146, 0), (140, .aload_n 0, 0, 0, 0), (141, .getfield 17, 0, 5, 10), (144, .iload_n 2, 0, 0, 0), (145, .iaload, 0, 0, 0)]
noncomputable def ab_c125_3 : List (Nat × ab_E) := [(146, .iastore, 0, 0, 0), (147, .iinc 2 1, 0, 0, 0), (150, .goto (-65), 0, 85, 0), (153, .iinc 1 1, 0, 0, 0), (156, .goto (-79), 0, 77, 0), (159, .return_, 2, 0, 2)]
noncomputable def ab_c125 : List (Nat × ab_E) := List.append ab_c125_0 (List.append ab_c125_1 (List.append ab_c125_2 (ab_c125_3)))
/-- LoneAdjectiveModel.town()I -/
noncomputable def ab_c126_0 : List (Nat × ab_E) := [(0, .aload_n 0, 0, 0, 0), (1, .invokevirtual 197, 1, 124, 1), (4, .istore_n 1, 0, 0, 0), (5, .aload_n 0, 0, 0, 0), (6, .iconst 0, 0, 0, 0), (7, .putfield 115, 0, 1, 10), (10, .aload_n 0, 0, 0, 0), (11, .iload_n 1, 0, 0, 0), (12, .ifCond .eq 7, 0, 19, 0), (15, .iconst (-1), 0, 0, 0), (16, .goto 7, 0, 23, 0), (19, .aload_n 0, 0, 0, 0), (20, .getfield 122, 0, 23, 10), (23, .putfield 13, 0, 2, 10), (26, .iload_n 1, 0, 0, 0), (27, .ifCond .ne 11, 0, 38, 0), (30, .bipush (-10), 0, 0, 0), (32, .aload_n 0, 0, 0, 0), (33, .getfield 136, 0, 24, 10), (36, .isub, 0, 0, 0), (37, .ireturn, 2, 1, 0), (38, .aload_n 0, 0, 0, 0), (39, .aload_n 0, 0, 0, 0), (40, .getfield 149, 0, 25, 10), (43, .putfield 99, 0, 3, 10), (46, .aload_n 0, 0, 0, 0), (47, .aload_n 0, 0, 0, 0), (48, .getfield 175, 0, 26, 10), (51, .putfield 200, 0, 4, 10), (54, .aload_n 0, 0, 0, 0)]
noncomputable def ab_c126_1 : List (Nat × ab_E) := [(55, .aload_n 0, 0, 0, 0), (56, .getfield 163, 0, 30, 10), (59, .putfield 106, 0, 9, 10), (62, .aload_n 0, 0, 0, 0), (63, .aload_n 0, 0, 0, 0), (64, .getfield 166, 0, 32, 10), (67, .putfield 109, 0, 11, 10), (70, .aload_n 0, 0, 0, 0), (71, .aload_n 0, 0, 0, 0), (72, .getfield 172, 0, 36, 10), (75, .putfield 203, 0, 14, 10), (78, .aload_n 0, 0, 0, 0), (79, .invokevirtual 206, 1, 125, 1), (82, .iconst 0, 0, 0, 0), (83, .istore_n 2, 0, 0, 0), (84, .iload_n 2, 0, 0, 0), (85, .bipush 6, 0, 0, 0), (87, .if_icmp .ge 39, 0, 126, 0), (90, .aload_n 0, 0, 0, 0), (91, .getfield 24, 0, 7, 10), (94, .iload_n 2, 0, 0, 0), (95, .aload_n 0, 0, 0, 0), (96, .getfield 51, 0, 29, 10), (99, .iconst 2, 0, 0, 0), (100, .iload_n 2, 0, 0, 0), (101, .imul, 0, 0, 0), (102, .iaload, 0, 0, 0), (103, .iastore, 0, 0, 0), (104, .aload_n 0, 0, 0, 0), (105, .getfield 27, 0, 8, 10)]
noncomputable def ab_c126_2 : List (Nat × ab_E) := [(108, .iload_n 2, 0, 0, 0), (109, .aload_n 0, 0, 0, 0), (110, .getfield 51, 0, 29, 10), (113, .iconst 2, 0, 0, 0), (114, .iload_n 2, 0, 0, 0), (115, .imul, 0, 0, 0), (116, .iconst 1, 0, 0, 0), (117, .iadd, 0, 0, 0), (118, .iaload, 0, 0, 0), (119, .iastore, 0, 0, 0), (120, .iinc 2 1, 0, 0, 0), (123, .goto (-39), 0, 84, 0), (126, .iconst 0, 0, 0, 0), (127, .istore_n 2, 0, 0, 0), (128, .iload_n 2, 0, 0, 0), (129, .bipush 30, 0, 0, 0), (131, .if_icmp .ge 21, 0, 152, 0), (134, .aload_n 0, 0, 0, 0), (135, .getfield 30, 0, 10, 10), (138, .iload_n 2, 0, 0, 0), (139, .aload_n 0, 0, 0, 0), (140, .getfield 54, 0, 31, 10), (143, .iload_n 2, 0, 0, 0), (144, .iaload, 0, 0, 0), (145, .iastore, 0, 0, 0), (146, .iinc 2 1, 0, 0, 0), (149, .goto (-21), 0, 128, 0), (152, .iconst 0, 0, 0, 0), (153, .istore_n 2, 0, 0, 0), (154, .iload_n 2, 0, 0, 0)]
noncomputable def ab_c126_3 : List (Nat × ab_E) := [(155, .bipush 36, 0, 0, 0), (157, .if_icmp .ge 21, 0, 178, 0), (160, .aload_n 0, 0, 0, 0), (161, .getfield 33, 0, 12, 10), (164, .iload_n 2, 0, 0, 0), (165, .aload_n 0, 0, 0, 0), (166, .getfield 57, 0, 33, 10), (169, .iload_n 2, 0, 0, 0), (170, .iaload, 0, 0, 0), (171, .iastore, 0, 0, 0), (172, .iinc 2 1, 0, 0, 0), (175, .goto (-21), 0, 154, 0), (178, .iconst 0, 0, 0, 0), (179, .istore_n 2, 0, 0, 0), (180, .iload_n 2, 0, 0, 0), (181, .iconst 4, 0, 0, 0), (182, .if_icmp .ge 21, 0, 203, 0), (185, .aload_n 0, 0, 0, 0), (186, .getfield 36, 0, 13, 10), (189, .iload_n 2, 0, 0, 0), (190, .aload_n 0, 0, 0, 0), (191, .getfield 60, 0, 35, 10), (194, .iload_n 2, 0, 0, 0), (195, .iaload, 0, 0, 0), (196, .iastore, 0, 0, 0), (197, .iinc 2 1, 0, 0, 0), (200, .goto (-20), 0, 180, 0), (203, .aload_n 0, 0, 0, 0), (204, .getfield 39, 0, 15, 10), (207, .iconst 0, 0, 0, 0)]
noncomputable def ab_c126_4 : List (Nat × ab_E) := [(208, .iconst 0, 0, 0, 0), (209, .iastore, 0, 0, 0), (210, .aload_n 0, 0, 0, 0), (211, .getfield 39, 0, 15, 10), (214, .iconst 1, 0, 0, 0), (215, .aload_n 0, 0, 0, 0), (216, .getfield 200, 0, 4, 10), (219, .iastore, 0, 0, 0), (220, .aload_n 0, 0, 0, 0), (221, .getfield 39, 0, 15, 10), (224, .iconst 2, 0, 0, 0), (225, .iconst (-1), 0, 0, 0), (226, .iastore, 0, 0, 0), (227, .iconst 0, 0, 0, 0), (228, .istore_n 2, 0, 0, 0), (229, .iload_n 2, 0, 0, 0), (230, .bipush 6, 0, 0, 0), (232, .if_icmp .ge 18, 0, 250, 0), (235, .aload_n 0, 0, 0, 0), (236, .getfield 39, 0, 15, 10), (239, .iconst 4, 0, 0, 0), (240, .iload_n 2, 0, 0, 0), (241, .iadd, 0, 0, 0), (242, .iconst (-1), 0, 0, 0), (243, .iastore, 0, 0, 0), (244, .iinc 2 1, 0, 0, 0), (247, .goto (-18), 0, 229, 0), (250, .aload_n 0, 0, 0, 0), (251, .iconst 0, 0, 0, 0), (252, .putfield 209, 0, 17, 10)]
noncomputable def ab_c126_5 : List (Nat × ab_E) := [(255, .aload_n 0, 0, 0, 0), (256, .iconst 0, 0, 0, 0), (257, .putfield 212, 0, 19, 10), (260, .aload_n 0, 0, 0, 0), (261, .getfield 93, 0, 48, 10), (264, .iconst 0, 0, 0, 0), (265, .iconst 0, 0, 0, 0), (266, .bastore, 0, 0, 0), (267, .aload_n 0, 0, 0, 0), (268, .getfield 93, 0, 48, 10), (271, .iconst 1, 0, 0, 0), (272, .iconst 0, 0, 0, 0), (273, .bastore, 0, 0, 0), (274, .aload_n 0, 0, 0, 0), (275, .getfield 109, 0, 11, 10), (278, .ireturn, 2, 1, 0)]
noncomputable def ab_c126 : List (Nat × ab_E) := List.append ab_c126_0 (List.append ab_c126_1 (List.append ab_c126_2 (List.append ab_c126_3 (List.append ab_c126_4 (ab_c126_5)))))
/-- LoneAdjectiveModel.fault()I -/
noncomputable def ab_c127 : List (Nat × ab_E) := [(0, .aload_n 0, 0, 0, 0), (1, .getfield 13, 0, 2, 10), (4, .ireturn, 2, 1, 0)]
/-- LoneAdjectiveModel.howOf(I)I -/
noncomputable def ab_c128_0 : List (Nat × ab_E) := [(0, .aload_n 0, 0, 0, 0), (1, .getfield 39, 0, 15, 10), (4, .iconst 4, 0, 0, 0), (5, .iload_n 1, 0, 0, 0), (6, .iadd, 0, 0, 0), (7, .iaload, 0, 0, 0), (8, .ifCond .lt 7, 0, 15, 0), (11, .iconst 1, 0, 0, 0), (12, .goto 38, 0, 50, 0), (15, .aload_n 0, 0, 0, 0), (16, .getfield 39, 0, 15, 10), (19, .iconst 0, 0, 0, 0), (20, .iaload, 0, 0, 0), (21, .aload_n 0, 0, 0, 0), (22, .getfield 30, 0, 10, 10), (25, .iconst 5, 0, 0, 0), (26, .iload_n 1, 0, 0, 0), (27, .imul, 0, 0, 0), (28, .iconst 2, 0, 0, 0), (29, .iadd, 0, 0, 0), (30, .iaload, 0, 0, 0), (31, .aload_n 0, 0, 0, 0), (32, .getfield 30, 0, 10, 10), (35, .iconst 5, 0, 0, 0), (36, .iload_n 1, 0, 0, 0), (37, .imul, 0, 0, 0), (38, .iconst 1, 0, 0, 0), (39, .iadd, 0, 0, 0), (40, .iaload, 0, 0, 0), (41, .isub, 0, 0, 0)]
noncomputable def ab_c128_1 : List (Nat × ab_E) := [(42, .if_icmp .le 7, 0, 49, 0), (45, .iconst 2, 0, 0, 0), (46, .goto 4, 0, 50, 0), (49, .iconst 0, 0, 0, 0), (50, .ireturn, 2, 1, 0)]
noncomputable def ab_c128 : List (Nat × ab_E) := List.append ab_c128_0 (ab_c128_1)
/-- LoneAdjectiveModel.deedsThatAre(I)I -/
noncomputable def ab_c129 : List (Nat × ab_E) := [(0, .iconst 0, 0, 0, 0), (1, .istore_n 2, 0, 0, 0), (2, .iconst 0, 0, 0, 0), (3, .istore_n 3, 0, 0, 0), (4, .iload_n 3, 0, 0, 0), (5, .aload_n 0, 0, 0, 0), (6, .getfield 109, 0, 11, 10), (9, .if_icmp .ge 28, 0, 37, 0), (12, .iload_n 2, 0, 0, 0), (13, .aload_n 0, 0, 0, 0), (14, .iload_n 3, 0, 0, 0), (15, .invokevirtual 215, 1, 128, 2), (18, .iload_n 1, 0, 0, 0), (19, .if_icmp .ne 9, 0, 28, 0), (22, .iconst 1, 0, 0, 0), (23, .iload_n 3, 0, 0, 0), (24, .ishl, 0, 0, 0), (25, .goto 4, 0, 29, 0), (28, .iconst 0, 0, 0, 0), (29, .ior, 0, 0, 0), (30, .istore_n 2, 0, 0, 0), (31, .iinc 3 1, 0, 0, 0), (34, .goto (-30), 0, 4, 0), (37, .iload_n 2, 0, 0, 0), (38, .ireturn, 2, 1, 0)]
/-- LoneAdjectiveModel.worthOf(I)I -/
noncomputable def ab_c130 : List (Nat × ab_E) := [(0, .iconst 0, 0, 0, 0), (1, .istore_n 2, 0, 0, 0), (2, .iconst 0, 0, 0, 0), (3, .istore_n 3, 0, 0, 0), (4, .iload_n 3, 0, 0, 0), (5, .aload_n 0, 0, 0, 0), (6, .getfield 109, 0, 11, 10), (9, .if_icmp .ge 34, 0, 43, 0), (12, .iload_n 2, 0, 0, 0), (13, .iload_n 1, 0, 0, 0), (14, .iload_n 3, 0, 0, 0), (15, .invokestatic 219, 1, 108, 2), (18, .ifCond .eq 16, 0, 34, 0), (21, .aload_n 0, 0, 0, 0), (22, .getfield 30, 0, 10, 10), (25, .iconst 5, 0, 0, 0), (26, .iload_n 3, 0, 0, 0), (27, .imul, 0, 0, 0), (28, .iconst 3, 0, 0, 0), (29, .iadd, 0, 0, 0), (30, .iaload, 0, 0, 0), (31, .goto 4, 0, 35, 0), (34, .iconst 0, 0, 0, 0), (35, .iadd, 0, 0, 0), (36, .istore_n 2, 0, 0, 0), (37, .iinc 3 1, 0, 0, 0), (40, .goto (-36), 0, 4, 0), (43, .iload_n 2, 0, 0, 0), (44, .ireturn, 2, 1, 0)]
/-- LoneAdjectiveModel.told(I)I -/
noncomputable def ab_c131_0 : List (Nat × ab_E) := [(0, .iload_n 1, 0, 0, 0), (1, .tableswitch 156 0 12 #[67, 72, 77, 82, 87, 92, 99, 117, 124, 130, 136, 146, 151], 0, 157, 0), (68, .aload_n 0, 0, 0, 0), (69, .getfield 99, 0, 3, 10), (72, .ireturn, 2, 1, 0), (73, .aload_n 0, 0, 0, 0), (74, .getfield 106, 0, 9, 10), (77, .ireturn, 2, 1, 0), (78, .aload_n 0, 0, 0, 0), (79, .getfield 109, 0, 11, 10), (82, .ireturn, 2, 1, 0), (83, .aload_n 0, 0, 0, 0), (84, .getfield 203, 0, 14, 10), (87, .ireturn, 2, 1, 0), (88, .aload_n 0, 0, 0, 0), (89, .getfield 115, 0, 1, 10), (92, .ireturn, 2, 1, 0), (93, .aload_n 0, 0, 0, 0), (94, .getfield 39, 0, 15, 10), (97, .iconst 0, 0, 0, 0), (98, .iaload, 0, 0, 0), (99, .ireturn, 2, 1, 0), (100, .aload_n 0, 0, 0, 0), (101, .getfield 99, 0, 3, 10), (104, .ifCond .ne 7, 0, 111, 0), (107, .iconst (-1), 0, 0, 0), (108, .goto 9, 0, 117, 0), (111, .aload_n 0, 0, 0, 0), (112, .getfield 39, 0, 15, 10), (115, .iconst 1, 0, 0, 0)]
noncomputable def ab_c131_1 : List (Nat × ab_E) := [(116, .iaload, 0, 0, 0), (117, .ireturn, 2, 1, 0), (118, .aload_n 0, 0, 0, 0), (119, .getfield 39, 0, 15, 10), (122, .iconst 2, 0, 0, 0), (123, .iaload, 0, 0, 0), (124, .ireturn, 2, 1, 0), (125, .aload_n 0, 0, 0, 0), (126, .iconst 1, 0, 0, 0), (127, .invokevirtual 222, 1, 129, 2), (130, .ireturn, 2, 1, 0), (131, .aload_n 0, 0, 0, 0), (132, .iconst 2, 0, 0, 0), (133, .invokevirtual 222, 1, 129, 2), (136, .ireturn, 2, 1, 0), (137, .aload_n 0, 0, 0, 0), (138, .aload_n 0, 0, 0, 0), (139, .iconst 1, 0, 0, 0), (140, .invokevirtual 222, 1, 129, 2), (143, .invokevirtual 225, 1, 130, 2), (146, .ireturn, 2, 1, 0), (147, .aload_n 0, 0, 0, 0), (148, .getfield 209, 0, 17, 10), (151, .ireturn, 2, 1, 0), (152, .aload_n 0, 0, 0, 0), (153, .getfield 212, 0, 19, 10), (156, .ireturn, 2, 1, 0), (157, .ldc 114, 0, 0, (-1000000002)), (159, .ireturn, 2, 1, 0)]
noncomputable def ab_c131 : List (Nat × ab_E) := List.append ab_c131_0 (ab_c131_1)
/-- LoneAdjectiveModel.farOf(II)I -/
noncomputable def ab_c132 : List (Nat × ab_E) := [(0, .aload_n 0, 0, 0, 0), (1, .getfield 17, 0, 5, 10), (4, .bipush 7, 0, 0, 0), (6, .iload_n 1, 0, 0, 0), (7, .imul, 0, 0, 0), (8, .iload_n 2, 0, 0, 0), (9, .iadd, 0, 0, 0), (10, .iaload, 0, 0, 0), (11, .istore_n 3, 0, 0, 0), (12, .iload_n 3, 0, 0, 0), (13, .ldc 135, 0, 0, 1000000), (15, .if_icmp .lt 7, 0, 22, 0), (18, .iconst (-1), 0, 0, 0), (19, .goto 4, 0, 23, 0), (22, .iload_n 3, 0, 0, 0), (23, .ireturn, 2, 1, 0)]
/-- LoneAdjectiveModel.far(II)I -/
noncomputable def ab_c133 : List (Nat × ab_E) := [(0, .aload_n 0, 0, 0, 0), (1, .iload_n 1, 0, 0, 0), (2, .invokevirtual 228, 1, 109, 2), (5, .ifCond .eq 20, 0, 25, 0), (8, .aload_n 0, 0, 0, 0), (9, .iload_n 2, 0, 0, 0), (10, .invokevirtual 228, 1, 109, 2), (13, .ifCond .eq 12, 0, 25, 0), (16, .aload_n 0, 0, 0, 0), (17, .iload_n 1, 0, 0, 0), (18, .iload_n 2, 0, 0, 0), (19, .invokevirtual 231, 1, 132, 3), (22, .goto 5, 0, 27, 0), (25, .ldc 235, 0, 0, (-1000000001)), (27, .ireturn, 2, 1, 0)]
/-- LoneAdjectiveModel.person(II)I -/
noncomputable def ab_c134 : List (Nat × ab_E) := [(0, .aload_n 0, 0, 0, 0), (1, .iload_n 1, 0, 0, 0), (2, .invokevirtual 236, 1, 110, 2), (5, .ifCond .ne 6, 0, 11, 0), (8, .ldc 235, 0, 0, (-1000000001)), (10, .ireturn, 2, 1, 0), (11, .iload_n 2, 0, 0, 0), (12, .ifCond .ne 12, 0, 24, 0), (15, .aload_n 0, 0, 0, 0), (16, .getfield 24, 0, 7, 10), (19, .iload_n 1, 0, 0, 0), (20, .iaload, 0, 0, 0), (21, .goto 19, 0, 40, 0), (24, .iload_n 2, 0, 0, 0), (25, .iconst 1, 0, 0, 0), (26, .if_icmp .ne 12, 0, 38, 0), (29, .aload_n 0, 0, 0, 0), (30, .getfield 27, 0, 8, 10), (33, .iload_n 1, 0, 0, 0), (34, .iaload, 0, 0, 0), (35, .goto 5, 0, 40, 0), (38, .ldc 114, 0, 0, (-1000000002)), (40, .ireturn, 2, 1, 0)]
/-- LoneAdjectiveModel.deed(II)I -/
noncomputable def ab_c135_0 : List (Nat × ab_E) := [(0, .aload_n 0, 0, 0, 0), (1, .iload_n 1, 0, 0, 0), (2, .invokevirtual 239, 1, 111, 2), (5, .ifCond .ne 6, 0, 11, 0), (8, .ldc 235, 0, 0, (-1000000001)), (10, .ireturn, 2, 1, 0), (11, .iload_n 2, 0, 0, 0), (12, .i2l, 0, 0, 0), (13, .lconst 0, 0, 0, 0), (14, .ldc2_w 242, 0, 0, 6), (17, .invokestatic 102, 1, 107, 3), (20, .ifCond .ne 6, 0, 26, 0), (23, .ldc 114, 0, 0, (-1000000002)), (25, .ireturn, 2, 1, 0), (26, .iload_n 2, 0, 0, 0), (27, .iconst 5, 0, 0, 0), (28, .if_icmp .ge 16, 0, 44, 0), (31, .aload_n 0, 0, 0, 0), (32, .getfield 30, 0, 10, 10), (35, .iconst 5, 0, 0, 0), (36, .iload_n 1, 0, 0, 0), (37, .imul, 0, 0, 0), (38, .iload_n 2, 0, 0, 0), (39, .iadd, 0, 0, 0), (40, .iaload, 0, 0, 0), (41, .goto 24, 0, 65, 0), (44, .iload_n 2, 0, 0, 0), (45, .iconst 5, 0, 0, 0), (46, .if_icmp .ne 11, 0, 57, 0), (49, .aload_n 0, 0, 0, 0)]
noncomputable def ab_c135_1 : List (Nat × ab_E) := [(50, .iload_n 1, 0, 0, 0), (51, .invokevirtual 215, 1, 128, 2), (54, .goto 11, 0, 65, 0), (57, .aload_n 0, 0, 0, 0), (58, .getfield 39, 0, 15, 10), (61, .iconst 4, 0, 0, 0), (62, .iload_n 1, 0, 0, 0), (63, .iadd, 0, 0, 0), (64, .iaload, 0, 0, 0), (65, .ireturn, 2, 1, 0)]
noncomputable def ab_c135 : List (Nat × ab_E) := List.append ab_c135_0 (ab_c135_1)
/-- LoneAdjectiveModel.areTwo(II)Z -/
noncomputable def ab_c136 : List (Nat × ab_E) := [(0, .aload_n 0, 0, 0, 0), (1, .iload_n 1, 0, 0, 0), (2, .invokevirtual 236, 1, 110, 2), (5, .ifCond .eq 20, 0, 25, 0), (8, .aload_n 0, 0, 0, 0), (9, .iload_n 2, 0, 0, 0), (10, .invokevirtual 236, 1, 110, 2), (13, .ifCond .eq 12, 0, 25, 0), (16, .iload_n 1, 0, 0, 0), (17, .iload_n 2, 0, 0, 0), (18, .if_icmp .eq 7, 0, 25, 0), (21, .iconst 1, 0, 0, 0), (22, .goto 4, 0, 26, 0), (25, .iconst 0, 0, 0, 0), (26, .ireturn, 2, 1, 1)]
/-- LoneAdjectiveModel.trust(II)I -/
noncomputable def ab_c137 : List (Nat × ab_E) := [(0, .aload_n 0, 0, 0, 0), (1, .iload_n 1, 0, 0, 0), (2, .iload_n 2, 0, 0, 0), (3, .invokevirtual 244, 1, 136, 3), (6, .ifCond .eq 17, 0, 23, 0), (9, .aload_n 0, 0, 0, 0), (10, .getfield 33, 0, 12, 10), (13, .bipush 6, 0, 0, 0), (15, .iload_n 1, 0, 0, 0), (16, .imul, 0, 0, 0), (17, .iload_n 2, 0, 0, 0), (18, .iadd, 0, 0, 0), (19, .iaload, 0, 0, 0), (20, .goto 5, 0, 25, 0), (23, .ldc 235, 0, 0, (-1000000001)), (25, .ireturn, 2, 1, 0)]
/-- LoneAdjectiveModel.lets(I)I -/
noncomputable def ab_c138 : List (Nat × ab_E) := [(0, .iload_n 1, 0, 0, 0), (1, .i2l, 0, 0, 0), (2, .lconst 0, 0, 0, 0), (3, .aload_n 0, 0, 0, 0), (4, .getfield 203, 0, 14, 10), (7, .iconst 1, 0, 0, 0), (8, .isub, 0, 0, 0), (9, .i2l, 0, 0, 0), (10, .invokestatic 102, 1, 107, 3), (13, .ifCond .eq 12, 0, 25, 0), (16, .aload_n 0, 0, 0, 0), (17, .getfield 36, 0, 13, 10), (20, .iload_n 1, 0, 0, 0), (21, .iaload, 0, 0, 0), (22, .goto 5, 0, 27, 0), (25, .ldc 235, 0, 0, (-1000000001)), (27, .ireturn, 2, 1, 0)]
/-- LoneAdjectiveModel.placeOf(I)I -/
noncomputable def ab_c139 : List (Nat × ab_E) := [(0, .aload_n 0, 0, 0, 0), (1, .getfield 24, 0, 7, 10), (4, .aload_n 0, 0, 0, 0), (5, .getfield 30, 0, 10, 10), (8, .iconst 5, 0, 0, 0), (9, .iload_n 1, 0, 0, 0), (10, .imul, 0, 0, 0), (11, .iaload, 0, 0, 0), (12, .iaload, 0, 0, 0), (13, .ireturn, 2, 1, 0)]
/-- LoneAdjectiveModel.lend(I)I -/
noncomputable def ab_c140_0 : List (Nat × ab_E) := [(0, .aload_n 0, 0, 0, 0), (1, .iload_n 1, 0, 0, 0), (2, .invokevirtual 236, 1, 110, 2), (5, .ifCond .ne 6, 0, 11, 0), (8, .ldc 235, 0, 0, (-1000000001)), (10, .ireturn, 2, 1, 0), (11, .aload_n 0, 0, 0, 0), (12, .aload_n 0, 0, 0, 0), (13, .getfield 39, 0, 15, 10), (16, .iconst 1, 0, 0, 0), (17, .iaload, 0, 0, 0), (18, .aload_n 0, 0, 0, 0), (19, .getfield 24, 0, 7, 10), (22, .iload_n 1, 0, 0, 0), (23, .iaload, 0, 0, 0), (24, .invokevirtual 231, 1, 132, 3), (27, .istore_n 2, 0, 0, 0), (28, .iload_n 2, 0, 0, 0), (29, .ifCond .ge 6, 0, 35, 0), (32, .ldc 247, 0, 0, (-1000000003)), (34, .ireturn, 2, 1, 0), (35, .aload_n 0, 0, 0, 0), (36, .getfield 39, 0, 15, 10), (39, .iconst 0, 0, 0, 0), (40, .iaload, 0, 0, 0), (41, .ldc 248, 0, 0, 90000), (43, .if_icmp .le 6, 0, 49, 0), (46, .ldc 118, 0, 0, (-1000000004)), (48, .ireturn, 2, 1, 0), (49, .aload_n 0, 0, 0, 0)]
noncomputable def ab_c140_1 : List (Nat × ab_E) := [(50, .iload_n 1, 0, 0, 0), (51, .iload_n 2, 0, 0, 0), (52, .invokevirtual 249, 1, 141, 3), (55, .aload_n 0, 0, 0, 0), (56, .getfield 39, 0, 15, 10), (59, .iconst 0, 0, 0, 0), (60, .iaload, 0, 0, 0), (61, .ireturn, 2, 1, 0)]
noncomputable def ab_c140 : List (Nat × ab_E) := List.append ab_c140_0 (ab_c140_1)
/-- LoneAdjectiveModel.walkTo(II)V -/
noncomputable def ab_c141 : List (Nat × ab_E) := [(0, .aload_n 0, 0, 0, 0), (1, .getfield 39, 0, 15, 10), (4, .iconst 0, 0, 0, 0), (5, .dup2, 0, 0, 0), (6, .iaload, 0, 0, 0), (7, .iload_n 2, 0, 0, 0), (8, .iadd, 0, 0, 0), (9, .iastore, 0, 0, 0), (10, .aload_n 0, 0, 0, 0), (11, .getfield 39, 0, 15, 10), (14, .iconst 1, 0, 0, 0), (15, .aload_n 0, 0, 0, 0), (16, .getfield 24, 0, 7, 10), (19, .iload_n 1, 0, 0, 0), (20, .iaload, 0, 0, 0), (21, .iastore, 0, 0, 0), (22, .aload_n 0, 0, 0, 0), (23, .getfield 39, 0, 15, 10), (26, .iconst 2, 0, 0, 0), (27, .iload_n 1, 0, 0, 0), (28, .iastore, 0, 0, 0), (29, .return_, 2, 0, 2)]
/-- LoneAdjectiveModel.doNow(I)V -/
noncomputable def ab_c142 : List (Nat × ab_E) := [(0, .aload_n 0, 0, 0, 0), (1, .getfield 39, 0, 15, 10), (4, .iconst 0, 0, 0, 0), (5, .dup2, 0, 0, 0), (6, .iaload, 0, 0, 0), (7, .aload_n 0, 0, 0, 0), (8, .getfield 30, 0, 10, 10), (11, .iconst 5, 0, 0, 0), (12, .iload_n 1, 0, 0, 0), (13, .imul, 0, 0, 0), (14, .iconst 1, 0, 0, 0), (15, .iadd, 0, 0, 0), (16, .iaload, 0, 0, 0), (17, .iadd, 0, 0, 0), (18, .iastore, 0, 0, 0), (19, .aload_n 0, 0, 0, 0), (20, .getfield 39, 0, 15, 10), (23, .iconst 4, 0, 0, 0), (24, .iload_n 1, 0, 0, 0), (25, .iadd, 0, 0, 0), (26, .aload_n 0, 0, 0, 0), (27, .getfield 39, 0, 15, 10), (30, .iconst 0, 0, 0, 0), (31, .iaload, 0, 0, 0), (32, .iastore, 0, 0, 0), (33, .return_, 2, 0, 2)]
/-- LoneAdjectiveModel.act(I)I -/
noncomputable def ab_c143_0 : List (Nat × ab_E) := [(0, .aload_n 0, 0, 0, 0), (1, .iload_n 1, 0, 0, 0), (2, .invokevirtual 239, 1, 111, 2), (5, .ifCond .ne 6, 0, 11, 0), (8, .ldc 235, 0, 0, (-1000000001)), (10, .ireturn, 2, 1, 0), (11, .aload_n 0, 0, 0, 0), (12, .iload_n 1, 0, 0, 0), (13, .invokevirtual 215, 1, 128, 2), (16, .ifCond .ne 20, 0, 36, 0), (19, .aload_n 0, 0, 0, 0), (20, .getfield 39, 0, 15, 10), (23, .iconst 2, 0, 0, 0), (24, .iaload, 0, 0, 0), (25, .aload_n 0, 0, 0, 0), (26, .getfield 30, 0, 10, 10), (29, .iconst 5, 0, 0, 0), (30, .iload_n 1, 0, 0, 0), (31, .imul, 0, 0, 0), (32, .iaload, 0, 0, 0), (33, .if_icmp .eq 6, 0, 39, 0), (36, .ldc 247, 0, 0, (-1000000003)), (38, .ireturn, 2, 1, 0), (39, .aload_n 0, 0, 0, 0), (40, .iload_n 1, 0, 0, 0), (41, .invokevirtual 253, 1, 142, 2), (44, .aload_n 0, 0, 0, 0), (45, .getfield 39, 0, 15, 10), (48, .iconst 0, 0, 0, 0), (49, .iaload, 0, 0, 0)]
noncomputable def ab_c143_1 : List (Nat × ab_E) := [(50, .ireturn, 2, 1, 0)]
noncomputable def ab_c143 : List (Nat × ab_E) := List.append ab_c143_0 (ab_c143_1)
/-- LoneAdjectiveModel.drop()I -/
noncomputable def ab_c144 : List (Nat × ab_E) := [(0, .aload_n 0, 0, 0, 0), (1, .getfield 39, 0, 15, 10), (4, .iconst 2, 0, 0, 0), (5, .iaload, 0, 0, 0), (6, .istore_n 1, 0, 0, 0), (7, .aload_n 0, 0, 0, 0), (8, .getfield 39, 0, 15, 10), (11, .iconst 2, 0, 0, 0), (12, .iconst (-1), 0, 0, 0), (13, .iastore, 0, 0, 0), (14, .iload_n 1, 0, 0, 0), (15, .ireturn, 2, 1, 0)]
/-- LoneAdjectiveModel.pass(I)I -/
noncomputable def ab_c145 : List (Nat × ab_E) := [(0, .iload_n 1, 0, 0, 0), (1, .i2l, 0, 0, 0), (2, .lconst 1, 0, 0, 0), (3, .ldc2_w 257, 0, 0, 999), (6, .invokestatic 102, 1, 107, 3), (9, .ifCond .ne 6, 0, 15, 0), (12, .ldc 114, 0, 0, (-1000000002)), (14, .ireturn, 2, 1, 0), (15, .aload_n 0, 0, 0, 0), (16, .getfield 39, 0, 15, 10), (19, .iconst 0, 0, 0, 0), (20, .iaload, 0, 0, 0), (21, .ldc 248, 0, 0, 90000), (23, .if_icmp .le 6, 0, 29, 0), (26, .ldc 118, 0, 0, (-1000000004)), (28, .ireturn, 2, 1, 0), (29, .aload_n 0, 0, 0, 0), (30, .getfield 39, 0, 15, 10), (33, .iconst 0, 0, 0, 0), (34, .dup2, 0, 0, 0), (35, .iaload, 0, 0, 0), (36, .iload_n 1, 0, 0, 0), (37, .iadd, 0, 0, 0), (38, .iastore, 0, 0, 0), (39, .aload_n 0, 0, 0, 0), (40, .getfield 39, 0, 15, 10), (43, .iconst 0, 0, 0, 0), (44, .iaload, 0, 0, 0), (45, .ireturn, 2, 1, 0)]
/-- LoneAdjectiveModel.draw(I)I -/
noncomputable def ab_c146 : List (Nat × ab_E) := [(0, .aload_n 0, 0, 0, 0), (1, .getfield 39, 0, 15, 10), (4, .iconst 3, 0, 0, 0), (5, .aload_n 0, 0, 0, 0), (6, .getfield 39, 0, 15, 10), (9, .iconst 3, 0, 0, 0), (10, .iaload, 0, 0, 0), (11, .i2l, 0, 0, 0), (12, .ldc2_w 259, 0, 0, 1103515245), (15, .lmul, 0, 0, 0), (16, .ldc2_w 261, 0, 0, 12345), (19, .ladd, 0, 0, 0), (20, .ldc2_w 263, 0, 0, 2147483647), (23, .land, 0, 0, 0), (24, .l2i, 0, 0, 0), (25, .iastore, 0, 0, 0), (26, .aload_n 0, 0, 0, 0), (27, .getfield 39, 0, 15, 10), (30, .iconst 3, 0, 0, 0), (31, .iaload, 0, 0, 0), (32, .ldc_w 265, 0, 0, 65536), (35, .idiv, 0, 0, 0), (36, .iload_n 1, 0, 0, 0), (37, .irem, 0, 0, 0), (38, .ireturn, 2, 1, 0)]
/-- LoneAdjectiveModel.drift(I)I -/
noncomputable def ab_c147_0 : List (Nat × ab_E) := [(0, .iload_n 1, 0, 0, 0), (1, .i2l, 0, 0, 0), (2, .lconst 1, 0, 0, 0), (3, .ldc2_w 266, 0, 0, 30), (6, .invokestatic 102, 1, 107, 3), (9, .ifCond .ne 6, 0, 15, 0), (12, .ldc 114, 0, 0, (-1000000002)), (14, .ireturn, 2, 1, 0), (15, .aload_n 0, 0, 0, 0), (16, .getfield 106, 0, 9, 10), (19, .ifCond .ne 6, 0, 25, 0), (22, .ldc 247, 0, 0, (-1000000003)), (24, .ireturn, 2, 1, 0), (25, .aload_n 0, 0, 0, 0), (26, .getfield 39, 0, 15, 10), (29, .iconst 0, 0, 0, 0), (30, .iaload, 0, 0, 0), (31, .ldc 248, 0, 0, 90000), (33, .if_icmp .le 6, 0, 39, 0), (36, .ldc 118, 0, 0, (-1000000004)), (38, .ireturn, 2, 1, 0), (39, .iconst 0, 0, 0, 0), (40, .istore_n 2, 0, 0, 0), (41, .iload_n 2, 0, 0, 0), (42, .iload_n 1, 0, 0, 0), (43, .if_icmp .ge 135, 0, 178, 0), (46, .aload_n 0, 0, 0, 0), (47, .aload_n 0, 0, 0, 0), (48, .getfield 106, 0, 9, 10), (51, .invokevirtual 268, 1, 146, 2)]
noncomputable def ab_c147_1 : List (Nat × ab_E) := [(54, .istore_n 3, 0, 0, 0), (55, .aload_n 0, 0, 0, 0), (56, .aload_n 0, 0, 0, 0), (57, .getfield 39, 0, 15, 10), (60, .iconst 1, 0, 0, 0), (61, .iaload, 0, 0, 0), (62, .aload_n 0, 0, 0, 0), (63, .getfield 24, 0, 7, 10), (66, .iload_n 3, 0, 0, 0), (67, .iaload, 0, 0, 0), (68, .invokevirtual 231, 1, 132, 3), (71, .istore 4, 0, 0, 0), (73, .iload 4, 0, 0, 0), (75, .ifCond .lt 10, 0, 85, 0), (78, .aload_n 0, 0, 0, 0), (79, .iload_n 3, 0, 0, 0), (80, .iload 4, 0, 0, 0), (82, .invokevirtual 249, 1, 141, 3), (85, .iconst (-1), 0, 0, 0), (86, .istore 5, 0, 0, 0), (88, .aload_n 0, 0, 0, 0), (89, .getfield 109, 0, 11, 10), (92, .iconst 1, 0, 0, 0), (93, .isub, 0, 0, 0), (94, .istore 6, 0, 0, 0), (96, .iload 6, 0, 0, 0), (98, .ifCond .lt 50, 0, 148, 0), (101, .aload_n 0, 0, 0, 0), (102, .getfield 39, 0, 15, 10), (105, .iconst 2, 0, 0, 0)]
noncomputable def ab_c147_2 : List (Nat × ab_E) := [(106, .iaload, 0, 0, 0), (107, .iload_n 3, 0, 0, 0), (108, .if_icmp .ne 30, 0, 138, 0), (111, .aload_n 0, 0, 0, 0), (112, .getfield 30, 0, 10, 10), (115, .iconst 5, 0, 0, 0), (116, .iload 6, 0, 0, 0), (118, .imul, 0, 0, 0), (119, .iaload, 0, 0, 0), (120, .iload_n 3, 0, 0, 0), (121, .if_icmp .ne 17, 0, 138, 0), (124, .aload_n 0, 0, 0, 0), (125, .iload 6, 0, 0, 0), (127, .invokevirtual 215, 1, 128, 2), (130, .ifCond .ne 8, 0, 138, 0), (133, .iload 6, 0, 0, 0), (135, .goto 5, 0, 140, 0), (138, .iload 5, 0, 0, 0), (140, .istore 5, 0, 0, 0), (142, .iinc 6 (-1), 0, 0, 0), (145, .goto (-49), 0, 96, 0), (148, .iload 5, 0, 0, 0), (150, .ifCond .lt 12, 0, 162, 0), (153, .aload_n 0, 0, 0, 0), (154, .iload 5, 0, 0, 0), (156, .invokevirtual 253, 1, 142, 2), (159, .goto 13, 0, 172, 0), (162, .aload_n 0, 0, 0, 0), (163, .getfield 39, 0, 15, 10), (166, .iconst 0, 0, 0, 0)]
noncomputable def ab_c147_3 : List (Nat × ab_E) := [(167, .dup2, 0, 0, 0), (168, .iaload, 0, 0, 0), (169, .iconst 1, 0, 0, 0), (170, .iadd, 0, 0, 0), (171, .iastore, 0, 0, 0), (172, .iinc 2 1, 0, 0, 0), (175, .goto (-134), 0, 41, 0), (178, .aload_n 0, 0, 0, 0), (179, .getfield 39, 0, 15, 10), (182, .iconst 0, 0, 0, 0), (183, .iaload, 0, 0, 0), (184, .ireturn, 2, 1, 0)]
noncomputable def ab_c147 : List (Nat × ab_E) := List.append ab_c147_0 (List.append ab_c147_1 (List.append ab_c147_2 (ab_c147_3)))
/-- LoneAdjectiveModel.endBehind(III)I -/
noncomputable def ab_c148_0 : List (Nat × ab_E) := [(0, .aload_n 0, 0, 0, 0), (1, .getfield 17, 0, 5, 10), (4, .bipush 7, 0, 0, 0), (6, .iload_n 2, 0, 0, 0), (7, .imul, 0, 0, 0), (8, .aload_n 0, 0, 0, 0), (9, .iload_n 3, 0, 0, 0), (10, .invokevirtual 271, 1, 139, 2), (13, .iadd, 0, 0, 0), (14, .iaload, 0, 0, 0), (15, .istore 4, 0, 0, 0), (17, .iload_n 1, 0, 0, 0), (18, .ldc 135, 0, 0, 1000000), (20, .if_icmp .ge 10, 0, 30, 0), (23, .iload 4, 0, 0, 0), (25, .ldc 135, 0, 0, 1000000), (27, .if_icmp .lt 8, 0, 35, 0), (30, .ldc 135, 0, 0, 1000000), (32, .goto 18, 0, 50, 0), (35, .iload_n 1, 0, 0, 0), (36, .iload 4, 0, 0, 0), (38, .iadd, 0, 0, 0), (39, .aload_n 0, 0, 0, 0), (40, .getfield 30, 0, 10, 10), (43, .iconst 5, 0, 0, 0), (44, .iload_n 3, 0, 0, 0), (45, .imul, 0, 0, 0), (46, .iconst 1, 0, 0, 0), (47, .iadd, 0, 0, 0), (48, .iaload, 0, 0, 0)]
noncomputable def ab_c148_1 : List (Nat × ab_E) := [(49, .iadd, 0, 0, 0), (50, .istore 5, 0, 0, 0), (52, .iload 5, 0, 0, 0), (54, .aload_n 0, 0, 0, 0), (55, .getfield 30, 0, 10, 10), (58, .iconst 5, 0, 0, 0), (59, .iload_n 3, 0, 0, 0), (60, .imul, 0, 0, 0), (61, .iconst 2, 0, 0, 0), (62, .iadd, 0, 0, 0), (63, .iaload, 0, 0, 0), (64, .if_icmp .le 8, 0, 72, 0), (67, .ldc 135, 0, 0, 1000000), (69, .goto 5, 0, 74, 0), (72, .iload 5, 0, 0, 0), (74, .ireturn, 2, 1, 0)]
noncomputable def ab_c148 : List (Nat × ab_E) := List.append ab_c148_0 (ab_c148_1)
/-- LoneAdjectiveModel.findEnds(III)V -/
noncomputable def ab_c149_0 : List (Nat × ab_E) := [(0, .iconst 1, 0, 0, 0), (1, .istore 4, 0, 0, 0), (3, .iload 4, 0, 0, 0), (5, .bipush 64, 0, 0, 0), (7, .if_icmp .ge 181, 0, 188, 0), (10, .iconst 0, 0, 0, 0), (11, .istore 5, 0, 0, 0), (13, .iload 5, 0, 0, 0), (15, .bipush 6, 0, 0, 0), (17, .if_icmp .ge 165, 0, 182, 0), (20, .aload_n 0, 0, 0, 0), (21, .getfield 63, 0, 37, 10), (24, .bipush 6, 0, 0, 0), (26, .iload 4, 0, 0, 0), (28, .imul, 0, 0, 0), (29, .iload 5, 0, 0, 0), (31, .iadd, 0, 0, 0), (32, .ldc 135, 0, 0, 1000000), (34, .iastore, 0, 0, 0), (35, .iload 4, 0, 0, 0), (37, .iload 5, 0, 0, 0), (39, .invokestatic 219, 1, 108, 2), (42, .ifCond .eq 134, 0, 176, 0), (45, .iload 4, 0, 0, 0), (47, .iload_n 3, 0, 0, 0), (48, .iconst (-1), 0, 0, 0), (49, .ixor, 0, 0, 0), (50, .iand, 0, 0, 0), (51, .ifCond .ne 125, 0, 176, 0), (54, .iload 4, 0, 0, 0)]
noncomputable def ab_c149_1 : List (Nat × ab_E) := [(56, .iconst 1, 0, 0, 0), (57, .iload 5, 0, 0, 0), (59, .ishl, 0, 0, 0), (60, .iconst (-1), 0, 0, 0), (61, .ixor, 0, 0, 0), (62, .iand, 0, 0, 0), (63, .istore 6, 0, 0, 0), (65, .iload 6, 0, 0, 0), (67, .ifCond .ne 14, 0, 81, 0), (70, .aload_n 0, 0, 0, 0), (71, .iload_n 1, 0, 0, 0), (72, .iload_n 2, 0, 0, 0), (73, .iload 5, 0, 0, 0), (75, .invokevirtual 274, 1, 148, 4), (78, .goto 5, 0, 83, 0), (81, .ldc 135, 0, 0, 1000000), (83, .istore 7, 0, 0, 0), (85, .iconst 0, 0, 0, 0), (86, .istore 8, 0, 0, 0), (88, .iload 8, 0, 0, 0), (90, .aload_n 0, 0, 0, 0), (91, .getfield 109, 0, 11, 10), (94, .if_icmp .ge 67, 0, 161, 0), (97, .iload 6, 0, 0, 0), (99, .iload 8, 0, 0, 0), (101, .invokestatic 219, 1, 108, 2), (104, .ifCond .eq 31, 0, 135, 0), (107, .aload_n 0, 0, 0, 0), (108, .aload_n 0, 0, 0, 0), (109, .getfield 63, 0, 37, 10)]
noncomputable def ab_c149_2 : List (Nat × ab_E) := [(112, .bipush 6, 0, 0, 0), (114, .iload 6, 0, 0, 0), (116, .imul, 0, 0, 0), (117, .iload 8, 0, 0, 0), (119, .iadd, 0, 0, 0), (120, .iaload, 0, 0, 0), (121, .aload_n 0, 0, 0, 0), (122, .iload 8, 0, 0, 0), (124, .invokevirtual 271, 1, 139, 2), (127, .iload 5, 0, 0, 0), (129, .invokevirtual 274, 1, 148, 4), (132, .goto 5, 0, 137, 0), (135, .ldc 135, 0, 0, 1000000), (137, .istore 9, 0, 0, 0), (139, .iload 9, 0, 0, 0), (141, .iload 7, 0, 0, 0), (143, .if_icmp .ge 8, 0, 151, 0), (146, .iload 9, 0, 0, 0), (148, .goto 5, 0, 153, 0), (151, .iload 7, 0, 0, 0), (153, .istore 7, 0, 0, 0), (155, .iinc 8 1, 0, 0, 0), (158, .goto (-70), 0, 88, 0), (161, .aload_n 0, 0, 0, 0), (162, .getfield 63, 0, 37, 10), (165, .bipush 6, 0, 0, 0), (167, .iload 4, 0, 0, 0), (169, .imul, 0, 0, 0), (170, .iload 5, 0, 0, 0), (172, .iadd, 0, 0, 0)]
noncomputable def ab_c149_3 : List (Nat × ab_E) := [(173, .iload 7, 0, 0, 0), (175, .iastore, 0, 0, 0), (176, .iinc 5 1, 0, 0, 0), (179, .goto (-166), 0, 13, 0), (182, .iinc 4 1, 0, 0, 0), (185, .goto (-182), 0, 3, 0), (188, .return_, 2, 0, 2)]
noncomputable def ab_c149 : List (Nat × ab_E) := List.append ab_c149_0 (List.append ab_c149_1 (List.append ab_c149_2 (ab_c149_3)))
/-- LoneAdjectiveModel.endOf(II)I -/
noncomputable def ab_c150_0 : List (Nat × ab_E) := [(0, .iload_n 1, 0, 0, 0), (1, .ifCond .ne 7, 0, 8, 0), (4, .iload_n 2, 0, 0, 0), (5, .goto 5, 0, 10, 0), (8, .ldc 135, 0, 0, 1000000), (10, .istore_n 3, 0, 0, 0), (11, .iconst 0, 0, 0, 0), (12, .istore 4, 0, 0, 0), (14, .iload 4, 0, 0, 0), (16, .aload_n 0, 0, 0, 0), (17, .getfield 109, 0, 11, 10), (20, .if_icmp .ge 51, 0, 71, 0), (23, .iload_n 1, 0, 0, 0), (24, .iload 4, 0, 0, 0), (26, .invokestatic 219, 1, 108, 2), (29, .ifCond .eq 34, 0, 63, 0), (32, .aload_n 0, 0, 0, 0), (33, .getfield 63, 0, 37, 10), (36, .bipush 6, 0, 0, 0), (38, .iload_n 1, 0, 0, 0), (39, .imul, 0, 0, 0), (40, .iload 4, 0, 0, 0), (42, .iadd, 0, 0, 0), (43, .iaload, 0, 0, 0), (44, .iload_n 3, 0, 0, 0), (45, .if_icmp .ge 18, 0, 63, 0), (48, .aload_n 0, 0, 0, 0), (49, .getfield 63, 0, 37, 10), (52, .bipush 6, 0, 0, 0), (54, .iload_n 1, 0, 0, 0)]
noncomputable def ab_c150_1 : List (Nat × ab_E) := [(55, .imul, 0, 0, 0), (56, .iload 4, 0, 0, 0), (58, .iadd, 0, 0, 0), (59, .iaload, 0, 0, 0), (60, .goto 4, 0, 64, 0), (63, .iload_n 3, 0, 0, 0), (64, .istore_n 3, 0, 0, 0), (65, .iinc 4 1, 0, 0, 0), (68, .goto (-54), 0, 14, 0), (71, .iload_n 3, 0, 0, 0), (72, .ireturn, 2, 1, 0)]
noncomputable def ab_c150 : List (Nat × ab_E) := List.append ab_c150_0 (ab_c150_1)
/-- LoneAdjectiveModel.isRow(III)Z -/
noncomputable def ab_c151_0 : List (Nat × ab_E) := [(0, .aload_n 0, 0, 0, 0), (1, .getfield 39, 0, 15, 10), (4, .iconst 0, 0, 0, 0), (5, .iaload, 0, 0, 0), (6, .istore 4, 0, 0, 0), (8, .aload_n 0, 0, 0, 0), (9, .getfield 39, 0, 15, 10), (12, .iconst 1, 0, 0, 0), (13, .iaload, 0, 0, 0), (14, .istore 5, 0, 0, 0), (16, .iload_n 2, 0, 0, 0), (17, .istore 6, 0, 0, 0), (19, .iconst 0, 0, 0, 0), (20, .istore 7, 0, 0, 0), (22, .iload 7, 0, 0, 0), (24, .iload_n 1, 0, 0, 0), (25, .if_icmp .ge 75, 0, 100, 0), (28, .iload 6, 0, 0, 0), (30, .aload_n 0, 0, 0, 0), (31, .getfield 66, 0, 38, 10), (34, .iload 7, 0, 0, 0), (36, .iaload, 0, 0, 0), (37, .invokestatic 219, 1, 108, 2), (40, .ifCond .eq 21, 0, 61, 0), (43, .aload_n 0, 0, 0, 0), (44, .iload 4, 0, 0, 0), (46, .iload 5, 0, 0, 0), (48, .aload_n 0, 0, 0, 0), (49, .getfield 66, 0, 38, 10), (52, .iload 7, 0, 0, 0)]
noncomputable def ab_c151_1 : List (Nat × ab_E) := [(54, .iaload, 0, 0, 0), (55, .invokevirtual 274, 1, 148, 4), (58, .goto 5, 0, 63, 0), (61, .ldc 135, 0, 0, 1000000), (63, .istore 4, 0, 0, 0), (65, .iload 6, 0, 0, 0), (67, .iconst 1, 0, 0, 0), (68, .aload_n 0, 0, 0, 0), (69, .getfield 66, 0, 38, 10), (72, .iload 7, 0, 0, 0), (74, .iaload, 0, 0, 0), (75, .ishl, 0, 0, 0), (76, .iconst (-1), 0, 0, 0), (77, .ixor, 0, 0, 0), (78, .iand, 0, 0, 0), (79, .istore 6, 0, 0, 0), (81, .aload_n 0, 0, 0, 0), (82, .aload_n 0, 0, 0, 0), (83, .getfield 66, 0, 38, 10), (86, .iload 7, 0, 0, 0), (88, .iaload, 0, 0, 0), (89, .invokevirtual 271, 1, 139, 2), (92, .istore 5, 0, 0, 0), (94, .iinc 7 1, 0, 0, 0), (97, .goto (-75), 0, 22, 0), (100, .iload 4, 0, 0, 0), (102, .iload_n 3, 0, 0, 0), (103, .if_icmp .ne 7, 0, 110, 0), (106, .iconst 1, 0, 0, 0), (107, .goto 4, 0, 111, 0)]
noncomputable def ab_c151_2 : List (Nat × ab_E) := [(110, .iconst 0, 0, 0, 0), (111, .ireturn, 2, 1, 1)]
noncomputable def ab_c151 : List (Nat × ab_E) := List.append ab_c151_0 (List.append ab_c151_1 (ab_c151_2))
/-- LoneAdjectiveModel.firstRow(III)I -/
noncomputable def ab_c152_0 : List (Nat × ab_E) := [(0, .iconst (-1), 0, 0, 0), (1, .istore 4, 0, 0, 0), (3, .iconst 0, 0, 0, 0), (4, .istore 5, 0, 0, 0), (6, .iconst 0, 0, 0, 0), (7, .istore 6, 0, 0, 0), (9, .iload 6, 0, 0, 0), (11, .aload_n 0, 0, 0, 0), (12, .getfield 109, 0, 11, 10), (15, .if_icmp .gt 151, 0, 166, 0), (18, .iconst 1, 0, 0, 0), (19, .istore 7, 0, 0, 0), (21, .iconst 0, 0, 0, 0), (22, .istore 8, 0, 0, 0), (24, .iload 8, 0, 0, 0), (26, .iload 6, 0, 0, 0), (28, .if_icmp .ge 16, 0, 44, 0), (31, .iload 7, 0, 0, 0), (33, .bipush 6, 0, 0, 0), (35, .imul, 0, 0, 0), (36, .istore 7, 0, 0, 0), (38, .iinc 8 1, 0, 0, 0), (41, .goto (-17), 0, 24, 0), (44, .iconst 0, 0, 0, 0), (45, .istore 8, 0, 0, 0), (47, .iload 8, 0, 0, 0), (49, .iload 7, 0, 0, 0), (51, .if_icmp .ge 109, 0, 160, 0), (54, .aload_n 0, 0, 0, 0), (55, .iload 8, 0, 0, 0)]
noncomputable def ab_c152_1 : List (Nat × ab_E) := [(57, .iload 6, 0, 0, 0), (59, .invokevirtual 278, 1, 153, 3), (62, .istore 9, 0, 0, 0), (64, .iload 9, 0, 0, 0), (66, .ifCond .lt 88, 0, 154, 0), (69, .iload 9, 0, 0, 0), (71, .iload_n 3, 0, 0, 0), (72, .iconst (-1), 0, 0, 0), (73, .ixor, 0, 0, 0), (74, .iand, 0, 0, 0), (75, .ifCond .ne 79, 0, 154, 0), (78, .aload_n 0, 0, 0, 0), (79, .iload 9, 0, 0, 0), (81, .invokevirtual 225, 1, 130, 2), (84, .iload_n 1, 0, 0, 0), (85, .if_icmp .ne 69, 0, 154, 0), (88, .aload_n 0, 0, 0, 0), (89, .iload 6, 0, 0, 0), (91, .iload 9, 0, 0, 0), (93, .iload_n 2, 0, 0, 0), (94, .invokevirtual 281, 1, 151, 4), (97, .ifCond .eq 57, 0, 154, 0), (100, .iload 4, 0, 0, 0), (102, .ifCond .lt 14, 0, 116, 0), (105, .aload_n 0, 0, 0, 0), (106, .iload 6, 0, 0, 0), (108, .iload 5, 0, 0, 0), (110, .invokevirtual 285, 1, 154, 3), (113, .ifCond .eq 41, 0, 154, 0), (116, .iload 8, 0, 0, 0)]
noncomputable def ab_c152_2 : List (Nat × ab_E) := [(118, .istore 4, 0, 0, 0), (120, .iload 6, 0, 0, 0), (122, .istore 5, 0, 0, 0), (124, .iconst 0, 0, 0, 0), (125, .istore 10, 0, 0, 0), (127, .iload 10, 0, 0, 0), (129, .iload 6, 0, 0, 0), (131, .if_icmp .ge 23, 0, 154, 0), (134, .aload_n 0, 0, 0, 0), (135, .getfield 69, 0, 39, 10), (138, .iload 10, 0, 0, 0), (140, .aload_n 0, 0, 0, 0), (141, .getfield 66, 0, 38, 10), (144, .iload 10, 0, 0, 0), (146, .iaload, 0, 0, 0), (147, .iastore, 0, 0, 0), (148, .iinc 10 1, 0, 0, 0), (151, .goto (-24), 0, 127, 0), (154, .iinc 8 1, 0, 0, 0), (157, .goto (-110), 0, 47, 0), (160, .iinc 6 1, 0, 0, 0), (163, .goto (-154), 0, 9, 0), (166, .iload 5, 0, 0, 0), (168, .ireturn, 2, 1, 0)]
noncomputable def ab_c152 : List (Nat × ab_E) := List.append ab_c152_0 (List.append ab_c152_1 (ab_c152_2))
/-- LoneAdjectiveModel.digits(II)I -/
noncomputable def ab_c153_0 : List (Nat × ab_E) := [(0, .iconst 0, 0, 0, 0), (1, .istore_n 3, 0, 0, 0), (2, .iload_n 1, 0, 0, 0), (3, .istore 4, 0, 0, 0), (5, .iconst 1, 0, 0, 0), (6, .istore 5, 0, 0, 0), (8, .iload_n 2, 0, 0, 0), (9, .iconst 1, 0, 0, 0), (10, .isub, 0, 0, 0), (11, .istore 6, 0, 0, 0), (13, .iload 6, 0, 0, 0), (15, .ifCond .lt 80, 0, 95, 0), (18, .aload_n 0, 0, 0, 0), (19, .getfield 66, 0, 38, 10), (22, .iload 6, 0, 0, 0), (24, .iload 4, 0, 0, 0), (26, .bipush 6, 0, 0, 0), (28, .irem, 0, 0, 0), (29, .iastore, 0, 0, 0), (30, .iload 4, 0, 0, 0), (32, .bipush 6, 0, 0, 0), (34, .idiv, 0, 0, 0), (35, .istore 4, 0, 0, 0), (37, .iload 5, 0, 0, 0), (39, .ifCond .eq 35, 0, 74, 0), (42, .aload_n 0, 0, 0, 0), (43, .getfield 66, 0, 38, 10), (46, .iload 6, 0, 0, 0), (48, .iaload, 0, 0, 0), (49, .aload_n 0, 0, 0, 0)]
noncomputable def ab_c153_1 : List (Nat × ab_E) := [(50, .getfield 109, 0, 11, 10), (53, .if_icmp .ge 21, 0, 74, 0), (56, .iload_n 3, 0, 0, 0), (57, .aload_n 0, 0, 0, 0), (58, .getfield 66, 0, 38, 10), (61, .iload 6, 0, 0, 0), (63, .iaload, 0, 0, 0), (64, .invokestatic 219, 1, 108, 2), (67, .ifCond .ne 7, 0, 74, 0), (70, .iconst 1, 0, 0, 0), (71, .goto 4, 0, 75, 0), (74, .iconst 0, 0, 0, 0), (75, .istore 5, 0, 0, 0), (77, .iload_n 3, 0, 0, 0), (78, .iconst 1, 0, 0, 0), (79, .aload_n 0, 0, 0, 0), (80, .getfield 66, 0, 38, 10), (83, .iload 6, 0, 0, 0), (85, .iaload, 0, 0, 0), (86, .ishl, 0, 0, 0), (87, .ior, 0, 0, 0), (88, .istore_n 3, 0, 0, 0), (89, .iinc 6 (-1), 0, 0, 0), (92, .goto (-79), 0, 13, 0), (95, .iload 5, 0, 0, 0), (97, .ifCond .eq 7, 0, 104, 0), (100, .iload_n 3, 0, 0, 0), (101, .goto 4, 0, 105, 0), (104, .iconst (-1), 0, 0, 0), (105, .ireturn, 2, 1, 0)]
noncomputable def ab_c153 : List (Nat × ab_E) := List.append ab_c153_0 (ab_c153_1)
/-- LoneAdjectiveModel.isAhead(II)Z -/
noncomputable def ab_c154_0 : List (Nat × ab_E) := [(0, .iconst 0, 0, 0, 0), (1, .istore_n 3, 0, 0, 0), (2, .iload_n 3, 0, 0, 0), (3, .iload_n 1, 0, 0, 0), (4, .if_icmp .ge 50, 0, 54, 0), (7, .iload_n 3, 0, 0, 0), (8, .iload_n 2, 0, 0, 0), (9, .if_icmp .ge 45, 0, 54, 0), (12, .aload_n 0, 0, 0, 0), (13, .getfield 66, 0, 38, 10), (16, .iload_n 3, 0, 0, 0), (17, .iaload, 0, 0, 0), (18, .aload_n 0, 0, 0, 0), (19, .getfield 69, 0, 39, 10), (22, .iload_n 3, 0, 0, 0), (23, .iaload, 0, 0, 0), (24, .if_icmp .eq 24, 0, 48, 0), (27, .aload_n 0, 0, 0, 0), (28, .getfield 66, 0, 38, 10), (31, .iload_n 3, 0, 0, 0), (32, .iaload, 0, 0, 0), (33, .aload_n 0, 0, 0, 0), (34, .getfield 69, 0, 39, 10), (37, .iload_n 3, 0, 0, 0), (38, .iaload, 0, 0, 0), (39, .if_icmp .ge 7, 0, 46, 0), (42, .iconst 1, 0, 0, 0), (43, .goto 4, 0, 47, 0), (46, .iconst 0, 0, 0, 0), (47, .ireturn, 2, 1, 1)]
noncomputable def ab_c154_1 : List (Nat × ab_E) := [(48, .iinc 3 1, 0, 0, 0), (51, .goto (-49), 0, 2, 0), (54, .iload_n 1, 0, 0, 0), (55, .iload_n 2, 0, 0, 0), (56, .if_icmp .ge 7, 0, 63, 0), (59, .iconst 1, 0, 0, 0), (60, .goto 4, 0, 64, 0), (63, .iconst 0, 0, 0, 0), (64, .ireturn, 2, 1, 1)]
noncomputable def ab_c154 : List (Nat × ab_E) := List.append ab_c154_0 (ab_c154_1)
/-- LoneAdjectiveModel.round(I)I -/
noncomputable def ab_c155_0 : List (Nat × ab_E) := [(0, .aload_n 0, 0, 0, 0), (1, .iconst 0, 0, 0, 0), (2, .invokevirtual 222, 1, 129, 2), (5, .istore_n 2, 0, 0, 0), (6, .aload_n 0, 0, 0, 0), (7, .aload_n 0, 0, 0, 0), (8, .getfield 39, 0, 15, 10), (11, .iconst 0, 0, 0, 0), (12, .iaload, 0, 0, 0), (13, .aload_n 0, 0, 0, 0), (14, .getfield 39, 0, 15, 10), (17, .iconst 1, 0, 0, 0), (18, .iaload, 0, 0, 0), (19, .iload_n 2, 0, 0, 0), (20, .invokevirtual 288, 1, 149, 4), (23, .iconst 0, 0, 0, 0), (24, .istore_n 3, 0, 0, 0), (25, .aload_n 0, 0, 0, 0), (26, .getfield 39, 0, 15, 10), (29, .iconst 0, 0, 0, 0), (30, .iaload, 0, 0, 0), (31, .istore 4, 0, 0, 0), (33, .iconst 1, 0, 0, 0), (34, .istore 5, 0, 0, 0), (36, .iload 5, 0, 0, 0), (38, .bipush 64, 0, 0, 0), (40, .if_icmp .ge 82, 0, 122, 0), (43, .iload 5, 0, 0, 0), (45, .iload_n 2, 0, 0, 0), (46, .iconst (-1), 0, 0, 0)]
noncomputable def ab_c155_1 : List (Nat × ab_E) := [(47, .ixor, 0, 0, 0), (48, .iand, 0, 0, 0), (49, .ifCond .ne 18, 0, 67, 0), (52, .aload_n 0, 0, 0, 0), (53, .iload 5, 0, 0, 0), (55, .aload_n 0, 0, 0, 0), (56, .getfield 39, 0, 15, 10), (59, .iconst 0, 0, 0, 0), (60, .iaload, 0, 0, 0), (61, .invokevirtual 292, 1, 150, 3), (64, .goto 5, 0, 69, 0), (67, .ldc 135, 0, 0, 1000000), (69, .istore 6, 0, 0, 0), (71, .iload 6, 0, 0, 0), (73, .ldc 135, 0, 0, 1000000), (75, .if_icmp .ge 41, 0, 116, 0), (78, .aload_n 0, 0, 0, 0), (79, .iload 5, 0, 0, 0), (81, .invokevirtual 225, 1, 130, 2), (84, .iload_n 3, 0, 0, 0), (85, .if_icmp .gt 20, 0, 105, 0), (88, .aload_n 0, 0, 0, 0), (89, .iload 5, 0, 0, 0), (91, .invokevirtual 225, 1, 130, 2), (94, .iload_n 3, 0, 0, 0), (95, .if_icmp .ne 21, 0, 116, 0), (98, .iload 6, 0, 0, 0), (100, .iload 4, 0, 0, 0), (102, .if_icmp .ge 14, 0, 116, 0), (105, .aload_n 0, 0, 0, 0)]
noncomputable def ab_c155_2 : List (Nat × ab_E) := [(106, .iload 5, 0, 0, 0), (108, .invokevirtual 225, 1, 130, 2), (111, .istore_n 3, 0, 0, 0), (112, .iload 6, 0, 0, 0), (114, .istore 4, 0, 0, 0), (116, .iinc 5 1, 0, 0, 0), (119, .goto (-83), 0, 36, 0), (122, .iload_n 1, 0, 0, 0), (123, .iconst (-1), 0, 0, 0), (124, .if_icmp .eq 9, 0, 133, 0), (127, .iload_n 1, 0, 0, 0), (128, .bipush (-2), 0, 0, 0), (130, .if_icmp .ne 15, 0, 145, 0), (133, .iload_n 1, 0, 0, 0), (134, .iconst (-1), 0, 0, 0), (135, .if_icmp .ne 7, 0, 142, 0), (138, .iload_n 3, 0, 0, 0), (139, .goto 5, 0, 144, 0), (142, .iload 4, 0, 0, 0), (144, .ireturn, 2, 1, 0), (145, .aload_n 0, 0, 0, 0), (146, .iload_n 3, 0, 0, 0), (147, .iload 4, 0, 0, 0), (149, .iload_n 2, 0, 0, 0), (150, .invokevirtual 295, 1, 152, 4), (153, .istore 5, 0, 0, 0), (155, .iload_n 1, 0, 0, 0), (156, .i2l, 0, 0, 0), (157, .lconst 0, 0, 0, 0), (158, .iload 5, 0, 0, 0)]
noncomputable def ab_c155_3 : List (Nat × ab_E) := [(160, .iconst 1, 0, 0, 0), (161, .isub, 0, 0, 0), (162, .i2l, 0, 0, 0), (163, .invokestatic 102, 1, 107, 3), (166, .ifCond .eq 12, 0, 178, 0), (169, .aload_n 0, 0, 0, 0), (170, .getfield 69, 0, 39, 10), (173, .iload_n 1, 0, 0, 0), (174, .iaload, 0, 0, 0), (175, .goto 4, 0, 179, 0), (178, .iconst (-1), 0, 0, 0), (179, .ireturn, 2, 1, 0)]
noncomputable def ab_c155 : List (Nat × ab_E) := List.append ab_c155_0 (List.append ab_c155_1 (List.append ab_c155_2 (ab_c155_3)))
/-- LoneAdjectiveModel.two(I)I -/
noncomputable def ab_c156_0 : List (Nat × ab_E) := [(0, .aload_n 0, 0, 0, 0), (1, .iload_n 1, 0, 0, 0), (2, .invokevirtual 228, 1, 109, 2), (5, .ifCond .ne 6, 0, 11, 0), (8, .ldc 235, 0, 0, (-1000000001)), (10, .ireturn, 2, 1, 0), (11, .aload_n 0, 0, 0, 0), (12, .iconst 0, 0, 0, 0), (13, .invokevirtual 222, 1, 129, 2), (16, .istore_n 2, 0, 0, 0), (17, .aload_n 0, 0, 0, 0), (18, .aload_n 0, 0, 0, 0), (19, .getfield 39, 0, 15, 10), (22, .iconst 0, 0, 0, 0), (23, .iaload, 0, 0, 0), (24, .iload_n 1, 0, 0, 0), (25, .iload_n 2, 0, 0, 0), (26, .invokevirtual 288, 1, 149, 4), (29, .iconst 0, 0, 0, 0), (30, .istore_n 3, 0, 0, 0), (31, .iload_n 3, 0, 0, 0), (32, .bipush 64, 0, 0, 0), (34, .if_icmp .ge 39, 0, 73, 0), (37, .aload_n 0, 0, 0, 0), (38, .getfield 72, 0, 40, 10), (41, .iload_n 3, 0, 0, 0), (42, .iload_n 3, 0, 0, 0), (43, .iload_n 2, 0, 0, 0), (44, .iconst (-1), 0, 0, 0), (45, .ixor, 0, 0, 0)]
noncomputable def ab_c156_1 : List (Nat × ab_E) := [(46, .iand, 0, 0, 0), (47, .ifCond .ne 18, 0, 65, 0), (50, .aload_n 0, 0, 0, 0), (51, .iload_n 3, 0, 0, 0), (52, .iconst 0, 0, 0, 0), (53, .invokevirtual 292, 1, 150, 3), (56, .ldc 135, 0, 0, 1000000), (58, .if_icmp .ge 7, 0, 65, 0), (61, .iconst 1, 0, 0, 0), (62, .goto 4, 0, 66, 0), (65, .iconst 0, 0, 0, 0), (66, .bastore, 0, 0, 0), (67, .iinc 3 1, 0, 0, 0), (70, .goto (-39), 0, 31, 0), (73, .aload_n 0, 0, 0, 0), (74, .aload_n 0, 0, 0, 0), (75, .getfield 39, 0, 15, 10), (78, .iconst 0, 0, 0, 0), (79, .iaload, 0, 0, 0), (80, .aload_n 0, 0, 0, 0), (81, .getfield 39, 0, 15, 10), (84, .iconst 1, 0, 0, 0), (85, .iaload, 0, 0, 0), (86, .iload_n 2, 0, 0, 0), (87, .invokevirtual 288, 1, 149, 4), (90, .iconst 0, 0, 0, 0), (91, .istore_n 3, 0, 0, 0), (92, .iconst 0, 0, 0, 0), (93, .istore 4, 0, 0, 0), (95, .iload 4, 0, 0, 0)]
noncomputable def ab_c156_2 : List (Nat × ab_E) := [(97, .bipush 64, 0, 0, 0), (99, .if_icmp .ge 104, 0, 203, 0), (102, .iload 4, 0, 0, 0), (104, .iload_n 2, 0, 0, 0), (105, .iconst (-1), 0, 0, 0), (106, .ixor, 0, 0, 0), (107, .iand, 0, 0, 0), (108, .ifCond .ne 19, 0, 127, 0), (111, .aload_n 0, 0, 0, 0), (112, .iload 4, 0, 0, 0), (114, .iconst 0, 0, 0, 0), (115, .invokevirtual 292, 1, 150, 3), (118, .ldc 135, 0, 0, 1000000), (120, .if_icmp .ge 7, 0, 127, 0), (123, .iconst 1, 0, 0, 0), (124, .goto 4, 0, 128, 0), (127, .iconst 0, 0, 0, 0), (128, .istore 5, 0, 0, 0), (130, .iconst 0, 0, 0, 0), (131, .istore 6, 0, 0, 0), (133, .iload 6, 0, 0, 0), (135, .bipush 64, 0, 0, 0), (137, .if_icmp .ge 60, 0, 197, 0), (140, .iload 5, 0, 0, 0), (142, .ifCond .eq 55, 0, 197, 0), (145, .aload_n 0, 0, 0, 0), (146, .getfield 72, 0, 40, 10), (149, .iload 6, 0, 0, 0), (151, .baload, 0, 0, 0), (152, .ifCond .eq 23, 0, 175, 0)]
noncomputable def ab_c156_3 : List (Nat × ab_E) := [(155, .iload 4, 0, 0, 0), (157, .iload 6, 0, 0, 0), (159, .iand, 0, 0, 0), (160, .ifCond .ne 15, 0, 175, 0), (163, .aload_n 0, 0, 0, 0), (164, .iload 4, 0, 0, 0), (166, .iload 6, 0, 0, 0), (168, .ior, 0, 0, 0), (169, .invokevirtual 225, 1, 130, 2), (172, .goto 4, 0, 176, 0), (175, .iconst 0, 0, 0, 0), (176, .istore 7, 0, 0, 0), (178, .iload 7, 0, 0, 0), (180, .iload_n 3, 0, 0, 0), (181, .if_icmp .le 8, 0, 189, 0), (184, .iload 7, 0, 0, 0), (186, .goto 4, 0, 190, 0), (189, .iload_n 3, 0, 0, 0), (190, .istore_n 3, 0, 0, 0), (191, .iinc 6 1, 0, 0, 0), (194, .goto (-61), 0, 133, 0), (197, .iinc 4 1, 0, 0, 0), (200, .goto (-105), 0, 95, 0), (203, .iload_n 3, 0, 0, 0), (204, .ireturn, 2, 1, 0)]
noncomputable def ab_c156 : List (Nat × ab_E) := List.append ab_c156_0 (List.append ab_c156_1 (List.append ab_c156_2 (ab_c156_3)))
/-- LoneAdjectiveModel.costOf(I)I -/
noncomputable def ab_c157_0 : List (Nat × ab_E) := [(0, .iconst 0, 0, 0, 0), (1, .istore_n 2, 0, 0, 0), (2, .iconst 0, 0, 0, 0), (3, .istore_n 3, 0, 0, 0), (4, .iload_n 3, 0, 0, 0), (5, .aload_n 0, 0, 0, 0), (6, .getfield 109, 0, 11, 10), (9, .if_icmp .ge 48, 0, 57, 0), (12, .aload_n 0, 0, 0, 0), (13, .getfield 30, 0, 10, 10), (16, .iconst 5, 0, 0, 0), (17, .iload_n 3, 0, 0, 0), (18, .imul, 0, 0, 0), (19, .iconst 4, 0, 0, 0), (20, .iadd, 0, 0, 0), (21, .iaload, 0, 0, 0), (22, .istore 4, 0, 0, 0), (24, .iload_n 2, 0, 0, 0), (25, .iload_n 1, 0, 0, 0), (26, .iload_n 3, 0, 0, 0), (27, .invokestatic 219, 1, 108, 2), (30, .ifCond .ne 7, 0, 37, 0), (33, .iconst 0, 0, 0, 0), (34, .goto 15, 0, 49, 0), (37, .iload 4, 0, 0, 0), (39, .ifCond .ge 8, 0, 47, 0), (42, .ldc 135, 0, 0, 1000000), (44, .goto 5, 0, 49, 0), (47, .iload 4, 0, 0, 0), (49, .iadd, 0, 0, 0)]
noncomputable def ab_c157_1 : List (Nat × ab_E) := [(50, .istore_n 2, 0, 0, 0), (51, .iinc 3 1, 0, 0, 0), (54, .goto (-50), 0, 4, 0), (57, .iload_n 2, 0, 0, 0), (58, .ireturn, 2, 1, 0)]
noncomputable def ab_c157 : List (Nat × ab_E) := List.append ab_c157_0 (ab_c157_1)
/-- LoneAdjectiveModel.reword(I)I -/
noncomputable def ab_c158_0 : List (Nat × ab_E) := [(0, .iload_n 1, 0, 0, 0), (1, .i2l, 0, 0, 0), (2, .lconst 0, 0, 0, 0), (3, .lconst 1, 0, 0, 0), (4, .invokestatic 102, 1, 107, 3), (7, .ifCond .ne 6, 0, 13, 0), (10, .ldc 114, 0, 0, (-1000000002)), (12, .ireturn, 2, 1, 0), (13, .aload_n 0, 0, 0, 0), (14, .iconst 0, 0, 0, 0), (15, .invokevirtual 222, 1, 129, 2), (18, .istore_n 2, 0, 0, 0), (19, .aload_n 0, 0, 0, 0), (20, .aload_n 0, 0, 0, 0), (21, .getfield 39, 0, 15, 10), (24, .iconst 0, 0, 0, 0), (25, .iaload, 0, 0, 0), (26, .aload_n 0, 0, 0, 0), (27, .getfield 39, 0, 15, 10), (30, .iconst 1, 0, 0, 0), (31, .iaload, 0, 0, 0), (32, .iload_n 2, 0, 0, 0), (33, .invokevirtual 288, 1, 149, 4), (36, .iconst (-1), 0, 0, 0), (37, .istore_n 3, 0, 0, 0), (38, .ldc 135, 0, 0, 1000000), (40, .istore 4, 0, 0, 0), (42, .iconst 0, 0, 0, 0), (43, .istore 5, 0, 0, 0), (45, .iload 5, 0, 0, 0)]
noncomputable def ab_c158_1 : List (Nat × ab_E) := [(47, .bipush 64, 0, 0, 0), (49, .if_icmp .ge 56, 0, 105, 0), (52, .iload 5, 0, 0, 0), (54, .iload_n 2, 0, 0, 0), (55, .iconst (-1), 0, 0, 0), (56, .ixor, 0, 0, 0), (57, .iand, 0, 0, 0), (58, .ifCond .ne 41, 0, 99, 0), (61, .aload_n 0, 0, 0, 0), (62, .iload_n 2, 0, 0, 0), (63, .iload 5, 0, 0, 0), (65, .iconst (-1), 0, 0, 0), (66, .ixor, 0, 0, 0), (67, .iand, 0, 0, 0), (68, .iconst 0, 0, 0, 0), (69, .invokevirtual 292, 1, 150, 3), (72, .ldc 135, 0, 0, 1000000), (74, .if_icmp .ge 25, 0, 99, 0), (77, .aload_n 0, 0, 0, 0), (78, .iload 5, 0, 0, 0), (80, .invokevirtual 298, 1, 157, 2), (83, .iload 4, 0, 0, 0), (85, .if_icmp .ge 14, 0, 99, 0), (88, .iload 5, 0, 0, 0), (90, .istore_n 3, 0, 0, 0), (91, .aload_n 0, 0, 0, 0), (92, .iload 5, 0, 0, 0), (94, .invokevirtual 298, 1, 157, 2), (97, .istore 4, 0, 0, 0), (99, .iinc 5 1, 0, 0, 0)]
noncomputable def ab_c158_2 : List (Nat × ab_E) := [(102, .goto (-57), 0, 45, 0), (105, .iload_n 3, 0, 0, 0), (106, .ifCond .ge 7, 0, 113, 0), (109, .iconst (-1), 0, 0, 0), (110, .goto 13, 0, 123, 0), (113, .iload_n 1, 0, 0, 0), (114, .ifCond .ne 7, 0, 121, 0), (117, .iload_n 3, 0, 0, 0), (118, .goto 5, 0, 123, 0), (121, .iload 4, 0, 0, 0), (123, .ireturn, 2, 1, 0)]
noncomputable def ab_c158 : List (Nat × ab_E) := List.append ab_c158_0 (List.append ab_c158_1 (ab_c158_2))
/-- LoneAdjectiveModel.chain(III)I -/
noncomputable def ab_c159_0 : List (Nat × ab_E) := [(0, .aload_n 0, 0, 0, 0), (1, .iload_n 1, 0, 0, 0), (2, .iload_n 2, 0, 0, 0), (3, .invokevirtual 244, 1, 136, 3), (6, .ifCond .ne 6, 0, 12, 0), (9, .ldc 235, 0, 0, (-1000000001)), (11, .ireturn, 2, 1, 0), (12, .iload_n 3, 0, 0, 0), (13, .i2l, 0, 0, 0), (14, .lconst 0, 0, 0, 0), (15, .lconst 1, 0, 0, 0), (16, .invokestatic 102, 1, 107, 3), (19, .ifCond .ne 6, 0, 25, 0), (22, .ldc 114, 0, 0, (-1000000002)), (24, .ireturn, 2, 1, 0), (25, .iconst (-1), 0, 0, 0), (26, .istore 4, 0, 0, 0), (28, .iconst (-1), 0, 0, 0), (29, .istore 5, 0, 0, 0), (31, .iconst 1, 0, 0, 0), (32, .istore 6, 0, 0, 0), (34, .iconst 0, 0, 0, 0), (35, .istore 7, 0, 0, 0), (37, .iload 7, 0, 0, 0), (39, .iconst 2, 0, 0, 0), (40, .iadd, 0, 0, 0), (41, .aload_n 0, 0, 0, 0), (42, .getfield 106, 0, 9, 10), (45, .if_icmp .gt 61, 0, 106, 0), (48, .iconst 0, 0, 0, 0)]
noncomputable def ab_c159_1 : List (Nat × ab_E) := [(49, .istore 8, 0, 0, 0), (51, .iload 8, 0, 0, 0), (53, .iload 6, 0, 0, 0), (55, .if_icmp .ge 38, 0, 93, 0), (58, .aload_n 0, 0, 0, 0), (59, .iload_n 1, 0, 0, 0), (60, .iload_n 2, 0, 0, 0), (61, .iload 8, 0, 0, 0), (63, .iload 7, 0, 0, 0), (65, .invokevirtual 301, 1, 160, 5), (68, .istore 9, 0, 0, 0), (70, .iload 9, 0, 0, 0), (72, .iload 4, 0, 0, 0), (74, .if_icmp .le 13, 0, 87, 0), (77, .iload 9, 0, 0, 0), (79, .istore 4, 0, 0, 0), (81, .iload 7, 0, 0, 0), (83, .iconst 2, 0, 0, 0), (84, .iadd, 0, 0, 0), (85, .istore 5, 0, 0, 0), (87, .iinc 8 1, 0, 0, 0), (90, .goto (-39), 0, 51, 0), (93, .iload 6, 0, 0, 0), (95, .bipush 6, 0, 0, 0), (97, .imul, 0, 0, 0), (98, .istore 6, 0, 0, 0), (100, .iinc 7 1, 0, 0, 0), (103, .goto (-66), 0, 37, 0), (106, .iload_n 3, 0, 0, 0), (107, .ifCond .ne 8, 0, 115, 0)]
noncomputable def ab_c159_2 : List (Nat × ab_E) := [(110, .iload 4, 0, 0, 0), (112, .goto 5, 0, 117, 0), (115, .iload 5, 0, 0, 0), (117, .ireturn, 2, 1, 0)]
noncomputable def ab_c159 : List (Nat × ab_E) := List.append ab_c159_0 (List.append ab_c159_1 (ab_c159_2))
end
section
/-- LoneAdjectiveModel.oddsOf(IIII)I -/
noncomputable def ab_c160_0 : List (Nat × ab_E) := [(0, .iconst 1, 0, 0, 0), (1, .iload_n 1, 0, 0, 0), (2, .ishl, 0, 0, 0), (3, .iconst 1, 0, 0, 0), (4, .iload_n 2, 0, 0, 0), (5, .ishl, 0, 0, 0), (6, .ior, 0, 0, 0), (7, .istore 5, 0, 0, 0), (9, .iload_n 1, 0, 0, 0), (10, .istore 6, 0, 0, 0), (12, .iload_n 3, 0, 0, 0), (13, .istore 7, 0, 0, 0), (15, .ldc2_w 305, 0, 0, 1000000000), (18, .lstore 8, 0, 0, 0), (20, .iconst 0, 0, 0, 0), (21, .istore 10, 0, 0, 0), (23, .iload 10, 0, 0, 0), (25, .iload 4, 0, 0, 0), (27, .if_icmp .gt 114, 0, 141, 0), (30, .iload 10, 0, 0, 0), (32, .iload 4, 0, 0, 0), (34, .if_icmp .ne 7, 0, 41, 0), (37, .iload_n 2, 0, 0, 0), (38, .goto 8, 0, 46, 0), (41, .iload 7, 0, 0, 0), (43, .bipush 6, 0, 0, 0), (45, .irem, 0, 0, 0), (46, .istore 11, 0, 0, 0), (48, .iload 7, 0, 0, 0), (50, .bipush 6, 0, 0, 0)]
noncomputable def ab_c160_1 : List (Nat × ab_E) := [(52, .idiv, 0, 0, 0), (53, .istore 7, 0, 0, 0), (55, .iload 10, 0, 0, 0), (57, .iload 4, 0, 0, 0), (59, .if_icmp .ge 22, 0, 81, 0), (62, .iload 11, 0, 0, 0), (64, .aload_n 0, 0, 0, 0), (65, .getfield 106, 0, 9, 10), (68, .if_icmp .ge 29, 0, 97, 0), (71, .iload 5, 0, 0, 0), (73, .iload 11, 0, 0, 0), (75, .invokestatic 219, 1, 108, 2), (78, .ifCond .ne 19, 0, 97, 0), (81, .aload_n 0, 0, 0, 0), (82, .getfield 33, 0, 12, 10), (85, .bipush 6, 0, 0, 0), (87, .iload 6, 0, 0, 0), (89, .imul, 0, 0, 0), (90, .iload 11, 0, 0, 0), (92, .iadd, 0, 0, 0), (93, .iaload, 0, 0, 0), (94, .ifCond .ge 5, 0, 99, 0), (97, .iconst (-1), 0, 0, 0), (98, .ireturn, 2, 1, 0), (99, .lload 8, 0, 0, 0), (101, .aload_n 0, 0, 0, 0), (102, .getfield 33, 0, 12, 10), (105, .bipush 6, 0, 0, 0), (107, .iload 6, 0, 0, 0), (109, .imul, 0, 0, 0)]
noncomputable def ab_c160_2 : List (Nat × ab_E) := [(110, .iload 11, 0, 0, 0), (112, .iadd, 0, 0, 0), (113, .iaload, 0, 0, 0), (114, .i2l, 0, 0, 0), (115, .lmul, 0, 0, 0), (116, .ldc2_w 307, 0, 0, 10), (119, .ldiv, 0, 0, 0), (120, .lstore 8, 0, 0, 0), (122, .iload 5, 0, 0, 0), (124, .iconst 1, 0, 0, 0), (125, .iload 11, 0, 0, 0), (127, .ishl, 0, 0, 0), (128, .ior, 0, 0, 0), (129, .istore 5, 0, 0, 0), (131, .iload 11, 0, 0, 0), (133, .istore 6, 0, 0, 0), (135, .iinc 10 1, 0, 0, 0), (138, .goto (-115), 0, 23, 0), (141, .lload 8, 0, 0, 0), (143, .l2i, 0, 0, 0), (144, .ireturn, 2, 1, 0)]
noncomputable def ab_c160 : List (Nat × ab_E) := List.append ab_c160_0 (List.append ab_c160_1 (ab_c160_2))
/-- LoneAdjectiveModel.lost(I)I -/
noncomputable def ab_c161_0 : List (Nat × ab_E) := [(0, .aload_n 0, 0, 0, 0), (1, .iload_n 1, 0, 0, 0), (2, .invokevirtual 236, 1, 110, 2), (5, .ifCond .ne 6, 0, 11, 0), (8, .ldc 235, 0, 0, (-1000000001)), (10, .ireturn, 2, 1, 0), (11, .iconst 1, 0, 0, 0), (12, .iload_n 1, 0, 0, 0), (13, .ishl, 0, 0, 0), (14, .istore_n 2, 0, 0, 0), (15, .iconst 0, 0, 0, 0), (16, .istore_n 3, 0, 0, 0), (17, .iload_n 3, 0, 0, 0), (18, .bipush 6, 0, 0, 0), (20, .if_icmp .ge 61, 0, 81, 0), (23, .iconst 0, 0, 0, 0), (24, .istore 4, 0, 0, 0), (26, .iload 4, 0, 0, 0), (28, .bipush 36, 0, 0, 0), (30, .if_icmp .ge 45, 0, 75, 0), (33, .iload_n 2, 0, 0, 0), (34, .iload_n 2, 0, 0, 0), (35, .iload 4, 0, 0, 0), (37, .bipush 6, 0, 0, 0), (39, .idiv, 0, 0, 0), (40, .invokestatic 219, 1, 108, 2), (43, .ifCond .eq 23, 0, 66, 0), (46, .aload_n 0, 0, 0, 0), (47, .getfield 33, 0, 12, 10), (50, .iload 4, 0, 0, 0)]
noncomputable def ab_c161_1 : List (Nat × ab_E) := [(52, .iaload, 0, 0, 0), (53, .ifCond .le 13, 0, 66, 0), (56, .iconst 1, 0, 0, 0), (57, .iload 4, 0, 0, 0), (59, .bipush 6, 0, 0, 0), (61, .irem, 0, 0, 0), (62, .ishl, 0, 0, 0), (63, .goto 4, 0, 67, 0), (66, .iconst 0, 0, 0, 0), (67, .ior, 0, 0, 0), (68, .istore_n 2, 0, 0, 0), (69, .iinc 4 1, 0, 0, 0), (72, .goto (-46), 0, 26, 0), (75, .iinc 3 1, 0, 0, 0), (78, .goto (-61), 0, 17, 0), (81, .iconst 1, 0, 0, 0), (82, .aload_n 0, 0, 0, 0), (83, .getfield 106, 0, 9, 10), (86, .ishl, 0, 0, 0), (87, .iconst 1, 0, 0, 0), (88, .isub, 0, 0, 0), (89, .iload_n 2, 0, 0, 0), (90, .iconst (-1), 0, 0, 0), (91, .ixor, 0, 0, 0), (92, .iand, 0, 0, 0), (93, .ireturn, 2, 1, 0)]
noncomputable def ab_c161 : List (Nat × ab_E) := List.append ab_c161_0 (ab_c161_1)
/-- LoneAdjectiveModel.bidOf(I)I -/
noncomputable def ab_c162 : List (Nat × ab_E) := [(0, .aload_n 0, 0, 0, 0), (1, .getfield 27, 0, 8, 10), (4, .iload_n 1, 0, 0, 0), (5, .iaload, 0, 0, 0), (6, .aload_n 0, 0, 0, 0), (7, .getfield 75, 0, 41, 10), (10, .iload_n 1, 0, 0, 0), (11, .iaload, 0, 0, 0), (12, .isub, 0, 0, 0), (13, .istore_n 2, 0, 0, 0), (14, .iload_n 2, 0, 0, 0), (15, .ifCond .ge 7, 0, 22, 0), (18, .iconst 0, 0, 0, 0), (19, .goto 4, 0, 23, 0), (22, .iload_n 2, 0, 0, 0), (23, .ireturn, 2, 1, 0)]
/-- LoneAdjectiveModel.sold(III)I -/
noncomputable def ab_c163_0 : List (Nat × ab_E) := [(0, .aload_n 0, 0, 0, 0), (1, .iload_n 2, 0, 0, 0), (2, .invokevirtual 236, 1, 110, 2), (5, .ifCond .ne 6, 0, 11, 0), (8, .ldc 235, 0, 0, (-1000000001)), (10, .ireturn, 2, 1, 0), (11, .iload_n 1, 0, 0, 0), (12, .i2l, 0, 0, 0), (13, .lconst 1, 0, 0, 0), (14, .ldc2_w 309, 0, 0, 9), (17, .invokestatic 102, 1, 107, 3), (20, .ifCond .eq 13, 0, 33, 0), (23, .iload_n 3, 0, 0, 0), (24, .i2l, 0, 0, 0), (25, .lconst 0, 0, 0, 0), (26, .lconst 1, 0, 0, 0), (27, .invokestatic 102, 1, 107, 3), (30, .ifCond .ne 6, 0, 36, 0), (33, .ldc 114, 0, 0, (-1000000002)), (35, .ireturn, 2, 1, 0), (36, .iconst 0, 0, 0, 0), (37, .istore 4, 0, 0, 0), (39, .iload 4, 0, 0, 0), (41, .aload_n 0, 0, 0, 0), (42, .getfield 106, 0, 9, 10), (45, .if_icmp .ge 25, 0, 70, 0), (48, .aload_n 0, 0, 0, 0), (49, .getfield 75, 0, 41, 10), (52, .iload 4, 0, 0, 0), (54, .iconst 0, 0, 0, 0)]
noncomputable def ab_c163_1 : List (Nat × ab_E) := [(55, .iastore, 0, 0, 0), (56, .aload_n 0, 0, 0, 0), (57, .getfield 78, 0, 42, 10), (60, .iload 4, 0, 0, 0), (62, .iconst 0, 0, 0, 0), (63, .iastore, 0, 0, 0), (64, .iinc 4 1, 0, 0, 0), (67, .goto (-28), 0, 39, 0), (70, .iconst 0, 0, 0, 0), (71, .istore 4, 0, 0, 0), (73, .iload 4, 0, 0, 0), (75, .iload_n 1, 0, 0, 0), (76, .if_icmp .ge 129, 0, 205, 0), (79, .iconst 0, 0, 0, 0), (80, .istore 5, 0, 0, 0), (82, .iconst 1, 0, 0, 0), (83, .istore 6, 0, 0, 0), (85, .iload 6, 0, 0, 0), (87, .aload_n 0, 0, 0, 0), (88, .getfield 106, 0, 9, 10), (91, .if_icmp .ge 33, 0, 124, 0), (94, .aload_n 0, 0, 0, 0), (95, .iload 6, 0, 0, 0), (97, .invokevirtual 311, 1, 162, 2), (100, .aload_n 0, 0, 0, 0), (101, .iload 5, 0, 0, 0), (103, .invokevirtual 311, 1, 162, 2), (106, .if_icmp .le 8, 0, 114, 0), (109, .iload 6, 0, 0, 0), (111, .goto 5, 0, 116, 0)]
noncomputable def ab_c163_2 : List (Nat × ab_E) := [(114, .iload 5, 0, 0, 0), (116, .istore 5, 0, 0, 0), (118, .iinc 6 1, 0, 0, 0), (121, .goto (-36), 0, 85, 0), (124, .iconst 0, 0, 0, 0), (125, .istore 6, 0, 0, 0), (127, .iconst 0, 0, 0, 0), (128, .istore 7, 0, 0, 0), (130, .iload 7, 0, 0, 0), (132, .aload_n 0, 0, 0, 0), (133, .getfield 106, 0, 9, 10), (136, .if_icmp .ge 40, 0, 176, 0), (139, .iload 7, 0, 0, 0), (141, .iload 5, 0, 0, 0), (143, .if_icmp .eq 23, 0, 166, 0), (146, .aload_n 0, 0, 0, 0), (147, .iload 7, 0, 0, 0), (149, .invokevirtual 311, 1, 162, 2), (152, .iload 6, 0, 0, 0), (154, .if_icmp .le 12, 0, 166, 0), (157, .aload_n 0, 0, 0, 0), (158, .iload 7, 0, 0, 0), (160, .invokevirtual 311, 1, 162, 2), (163, .goto 5, 0, 168, 0), (166, .iload 6, 0, 0, 0), (168, .istore 6, 0, 0, 0), (170, .iinc 7 1, 0, 0, 0), (173, .goto (-43), 0, 130, 0), (176, .aload_n 0, 0, 0, 0), (177, .getfield 75, 0, 41, 10)]
noncomputable def ab_c163_3 : List (Nat × ab_E) := [(180, .iload 5, 0, 0, 0), (182, .dup2, 0, 0, 0), (183, .iaload, 0, 0, 0), (184, .iconst 1, 0, 0, 0), (185, .iadd, 0, 0, 0), (186, .iastore, 0, 0, 0), (187, .aload_n 0, 0, 0, 0), (188, .getfield 78, 0, 42, 10), (191, .iload 5, 0, 0, 0), (193, .dup2, 0, 0, 0), (194, .iaload, 0, 0, 0), (195, .iload 6, 0, 0, 0), (197, .iadd, 0, 0, 0), (198, .iastore, 0, 0, 0), (199, .iinc 4 1, 0, 0, 0), (202, .goto (-129), 0, 73, 0), (205, .iload_n 3, 0, 0, 0), (206, .ifCond .ne 12, 0, 218, 0), (209, .aload_n 0, 0, 0, 0), (210, .getfield 75, 0, 41, 10), (213, .iload_n 2, 0, 0, 0), (214, .iaload, 0, 0, 0), (215, .goto 9, 0, 224, 0), (218, .aload_n 0, 0, 0, 0), (219, .getfield 78, 0, 42, 10), (222, .iload_n 2, 0, 0, 0), (223, .iaload, 0, 0, 0), (224, .ireturn, 2, 1, 0)]
noncomputable def ab_c163 : List (Nat × ab_E) := List.append ab_c163_0 (List.append ab_c163_1 (List.append ab_c163_2 (ab_c163_3)))
/-- LoneAdjectiveModel.leads(II)Z -/
noncomputable def ab_c164 : List (Nat × ab_E) := [(0, .iload_n 1, 0, 0, 0), (1, .iload_n 2, 0, 0, 0), (2, .if_icmp .eq 17, 0, 19, 0), (5, .aload_n 0, 0, 0, 0), (6, .getfield 20, 0, 6, 10), (9, .bipush 7, 0, 0, 0), (11, .iload_n 1, 0, 0, 0), (12, .imul, 0, 0, 0), (13, .iload_n 2, 0, 0, 0), (14, .iadd, 0, 0, 0), (15, .baload, 0, 0, 0), (16, .ifCond .eq 7, 0, 23, 0), (19, .iconst 1, 0, 0, 0), (20, .goto 4, 0, 24, 0), (23, .iconst 0, 0, 0, 0), (24, .ireturn, 2, 1, 1)]
/-- LoneAdjectiveModel.escapesFrom(III)I -/
noncomputable def ab_c165_0 : List (Nat × ab_E) := [(0, .ldc 135, 0, 0, 1000000), (2, .istore 4, 0, 0, 0), (4, .iconst 0, 0, 0, 0), (5, .istore 5, 0, 0, 0), (7, .iload 5, 0, 0, 0), (9, .aload_n 0, 0, 0, 0), (10, .getfield 99, 0, 3, 10), (13, .if_icmp .ge 137, 0, 150, 0), (16, .aload_n 0, 0, 0, 0), (17, .iload_n 1, 0, 0, 0), (18, .iload 5, 0, 0, 0), (20, .invokevirtual 314, 1, 164, 3), (23, .ifCond .eq 121, 0, 144, 0), (26, .iload 5, 0, 0, 0), (28, .iload_n 2, 0, 0, 0), (29, .if_icmp .eq 115, 0, 144, 0), (32, .iload 5, 0, 0, 0), (34, .iload_n 3, 0, 0, 0), (35, .if_icmp .ne 7, 0, 42, 0), (38, .iconst 1, 0, 0, 0), (39, .goto 4, 0, 43, 0), (42, .iconst 0, 0, 0, 0), (43, .istore 6, 0, 0, 0), (45, .iconst 0, 0, 0, 0), (46, .istore 7, 0, 0, 0), (48, .iload 7, 0, 0, 0), (50, .aload_n 0, 0, 0, 0), (51, .getfield 99, 0, 3, 10), (54, .if_icmp .ge 74, 0, 128, 0), (57, .iload 5, 0, 0, 0)]
noncomputable def ab_c165_1 : List (Nat × ab_E) := [(59, .iload_n 3, 0, 0, 0), (60, .if_icmp .eq 68, 0, 128, 0), (63, .aload_n 0, 0, 0, 0), (64, .iload_n 2, 0, 0, 0), (65, .iload 7, 0, 0, 0), (67, .invokevirtual 314, 1, 164, 3), (70, .ifCond .ne 7, 0, 77, 0), (73, .iconst 0, 0, 0, 0), (74, .goto 30, 0, 104, 0), (77, .iload 7, 0, 0, 0), (79, .iload 5, 0, 0, 0), (81, .if_icmp .ne 8, 0, 89, 0), (84, .ldc 135, 0, 0, 1000000), (86, .goto 18, 0, 104, 0), (89, .aload_n 0, 0, 0, 0), (90, .getfield 81, 0, 43, 10), (93, .bipush 7, 0, 0, 0), (95, .iload 5, 0, 0, 0), (97, .imul, 0, 0, 0), (98, .iload 7, 0, 0, 0), (100, .iadd, 0, 0, 0), (101, .iaload, 0, 0, 0), (102, .iconst 1, 0, 0, 0), (103, .iadd, 0, 0, 0), (104, .istore 8, 0, 0, 0), (106, .iload 8, 0, 0, 0), (108, .iload 6, 0, 0, 0), (110, .if_icmp .le 8, 0, 118, 0), (113, .iload 8, 0, 0, 0), (115, .goto 5, 0, 120, 0)]
noncomputable def ab_c165_2 : List (Nat × ab_E) := [(118, .iload 6, 0, 0, 0), (120, .istore 6, 0, 0, 0), (122, .iinc 7 1, 0, 0, 0), (125, .goto (-77), 0, 48, 0), (128, .iload 6, 0, 0, 0), (130, .iload 4, 0, 0, 0), (132, .if_icmp .ge 8, 0, 140, 0), (135, .iload 6, 0, 0, 0), (137, .goto 5, 0, 142, 0), (140, .iload 4, 0, 0, 0), (142, .istore 4, 0, 0, 0), (144, .iinc 5 1, 0, 0, 0), (147, .goto (-140), 0, 7, 0), (150, .iload 4, 0, 0, 0), (152, .ldc 135, 0, 0, 1000000), (154, .if_icmp .le 8, 0, 162, 0), (157, .ldc 135, 0, 0, 1000000), (159, .goto 5, 0, 164, 0), (162, .iload 4, 0, 0, 0), (164, .ireturn, 2, 1, 0)]
noncomputable def ab_c165 : List (Nat × ab_E) := List.append ab_c165_0 (List.append ab_c165_1 (ab_c165_2))
/-- LoneAdjectiveModel.catchesFrom(III)I -/
noncomputable def ab_c166_0 : List (Nat × ab_E) := [(0, .iconst 0, 0, 0, 0), (1, .istore 4, 0, 0, 0), (3, .iconst 0, 0, 0, 0), (4, .istore 5, 0, 0, 0), (6, .iload 5, 0, 0, 0), (8, .aload_n 0, 0, 0, 0), (9, .getfield 99, 0, 3, 10), (12, .if_icmp .ge 138, 0, 150, 0), (15, .aload_n 0, 0, 0, 0), (16, .iload_n 1, 0, 0, 0), (17, .iload 5, 0, 0, 0), (19, .invokevirtual 314, 1, 164, 3), (22, .ifCond .eq 122, 0, 144, 0), (25, .iload 5, 0, 0, 0), (27, .iload_n 2, 0, 0, 0), (28, .if_icmp .ne 7, 0, 35, 0), (31, .iconst 1, 0, 0, 0), (32, .goto 5, 0, 37, 0), (35, .ldc 135, 0, 0, 1000000), (37, .istore 6, 0, 0, 0), (39, .iconst 0, 0, 0, 0), (40, .istore 7, 0, 0, 0), (42, .iload 7, 0, 0, 0), (44, .aload_n 0, 0, 0, 0), (45, .getfield 99, 0, 3, 10), (48, .if_icmp .ge 80, 0, 128, 0), (51, .iload 5, 0, 0, 0), (53, .iload_n 2, 0, 0, 0), (54, .if_icmp .eq 74, 0, 128, 0), (57, .iload 5, 0, 0, 0)]
noncomputable def ab_c166_1 : List (Nat × ab_E) := [(59, .iload_n 3, 0, 0, 0), (60, .if_icmp .eq 68, 0, 128, 0), (63, .aload_n 0, 0, 0, 0), (64, .iload_n 2, 0, 0, 0), (65, .iload 7, 0, 0, 0), (67, .invokevirtual 314, 1, 164, 3), (70, .ifCond .ne 8, 0, 78, 0), (73, .ldc 135, 0, 0, 1000000), (75, .goto 29, 0, 104, 0), (78, .iload 7, 0, 0, 0), (80, .iload 5, 0, 0, 0), (82, .if_icmp .ne 7, 0, 89, 0), (85, .iconst 1, 0, 0, 0), (86, .goto 18, 0, 104, 0), (89, .aload_n 0, 0, 0, 0), (90, .getfield 84, 0, 44, 10), (93, .bipush 7, 0, 0, 0), (95, .iload 5, 0, 0, 0), (97, .imul, 0, 0, 0), (98, .iload 7, 0, 0, 0), (100, .iadd, 0, 0, 0), (101, .iaload, 0, 0, 0), (102, .iconst 1, 0, 0, 0), (103, .iadd, 0, 0, 0), (104, .istore 8, 0, 0, 0), (106, .iload 8, 0, 0, 0), (108, .iload 6, 0, 0, 0), (110, .if_icmp .ge 8, 0, 118, 0), (113, .iload 8, 0, 0, 0), (115, .goto 5, 0, 120, 0)]
noncomputable def ab_c166_2 : List (Nat × ab_E) := [(118, .iload 6, 0, 0, 0), (120, .istore 6, 0, 0, 0), (122, .iinc 7 1, 0, 0, 0), (125, .goto (-83), 0, 42, 0), (128, .iload 6, 0, 0, 0), (130, .iload 4, 0, 0, 0), (132, .if_icmp .le 8, 0, 140, 0), (135, .iload 6, 0, 0, 0), (137, .goto 5, 0, 142, 0), (140, .iload 4, 0, 0, 0), (142, .istore 4, 0, 0, 0), (144, .iinc 5 1, 0, 0, 0), (147, .goto (-141), 0, 6, 0), (150, .iload 4, 0, 0, 0), (152, .ldc 135, 0, 0, 1000000), (154, .if_icmp .le 8, 0, 162, 0), (157, .ldc 135, 0, 0, 1000000), (159, .goto 5, 0, 164, 0), (162, .iload 4, 0, 0, 0), (164, .ireturn, 2, 1, 0)]
noncomputable def ab_c166 : List (Nat × ab_E) := List.append ab_c166_0 (List.append ab_c166_1 (ab_c166_2))
/-- LoneAdjectiveModel.findThief(I)V -/
noncomputable def ab_c167_0 : List (Nat × ab_E) := [(0, .iconst 0, 0, 0, 0), (1, .istore_n 2, 0, 0, 0), (2, .iload_n 2, 0, 0, 0), (3, .bipush 49, 0, 0, 0), (5, .if_icmp .ge 61, 0, 66, 0), (8, .iload_n 2, 0, 0, 0), (9, .bipush 7, 0, 0, 0), (11, .idiv, 0, 0, 0), (12, .istore_n 3, 0, 0, 0), (13, .iload_n 2, 0, 0, 0), (14, .bipush 7, 0, 0, 0), (16, .irem, 0, 0, 0), (17, .istore 4, 0, 0, 0), (19, .aload_n 0, 0, 0, 0), (20, .getfield 81, 0, 43, 10), (23, .iload_n 2, 0, 0, 0), (24, .iload_n 3, 0, 0, 0), (25, .iload_n 1, 0, 0, 0), (26, .if_icmp .ne 13, 0, 39, 0), (29, .iload_n 3, 0, 0, 0), (30, .iload 4, 0, 0, 0), (32, .if_icmp .eq 7, 0, 39, 0), (35, .iconst 0, 0, 0, 0), (36, .goto 5, 0, 41, 0), (39, .ldc 135, 0, 0, 1000000), (41, .iastore, 0, 0, 0), (42, .aload_n 0, 0, 0, 0), (43, .getfield 84, 0, 44, 10), (46, .iload_n 2, 0, 0, 0), (47, .iload_n 3, 0, 0, 0)]
noncomputable def ab_c167_1 : List (Nat × ab_E) := [(48, .iload 4, 0, 0, 0), (50, .if_icmp .ne 7, 0, 57, 0), (53, .iconst 0, 0, 0, 0), (54, .goto 5, 0, 59, 0), (57, .ldc 135, 0, 0, 1000000), (59, .iastore, 0, 0, 0), (60, .iinc 2 1, 0, 0, 0), (63, .goto (-61), 0, 2, 0), (66, .iconst 0, 0, 0, 0), (67, .istore_n 2, 0, 0, 0), (68, .iload_n 2, 0, 0, 0), (69, .bipush 60, 0, 0, 0), (71, .if_icmp .ge 96, 0, 167, 0), (74, .iconst 0, 0, 0, 0), (75, .istore_n 3, 0, 0, 0), (76, .iload_n 3, 0, 0, 0), (77, .bipush 49, 0, 0, 0), (79, .if_icmp .ge 82, 0, 161, 0), (82, .iload_n 3, 0, 0, 0), (83, .bipush 7, 0, 0, 0), (85, .idiv, 0, 0, 0), (86, .istore 4, 0, 0, 0), (88, .iload_n 3, 0, 0, 0), (89, .bipush 7, 0, 0, 0), (91, .irem, 0, 0, 0), (92, .istore 5, 0, 0, 0), (94, .iload 4, 0, 0, 0), (96, .aload_n 0, 0, 0, 0), (97, .getfield 99, 0, 3, 10), (100, .if_icmp .ge 55, 0, 155, 0)]
noncomputable def ab_c167_2 : List (Nat × ab_E) := [(103, .iload 5, 0, 0, 0), (105, .aload_n 0, 0, 0, 0), (106, .getfield 99, 0, 3, 10), (109, .if_icmp .ge 46, 0, 155, 0), (112, .iload 4, 0, 0, 0), (114, .iload 5, 0, 0, 0), (116, .if_icmp .eq 39, 0, 155, 0), (119, .iload 4, 0, 0, 0), (121, .iload_n 1, 0, 0, 0), (122, .if_icmp .eq 33, 0, 155, 0), (125, .aload_n 0, 0, 0, 0), (126, .getfield 81, 0, 43, 10), (129, .iload_n 3, 0, 0, 0), (130, .aload_n 0, 0, 0, 0), (131, .iload 4, 0, 0, 0), (133, .iload 5, 0, 0, 0), (135, .iload_n 1, 0, 0, 0), (136, .invokevirtual 317, 1, 165, 4), (139, .iastore, 0, 0, 0), (140, .aload_n 0, 0, 0, 0), (141, .getfield 84, 0, 44, 10), (144, .iload_n 3, 0, 0, 0), (145, .aload_n 0, 0, 0, 0), (146, .iload 4, 0, 0, 0), (148, .iload 5, 0, 0, 0), (150, .iload_n 1, 0, 0, 0), (151, .invokevirtual 320, 1, 166, 4), (154, .iastore, 0, 0, 0), (155, .iinc 3 1, 0, 0, 0), (158, .goto (-82), 0, 76, 0)]
noncomputable def ab_c167_3 : List (Nat × ab_E) := [(161, .iinc 2 1, 0, 0, 0), (164, .goto (-96), 0, 68, 0), (167, .return_, 2, 0, 2)]
noncomputable def ab_c167 : List (Nat × ab_E) := List.append ab_c167_0 (List.append ab_c167_1 (List.append ab_c167_2 (ab_c167_3)))
/-- LoneAdjectiveModel.thief(IIII)I -/
noncomputable def ab_c168_0 : List (Nat × ab_E) := [(0, .aload_n 0, 0, 0, 0), (1, .iload_n 1, 0, 0, 0), (2, .invokevirtual 228, 1, 109, 2), (5, .ifCond .eq 19, 0, 24, 0), (8, .aload_n 0, 0, 0, 0), (9, .iload_n 2, 0, 0, 0), (10, .invokevirtual 228, 1, 109, 2), (13, .ifCond .eq 11, 0, 24, 0), (16, .aload_n 0, 0, 0, 0), (17, .iload_n 3, 0, 0, 0), (18, .invokevirtual 228, 1, 109, 2), (21, .ifCond .ne 6, 0, 27, 0), (24, .ldc 235, 0, 0, (-1000000001)), (26, .ireturn, 2, 1, 0), (27, .iload 4, 0, 0, 0), (29, .i2l, 0, 0, 0), (30, .lconst 0, 0, 0, 0), (31, .lconst 1, 0, 0, 0), (32, .invokestatic 102, 1, 107, 3), (35, .ifCond .ne 6, 0, 41, 0), (38, .ldc 114, 0, 0, (-1000000002)), (40, .ireturn, 2, 1, 0), (41, .aload_n 0, 0, 0, 0), (42, .iload_n 3, 0, 0, 0), (43, .invokevirtual 323, 1, 167, 2), (46, .bipush 7, 0, 0, 0), (48, .iload_n 1, 0, 0, 0), (49, .imul, 0, 0, 0), (50, .iload_n 2, 0, 0, 0), (51, .iadd, 0, 0, 0)]
noncomputable def ab_c168_1 : List (Nat × ab_E) := [(52, .istore 5, 0, 0, 0), (54, .aload_n 0, 0, 0, 0), (55, .getfield 81, 0, 43, 10), (58, .iload 5, 0, 0, 0), (60, .iaload, 0, 0, 0), (61, .ldc 135, 0, 0, 1000000), (63, .if_icmp .ge 7, 0, 70, 0), (66, .iconst 1, 0, 0, 0), (67, .goto 20, 0, 87, 0), (70, .aload_n 0, 0, 0, 0), (71, .getfield 84, 0, 44, 10), (74, .iload 5, 0, 0, 0), (76, .iaload, 0, 0, 0), (77, .ldc 135, 0, 0, 1000000), (79, .if_icmp .ge 7, 0, 86, 0), (82, .iconst 2, 0, 0, 0), (83, .goto 4, 0, 87, 0), (86, .iconst 0, 0, 0, 0), (87, .istore 6, 0, 0, 0), (89, .iload 4, 0, 0, 0), (91, .ifCond .ne 8, 0, 99, 0), (94, .iload 6, 0, 0, 0), (96, .goto 36, 0, 132, 0), (99, .iload 6, 0, 0, 0), (101, .iconst 1, 0, 0, 0), (102, .if_icmp .ne 13, 0, 115, 0), (105, .aload_n 0, 0, 0, 0), (106, .getfield 81, 0, 43, 10), (109, .iload 5, 0, 0, 0), (111, .iaload, 0, 0, 0)]
noncomputable def ab_c168_2 : List (Nat × ab_E) := [(112, .goto 20, 0, 132, 0), (115, .iload 6, 0, 0, 0), (117, .iconst 2, 0, 0, 0), (118, .if_icmp .ne 13, 0, 131, 0), (121, .aload_n 0, 0, 0, 0), (122, .getfield 84, 0, 44, 10), (125, .iload 5, 0, 0, 0), (127, .iaload, 0, 0, 0), (128, .goto 4, 0, 132, 0), (131, .iconst (-1), 0, 0, 0), (132, .ireturn, 2, 1, 0)]
noncomputable def ab_c168 : List (Nat × ab_E) := List.append ab_c168_0 (List.append ab_c168_1 (ab_c168_2))
/-- LoneAdjectiveModel.deedsOf(I)I -/
noncomputable def ab_c169 : List (Nat × ab_E) := [(0, .iconst 0, 0, 0, 0), (1, .istore_n 2, 0, 0, 0), (2, .iconst 0, 0, 0, 0), (3, .istore_n 3, 0, 0, 0), (4, .iload_n 3, 0, 0, 0), (5, .aload_n 0, 0, 0, 0), (6, .getfield 109, 0, 11, 10), (9, .if_icmp .ge 31, 0, 40, 0), (12, .iload_n 2, 0, 0, 0), (13, .aload_n 0, 0, 0, 0), (14, .getfield 30, 0, 10, 10), (17, .iconst 5, 0, 0, 0), (18, .iload_n 3, 0, 0, 0), (19, .imul, 0, 0, 0), (20, .iaload, 0, 0, 0), (21, .iload_n 1, 0, 0, 0), (22, .if_icmp .ne 9, 0, 31, 0), (25, .iconst 1, 0, 0, 0), (26, .iload_n 3, 0, 0, 0), (27, .ishl, 0, 0, 0), (28, .goto 4, 0, 32, 0), (31, .iconst 0, 0, 0, 0), (32, .ior, 0, 0, 0), (33, .istore_n 2, 0, 0, 0), (34, .iinc 3 1, 0, 0, 0), (37, .goto (-33), 0, 4, 0), (40, .iload_n 2, 0, 0, 0), (41, .ireturn, 2, 1, 0)]
/-- LoneAdjectiveModel.voteOf(I)I -/
noncomputable def ab_c170_0 : List (Nat × ab_E) := [(0, .aload_n 0, 0, 0, 0), (1, .iload_n 1, 0, 0, 0), (2, .invokevirtual 326, 1, 169, 2), (5, .aload_n 0, 0, 0, 0), (6, .iconst 0, 0, 0, 0), (7, .invokevirtual 222, 1, 129, 2), (10, .iand, 0, 0, 0), (11, .istore_n 2, 0, 0, 0), (12, .iconst (-1), 0, 0, 0), (13, .istore_n 3, 0, 0, 0), (14, .iconst 0, 0, 0, 0), (15, .istore 4, 0, 0, 0), (17, .iconst 0, 0, 0, 0), (18, .istore 5, 0, 0, 0), (20, .iload 5, 0, 0, 0), (22, .aload_n 0, 0, 0, 0), (23, .getfield 203, 0, 14, 10), (26, .if_icmp .ge 54, 0, 80, 0), (29, .aload_n 0, 0, 0, 0), (30, .iload_n 2, 0, 0, 0), (31, .aload_n 0, 0, 0, 0), (32, .getfield 36, 0, 13, 10), (35, .iload 5, 0, 0, 0), (37, .iaload, 0, 0, 0), (38, .iand, 0, 0, 0), (39, .invokevirtual 225, 1, 130, 2), (42, .istore 6, 0, 0, 0), (44, .iload 6, 0, 0, 0), (46, .iload 4, 0, 0, 0), (48, .if_icmp .le 8, 0, 56, 0)]
noncomputable def ab_c170_1 : List (Nat × ab_E) := [(51, .iload 5, 0, 0, 0), (53, .goto 4, 0, 57, 0), (56, .iload_n 3, 0, 0, 0), (57, .istore_n 3, 0, 0, 0), (58, .iload 6, 0, 0, 0), (60, .iload 4, 0, 0, 0), (62, .if_icmp .le 8, 0, 70, 0), (65, .iload 6, 0, 0, 0), (67, .goto 5, 0, 72, 0), (70, .iload 4, 0, 0, 0), (72, .istore 4, 0, 0, 0), (74, .iinc 5 1, 0, 0, 0), (77, .goto (-57), 0, 20, 0), (80, .iload_n 3, 0, 0, 0), (81, .ireturn, 2, 1, 0)]
noncomputable def ab_c170 : List (Nat × ab_E) := List.append ab_c170_0 (ab_c170_1)
/-- LoneAdjectiveModel.votesFor(I)I -/
noncomputable def ab_c171 : List (Nat × ab_E) := [(0, .iconst 0, 0, 0, 0), (1, .istore_n 2, 0, 0, 0), (2, .iconst 0, 0, 0, 0), (3, .istore_n 3, 0, 0, 0), (4, .iload_n 3, 0, 0, 0), (5, .aload_n 0, 0, 0, 0), (6, .getfield 106, 0, 9, 10), (9, .if_icmp .ge 26, 0, 35, 0), (12, .iload_n 2, 0, 0, 0), (13, .aload_n 0, 0, 0, 0), (14, .iload_n 3, 0, 0, 0), (15, .invokevirtual 329, 1, 170, 2), (18, .iload_n 1, 0, 0, 0), (19, .if_icmp .ne 7, 0, 26, 0), (22, .iconst 1, 0, 0, 0), (23, .goto 4, 0, 27, 0), (26, .iconst 0, 0, 0, 0), (27, .iadd, 0, 0, 0), (28, .istore_n 2, 0, 0, 0), (29, .iinc 3 1, 0, 0, 0), (32, .goto (-28), 0, 4, 0), (35, .iload_n 2, 0, 0, 0), (36, .ireturn, 2, 1, 0)]
/-- LoneAdjectiveModel.vote(I)I -/
noncomputable def ab_c172_0 : List (Nat × ab_E) := [(0, .iload_n 1, 0, 0, 0), (1, .i2l, 0, 0, 0), (2, .ldc2_w 332, 0, 0, (-1)), (5, .aload_n 0, 0, 0, 0), (6, .getfield 203, 0, 14, 10), (9, .iconst 1, 0, 0, 0), (10, .isub, 0, 0, 0), (11, .i2l, 0, 0, 0), (12, .invokestatic 102, 1, 107, 3), (15, .ifCond .ne 6, 0, 21, 0), (18, .ldc 235, 0, 0, (-1000000001)), (20, .ireturn, 2, 1, 0), (21, .iload_n 1, 0, 0, 0), (22, .ifCond .lt 9, 0, 31, 0), (25, .aload_n 0, 0, 0, 0), (26, .iload_n 1, 0, 0, 0), (27, .invokevirtual 334, 1, 171, 2), (30, .ireturn, 2, 1, 0), (31, .iconst (-1), 0, 0, 0), (32, .istore_n 2, 0, 0, 0), (33, .iconst 0, 0, 0, 0), (34, .istore_n 3, 0, 0, 0), (35, .iconst 0, 0, 0, 0), (36, .istore 4, 0, 0, 0), (38, .iload 4, 0, 0, 0), (40, .aload_n 0, 0, 0, 0), (41, .getfield 203, 0, 14, 10), (44, .if_icmp .ge 43, 0, 87, 0), (47, .aload_n 0, 0, 0, 0), (48, .iload 4, 0, 0, 0)]
noncomputable def ab_c172_1 : List (Nat × ab_E) := [(50, .invokevirtual 334, 1, 171, 2), (53, .istore 5, 0, 0, 0), (55, .iload 5, 0, 0, 0), (57, .iload_n 3, 0, 0, 0), (58, .if_icmp .le 8, 0, 66, 0), (61, .iload 4, 0, 0, 0), (63, .goto 4, 0, 67, 0), (66, .iload_n 2, 0, 0, 0), (67, .istore_n 2, 0, 0, 0), (68, .iload 5, 0, 0, 0), (70, .iload_n 3, 0, 0, 0), (71, .if_icmp .le 8, 0, 79, 0), (74, .iload 5, 0, 0, 0), (76, .goto 4, 0, 80, 0), (79, .iload_n 3, 0, 0, 0), (80, .istore_n 3, 0, 0, 0), (81, .iinc 4 1, 0, 0, 0), (84, .goto (-46), 0, 38, 0), (87, .iload_n 2, 0, 0, 0), (88, .ireturn, 2, 1, 0)]
noncomputable def ab_c172 : List (Nat × ab_E) := List.append ab_c172_0 (ab_c172_1)
/-- LoneAdjectiveModel.bestWord()I -/
noncomputable def ab_c173_0 : List (Nat × ab_E) := [(0, .iconst (-1), 0, 0, 0), (1, .istore_n 1, 0, 0, 0), (2, .iconst (-1), 0, 0, 0), (3, .istore_n 2, 0, 0, 0), (4, .iconst 0, 0, 0, 0), (5, .istore_n 3, 0, 0, 0), (6, .iload_n 3, 0, 0, 0), (7, .aload_n 0, 0, 0, 0), (8, .getfield 203, 0, 14, 10), (11, .if_icmp .ge 52, 0, 63, 0), (14, .aload_n 0, 0, 0, 0), (15, .aload_n 0, 0, 0, 0), (16, .getfield 36, 0, 13, 10), (19, .iload_n 3, 0, 0, 0), (20, .iaload, 0, 0, 0), (21, .aload_n 0, 0, 0, 0), (22, .iconst 0, 0, 0, 0), (23, .invokevirtual 222, 1, 129, 2), (26, .iand, 0, 0, 0), (27, .invokevirtual 225, 1, 130, 2), (30, .istore 4, 0, 0, 0), (32, .iload 4, 0, 0, 0), (34, .iload_n 2, 0, 0, 0), (35, .if_icmp .le 7, 0, 42, 0), (38, .iload_n 3, 0, 0, 0), (39, .goto 4, 0, 43, 0), (42, .iload_n 1, 0, 0, 0), (43, .istore_n 1, 0, 0, 0), (44, .iload 4, 0, 0, 0), (46, .iload_n 2, 0, 0, 0)]
noncomputable def ab_c173_1 : List (Nat × ab_E) := [(47, .if_icmp .le 8, 0, 55, 0), (50, .iload 4, 0, 0, 0), (52, .goto 4, 0, 56, 0), (55, .iload_n 2, 0, 0, 0), (56, .istore_n 2, 0, 0, 0), (57, .iinc 3 1, 0, 0, 0), (60, .goto (-54), 0, 6, 0), (63, .iload_n 1, 0, 0, 0), (64, .ireturn, 2, 1, 0)]
noncomputable def ab_c173 : List (Nat × ab_E) := List.append ab_c173_0 (ab_c173_1)
/-- LoneAdjectiveModel.tell(II)I -/
noncomputable def ab_c174_0 : List (Nat × ab_E) := [(0, .aload_n 0, 0, 0, 0), (1, .iload_n 1, 0, 0, 0), (2, .invokevirtual 239, 1, 111, 2), (5, .ifCond .ne 6, 0, 11, 0), (8, .ldc 235, 0, 0, (-1000000001)), (10, .ireturn, 2, 1, 0), (11, .iload_n 2, 0, 0, 0), (12, .i2l, 0, 0, 0), (13, .lconst 1, 0, 0, 0), (14, .ldc2_w 257, 0, 0, 999), (17, .invokestatic 102, 1, 107, 3), (20, .ifCond .ne 6, 0, 26, 0), (23, .ldc 114, 0, 0, (-1000000002)), (25, .ireturn, 2, 1, 0), (26, .aload_n 0, 0, 0, 0), (27, .getfield 209, 0, 17, 10), (30, .bipush 6, 0, 0, 0), (32, .if_icmp .ne 6, 0, 38, 0), (35, .ldc 118, 0, 0, (-1000000004)), (37, .ireturn, 2, 1, 0), (38, .aload_n 0, 0, 0, 0), (39, .getfield 42, 0, 16, 10), (42, .iconst 2, 0, 0, 0), (43, .aload_n 0, 0, 0, 0), (44, .getfield 209, 0, 17, 10), (47, .imul, 0, 0, 0), (48, .iload_n 1, 0, 0, 0), (49, .iastore, 0, 0, 0), (50, .aload_n 0, 0, 0, 0), (51, .getfield 42, 0, 16, 10)]
noncomputable def ab_c174_1 : List (Nat × ab_E) := [(54, .iconst 2, 0, 0, 0), (55, .aload_n 0, 0, 0, 0), (56, .getfield 209, 0, 17, 10), (59, .imul, 0, 0, 0), (60, .iconst 1, 0, 0, 0), (61, .iadd, 0, 0, 0), (62, .iload_n 2, 0, 0, 0), (63, .iastore, 0, 0, 0), (64, .aload_n 0, 0, 0, 0), (65, .dup, 0, 0, 0), (66, .getfield 209, 0, 17, 10), (69, .iconst 1, 0, 0, 0), (70, .iadd, 0, 0, 0), (71, .putfield 209, 0, 17, 10), (74, .aload_n 0, 0, 0, 0), (75, .getfield 209, 0, 17, 10), (78, .ireturn, 2, 1, 0)]
noncomputable def ab_c174 : List (Nat × ab_E) := List.append ab_c174_0 (ab_c174_1)
/-- LoneAdjectiveModel.isDay(I)Z -/
noncomputable def ab_c175_0 : List (Nat × ab_E) := [(0, .iconst 0, 0, 0, 0), (1, .istore_n 2, 0, 0, 0), (2, .aload_n 0, 0, 0, 0), (3, .getfield 200, 0, 4, 10), (6, .istore_n 3, 0, 0, 0), (7, .iconst 0, 0, 0, 0), (8, .istore 4, 0, 0, 0), (10, .iload 4, 0, 0, 0), (12, .bipush 6, 0, 0, 0), (14, .if_icmp .ge 17, 0, 31, 0), (17, .aload_n 0, 0, 0, 0), (18, .getfield 90, 0, 46, 10), (21, .iload 4, 0, 0, 0), (23, .iconst (-1), 0, 0, 0), (24, .iastore, 0, 0, 0), (25, .iinc 4 1, 0, 0, 0), (28, .goto (-18), 0, 10, 0), (31, .iconst 0, 0, 0, 0), (32, .istore 4, 0, 0, 0), (34, .iload 4, 0, 0, 0), (36, .iload_n 1, 0, 0, 0), (37, .if_icmp .ge 64, 0, 101, 0), (40, .aload_n 0, 0, 0, 0), (41, .getfield 87, 0, 45, 10), (44, .iload 4, 0, 0, 0), (46, .iload_n 2, 0, 0, 0), (47, .iastore, 0, 0, 0), (48, .aload_n 0, 0, 0, 0), (49, .iload_n 2, 0, 0, 0), (50, .iload_n 3, 0, 0, 0)]
noncomputable def ab_c175_1 : List (Nat × ab_E) := [(51, .aload_n 0, 0, 0, 0), (52, .getfield 66, 0, 38, 10), (55, .iload 4, 0, 0, 0), (57, .iaload, 0, 0, 0), (58, .invokevirtual 274, 1, 148, 4), (61, .istore_n 2, 0, 0, 0), (62, .iload_n 2, 0, 0, 0), (63, .ldc 135, 0, 0, 1000000), (65, .if_icmp .lt 5, 0, 70, 0), (68, .iconst 0, 0, 0, 0), (69, .ireturn, 2, 1, 1), (70, .aload_n 0, 0, 0, 0), (71, .getfield 90, 0, 46, 10), (74, .aload_n 0, 0, 0, 0), (75, .getfield 66, 0, 38, 10), (78, .iload 4, 0, 0, 0), (80, .iaload, 0, 0, 0), (81, .iload_n 2, 0, 0, 0), (82, .iastore, 0, 0, 0), (83, .aload_n 0, 0, 0, 0), (84, .aload_n 0, 0, 0, 0), (85, .getfield 66, 0, 38, 10), (88, .iload 4, 0, 0, 0), (90, .iaload, 0, 0, 0), (91, .invokevirtual 271, 1, 139, 2), (94, .istore_n 3, 0, 0, 0), (95, .iinc 4 1, 0, 0, 0), (98, .goto (-64), 0, 34, 0), (101, .iconst 1, 0, 0, 0), (102, .istore 4, 0, 0, 0)]
noncomputable def ab_c175_2 : List (Nat × ab_E) := [(104, .iconst 0, 0, 0, 0), (105, .istore 5, 0, 0, 0), (107, .iload 5, 0, 0, 0), (109, .aload_n 0, 0, 0, 0), (110, .getfield 209, 0, 17, 10), (113, .if_icmp .ge 49, 0, 162, 0), (116, .iload 4, 0, 0, 0), (118, .ifCond .eq 35, 0, 153, 0), (121, .aload_n 0, 0, 0, 0), (122, .getfield 90, 0, 46, 10), (125, .aload_n 0, 0, 0, 0), (126, .getfield 42, 0, 16, 10), (129, .iconst 2, 0, 0, 0), (130, .iload 5, 0, 0, 0), (132, .imul, 0, 0, 0), (133, .iaload, 0, 0, 0), (134, .iaload, 0, 0, 0), (135, .aload_n 0, 0, 0, 0), (136, .getfield 42, 0, 16, 10), (139, .iconst 2, 0, 0, 0), (140, .iload 5, 0, 0, 0), (142, .imul, 0, 0, 0), (143, .iconst 1, 0, 0, 0), (144, .iadd, 0, 0, 0), (145, .iaload, 0, 0, 0), (146, .if_icmp .ne 7, 0, 153, 0), (149, .iconst 1, 0, 0, 0), (150, .goto 4, 0, 154, 0), (153, .iconst 0, 0, 0, 0), (154, .istore 4, 0, 0, 0)]
noncomputable def ab_c175_3 : List (Nat × ab_E) := [(156, .iinc 5 1, 0, 0, 0), (159, .goto (-52), 0, 107, 0), (162, .iload 4, 0, 0, 0), (164, .ireturn, 2, 1, 1)]
noncomputable def ab_c175 : List (Nat × ab_E) := List.append ab_c175_0 (List.append ab_c175_1 (List.append ab_c175_2 (ab_c175_3)))
/-- LoneAdjectiveModel.findDays(I)I -/
noncomputable def ab_c176_0 : List (Nat × ab_E) := [(0, .iconst 0, 0, 0, 0), (1, .istore_n 2, 0, 0, 0), (2, .aload_n 0, 0, 0, 0), (3, .iconst 0, 0, 0, 0), (4, .putfield 337, 0, 47, 10), (7, .iconst 1, 0, 0, 0), (8, .istore_n 3, 0, 0, 0), (9, .iconst 0, 0, 0, 0), (10, .istore 4, 0, 0, 0), (12, .iload 4, 0, 0, 0), (14, .aload_n 0, 0, 0, 0), (15, .getfield 109, 0, 11, 10), (18, .if_icmp .gt 116, 0, 134, 0), (21, .iconst 0, 0, 0, 0), (22, .istore 5, 0, 0, 0), (24, .iload 5, 0, 0, 0), (26, .iload_n 3, 0, 0, 0), (27, .if_icmp .ge 96, 0, 123, 0), (30, .aload_n 0, 0, 0, 0), (31, .iload 5, 0, 0, 0), (33, .iload 4, 0, 0, 0), (35, .invokevirtual 278, 1, 153, 3), (38, .ifCond .lt 79, 0, 117, 0), (41, .aload_n 0, 0, 0, 0), (42, .iload 4, 0, 0, 0), (44, .invokevirtual 340, 1, 175, 2), (47, .ifCond .eq 70, 0, 117, 0), (50, .iinc 2 1, 0, 0, 0), (53, .aload_n 0, 0, 0, 0), (54, .getfield 200, 0, 4, 10)]
noncomputable def ab_c176_1 : List (Nat × ab_E) := [(57, .istore 6, 0, 0, 0), (59, .iconst 0, 0, 0, 0), (60, .istore 7, 0, 0, 0), (62, .iload 7, 0, 0, 0), (64, .iload 4, 0, 0, 0), (66, .if_icmp .ge 38, 0, 104, 0), (69, .aload_n 0, 0, 0, 0), (70, .getfield 87, 0, 45, 10), (73, .iload 7, 0, 0, 0), (75, .iaload, 0, 0, 0), (76, .iload_n 1, 0, 0, 0), (77, .if_icmp .gt 17, 0, 94, 0), (80, .aload_n 0, 0, 0, 0), (81, .aload_n 0, 0, 0, 0), (82, .getfield 66, 0, 38, 10), (85, .iload 7, 0, 0, 0), (87, .iaload, 0, 0, 0), (88, .invokevirtual 271, 1, 139, 2), (91, .goto 5, 0, 96, 0), (94, .iload 6, 0, 0, 0), (96, .istore 6, 0, 0, 0), (98, .iinc 7 1, 0, 0, 0), (101, .goto (-39), 0, 62, 0), (104, .aload_n 0, 0, 0, 0), (105, .dup, 0, 0, 0), (106, .getfield 337, 0, 47, 10), (109, .iconst 1, 0, 0, 0), (110, .iload 6, 0, 0, 0), (112, .ishl, 0, 0, 0), (113, .ior, 0, 0, 0)]
noncomputable def ab_c176_2 : List (Nat × ab_E) := [(114, .putfield 337, 0, 47, 10), (117, .iinc 5 1, 0, 0, 0), (120, .goto (-96), 0, 24, 0), (123, .iload_n 3, 0, 0, 0), (124, .bipush 6, 0, 0, 0), (126, .imul, 0, 0, 0), (127, .istore_n 3, 0, 0, 0), (128, .iinc 4 1, 0, 0, 0), (131, .goto (-119), 0, 12, 0), (134, .iload_n 2, 0, 0, 0), (135, .ireturn, 2, 1, 0)]
noncomputable def ab_c176 : List (Nat × ab_E) := List.append ab_c176_0 (List.append ab_c176_1 (ab_c176_2))
/-- LoneAdjectiveModel.days()I -/
noncomputable def ab_c177 : List (Nat × ab_E) := [(0, .aload_n 0, 0, 0, 0), (1, .getfield 99, 0, 3, 10), (4, .ifCond .ne 7, 0, 11, 0), (7, .iconst 0, 0, 0, 0), (8, .goto 8, 0, 16, 0), (11, .aload_n 0, 0, 0, 0), (12, .iconst 0, 0, 0, 0), (13, .invokevirtual 343, 1, 176, 2), (16, .ireturn, 2, 1, 0)]
/-- LoneAdjectiveModel.where(I)I -/
noncomputable def ab_c178 : List (Nat × ab_E) := [(0, .iload_n 1, 0, 0, 0), (1, .i2l, 0, 0, 0), (2, .lconst 0, 0, 0, 0), (3, .ldc2_w 257, 0, 0, 999), (6, .invokestatic 102, 1, 107, 3), (9, .ifCond .ne 6, 0, 15, 0), (12, .ldc 114, 0, 0, (-1000000002)), (14, .ireturn, 2, 1, 0), (15, .aload_n 0, 0, 0, 0), (16, .iload_n 1, 0, 0, 0), (17, .invokevirtual 343, 1, 176, 2), (20, .pop, 0, 0, 0), (21, .aload_n 0, 0, 0, 0), (22, .getfield 99, 0, 3, 10), (25, .ifCond .ne 7, 0, 32, 0), (28, .iconst 0, 0, 0, 0), (29, .goto 7, 0, 36, 0), (32, .aload_n 0, 0, 0, 0), (33, .getfield 337, 0, 47, 10), (36, .ireturn, 2, 1, 0)]
/-- LoneAdjectiveModel.write(II)I -/
noncomputable def ab_c179_0 : List (Nat × ab_E) := [(0, .aload_n 0, 0, 0, 0), (1, .iload_n 1, 0, 0, 0), (2, .invokevirtual 239, 1, 111, 2), (5, .ifCond .ne 6, 0, 11, 0), (8, .ldc 235, 0, 0, (-1000000001)), (10, .ireturn, 2, 1, 0), (11, .iload_n 2, 0, 0, 0), (12, .i2l, 0, 0, 0), (13, .lconst 0, 0, 0, 0), (14, .ldc2_w 346, 0, 0, 99999), (17, .invokestatic 102, 1, 107, 3), (20, .ifCond .ne 6, 0, 26, 0), (23, .ldc 114, 0, 0, (-1000000002)), (25, .ireturn, 2, 1, 0), (26, .aload_n 0, 0, 0, 0), (27, .getfield 212, 0, 19, 10), (30, .bipush 15, 0, 0, 0), (32, .if_icmp .ne 6, 0, 38, 0), (35, .ldc 118, 0, 0, (-1000000004)), (37, .ireturn, 2, 1, 0), (38, .aload_n 0, 0, 0, 0), (39, .getfield 45, 0, 18, 10), (42, .iconst 2, 0, 0, 0), (43, .aload_n 0, 0, 0, 0), (44, .getfield 212, 0, 19, 10), (47, .imul, 0, 0, 0), (48, .iload_n 1, 0, 0, 0), (49, .iastore, 0, 0, 0), (50, .aload_n 0, 0, 0, 0), (51, .getfield 45, 0, 18, 10)]
noncomputable def ab_c179_1 : List (Nat × ab_E) := [(54, .iconst 2, 0, 0, 0), (55, .aload_n 0, 0, 0, 0), (56, .getfield 212, 0, 19, 10), (59, .imul, 0, 0, 0), (60, .iconst 1, 0, 0, 0), (61, .iadd, 0, 0, 0), (62, .iload_n 2, 0, 0, 0), (63, .iastore, 0, 0, 0), (64, .aload_n 0, 0, 0, 0), (65, .dup, 0, 0, 0), (66, .getfield 212, 0, 19, 10), (69, .iconst 1, 0, 0, 0), (70, .iadd, 0, 0, 0), (71, .putfield 212, 0, 19, 10), (74, .aload_n 0, 0, 0, 0), (75, .getfield 212, 0, 19, 10), (78, .ireturn, 2, 1, 0)]
noncomputable def ab_c179 : List (Nat × ab_E) := List.append ab_c179_0 (ab_c179_1)
/-- LoneAdjectiveModel.judge()I -/
noncomputable def ab_c180_0 : List (Nat × ab_E) := [(0, .iconst 0, 0, 0, 0), (1, .istore_n 1, 0, 0, 0), (2, .iload_n 1, 0, 0, 0), (3, .aload_n 0, 0, 0, 0), (4, .getfield 212, 0, 19, 10), (7, .if_icmp .ge 39, 0, 46, 0), (10, .aload_n 0, 0, 0, 0), (11, .getfield 39, 0, 15, 10), (14, .iconst 4, 0, 0, 0), (15, .aload_n 0, 0, 0, 0), (16, .getfield 45, 0, 18, 10), (19, .iconst 2, 0, 0, 0), (20, .iload_n 1, 0, 0, 0), (21, .imul, 0, 0, 0), (22, .iaload, 0, 0, 0), (23, .iadd, 0, 0, 0), (24, .iaload, 0, 0, 0), (25, .aload_n 0, 0, 0, 0), (26, .getfield 45, 0, 18, 10), (29, .iconst 2, 0, 0, 0), (30, .iload_n 1, 0, 0, 0), (31, .imul, 0, 0, 0), (32, .iconst 1, 0, 0, 0), (33, .iadd, 0, 0, 0), (34, .iaload, 0, 0, 0), (35, .if_icmp .eq 5, 0, 40, 0), (38, .iload_n 1, 0, 0, 0), (39, .ireturn, 2, 1, 0), (40, .iinc 1 1, 0, 0, 0), (43, .goto (-41), 0, 2, 0)]
noncomputable def ab_c180_1 : List (Nat × ab_E) := [(46, .iconst (-1), 0, 0, 0), (47, .ireturn, 2, 1, 0)]
noncomputable def ab_c180 : List (Nat × ab_E) := List.append ab_c180_0 (ab_c180_1)
/-- LoneAdjectiveModel.tear()I -/
noncomputable def ab_c181 : List (Nat × ab_E) := [(0, .aload_n 0, 0, 0, 0), (1, .getfield 209, 0, 17, 10), (4, .aload_n 0, 0, 0, 0), (5, .getfield 212, 0, 19, 10), (8, .iadd, 0, 0, 0), (9, .istore_n 1, 0, 0, 0), (10, .aload_n 0, 0, 0, 0), (11, .iconst 0, 0, 0, 0), (12, .putfield 209, 0, 17, 10), (15, .aload_n 0, 0, 0, 0), (16, .iconst 0, 0, 0, 0), (17, .putfield 212, 0, 19, 10), (20, .iload_n 1, 0, 0, 0), (21, .ireturn, 2, 1, 0)]
/-- LoneAdjectiveModel.seed(I)I -/
noncomputable def ab_c182 : List (Nat × ab_E) := [(0, .iload_n 1, 0, 0, 0), (1, .ifCond .ge 6, 0, 7, 0), (4, .ldc 114, 0, 0, (-1000000002)), (6, .ireturn, 2, 1, 0), (7, .aload_n 0, 0, 0, 0), (8, .getfield 39, 0, 15, 10), (11, .iconst 3, 0, 0, 0), (12, .iaload, 0, 0, 0), (13, .istore_n 2, 0, 0, 0), (14, .aload_n 0, 0, 0, 0), (15, .getfield 39, 0, 15, 10), (18, .iconst 3, 0, 0, 0), (19, .iload_n 1, 0, 0, 0), (20, .iastore, 0, 0, 0), (21, .iload_n 2, 0, 0, 0), (22, .ireturn, 2, 1, 0)]
/-- LoneAdjectiveModel.keep(I)I -/
noncomputable def ab_c183_0 : List (Nat × ab_E) := [(0, .iload_n 1, 0, 0, 0), (1, .i2l, 0, 0, 0), (2, .lconst 0, 0, 0, 0), (3, .lconst 1, 0, 0, 0), (4, .invokestatic 102, 1, 107, 3), (7, .ifCond .ne 6, 0, 13, 0), (10, .ldc 235, 0, 0, (-1000000001)), (12, .ireturn, 2, 1, 0), (13, .iconst 0, 0, 0, 0), (14, .istore_n 2, 0, 0, 0), (15, .iload_n 2, 0, 0, 0), (16, .bipush 10, 0, 0, 0), (18, .if_icmp .ge 26, 0, 44, 0), (21, .aload_n 0, 0, 0, 0), (22, .getfield 96, 0, 49, 10), (25, .bipush 10, 0, 0, 0), (27, .iload_n 1, 0, 0, 0), (28, .imul, 0, 0, 0), (29, .iload_n 2, 0, 0, 0), (30, .iadd, 0, 0, 0), (31, .aload_n 0, 0, 0, 0), (32, .getfield 39, 0, 15, 10), (35, .iload_n 2, 0, 0, 0), (36, .iaload, 0, 0, 0), (37, .iastore, 0, 0, 0), (38, .iinc 2 1, 0, 0, 0), (41, .goto (-26), 0, 15, 0), (44, .aload_n 0, 0, 0, 0), (45, .getfield 93, 0, 48, 10), (48, .iload_n 1, 0, 0, 0)]
noncomputable def ab_c183_1 : List (Nat × ab_E) := [(49, .iconst 1, 0, 0, 0), (50, .bastore, 0, 0, 0), (51, .iconst 1, 0, 0, 0), (52, .ireturn, 2, 1, 0)]
noncomputable def ab_c183 : List (Nat × ab_E) := List.append ab_c183_0 (ab_c183_1)
/-- LoneAdjectiveModel.goBack(I)I -/
noncomputable def ab_c184_0 : List (Nat × ab_E) := [(0, .iload_n 1, 0, 0, 0), (1, .i2l, 0, 0, 0), (2, .lconst 0, 0, 0, 0), (3, .lconst 1, 0, 0, 0), (4, .invokestatic 102, 1, 107, 3), (7, .ifCond .ne 6, 0, 13, 0), (10, .ldc 235, 0, 0, (-1000000001)), (12, .ireturn, 2, 1, 0), (13, .aload_n 0, 0, 0, 0), (14, .getfield 93, 0, 48, 10), (17, .iload_n 1, 0, 0, 0), (18, .baload, 0, 0, 0), (19, .ifCond .ne 6, 0, 25, 0), (22, .ldc 247, 0, 0, (-1000000003)), (24, .ireturn, 2, 1, 0), (25, .iconst 0, 0, 0, 0), (26, .istore_n 2, 0, 0, 0), (27, .iload_n 2, 0, 0, 0), (28, .bipush 10, 0, 0, 0), (30, .if_icmp .ge 26, 0, 56, 0), (33, .aload_n 0, 0, 0, 0), (34, .getfield 39, 0, 15, 10), (37, .iload_n 2, 0, 0, 0), (38, .aload_n 0, 0, 0, 0), (39, .getfield 96, 0, 49, 10), (42, .bipush 10, 0, 0, 0), (44, .iload_n 1, 0, 0, 0), (45, .imul, 0, 0, 0), (46, .iload_n 2, 0, 0, 0), (47, .iadd, 0, 0, 0)]
noncomputable def ab_c184_1 : List (Nat × ab_E) := [(48, .iaload, 0, 0, 0), (49, .iastore, 0, 0, 0), (50, .iinc 2 1, 0, 0, 0), (53, .goto (-26), 0, 27, 0), (56, .iconst 1, 0, 0, 0), (57, .ireturn, 2, 1, 0)]
noncomputable def ab_c184 : List (Nat × ab_E) := List.append ab_c184_0 (ab_c184_1)
/-- java/lang/String.length()I -/
noncomputable def ab_c185 : List (Nat × ab_E) := [(0, .aload_n 0, 0, 0, 0), (1, .getfield 9, 0, 0, 30), (4, .arraylength, 0, 0, 0), (5, .aload_n 0, 0, 0, 0), (6, .invokevirtual 335, 1, 188, 1), (9, .ishr, 0, 0, 0), (10, .ireturn, 2, 1, 0)]
/-- java/lang/String.indexOf(I)I -/
noncomputable def ab_c186 : List (Nat × ab_E) := [(0, .aload_n 0, 0, 0, 0), (1, .iload_n 1, 0, 0, 0), (2, .iconst 0, 0, 0, 0), (3, .invokevirtual 633, 1, 187, 3), (6, .ireturn, 2, 1, 0)]
/-- java/lang/String.indexOf(II)I -/
noncomputable def ab_c187 : List (Nat × ab_E) := [(0, .aload_n 0, 0, 0, 0), (1, .invokevirtual 492, 1, 189, 1), (4, .ifCond .eq 19, 0, 23, 0), (7, .aload_n 0, 0, 0, 0), (8, .getfield 9, 0, 0, 30), (11, .iload_n 1, 0, 0, 0), (12, .iload_n 2, 0, 0, 0), (13, .aload_n 0, 0, 0, 0), (14, .invokevirtual 505, 1, 185, 1), (17, .invokestatic 637, 1, 191, 4), (20, .goto 16, 0, 36, 0), (23, .aload_n 0, 0, 0, 0), (24, .getfield 9, 0, 0, 30), (27, .iload_n 1, 0, 0, 0), (28, .iload_n 2, 0, 0, 0), (29, .aload_n 0, 0, 0, 0), (30, .invokevirtual 505, 1, 185, 1), (33, .invokestatic 640, 9, 0, 0), (36, .ireturn, 2, 1, 0)]
/-- java/lang/String.coder()B -/
noncomputable def ab_c188 : List (Nat × ab_E) := [(0, .getstatic 38, 0, 1, 1), (3, .ifCond .eq 10, 0, 13, 0), (6, .aload_n 0, 0, 0, 0), (7, .getfield 15, 0, 1, 30), (10, .goto 4, 0, 14, 0), (13, .iconst 1, 0, 0, 0), (14, .ireturn, 2, 1, 3)]
/-- java/lang/String.isLatin1()Z -/
noncomputable def ab_c189 : List (Nat × ab_E) := [(0, .getstatic 38, 0, 1, 1), (3, .ifCond .eq 14, 0, 17, 0), (6, .aload_n 0, 0, 0, 0), (7, .getfield 15, 0, 1, 30), (10, .ifCond .ne 7, 0, 17, 0), (13, .iconst 1, 0, 0, 0), (14, .goto 4, 0, 18, 0), (17, .iconst 0, 0, 0, 0), (18, .ireturn, 2, 1, 1)]
/-- java/lang/StringLatin1.canEncode(I)Z -/
noncomputable def ab_c190 : List (Nat × ab_E) := [(0, .iload_n 0, 0, 0, 0), (1, .ifCond .lt 14, 0, 15, 0), (4, .iload_n 0, 0, 0, 0), (5, .sipush 255, 0, 0, 0), (8, .if_icmp .gt 7, 0, 15, 0), (11, .iconst 1, 0, 0, 0), (12, .goto 4, 0, 16, 0), (15, .iconst 0, 0, 0, 0), (16, .ireturn, 2, 1, 1)]
/-- java/lang/StringLatin1.indexOf([BIII)I -/
noncomputable def ab_c191 : List (Nat × ab_E) := [(0, .iload_n 1, 0, 0, 0), (1, .invokestatic 88, 1, 190, 1), (4, .ifCond .ne 5, 0, 9, 0), (7, .iconst (-1), 0, 0, 0), (8, .ireturn, 2, 1, 0), (9, .iload_n 2, 0, 0, 0), (10, .iconst 0, 0, 0, 0), (11, .invokestatic 92, 0, 902, 2), (14, .istore_n 2, 0, 0, 0), (15, .iload_n 3, 0, 0, 0), (16, .aload_n 0, 0, 0, 0), (17, .arraylength, 0, 0, 0), (18, .invokestatic 38, 0, 903, 2), (21, .istore_n 3, 0, 0, 0), (22, .iload_n 2, 0, 0, 0), (23, .iload_n 3, 0, 0, 0), (24, .if_icmp .lt 5, 0, 29, 0), (27, .iconst (-1), 0, 0, 0), (28, .ireturn, 2, 1, 0), (29, .aload_n 0, 0, 0, 0), (30, .iload_n 1, 0, 0, 0), (31, .iload_n 2, 0, 0, 0), (32, .iload_n 3, 0, 0, 0), (33, .invokestatic 95, 1, 192, 4), (36, .ireturn, 2, 1, 0)]
/-- java/lang/StringLatin1.indexOfChar([BIII)I -/
noncomputable def ab_c192 : List (Nat × ab_E) := [(0, .iload_n 1, 0, 0, 0), (1, .i2b, 0, 0, 0), (2, .istore 4, 0, 0, 0), (4, .iload_n 2, 0, 0, 0), (5, .istore 5, 0, 0, 0), (7, .iload 5, 0, 0, 0), (9, .iload_n 3, 0, 0, 0), (10, .if_icmp .ge 21, 0, 31, 0), (13, .aload_n 0, 0, 0, 0), (14, .iload 5, 0, 0, 0), (16, .baload, 0, 0, 0), (17, .iload 4, 0, 0, 0), (19, .if_icmp .ne 6, 0, 25, 0), (22, .iload 5, 0, 0, 0), (24, .ireturn, 2, 1, 0), (25, .iinc 5 1, 0, 0, 0), (28, .goto (-21), 0, 7, 0), (31, .iconst (-1), 0, 0, 0), (32, .ireturn, 2, 1, 0)]
/-- java/util/Arrays.fill([II)V -/
noncomputable def ab_c193 : List (Nat × ab_E) := [(0, .iconst 0, 0, 0, 0), (1, .istore_n 2, 0, 0, 0), (2, .aload_n 0, 0, 0, 0), (3, .arraylength, 0, 0, 0), (4, .istore_n 3, 0, 0, 0), (5, .iload_n 2, 0, 0, 0), (6, .iload_n 3, 0, 0, 0), (7, .if_icmp .ge 13, 0, 20, 0), (10, .aload_n 0, 0, 0, 0), (11, .iload_n 2, 0, 0, 0), (12, .iload_n 1, 0, 0, 0), (13, .iastore, 0, 0, 0), (14, .iinc 2 1, 0, 0, 0), (17, .goto (-12), 0, 5, 0), (20, .return_, 2, 0, 2)]
/-- LoneAdjectiveLaw.law([I)Z -/
noncomputable def ab_c194_0 : List (Nat × ab_E) := [(0, .new 7, 0, 0, 9), (3, .dup, 0, 0, 0), (4, .invokespecial 9, 1, 64, 1), (7, .astore_n 1, 0, 0, 0), (8, .new 10, 0, 0, 10), (11, .dup, 0, 0, 0), (12, .invokespecial 12, 1, 106, 1), (15, .astore_n 2, 0, 0, 0), (16, .iconst 0, 0, 0, 0), (17, .istore_n 3, 0, 0, 0), (18, .iload_n 3, 0, 0, 0), (19, .aload_n 0, 0, 0, 0), (20, .arraylength, 0, 0, 0), (21, .iconst 5, 0, 0, 0), (22, .isub, 0, 0, 0), (23, .if_icmp .gt 955, 0, 978, 0), (26, .aload_n 0, 0, 0, 0), (27, .iload_n 3, 0, 0, 0), (28, .iaload, 0, 0, 0), (29, .bipush 31, 0, 0, 0), (31, .iand, 0, 0, 0), (32, .tableswitch 940 0 31 #[144, 167, 180, 193, 216, 249, 282, 315, 348, 371, 394, 417, 430, 453, 476, 499, 522, 545, 588, 611, 654, 707, 730, 743, 776, 789, 812, 845, 858, 871, 894, 917], 0, 972, 0), (176, .aload_n 1, 0, 0, 0), (177, .aload_n 0, 0, 0, 0), (178, .iload_n 3, 0, 0, 0), (179, .iconst 1, 0, 0, 0), (180, .iadd, 0, 0, 0), (181, .iaload, 0, 0, 0), (182, .invokevirtual 13, 1, 65, 2), (185, .aload_n 2, 0, 0, 0)]
noncomputable def ab_c194_1 : List (Nat × ab_E) := [(186, .aload_n 0, 0, 0, 0), (187, .iload_n 3, 0, 0, 0), (188, .iconst 1, 0, 0, 0), (189, .iadd, 0, 0, 0), (190, .iaload, 0, 0, 0), (191, .invokevirtual 17, 1, 112, 2), (194, .if_icmp .eq 778, 0, 972, 0), (197, .iconst 0, 0, 0, 0), (198, .ireturn, 2, 1, 1), (199, .aload_n 1, 0, 0, 0), (200, .invokevirtual 18, 1, 66, 1), (203, .aload_n 2, 0, 0, 0), (204, .invokevirtual 22, 1, 126, 1), (207, .if_icmp .eq 765, 0, 972, 0), (210, .iconst 0, 0, 0, 0), (211, .ireturn, 2, 1, 1), (212, .aload_n 1, 0, 0, 0), (213, .invokevirtual 23, 1, 67, 1), (216, .aload_n 2, 0, 0, 0), (217, .invokevirtual 26, 1, 127, 1), (220, .if_icmp .eq 752, 0, 972, 0), (223, .iconst 0, 0, 0, 0), (224, .ireturn, 2, 1, 1), (225, .aload_n 1, 0, 0, 0), (226, .aload_n 0, 0, 0, 0), (227, .iload_n 3, 0, 0, 0), (228, .iconst 1, 0, 0, 0), (229, .iadd, 0, 0, 0), (230, .iaload, 0, 0, 0), (231, .invokevirtual 27, 1, 68, 2)]
noncomputable def ab_c194_2 : List (Nat × ab_E) := [(234, .aload_n 2, 0, 0, 0), (235, .aload_n 0, 0, 0, 0), (236, .iload_n 3, 0, 0, 0), (237, .iconst 1, 0, 0, 0), (238, .iadd, 0, 0, 0), (239, .iaload, 0, 0, 0), (240, .invokevirtual 30, 1, 131, 2), (243, .if_icmp .eq 729, 0, 972, 0), (246, .iconst 0, 0, 0, 0), (247, .ireturn, 2, 1, 1), (248, .aload_n 1, 0, 0, 0), (249, .aload_n 0, 0, 0, 0), (250, .iload_n 3, 0, 0, 0), (251, .iconst 1, 0, 0, 0), (252, .iadd, 0, 0, 0), (253, .iaload, 0, 0, 0), (254, .aload_n 0, 0, 0, 0), (255, .iload_n 3, 0, 0, 0), (256, .iconst 2, 0, 0, 0), (257, .iadd, 0, 0, 0), (258, .iaload, 0, 0, 0), (259, .invokevirtual 31, 1, 69, 3), (262, .aload_n 2, 0, 0, 0), (263, .aload_n 0, 0, 0, 0), (264, .iload_n 3, 0, 0, 0), (265, .iconst 1, 0, 0, 0), (266, .iadd, 0, 0, 0), (267, .iaload, 0, 0, 0), (268, .aload_n 0, 0, 0, 0), (269, .iload_n 3, 0, 0, 0)]
noncomputable def ab_c194_3 : List (Nat × ab_E) := [(270, .iconst 2, 0, 0, 0), (271, .iadd, 0, 0, 0), (272, .iaload, 0, 0, 0), (273, .invokevirtual 35, 1, 133, 3), (276, .if_icmp .eq 696, 0, 972, 0), (279, .iconst 0, 0, 0, 0), (280, .ireturn, 2, 1, 1), (281, .aload_n 1, 0, 0, 0), (282, .aload_n 0, 0, 0, 0), (283, .iload_n 3, 0, 0, 0), (284, .iconst 1, 0, 0, 0), (285, .iadd, 0, 0, 0), (286, .iaload, 0, 0, 0), (287, .aload_n 0, 0, 0, 0), (288, .iload_n 3, 0, 0, 0), (289, .iconst 2, 0, 0, 0), (290, .iadd, 0, 0, 0), (291, .iaload, 0, 0, 0), (292, .invokevirtual 36, 1, 70, 3), (295, .aload_n 2, 0, 0, 0), (296, .aload_n 0, 0, 0, 0), (297, .iload_n 3, 0, 0, 0), (298, .iconst 1, 0, 0, 0), (299, .iadd, 0, 0, 0), (300, .iaload, 0, 0, 0), (301, .aload_n 0, 0, 0, 0), (302, .iload_n 3, 0, 0, 0), (303, .iconst 2, 0, 0, 0), (304, .iadd, 0, 0, 0), (305, .iaload, 0, 0, 0)]
noncomputable def ab_c194_4 : List (Nat × ab_E) := [(306, .invokevirtual 39, 1, 134, 3), (309, .if_icmp .eq 663, 0, 972, 0), (312, .iconst 0, 0, 0, 0), (313, .ireturn, 2, 1, 1), (314, .aload_n 1, 0, 0, 0), (315, .aload_n 0, 0, 0, 0), (316, .iload_n 3, 0, 0, 0), (317, .iconst 1, 0, 0, 0), (318, .iadd, 0, 0, 0), (319, .iaload, 0, 0, 0), (320, .aload_n 0, 0, 0, 0), (321, .iload_n 3, 0, 0, 0), (322, .iconst 2, 0, 0, 0), (323, .iadd, 0, 0, 0), (324, .iaload, 0, 0, 0), (325, .invokevirtual 40, 1, 71, 3), (328, .aload_n 2, 0, 0, 0), (329, .aload_n 0, 0, 0, 0), (330, .iload_n 3, 0, 0, 0), (331, .iconst 1, 0, 0, 0), (332, .iadd, 0, 0, 0), (333, .iaload, 0, 0, 0), (334, .aload_n 0, 0, 0, 0), (335, .iload_n 3, 0, 0, 0), (336, .iconst 2, 0, 0, 0), (337, .iadd, 0, 0, 0), (338, .iaload, 0, 0, 0), (339, .invokevirtual 43, 1, 135, 3), (342, .if_icmp .eq 630, 0, 972, 0), (345, .iconst 0, 0, 0, 0)]
noncomputable def ab_c194_5 : List (Nat × ab_E) := [(346, .ireturn, 2, 1, 1), (347, .aload_n 1, 0, 0, 0), (348, .aload_n 0, 0, 0, 0), (349, .iload_n 3, 0, 0, 0), (350, .iconst 1, 0, 0, 0), (351, .iadd, 0, 0, 0), (352, .iaload, 0, 0, 0), (353, .aload_n 0, 0, 0, 0), (354, .iload_n 3, 0, 0, 0), (355, .iconst 2, 0, 0, 0), (356, .iadd, 0, 0, 0), (357, .iaload, 0, 0, 0), (358, .invokevirtual 44, 1, 72, 3), (361, .aload_n 2, 0, 0, 0), (362, .aload_n 0, 0, 0, 0), (363, .iload_n 3, 0, 0, 0), (364, .iconst 1, 0, 0, 0), (365, .iadd, 0, 0, 0), (366, .iaload, 0, 0, 0), (367, .aload_n 0, 0, 0, 0), (368, .iload_n 3, 0, 0, 0), (369, .iconst 2, 0, 0, 0), (370, .iadd, 0, 0, 0), (371, .iaload, 0, 0, 0), (372, .invokevirtual 47, 1, 137, 3), (375, .if_icmp .eq 597, 0, 972, 0), (378, .iconst 0, 0, 0, 0), (379, .ireturn, 2, 1, 1), (380, .aload_n 1, 0, 0, 0), (381, .aload_n 0, 0, 0, 0)]
noncomputable def ab_c194_6 : List (Nat × ab_E) := [(382, .iload_n 3, 0, 0, 0), (383, .iconst 1, 0, 0, 0), (384, .iadd, 0, 0, 0), (385, .iaload, 0, 0, 0), (386, .invokevirtual 48, 1, 73, 2), (389, .aload_n 2, 0, 0, 0), (390, .aload_n 0, 0, 0, 0), (391, .iload_n 3, 0, 0, 0), (392, .iconst 1, 0, 0, 0), (393, .iadd, 0, 0, 0), (394, .iaload, 0, 0, 0), (395, .invokevirtual 51, 1, 138, 2), (398, .if_icmp .eq 574, 0, 972, 0), (401, .iconst 0, 0, 0, 0), (402, .ireturn, 2, 1, 1), (403, .aload_n 1, 0, 0, 0), (404, .aload_n 0, 0, 0, 0), (405, .iload_n 3, 0, 0, 0), (406, .iconst 1, 0, 0, 0), (407, .iadd, 0, 0, 0), (408, .iaload, 0, 0, 0), (409, .invokevirtual 52, 1, 74, 2), (412, .aload_n 2, 0, 0, 0), (413, .aload_n 0, 0, 0, 0), (414, .iload_n 3, 0, 0, 0), (415, .iconst 1, 0, 0, 0), (416, .iadd, 0, 0, 0), (417, .iaload, 0, 0, 0), (418, .invokevirtual 55, 1, 140, 2), (421, .if_icmp .eq 551, 0, 972, 0)]
noncomputable def ab_c194_7 : List (Nat × ab_E) := [(424, .iconst 0, 0, 0, 0), (425, .ireturn, 2, 1, 1), (426, .aload_n 1, 0, 0, 0), (427, .aload_n 0, 0, 0, 0), (428, .iload_n 3, 0, 0, 0), (429, .iconst 1, 0, 0, 0), (430, .iadd, 0, 0, 0), (431, .iaload, 0, 0, 0), (432, .invokevirtual 56, 1, 75, 2), (435, .aload_n 2, 0, 0, 0), (436, .aload_n 0, 0, 0, 0), (437, .iload_n 3, 0, 0, 0), (438, .iconst 1, 0, 0, 0), (439, .iadd, 0, 0, 0), (440, .iaload, 0, 0, 0), (441, .invokevirtual 59, 1, 143, 2), (444, .if_icmp .eq 528, 0, 972, 0), (447, .iconst 0, 0, 0, 0), (448, .ireturn, 2, 1, 1), (449, .aload_n 1, 0, 0, 0), (450, .invokevirtual 60, 1, 76, 1), (453, .aload_n 2, 0, 0, 0), (454, .invokevirtual 63, 1, 144, 1), (457, .if_icmp .eq 515, 0, 972, 0), (460, .iconst 0, 0, 0, 0), (461, .ireturn, 2, 1, 1), (462, .aload_n 1, 0, 0, 0), (463, .aload_n 0, 0, 0, 0), (464, .iload_n 3, 0, 0, 0), (465, .iconst 1, 0, 0, 0)]
noncomputable def ab_c194_8 : List (Nat × ab_E) := [(466, .iadd, 0, 0, 0), (467, .iaload, 0, 0, 0), (468, .invokevirtual 64, 1, 77, 2), (471, .aload_n 2, 0, 0, 0), (472, .aload_n 0, 0, 0, 0), (473, .iload_n 3, 0, 0, 0), (474, .iconst 1, 0, 0, 0), (475, .iadd, 0, 0, 0), (476, .iaload, 0, 0, 0), (477, .invokevirtual 67, 1, 145, 2), (480, .if_icmp .eq 492, 0, 972, 0), (483, .iconst 0, 0, 0, 0), (484, .ireturn, 2, 1, 1), (485, .aload_n 1, 0, 0, 0), (486, .aload_n 0, 0, 0, 0), (487, .iload_n 3, 0, 0, 0), (488, .iconst 1, 0, 0, 0), (489, .iadd, 0, 0, 0), (490, .iaload, 0, 0, 0), (491, .invokevirtual 68, 1, 78, 2), (494, .aload_n 2, 0, 0, 0), (495, .aload_n 0, 0, 0, 0), (496, .iload_n 3, 0, 0, 0), (497, .iconst 1, 0, 0, 0), (498, .iadd, 0, 0, 0), (499, .iaload, 0, 0, 0), (500, .invokevirtual 71, 1, 147, 2), (503, .if_icmp .eq 469, 0, 972, 0), (506, .iconst 0, 0, 0, 0), (507, .ireturn, 2, 1, 1)]
noncomputable def ab_c194_9 : List (Nat × ab_E) := [(508, .aload_n 1, 0, 0, 0), (509, .aload_n 0, 0, 0, 0), (510, .iload_n 3, 0, 0, 0), (511, .iconst 1, 0, 0, 0), (512, .iadd, 0, 0, 0), (513, .iaload, 0, 0, 0), (514, .invokevirtual 72, 1, 79, 2), (517, .aload_n 2, 0, 0, 0), (518, .aload_n 0, 0, 0, 0), (519, .iload_n 3, 0, 0, 0), (520, .iconst 1, 0, 0, 0), (521, .iadd, 0, 0, 0), (522, .iaload, 0, 0, 0), (523, .invokevirtual 75, 1, 155, 2), (526, .if_icmp .eq 446, 0, 972, 0), (529, .iconst 0, 0, 0, 0), (530, .ireturn, 2, 1, 1), (531, .aload_n 1, 0, 0, 0), (532, .aload_n 0, 0, 0, 0), (533, .iload_n 3, 0, 0, 0), (534, .iconst 1, 0, 0, 0), (535, .iadd, 0, 0, 0), (536, .iaload, 0, 0, 0), (537, .invokevirtual 76, 1, 80, 2), (540, .aload_n 2, 0, 0, 0), (541, .aload_n 0, 0, 0, 0), (542, .iload_n 3, 0, 0, 0), (543, .iconst 1, 0, 0, 0), (544, .iadd, 0, 0, 0), (545, .iaload, 0, 0, 0)]
noncomputable def ab_c194_10 : List (Nat × ab_E) := [(546, .invokevirtual 79, 1, 156, 2), (549, .if_icmp .eq 423, 0, 972, 0), (552, .iconst 0, 0, 0, 0), (553, .ireturn, 2, 1, 1), (554, .aload_n 1, 0, 0, 0), (555, .aload_n 0, 0, 0, 0), (556, .iload_n 3, 0, 0, 0), (557, .iconst 1, 0, 0, 0), (558, .iadd, 0, 0, 0), (559, .iaload, 0, 0, 0), (560, .invokevirtual 80, 1, 81, 2), (563, .aload_n 2, 0, 0, 0), (564, .aload_n 0, 0, 0, 0), (565, .iload_n 3, 0, 0, 0), (566, .iconst 1, 0, 0, 0), (567, .iadd, 0, 0, 0), (568, .iaload, 0, 0, 0), (569, .invokevirtual 83, 1, 158, 2), (572, .if_icmp .eq 400, 0, 972, 0), (575, .iconst 0, 0, 0, 0), (576, .ireturn, 2, 1, 1), (577, .aload_n 1, 0, 0, 0), (578, .aload_n 0, 0, 0, 0), (579, .iload_n 3, 0, 0, 0), (580, .iconst 1, 0, 0, 0), (581, .iadd, 0, 0, 0), (582, .iaload, 0, 0, 0), (583, .aload_n 0, 0, 0, 0), (584, .iload_n 3, 0, 0, 0), (585, .iconst 2, 0, 0, 0)]
noncomputable def ab_c194_11 : List (Nat × ab_E) := [(586, .iadd, 0, 0, 0), (587, .iaload, 0, 0, 0), (588, .aload_n 0, 0, 0, 0), (589, .iload_n 3, 0, 0, 0), (590, .iconst 3, 0, 0, 0), (591, .iadd, 0, 0, 0), (592, .iaload, 0, 0, 0), (593, .invokevirtual 84, 1, 82, 4), (596, .aload_n 2, 0, 0, 0), (597, .aload_n 0, 0, 0, 0), (598, .iload_n 3, 0, 0, 0), (599, .iconst 1, 0, 0, 0), (600, .iadd, 0, 0, 0), (601, .iaload, 0, 0, 0), (602, .aload_n 0, 0, 0, 0), (603, .iload_n 3, 0, 0, 0), (604, .iconst 2, 0, 0, 0), (605, .iadd, 0, 0, 0), (606, .iaload, 0, 0, 0), (607, .aload_n 0, 0, 0, 0), (608, .iload_n 3, 0, 0, 0), (609, .iconst 3, 0, 0, 0), (610, .iadd, 0, 0, 0), (611, .iaload, 0, 0, 0), (612, .invokevirtual 88, 1, 159, 4), (615, .if_icmp .eq 357, 0, 972, 0), (618, .iconst 0, 0, 0, 0), (619, .ireturn, 2, 1, 1), (620, .aload_n 1, 0, 0, 0), (621, .aload_n 0, 0, 0, 0)]
noncomputable def ab_c194_12 : List (Nat × ab_E) := [(622, .iload_n 3, 0, 0, 0), (623, .iconst 1, 0, 0, 0), (624, .iadd, 0, 0, 0), (625, .iaload, 0, 0, 0), (626, .invokevirtual 89, 1, 83, 2), (629, .aload_n 2, 0, 0, 0), (630, .aload_n 0, 0, 0, 0), (631, .iload_n 3, 0, 0, 0), (632, .iconst 1, 0, 0, 0), (633, .iadd, 0, 0, 0), (634, .iaload, 0, 0, 0), (635, .invokevirtual 92, 1, 161, 2), (638, .if_icmp .eq 334, 0, 972, 0), (641, .iconst 0, 0, 0, 0), (642, .ireturn, 2, 1, 1), (643, .aload_n 1, 0, 0, 0), (644, .aload_n 0, 0, 0, 0), (645, .iload_n 3, 0, 0, 0), (646, .iconst 1, 0, 0, 0), (647, .iadd, 0, 0, 0), (648, .iaload, 0, 0, 0), (649, .aload_n 0, 0, 0, 0), (650, .iload_n 3, 0, 0, 0), (651, .iconst 2, 0, 0, 0), (652, .iadd, 0, 0, 0), (653, .iaload, 0, 0, 0), (654, .aload_n 0, 0, 0, 0), (655, .iload_n 3, 0, 0, 0), (656, .iconst 3, 0, 0, 0), (657, .iadd, 0, 0, 0)]
noncomputable def ab_c194_13 : List (Nat × ab_E) := [(658, .iaload, 0, 0, 0), (659, .invokevirtual 93, 1, 84, 4), (662, .aload_n 2, 0, 0, 0), (663, .aload_n 0, 0, 0, 0), (664, .iload_n 3, 0, 0, 0), (665, .iconst 1, 0, 0, 0), (666, .iadd, 0, 0, 0), (667, .iaload, 0, 0, 0), (668, .aload_n 0, 0, 0, 0), (669, .iload_n 3, 0, 0, 0), (670, .iconst 2, 0, 0, 0), (671, .iadd, 0, 0, 0), (672, .iaload, 0, 0, 0), (673, .aload_n 0, 0, 0, 0), (674, .iload_n 3, 0, 0, 0), (675, .iconst 3, 0, 0, 0), (676, .iadd, 0, 0, 0), (677, .iaload, 0, 0, 0), (678, .invokevirtual 96, 1, 163, 4), (681, .if_icmp .eq 291, 0, 972, 0), (684, .iconst 0, 0, 0, 0), (685, .ireturn, 2, 1, 1), (686, .aload_n 1, 0, 0, 0), (687, .aload_n 0, 0, 0, 0), (688, .iload_n 3, 0, 0, 0), (689, .iconst 1, 0, 0, 0), (690, .iadd, 0, 0, 0), (691, .iaload, 0, 0, 0), (692, .aload_n 0, 0, 0, 0), (693, .iload_n 3, 0, 0, 0)]
noncomputable def ab_c194_14 : List (Nat × ab_E) := [(694, .iconst 2, 0, 0, 0), (695, .iadd, 0, 0, 0), (696, .iaload, 0, 0, 0), (697, .aload_n 0, 0, 0, 0), (698, .iload_n 3, 0, 0, 0), (699, .iconst 3, 0, 0, 0), (700, .iadd, 0, 0, 0), (701, .iaload, 0, 0, 0), (702, .aload_n 0, 0, 0, 0), (703, .iload_n 3, 0, 0, 0), (704, .iconst 4, 0, 0, 0), (705, .iadd, 0, 0, 0), (706, .iaload, 0, 0, 0), (707, .invokevirtual 97, 1, 85, 5), (710, .aload_n 2, 0, 0, 0), (711, .aload_n 0, 0, 0, 0), (712, .iload_n 3, 0, 0, 0), (713, .iconst 1, 0, 0, 0), (714, .iadd, 0, 0, 0), (715, .iaload, 0, 0, 0), (716, .aload_n 0, 0, 0, 0), (717, .iload_n 3, 0, 0, 0), (718, .iconst 2, 0, 0, 0), (719, .iadd, 0, 0, 0), (720, .iaload, 0, 0, 0), (721, .aload_n 0, 0, 0, 0), (722, .iload_n 3, 0, 0, 0), (723, .iconst 3, 0, 0, 0), (724, .iadd, 0, 0, 0), (725, .iaload, 0, 0, 0)]
noncomputable def ab_c194_15 : List (Nat × ab_E) := [(726, .aload_n 0, 0, 0, 0), (727, .iload_n 3, 0, 0, 0), (728, .iconst 4, 0, 0, 0), (729, .iadd, 0, 0, 0), (730, .iaload, 0, 0, 0), (731, .invokevirtual 101, 1, 168, 5), (734, .if_icmp .eq 238, 0, 972, 0), (737, .iconst 0, 0, 0, 0), (738, .ireturn, 2, 1, 1), (739, .aload_n 1, 0, 0, 0), (740, .aload_n 0, 0, 0, 0), (741, .iload_n 3, 0, 0, 0), (742, .iconst 1, 0, 0, 0), (743, .iadd, 0, 0, 0), (744, .iaload, 0, 0, 0), (745, .invokevirtual 102, 1, 86, 2), (748, .aload_n 2, 0, 0, 0), (749, .aload_n 0, 0, 0, 0), (750, .iload_n 3, 0, 0, 0), (751, .iconst 1, 0, 0, 0), (752, .iadd, 0, 0, 0), (753, .iaload, 0, 0, 0), (754, .invokevirtual 105, 1, 172, 2), (757, .if_icmp .eq 215, 0, 972, 0), (760, .iconst 0, 0, 0, 0), (761, .ireturn, 2, 1, 1), (762, .aload_n 1, 0, 0, 0), (763, .invokevirtual 106, 1, 87, 1), (766, .aload_n 2, 0, 0, 0), (767, .invokevirtual 109, 1, 173, 1)]
noncomputable def ab_c194_16 : List (Nat × ab_E) := [(770, .if_icmp .eq 202, 0, 972, 0), (773, .iconst 0, 0, 0, 0), (774, .ireturn, 2, 1, 1), (775, .aload_n 1, 0, 0, 0), (776, .aload_n 0, 0, 0, 0), (777, .iload_n 3, 0, 0, 0), (778, .iconst 1, 0, 0, 0), (779, .iadd, 0, 0, 0), (780, .iaload, 0, 0, 0), (781, .aload_n 0, 0, 0, 0), (782, .iload_n 3, 0, 0, 0), (783, .iconst 2, 0, 0, 0), (784, .iadd, 0, 0, 0), (785, .iaload, 0, 0, 0), (786, .invokevirtual 110, 1, 88, 3), (789, .aload_n 2, 0, 0, 0), (790, .aload_n 0, 0, 0, 0), (791, .iload_n 3, 0, 0, 0), (792, .iconst 1, 0, 0, 0), (793, .iadd, 0, 0, 0), (794, .iaload, 0, 0, 0), (795, .aload_n 0, 0, 0, 0), (796, .iload_n 3, 0, 0, 0), (797, .iconst 2, 0, 0, 0), (798, .iadd, 0, 0, 0), (799, .iaload, 0, 0, 0), (800, .invokevirtual 113, 1, 174, 3), (803, .if_icmp .eq 169, 0, 972, 0), (806, .iconst 0, 0, 0, 0), (807, .ireturn, 2, 1, 1)]
noncomputable def ab_c194_17 : List (Nat × ab_E) := [(808, .aload_n 1, 0, 0, 0), (809, .invokevirtual 114, 1, 89, 1), (812, .aload_n 2, 0, 0, 0), (813, .invokevirtual 117, 1, 177, 1), (816, .if_icmp .eq 156, 0, 972, 0), (819, .iconst 0, 0, 0, 0), (820, .ireturn, 2, 1, 1), (821, .aload_n 1, 0, 0, 0), (822, .aload_n 0, 0, 0, 0), (823, .iload_n 3, 0, 0, 0), (824, .iconst 1, 0, 0, 0), (825, .iadd, 0, 0, 0), (826, .iaload, 0, 0, 0), (827, .invokevirtual 118, 1, 90, 2), (830, .aload_n 2, 0, 0, 0), (831, .aload_n 0, 0, 0, 0), (832, .iload_n 3, 0, 0, 0), (833, .iconst 1, 0, 0, 0), (834, .iadd, 0, 0, 0), (835, .iaload, 0, 0, 0), (836, .invokevirtual 121, 1, 178, 2), (839, .if_icmp .eq 133, 0, 972, 0), (842, .iconst 0, 0, 0, 0), (843, .ireturn, 2, 1, 1), (844, .aload_n 1, 0, 0, 0), (845, .aload_n 0, 0, 0, 0), (846, .iload_n 3, 0, 0, 0), (847, .iconst 1, 0, 0, 0), (848, .iadd, 0, 0, 0), (849, .iaload, 0, 0, 0)]
noncomputable def ab_c194_18 : List (Nat × ab_E) := [(850, .aload_n 0, 0, 0, 0), (851, .iload_n 3, 0, 0, 0), (852, .iconst 2, 0, 0, 0), (853, .iadd, 0, 0, 0), (854, .iaload, 0, 0, 0), (855, .invokevirtual 122, 1, 91, 3), (858, .aload_n 2, 0, 0, 0), (859, .aload_n 0, 0, 0, 0), (860, .iload_n 3, 0, 0, 0), (861, .iconst 1, 0, 0, 0), (862, .iadd, 0, 0, 0), (863, .iaload, 0, 0, 0), (864, .aload_n 0, 0, 0, 0), (865, .iload_n 3, 0, 0, 0), (866, .iconst 2, 0, 0, 0), (867, .iadd, 0, 0, 0), (868, .iaload, 0, 0, 0), (869, .invokevirtual 125, 1, 179, 3), (872, .if_icmp .eq 100, 0, 972, 0), (875, .iconst 0, 0, 0, 0), (876, .ireturn, 2, 1, 1), (877, .aload_n 1, 0, 0, 0), (878, .invokevirtual 126, 1, 92, 1), (881, .aload_n 2, 0, 0, 0), (882, .invokevirtual 129, 1, 180, 1), (885, .if_icmp .eq 87, 0, 972, 0), (888, .iconst 0, 0, 0, 0), (889, .ireturn, 2, 1, 1), (890, .aload_n 1, 0, 0, 0), (891, .invokevirtual 130, 1, 93, 1)]
noncomputable def ab_c194_19 : List (Nat × ab_E) := [(894, .aload_n 2, 0, 0, 0), (895, .invokevirtual 133, 1, 181, 1), (898, .if_icmp .eq 74, 0, 972, 0), (901, .iconst 0, 0, 0, 0), (902, .ireturn, 2, 1, 1), (903, .aload_n 1, 0, 0, 0), (904, .aload_n 0, 0, 0, 0), (905, .iload_n 3, 0, 0, 0), (906, .iconst 1, 0, 0, 0), (907, .iadd, 0, 0, 0), (908, .iaload, 0, 0, 0), (909, .invokevirtual 134, 1, 94, 2), (912, .aload_n 2, 0, 0, 0), (913, .aload_n 0, 0, 0, 0), (914, .iload_n 3, 0, 0, 0), (915, .iconst 1, 0, 0, 0), (916, .iadd, 0, 0, 0), (917, .iaload, 0, 0, 0), (918, .invokevirtual 137, 1, 182, 2), (921, .if_icmp .eq 51, 0, 972, 0), (924, .iconst 0, 0, 0, 0), (925, .ireturn, 2, 1, 1), (926, .aload_n 1, 0, 0, 0), (927, .aload_n 0, 0, 0, 0), (928, .iload_n 3, 0, 0, 0), (929, .iconst 1, 0, 0, 0), (930, .iadd, 0, 0, 0), (931, .iaload, 0, 0, 0), (932, .invokevirtual 138, 1, 95, 2), (935, .aload_n 2, 0, 0, 0)]
noncomputable def ab_c194_20 : List (Nat × ab_E) := [(936, .aload_n 0, 0, 0, 0), (937, .iload_n 3, 0, 0, 0), (938, .iconst 1, 0, 0, 0), (939, .iadd, 0, 0, 0), (940, .iaload, 0, 0, 0), (941, .invokevirtual 141, 1, 183, 2), (944, .if_icmp .eq 28, 0, 972, 0), (947, .iconst 0, 0, 0, 0), (948, .ireturn, 2, 1, 1), (949, .aload_n 1, 0, 0, 0), (950, .aload_n 0, 0, 0, 0), (951, .iload_n 3, 0, 0, 0), (952, .iconst 1, 0, 0, 0), (953, .iadd, 0, 0, 0), (954, .iaload, 0, 0, 0), (955, .invokevirtual 142, 1, 96, 2), (958, .aload_n 2, 0, 0, 0), (959, .aload_n 0, 0, 0, 0), (960, .iload_n 3, 0, 0, 0), (961, .iconst 1, 0, 0, 0), (962, .iadd, 0, 0, 0), (963, .iaload, 0, 0, 0), (964, .invokevirtual 145, 1, 184, 2), (967, .if_icmp .eq 5, 0, 972, 0), (970, .iconst 0, 0, 0, 0), (971, .ireturn, 2, 1, 1), (972, .iinc 3 5, 0, 0, 0), (975, .goto (-957), 0, 18, 0), (978, .iconst 1, 0, 0, 0), (979, .ireturn, 2, 1, 1)]
noncomputable def ab_c194 : List (Nat × ab_E) := List.append ab_c194_0 (List.append ab_c194_1 (List.append ab_c194_2 (List.append ab_c194_3 (List.append ab_c194_4 (List.append ab_c194_5 (List.append ab_c194_6 (List.append ab_c194_7 (List.append ab_c194_8 (List.append ab_c194_9 (List.append ab_c194_10 (List.append ab_c194_11 (List.append ab_c194_12 (List.append ab_c194_13 (List.append ab_c194_14 (List.append ab_c194_15 (List.append ab_c194_16 (List.append ab_c194_17 (List.append ab_c194_18 (List.append ab_c194_19 (ab_c194_20))))))))))))))))))))
end
section
/-! AN ABSTRACT MACHINE: the bytecode run over cells that have numbers (0, 1, .. as they are made; 1000 the script, 1001 .. 1005 what was there before), ints and longs as whole numbers (what would wrap around refuses). M 999 0: how many cells; M 999 1: their slots; M 999 2: the script's length -/
abbrev ab_V : Type := Int ⊕ (Int ⊕ Nat)
abbrev ab_M : Type := Nat → Nat → Int
abbrev ab_L : Type := List (Option ab_V)
abbrev ab_St : Type := Nat × (ab_L × (List ab_V × ab_M))
def ab_w (M : ab_M) (k j : Nat) (x : Int) : ab_M := fun a b => if a = k ∧ b = j then x else M a b
abbrev ab_rg (x : Int) : Prop := -2147483648 ≤ x ∧ x ≤ 2147483647
abbrev ab_rl (x : Int) : Prop := -9223372036854775808 ≤ x ∧ x ≤ 9223372036854775807
def ab_nc (M : ab_M) : Nat := (M 999 0).toNat
def ab_kv : ab_V → Nat
  | .inl _ => 0
  | .inr (.inl _) => 1
  | .inr (.inr _) => 2
def ab_cat : ab_V → Nat
  | .inr (.inl _) => 2
  | _ => 1
def ab_kds : List (Nat × Nat) := [(9, 16), (6, 6), (22, 250), (20, 7), (20, 4)] ++
  [(8, 16), (24, 7), (20, 7), (20, 7), (20, 7), (20, 7), (20, 7), (20, 7), (20, 7), (24, 7), (20, 7), (20, 7), (20, 7), (20, 7), (20, 7), (20, 7), (20, 7), (20, 6), (20, 6), (20, 6), (20, 6), (20, 6), (20, 6), (20, 6), (24, 6), (20, 6), (20, 6), (20, 6), (20, 6), (20, 6), (20, 6), (20, 4)] ++
  [(8, 16), (24, 7), (20, 7), (20, 7), (20, 7), (20, 7), (20, 7), (20, 7), (20, 7), (24, 7), (20, 7), (20, 7), (20, 7), (20, 7), (20, 7), (20, 7), (20, 7), (20, 6), (20, 6), (20, 6), (20, 6), (20, 6), (20, 6), (20, 6), (24, 6), (20, 6), (20, 6), (20, 6), (20, 6), (20, 6), (20, 6), (20, 4)] ++
  [(7, 6), (20, 6), (7, 6), (20, 6), (7, 6), (20, 6), (4, 3), (20, 15), (20, 15), (0, 6), (20, 6), (20, 6), (20, 6), (5, 3), (20, 6), (20, 6), (21, 64), (5, 3), (20, 6), (20, 6), (21, 64), (3, 8), (20, 6), (20, 6), (20, 6), (20, 6), (1, 2), (20, 6), (20, 6), (2, 2), (20, 98), (20, 98), (20, 6), (20, 6)] ++
  [(10, 50), (20, 250), (20, 49), (21, 49), (20, 6), (20, 6), (20, 30), (20, 36), (20, 4), (20, 10), (20, 12), (20, 30), (20, 49), (20, 12), (20, 30), (20, 36), (20, 4), (20, 384), (20, 6), (20, 6), (21, 64), (20, 6), (20, 6), (20, 49), (20, 49), (20, 6), (20, 6), (21, 2), (20, 20)]
/-- of a cell: (number of its class, fields), or (20 int, 21 boolean, 22 char, 24 rows of int; length) -/
def ab_kd (k : Nat) : Nat × Nat := ab_kds.getD k (99, 0)
/-- of a field: 0 int, 1 boolean, 2 a reference -/
def ab_fts : List (List Nat) := [[2, 2, 0, 0, 0, 2], [2, 2], [2, 2], [2, 2, 0, 0, 0, 0, 2, 2], [0, 2, 2], [2, 2, 2], [0, 0, 0, 2, 2, 2], [0, 0, 0, 0, 1, 2], [0, 0, 0, 0, 0, 2, 2, 2, 2, 2, 2, 2, 2, 2, 2, 2], [2, 0, 2, 2, 2, 2, 2, 2, 2, 2, 2, 2, 2, 2, 2, 2],
  [2, 0, 0, 0, 0, 2, 2, 2, 2, 0, 2, 0, 2, 2, 0, 2, 2, 0, 2, 0, 0, 0, 0, 0, 0, 0, 0, 2, 0, 2, 0, 2, 0, 2, 0, 2, 0, 2, 2, 2, 2, 2, 2, 2, 2, 2, 2, 0, 2, 2]]
def ab_fty (t f : Nat) : Nat := (ab_fts.getD t []).getD f 0
/-- what was there before: the class's own constant rows, the signs of its constant text -/
def ab_stt (k : Nat) : List Int := if k = 1001 then [2, 3, 2, 4, 2, 3, 1] else if k = 1002 then [1, 10, 6, 6, 250, 12, 4] else if k = 1003 then [0, 30, 999, 99] else [116, 119, 112, 100, 114, 113, 111]
/-- a receiver of the class (50: of one that is a round) -/
abbrev ab_tg (x : Int) (t : Nat) : Prop := x = t ∨ (x = 50 ∧ (t = 0 ∨ t = 3 ∨ t = 5))
/-- a cell with a field -/
abbrev ab_ob (M : ab_M) (k f : Nat) (x : Int) : Prop := k < ab_nc M ∧ (ab_kd k).1 < 11 ∧ ab_tg x (ab_kd k).1 ∧ f < (ab_kd k).2
/-- a row with a place -/
abbrev ab_ar (M : ab_M) (t k : Nat) (i : Int) : Prop := k < ab_nc M ∧ (ab_kd k).1 = t ∧ 0 ≤ i ∧ i < (ab_kd k).2
def ab_push (pc : Nat) (ls : ab_L) (st : List ab_V) (M : ab_M) (v : ab_V) : Option ab_St := some (pc, ls, v :: st, M)
def ab_i2 (f : Int → Int → Option Int) (pc : Nat) (ls : ab_L) (st : List ab_V) (M : ab_M) : Option ab_St := match st with
  | .inl y :: .inl x :: r => (match f x y with
    | some z => some (pc + 1, ls, .inl z :: r, M)
    | none => none)
  | _ => none
def ab_l2 (f : Int → Int → Option Int) (pc : Nat) (ls : ab_L) (st : List ab_V) (M : ab_M) : Option ab_St := match st with
  | .inr (.inl y) :: .inr (.inl x) :: r => (match f x y with
    | some z => some (pc + 1, ls, .inr (.inl z) :: r, M)
    | none => none)
  | _ => none
def ab_ck (x : Int) : Option Int := if ab_rg x then some x else none
def ab_cl (x : Int) : Option Int := if ab_rl x then some x else none
def ab_lda (t len n pc : Nat) (ls : ab_L) (st : List ab_V) (M : ab_M) : Option ab_St := match ls.getD n none with
  | some v => if ab_kv v = t then some (pc + len, ls, v :: st, M) else none
  | none => none
def ab_kl (ls : ab_L) (n : Nat) : ab_L := match n with
  | 0 => ls
  | i + 1 => (match ls.getD i none with
    | some (.inr (.inl _)) => ls.set i none
    | _ => ls)
def ab_set (ls : ab_L) (n : Nat) (v : ab_V) : ab_L := match v with
  | .inr (.inl _) => ((ab_kl ls n).set n (some v)).set (n + 1) none
  | _ => (ab_kl ls n).set n (some v)
def ab_sto (t len n pc : Nat) (ls : ab_L) (st : List ab_V) (M : ab_M) : Option ab_St := match st with
  | v :: r => if ab_kv v = t ∧ n + ab_cat v ≤ ls.length then some (pc + len, ab_set ls n v, r, M) else none
  | [] => none
def ab_cmp (c : Jvm.ClassFile.Cond) (x y : Int) : Bool := match c with
  | .eq => decide (x = y)
  | .ne => decide (¬ x = y)
  | .lt => decide (x < y)
  | .ge => decide (y ≤ x)
  | .gt => decide (y < x)
  | .le => decide (x ≤ y)
def ab_and (x y : Int) : Int := (Int32.ofInt x &&& Int32.ofInt y).toInt
def ab_or (x y : Int) : Int := (Int32.ofInt x ||| Int32.ofInt y).toInt
def ab_xor (x y : Int) : Int := (Int32.ofInt x ^^^ Int32.ofInt y).toInt
def ab_shl (x y : Int) : Int := (Int32.ofInt x <<< (Int32.ofInt y &&& 31)).toInt
def ab_shr (x y : Int) : Int := (Int32.ofInt x >>> (Int32.ofInt y &&& 31)).toInt
def ab_land (x y : Int) : Int := (Int64.ofInt x &&& Int64.ofInt y).toInt
def ab_div (x y : Int) : Option Int := if y = 0 then none else ab_ck (x.tdiv y)
def ab_rem (x y : Int) : Option Int := if y = 0 ∨ ¬ ab_rg (x.tdiv y) then none else some (x - x.tdiv y * y)
def ab_get (f : Nat) (x : Int) (pc : Nat) (ls : ab_L) (st : List ab_V) (M : ab_M) : Option ab_St := match st with
  | .inr (.inr k) :: r =>
    if x = 30 then (if k = 1004 then (if f = 0 then some (pc + 3, ls, .inr (.inr 1005) :: r, M) else some (pc + 3, ls, .inl 0 :: r, M)) else none)
    else if ab_ob M k f x then (if ab_fty (ab_kd k).1 f = 2 then (if 0 ≤ M k f ∧ M k f < 1000 then some (pc + 3, ls, .inr (.inr (M k f).toNat) :: r, M) else none) else some (pc + 3, ls, .inl (M k f) :: r, M)) else none
  | _ => none
def ab_put (f : Nat) (x : Int) (pc : Nat) (ls : ab_L) (st : List ab_V) (M : ab_M) : Option ab_St := match st with
  | .inl v :: .inr (.inr k) :: r => if ab_ob M k f x ∧ (ab_fty (ab_kd k).1 f = 0 ∨ (ab_fty (ab_kd k).1 f = 1 ∧ (v = 0 ∨ v = 1))) then some (pc + 3, ls, r, ab_w M k f v) else none
  | .inr (.inr j) :: .inr (.inr k) :: r => if ab_ob M k f x ∧ ab_fty (ab_kd k).1 f = 2 ∧ j < ab_nc M then some (pc + 3, ls, r, ab_w M k f j) else none
  | _ => none
def ab_ald (t pc : Nat) (ls : ab_L) (st : List ab_V) (M : ab_M) : Option ab_St := match st with
  | .inl i :: .inr (.inr k) :: r =>
    if k < 1000 then (if ab_ar M t k i then (if t = 24 then (if 0 ≤ M k i.toNat ∧ M k i.toNat < 1000 then some (pc + 1, ls, .inr (.inr (M k i.toNat).toNat) :: r, M) else none) else some (pc + 1, ls, .inl (M k i.toNat) :: r, M)) else none)
    else if k = 1000 then (if t = 20 ∧ 0 ≤ i ∧ i < M 999 2 then some (pc + 1, ls, .inl (M 1000 i.toNat) :: r, M) else none)
    else if ((t = 20 ∧ k < 1004) ∨ (t = 21 ∧ k = 1005)) ∧ 0 ≤ i ∧ i < (ab_stt k).length then some (pc + 1, ls, .inl ((ab_stt k).getD i.toNat 0) :: r, M) else none
  | _ => none
def ab_ast (t pc : Nat) (ls : ab_L) (st : List ab_V) (M : ab_M) : Option ab_St := match st with
  | .inl v :: .inl i :: .inr (.inr k) :: r => if ab_ar M t k i ∧ (t = 21 → v = 0 ∨ v = 1) ∧ (t = 22 → 0 ≤ v ∧ v < 65536) then some (pc + 1, ls, r, ab_w M k i.toNat v) else none
  | _ => none
def ab_len (pc : Nat) (ls : ab_L) (st : List ab_V) (M : ab_M) : Option ab_St := match st with
  | .inr (.inr k) :: r =>
    if k < 1000 then (if k < ab_nc M ∧ 20 ≤ (ab_kd k).1 ∧ (ab_kd k).1 < 25 then some (pc + 1, ls, .inl (ab_kd k).2 :: r, M) else none)
    else if k = 1000 then some (pc + 1, ls, .inl (M 999 2) :: r, M)
    else if k = 1005 then some (pc + 1, ls, .inl 7 :: r, M) else none
  | _ => none
/-- a new cell -/
def ab_mk (M : ab_M) : ab_M := fun a b => if a = ab_nc M then (if ab_fty (ab_kd (ab_nc M)).1 b = 2 then -1 else 0) else if a = 999 then (if b = 0 then M 999 0 + 1 else if b = 1 then M 999 1 + (ab_kd (ab_nc M)).2 else M a b) else M a b
/-- n rows behind the cell o, which names them -/
def ab_mk2 (M : ab_M) (n b : Nat) : ab_M := fun x y => if x = ab_nc M then (if y < n then ((ab_nc M + 1 + y : Nat) : Int) else 0) else if ab_nc M < x ∧ x ≤ ab_nc M + n then 0 else if x = 999 then (if y = 0 then M 999 0 + 1 + n else if y = 1 then M 999 1 + n + n * b else M x y) else M x y
def ab_new (x : Int) (pc : Nat) (ls : ab_L) (st : List ab_V) (M : ab_M) : Option ab_St :=
  if 0 ≤ M 999 0 ∧ M 999 0 < 990 ∧ x = (ab_kd (ab_nc M)).1 ∧ (ab_kd (ab_nc M)).1 < 11 then some (pc + 3, ls, .inr (.inr (ab_nc M)) :: st, ab_mk M) else none
def ab_nar (x : Int) (pc : Nat) (ls : ab_L) (st : List ab_V) (M : ab_M) : Option ab_St := match st with
  | .inl n :: r => if 0 ≤ M 999 0 ∧ M 999 0 < 990 ∧ x = (ab_kd (ab_nc M)).1 ∧ (x = 20 ∨ x = 21 ∨ x = 22) ∧ n = (ab_kd (ab_nc M)).2 ∧ n < 1000 then some (pc + 2, ls, .inr (.inr (ab_nc M)) :: r, ab_mk M) else none
  | _ => none
def ab_na2 (pc : Nat) (ls : ab_L) (st : List ab_V) (M : ab_M) : Option ab_St := match st with
  | .inl b :: .inl n :: r => if 0 ≤ M 999 0 ∧ M 999 0 < 900 ∧ ab_kd (ab_nc M) = (24, n.toNat) ∧ 0 ≤ n ∧ n < 10 ∧ 0 ≤ b ∧ b < 10 ∧ (List.range n.toNat).all (fun i => decide (ab_kd (ab_nc M + 1 + i) = (20, b.toNat))) = true then some (pc + 4, ls, .inr (.inr (ab_nc M)) :: r, ab_mk2 M n.toNat b.toNat) else none
  | _ => none
/-- System.arraycopy over rows of int -/
def ab_cpm (M : ab_M) (s d : Nat) (sp dp n : Nat) : ab_M := fun a b => if a = d ∧ dp ≤ b ∧ b < dp + n then M s (sp + (b - dp)) else M a b
def ab_cpy (pc : Nat) (ls : ab_L) (st : List ab_V) (M : ab_M) : Option ab_St := match st with
  | .inl n :: .inl dp :: .inr (.inr d) :: .inl sp :: .inr (.inr s) :: r =>
    if s < ab_nc M ∧ d < ab_nc M ∧ (ab_kd s).1 = 20 ∧ (ab_kd d).1 = 20 ∧ 0 ≤ n ∧ 0 ≤ sp ∧ 0 ≤ dp ∧ sp + n ≤ (ab_kd s).2 ∧ dp + n ≤ (ab_kd d).2 ∧ (r.map ab_cat).sum ≤ 8 then some (pc + 3, ls, r, ab_cpm M s d sp.toNat dp.toNat n.toNat) else none
  | _ => none
def ab_sw (pc : Nat) (k : Nat) (lo hi : Int) (offs : Array Int) (ls : ab_L) (st : List ab_V) (M : ab_M) : Option ab_St := match st with
  | .inl x :: r => if x < lo ∨ hi < x then some (k, ls, r, M) else (match offs[(x - lo).toNat]? with
    | some off => if 0 ≤ (pc : Int) + off then some (((pc : Int) + off).toNat, ls, r, M) else none
    | none => none)
  | _ => none
def ab_lsw (pc : Nat) (dflt : Int) (ps : Array (Int × Int)) (ls : ab_L) (st : List ab_V) (M : ab_M) : Option ab_St := match st with
  | .inl x :: r => if 0 ≤ (pc : Int) + Op.lookupswitch.offset ps.toList dflt x then some (((pc : Int) + Op.lookupswitch.offset ps.toList dflt x).toNat, ls, r, M) else none
  | _ => none
def ab_br1 (c : Jvm.ClassFile.Cond) (k pc : Nat) (ls : ab_L) (st : List ab_V) (M : ab_M) : Option ab_St := match st with
  | .inl x :: r => some (if ab_cmp c x 0 = true then k else pc + 3, ls, r, M)
  | _ => none
def ab_br2 (c : Jvm.ClassFile.Cond) (k pc : Nat) (ls : ab_L) (st : List ab_V) (M : ab_M) : Option ab_St := match st with
  | .inl y :: .inl x :: r => some (if ab_cmp c x y = true then k else pc + 3, ls, r, M)
  | _ => none
def ab_iinc (n : Nat) (c : Int) (pc : Nat) (ls : ab_L) (st : List ab_V) (M : ab_M) : Option ab_St := match ls.getD n none with
  | some (.inl x) => if ab_rg (x + c) then some (pc + 3, ls.set n (some (.inl (x + c))), st, M) else none
  | _ => none
def ab_cnv (t : Nat) (pc : Nat) (ls : ab_L) (st : List ab_V) (M : ab_M) : Option ab_St := match st with
  | .inl x :: r => if t = 0 then some (pc + 1, ls, .inr (.inl x) :: r, M) else if t = 2 then (if 0 ≤ x ∧ x < 65536 then some (pc + 1, ls, .inl x :: r, M) else none) else if t = 3 then (if -128 ≤ x ∧ x < 128 then some (pc + 1, ls, .inl x :: r, M) else none) else none
  | .inr (.inl x) :: r => if t = 1 ∧ ab_rg x then some (pc + 1, ls, .inl x :: r, M) else none
  | _ => none
def ab_lcmp (pc : Nat) (ls : ab_L) (st : List ab_V) (M : ab_M) : Option ab_St := match st with
  | .inr (.inl y) :: .inr (.inl x) :: r => some (pc + 1, ls, .inl (if x < y then -1 else if x = y then 0 else 1) :: r, M)
  | _ => none
def ab_dup (pc : Nat) (ls : ab_L) (st : List ab_V) (M : ab_M) : Option ab_St := match st with
  | v :: r => if ab_cat v = 1 then some (pc + 1, ls, v :: v :: r, M) else none
  | _ => none
def ab_pop (pc : Nat) (ls : ab_L) (st : List ab_V) (M : ab_M) : Option ab_St := match st with
  | v :: r => if ab_cat v = 1 then some (pc + 1, ls, r, M) else none
  | _ => none
def ab_dup2 (pc : Nat) (ls : ab_L) (st : List ab_V) (M : ab_M) : Option ab_St := match st with
  | v :: u :: r => if ab_cat v = 1 ∧ ab_cat u = 1 then some (pc + 1, ls, v :: u :: v :: u :: r, M) else none
  | _ => none
def ab_oi (pc : Nat) (ls : ab_L) (st : List ab_V) (M : ab_M) : Option ab_St := match st with
  | .inr (.inr _) :: r => if (r.map ab_cat).sum ≤ 8 then some (pc + 3, ls, r, M) else none
  | _ => none
/-- Math.max, Math.min -/
def ab_mm (b : Bool) (pc : Nat) (ls : ab_L) (st : List ab_V) (M : ab_M) : Option ab_St := match st with
  | .inl y :: .inl x :: r => if (r.map ab_cat).sum ≤ 8 then some (pc + 3, ls, .inl (if b = true then (if x < y then y else x) else (if y < x then y else x)) :: r, M) else none
  | _ => none
/-- one instruction that is no call and no return -/
def ab_st1 (e : ab_E) (pc : Nat) (ls : ab_L) (st : List ab_V) (M : ab_M) : Option ab_St := match e.1 with
  | .iconst n => some (pc + 1, ls, .inl n :: st, M)
  | .bipush n => some (pc + 2, ls, .inl n :: st, M)
  | .sipush n => some (pc + 3, ls, .inl n :: st, M)
  | .lconst n => some (pc + 1, ls, .inr (.inl n.val) :: st, M)
  | .ldc _ => some (pc + 2, ls, (if e.2.2.1 = 0 then .inl e.2.2.2 else .inr (.inr 1004)) :: st, M)
  | .ldc_w _ => some (pc + 3, ls, .inl e.2.2.2 :: st, M)
  | .ldc2_w _ => some (pc + 3, ls, .inr (.inl e.2.2.2) :: st, M)
  | .iload n => ab_lda 0 2 n pc ls st M
  | .iload_n n => ab_lda 0 1 n.val pc ls st M
  | .lload n => ab_lda 1 2 n pc ls st M
  | .lload_n n => ab_lda 1 1 n.val pc ls st M
  | .aload n => ab_lda 2 2 n pc ls st M
  | .aload_n n => ab_lda 2 1 n.val pc ls st M
  | .istore n => ab_sto 0 2 n pc ls st M
  | .istore_n n => ab_sto 0 1 n.val pc ls st M
  | .lstore n => ab_sto 1 2 n pc ls st M
  | .astore n => ab_sto 2 2 n pc ls st M
  | .astore_n n => ab_sto 2 1 n.val pc ls st M
  | .iinc n c => ab_iinc n c pc ls st M
  | .iadd => ab_i2 (fun x y => ab_ck (x + y)) pc ls st M
  | .isub => ab_i2 (fun x y => ab_ck (x - y)) pc ls st M
  | .imul => ab_i2 (fun x y => ab_ck (x * y)) pc ls st M
  | .idiv => ab_i2 ab_div pc ls st M
  | .irem => ab_i2 ab_rem pc ls st M
  | .iand => ab_i2 (fun x y => some (ab_and x y)) pc ls st M
  | .ior => ab_i2 (fun x y => some (ab_or x y)) pc ls st M
  | .ixor => ab_i2 (fun x y => some (ab_xor x y)) pc ls st M
  | .ishl => ab_i2 (fun x y => some (ab_shl x y)) pc ls st M
  | .ishr => ab_i2 (fun x y => some (ab_shr x y)) pc ls st M
  | .ladd => ab_l2 (fun x y => ab_cl (x + y)) pc ls st M
  | .lmul => ab_l2 (fun x y => ab_cl (x * y)) pc ls st M
  | .ldiv => ab_l2 (fun x y => if y = 0 then none else ab_cl (x.tdiv y)) pc ls st M
  | .land => ab_l2 (fun x y => some (ab_land x y)) pc ls st M
  | .i2l => ab_cnv 0 pc ls st M
  | .l2i => ab_cnv 1 pc ls st M
  | .i2c => ab_cnv 2 pc ls st M
  | .i2b => ab_cnv 3 pc ls st M
  | .lcmp => ab_lcmp pc ls st M
  | .dup => ab_dup pc ls st M
  | .pop => ab_pop pc ls st M
  | .dup2 => ab_dup2 pc ls st M
  | .goto _ => some (e.2.2.1, ls, st, M)
  | .ifCond c _ => ab_br1 c e.2.2.1 pc ls st M
  | .if_icmp c _ => ab_br2 c e.2.2.1 pc ls st M
  | .tableswitch _ lo hi offs => ab_sw pc e.2.2.1 lo hi offs ls st M
  | .lookupswitch d ps => ab_lsw pc d ps ls st M
  | .getfield _ => ab_get e.2.2.1 e.2.2.2 pc ls st M
  | .putfield _ => ab_put e.2.2.1 e.2.2.2 pc ls st M
  | .getstatic _ => some (pc + 3, ls, (if e.2.2.2 = 0 then .inr (.inr e.2.2.1) else .inl e.2.2.1) :: st, M)
  | .iaload => ab_ald 20 pc ls st M
  | .baload => ab_ald 21 pc ls st M
  | .caload => ab_ald 22 pc ls st M
  | .aaload => ab_ald 24 pc ls st M
  | .iastore => ab_ast 20 pc ls st M
  | .bastore => ab_ast 21 pc ls st M
  | .castore => ab_ast 22 pc ls st M
  | .arraylength => ab_len pc ls st M
  | .new _ => ab_new e.2.2.2 pc ls st M
  | .newarray _ => ab_nar e.2.2.2 pc ls st M
  | .multianewarray _ _ => ab_na2 pc ls st M
  | .invokespecial _ => ab_oi pc ls st M
  | .invokestatic _ => if e.2.2.1 = 901 then ab_cpy pc ls st M else ab_mm (decide (e.2.2.1 = 902)) pc ls st M
  | _ => none
end
section
noncomputable def ab_cds_0 : List (List (Nat × ab_E)) := [ab_c0, ab_c1, ab_c2, ab_c3, ab_c4, ab_c5, ab_c6, ab_c7, ab_c8, ab_c9, ab_c10, ab_c11, ab_c12, ab_c13, ab_c14, ab_c15, ab_c16, ab_c17, ab_c18, ab_c19]
noncomputable def ab_cds_1 : List (List (Nat × ab_E)) := [ab_c20, ab_c21, ab_c22, ab_c23, ab_c24, ab_c25, ab_c26, ab_c27, ab_c28, ab_c29, ab_c30, ab_c31, ab_c32, ab_c33, ab_c34, ab_c35, ab_c36, ab_c37, ab_c38, ab_c39]
noncomputable def ab_cds_2 : List (List (Nat × ab_E)) := [ab_c40, ab_c41, ab_c42, ab_c43, ab_c44, ab_c45, ab_c46, ab_c47, ab_c48, ab_c49, ab_c50, ab_c51, ab_c52, ab_c53, ab_c54, ab_c55, ab_c56, ab_c57, ab_c58, ab_c59]
noncomputable def ab_cds_3 : List (List (Nat × ab_E)) := [ab_c60, ab_c61, ab_c62, ab_c63, ab_c64, ab_c65, ab_c66, ab_c67, ab_c68, ab_c69, ab_c70, ab_c71, ab_c72, ab_c73, ab_c74, ab_c75, ab_c76, ab_c77, ab_c78, ab_c79]
noncomputable def ab_cds_4 : List (List (Nat × ab_E)) := [ab_c80, ab_c81, ab_c82, ab_c83, ab_c84, ab_c85, ab_c86, ab_c87, ab_c88, ab_c89, ab_c90, ab_c91, ab_c92, ab_c93, ab_c94, ab_c95, ab_c96, ab_c97, ab_c98, ab_c99]
noncomputable def ab_cds_5 : List (List (Nat × ab_E)) := [ab_c100, ab_c101, ab_c102, ab_c103, ab_c104, ab_c105, ab_c106, ab_c107, ab_c108, ab_c109, ab_c110, ab_c111, ab_c112, ab_c113, ab_c114, ab_c115, ab_c116, ab_c117, ab_c118, ab_c119]
noncomputable def ab_cds_6 : List (List (Nat × ab_E)) := [ab_c120, ab_c121, ab_c122, ab_c123, ab_c124, ab_c125, ab_c126, ab_c127, ab_c128, ab_c129, ab_c130, ab_c131, ab_c132, ab_c133, ab_c134, ab_c135, ab_c136, ab_c137, ab_c138, ab_c139]
noncomputable def ab_cds_7 : List (List (Nat × ab_E)) := [ab_c140, ab_c141, ab_c142, ab_c143, ab_c144, ab_c145, ab_c146, ab_c147, ab_c148, ab_c149, ab_c150, ab_c151, ab_c152, ab_c153, ab_c154, ab_c155, ab_c156, ab_c157, ab_c158, ab_c159]
noncomputable def ab_cds_8 : List (List (Nat × ab_E)) := [ab_c160, ab_c161, ab_c162, ab_c163, ab_c164, ab_c165, ab_c166, ab_c167, ab_c168, ab_c169, ab_c170, ab_c171, ab_c172, ab_c173, ab_c174, ab_c175, ab_c176, ab_c177, ab_c178, ab_c179]
noncomputable def ab_cds_9 : List (List (Nat × ab_E)) := [ab_c180, ab_c181, ab_c182, ab_c183, ab_c184, ab_c185, ab_c186, ab_c187, ab_c188, ab_c189, ab_c190, ab_c191, ab_c192, ab_c193, ab_c194]
noncomputable def ab_cds : List (List (Nat × ab_E)) := List.append ab_cds_0 (List.append ab_cds_1 (List.append ab_cds_2 (List.append ab_cds_3 (List.append ab_cds_4 (List.append ab_cds_5 (List.append ab_cds_6 (List.append ab_cds_7 (List.append ab_cds_8 (ab_cds_9)))))))))
def ab_mxs : List Nat := [1, 5, 5, 1, 3, 9, 4, 1, 3, 6, 6, 14, 1, 3, 3, 4, 2, 6, 1, 3, 3, 1, 6, 4, 1, 2, 3, 1, 4, 3, 1, 7, 2, 4, 5, 3, 3, 1, 5, 8, 4, 1, 2, 2, 3, 3, 3, 3, 2, 1, 2, 2, 2, 3, 2, 2, 4, 5, 3, 2, 4, 4, 4, 6, 1, 2, 3, 1, 2, 3, 3, 3, 3, 2, 2, 2, 2, 2, 3, 2, 5, 7, 4, 4, 5, 6, 6, 1, 3, 1, 2, 3, 1, 2, 3, 3, 3, 4, 3, 3, 5, 3, 2, 4, 6, 4, 2, 6, 2, 2, 2, 2, 2, 1, 2, 2, 3, 2, 3, 1, 4, 2, 3, 1, 3, 4, 3, 1, 2, 4, 4, 2, 4, 3, 3, 3, 3, 3, 2, 2, 3, 3, 2, 2, 2, 2, 2, 7, 6, 10, 5, 8, 11, 7, 4, 7, 8, 5, 6, 10, 12, 5, 3, 8, 3, 9, 9, 6, 7, 4, 7, 4, 6, 5, 3, 6, 8, 1, 2, 3, 2, 2, 3, 3, 3, 1, 2, 3, 1, 1, 1, 4, 6, 4, 4]
def ab_rts : List Nat := [0, 0, 0, 1, 1, 1, 1, 2, 2, 2, 2, 2, 3, 3, 3, 3, 3, 3, 4, 4, 4, 5, 5, 5, 6, 6, 6, 6, 6, 6, 6, 6, 6, 6, 6, 6, 6, 50, 50, 50, 50, 7, 7, 7, 7, 7, 7, 7, 7, 8, 8, 8, 8, 8, 8, 8, 8, 8, 8, 8, 8, 8, 8, 8, 9, 9, 9, 9, 9, 9, 9, 9, 9, 9, 9, 9, 9, 9, 9, 9, 9, 9, 9, 9, 9, 9, 9, 9, 9, 9, 9, 9, 9, 9, 9, 9, 9, 9, 9, 9, 9, 9, 9, 9, 9, 9, 10, 10, 10, 10, 10, 10, 10, 10, 10, 10, 10, 10, 10, 10, 10, 10, 10, 10, 10, 10, 10, 10, 10, 10, 10, 10, 10, 10, 10, 10, 10, 10, 10, 10, 10, 10, 10, 10, 10, 10, 10, 10, 10, 10, 10, 10, 10, 10, 10, 10, 10, 10, 10, 10, 10, 10, 10, 10, 10, 10, 10, 10, 10, 10, 10, 10, 10, 10, 10, 10, 10, 10, 10, 10, 10, 10, 10, 10, 10, 30, 30, 30, 30, 30, 99, 99, 99, 99, 99]
def ab_mx (m : Nat) : Nat := ab_mxs.getD m 0
def ab_rt (m : Nat) : Nat := ab_rts.getD m 0
def ab_fd : List (Nat × ab_E) → Nat → Option ab_E
  | [], _ => none
  | (q, e) :: t, pc => if q = pc then some e else ab_fd t pc
noncomputable def ab_at (m pc : Nat) : Option ab_E := ab_fd (ab_cds.getD m []) pc
def ab_sl : List ab_V → ab_L
  | [] => []
  | .inr (.inl x) :: t => some (.inr (.inl x)) :: none :: ab_sl t
  | .inl x :: t => some (.inl x) :: ab_sl t
  | .inr (.inr x) :: t => some (.inr (.inr x)) :: ab_sl t
def ab_ent (as : List ab_V) (n : Nat) : ab_L := ab_sl as ++ List.replicate (n - (ab_sl as).length) none
/-- which method of the name 'meet' a round has -/
def ab_meet (t : Nat) : Nat := if t = 0 then 2 else if t = 3 then 15 else 23
def ab_isS (i : Instr) : Bool := match i with
  | .invokestatic _ => true
  | _ => false
/-- a receiver may be asked -/
abbrev ab_rc (M : ab_M) (m r : Nat) : Prop := (r < ab_nc M ∧ (ab_kd r).1 < 11 ∧ ab_tg (ab_rt m) (ab_kd r).1) ∨ (r = 1004 ∧ ab_rt m = 30)
def ab_args (e : ab_E) (st : List ab_V) (M : ab_M) : Option (Nat × (List ab_V × List ab_V)) :=
  if st.length < e.2.2.2.toNat ∨ 8 < ((st.drop e.2.2.2.toNat).map ab_cat).sum then none
  else if ab_isS e.1 = true then (if (ab_sl (st.take e.2.2.2.toNat).reverse).length ≤ ab_mx e.2.2.1 then some (e.2.2.1, (st.take e.2.2.2.toNat).reverse, st.drop e.2.2.2.toNat) else none)
  else match (st.take e.2.2.2.toNat).reverse with
    | .inr (.inr r) :: t =>
      if e.2.2.1 = 300 then (if r < ab_nc M ∧ (ab_kd r).1 < 11 ∧ ab_tg 50 (ab_kd r).1 ∧ (ab_sl (.inr (.inr r) :: t)).length ≤ ab_mx (ab_meet (ab_kd r).1) then some (ab_meet (ab_kd r).1, .inr (.inr r) :: t, st.drop e.2.2.2.toNat) else none)
      else if 1000 ≤ e.2.2.1 then (if r < ab_nc M ∧ (ab_kd r).1 < 11 ∧ (ab_kd r).1 + 1 = e.2.2.1 / 1000 ∧ (ab_sl (.inr (.inr r) :: t)).length ≤ ab_mx (e.2.2.1 % 1000) then some (e.2.2.1 % 1000, .inr (.inr r) :: t, st.drop e.2.2.2.toNat) else none)
      else if ab_rc M e.2.2.1 r ∧ (ab_sl (.inr (.inr r) :: t)).length ≤ ab_mx e.2.2.1 then some (e.2.2.1, .inr (.inr r) :: t, st.drop e.2.2.2.toNat) else none
    | _ => none
def ab_ret (e : ab_E) (st : List ab_V) (M : ab_M) : Option (Option ab_V × ab_M) := match st with
  | [] => if e.2.2.1 = 0 then some (none, M) else none
  | [.inl v] => if e.2.2.1 = 1 ∧ (e.2.2.2 = 0 ∨ (e.2.2.2 = 1 ∧ (v = 0 ∨ v = 1)) ∨ (e.2.2.2 = 3 ∧ -128 ≤ v ∧ v < 128)) then some (some (.inl v), M) else none
  | _ => none
/-- n: steps at most; d: calls at most that stand at once -/
noncomputable def ab_run : Nat → Nat → Nat → Nat → ab_L → List ab_V → ab_M → Option (Option ab_V × ab_M)
  | 0, _, _, _, _, _, _ => none
  | n + 1, d, m, pc, ls, st, M => match ab_at m pc with
    | none => none
    | some e => match e.2.1 with
      | 0 => (match ab_st1 e pc ls st M with
        | none => none
        | some u => ab_run n d m u.1 u.2.1 u.2.2.1 u.2.2.2)
      | 1 => (match d with
        | 0 => none
        | d' + 1 => (match ab_args e st M with
          | none => none
          | some q => (match ab_run n d' q.1 0 (ab_ent q.2.1 (ab_mx q.1)) [] M with
            | none => none
            | some z => ab_run n (d' + 1) m (pc + 3) ls (z.1.toList ++ q.2.2) z.2)))
      | 2 => ab_ret e st M
      | _ => none
end
section
/-! FACTS OF THE TABLES, by program: the words that each instruction needs are there -/
def ab_tb : List Cond := lw_tbl.filter (fun w => k2_isCode w || goodWord w)
theorem ab_tbg : ∀ w ∈ ab_tb, (w.onTables && w.keeps) = true ∨ ∃ ty, w = .arrayClass ty := by
  intro w hw
  obtain ⟨h1, h2⟩ := List.mem_filter.mp hw
  by_cases hc : k2_isCode w = true
  · cases w <;> first | (simp [k2_isCode] at hc; done) | exact Or.inl rfl
  · refine good_of_word ?_
    simp only [Bool.or_eq_true] at h2
    exact h2.resolve_left hc
def ab_ix (i : Nat) (w : Cond) : Bool := decide (lw_tbl[i]? = some w) && (k2_isCode w || goodWord w)
theorem ab_ix_mem {i : Nat} {w : Cond} (h : ab_ix i w = true) : w ∈ ab_tb := by
  unfold ab_ix at h
  simp only [Bool.and_eq_true, decide_eq_true_eq] at h
  exact List.mem_filter.mpr ⟨List.mem_of_getElem? h.1, h.2⟩
theorem ab_good {y : MethodName} {b : ByteArray} {n : Nat} {r : Option FieldType} (h : Cond.code y b n r ∈ ab_tb) : GoodIn ab_tb (.code y b n r :: ab_tb) := by
  intro w hw
  rcases List.mem_cons.mp hw with rfl | hw
  · exact ⟨h, Or.inl rfl⟩
  · exact ⟨hw, ab_tbg w hw⟩
theorem ab_zip {l : List Cond} {js : List Nat} (h : decide (l.length ≤ js.length) = true) (hz : (l.zip js).all (fun q => ab_ix q.2 q.1) = true) : ∀ w ∈ l, w ∈ ab_tb := by
  intro w hw
  obtain ⟨i, hi⟩ := List.getElem?_of_mem hw
  have hlt : i < l.length := (List.getElem?_eq_some_iff.mp hi).1
  have hl2 : i < js.length := Nat.lt_of_lt_of_le hlt (of_decide_eq_true h)
  have hq : (l.zip js)[i]? = some (w, js[i]) := by
    rw [List.getElem?_zip_eq_some]
    exact ⟨hi, List.getElem?_eq_getElem hl2⟩
  exact ab_ix_mem (List.all_eq_true.mp hz _ (List.mem_of_getElem? hq))
def ab_tl : List (Nat → FieldType) := [tyX0, tyX1, tyX2, tyX3, tyX4, tyX5, tyX6, tyX8, tyX9, tyX10, tyX11]
def ab_ty (t f : Nat) : FieldType := (ab_tl.getD t (fun _ => .int)) f
def ab_tyc : Nat → FieldType → Bool
  | 0, .int => true
  | 1, .boolean => true
  | 2, .array _ => true
  | 2, .object _ => true
  | _, _ => false

set_option maxRecDepth 100000 in
theorem ab_clin_0 : ∀ w ∈ u_ws RX0 TX0 6, w ∈ ab_tb := ab_zip (js := [311, 313, 303, 305, 307, 309]) (by decide +kernel) (by decide +kernel)
set_option maxRecDepth 100000 in
theorem ab_clin_1 : ∀ w ∈ u_ws RX1 TX1 2, w ∈ ab_tb := ab_zip (js := [370, 372]) (by decide +kernel) (by decide +kernel)
set_option maxRecDepth 100000 in
theorem ab_clin_2 : ∀ w ∈ u_ws RX2 TX2 2, w ∈ ab_tb := ab_zip (js := [385, 387]) (by decide +kernel) (by decide +kernel)
set_option maxRecDepth 100000 in
theorem ab_clin_3 : ∀ w ∈ u_ws RX3 TX3 8, w ∈ ab_tb := ab_zip (js := [357, 358, 345, 347, 349, 351, 353, 355]) (by decide +kernel) (by decide +kernel)
set_option maxRecDepth 100000 in
theorem ab_clin_4 : ∀ w ∈ u_ws RX4 TX4 3, w ∈ ab_tb := ab_zip (js := [271, 273, 275]) (by decide +kernel) (by decide +kernel)
set_option maxRecDepth 100000 in
theorem ab_clin_5 : ∀ w ∈ u_ws RX5 TX5 3, w ∈ ab_tb := ab_zip (js := [326, 327, 324]) (by decide +kernel) (by decide +kernel)
set_option maxRecDepth 100000 in
theorem ab_clin_6 : ∀ w ∈ u_ws RX6 TX6 6, w ∈ ab_tb := ab_zip (js := [110, 112, 114, 116, 118, 120]) (by decide +kernel) (by decide +kernel)
set_option maxRecDepth 100000 in
theorem ab_clin_7 : ∀ w ∈ u_ws RX8 TX8 6, w ∈ ab_tb := ab_zip (js := [248, 250, 252, 254, 256, 258]) (by decide +kernel) (by decide +kernel)
set_option maxRecDepth 100000 in
theorem ab_clin_8 : ∀ w ∈ u_ws RX9 TX9 16, w ∈ ab_tb := ab_zip (js := [196, 198, 200, 202, 204, 206, 208, 210, 212, 214, 216, 218, 220, 222, 224, 226]) (by decide +kernel) (by decide +kernel)
set_option maxRecDepth 100000 in
theorem ab_clin_9 : ∀ w ∈ u_ws RX10 TX10 16, w ∈ ab_tb := ab_zip (js := [406, 408, 410, 412, 414, 416, 418, 420, 422, 424, 426, 428, 430, 432, 434, 436]) (by decide +kernel) (by decide +kernel)
set_option maxRecDepth 100000 in
theorem ab_clin_10 : ∀ w ∈ u_ws RX11 TX11 50, w ∈ ab_tb := ab_zip (js := [1005, 1007, 1009, 1011, 1013, 1015, 1017, 1019, 1021, 1023, 1025, 1027, 1029, 1031, 1033, 1035, 1037, 1039, 1041, 1043, 1045, 1047, 1049, 1051, 1053, 1055, 1057, 1059, 1061, 1063, 1065, 1067, 1069, 1071, 1073, 1075, 1077, 1079, 1081, 1083, 1085, 1087, 1089, 1091, 1093, 1095, 1097, 1099, 1101, 1103]) (by decide +kernel) (by decide +kernel)
theorem ab_clin : ∀ (t : Nat) (r : vw_C), vwCl[t]? = some r → ∀ w ∈ u_ws r.1 r.2.1 r.2.2, w ∈ ab_tb
  | 0, r, h => by cases h; exact ab_clin_0
  | 1, r, h => by cases h; exact ab_clin_1
  | 2, r, h => by cases h; exact ab_clin_2
  | 3, r, h => by cases h; exact ab_clin_3
  | 4, r, h => by cases h; exact ab_clin_4
  | 5, r, h => by cases h; exact ab_clin_5
  | 6, r, h => by cases h; exact ab_clin_6
  | 7, r, h => by cases h; exact ab_clin_7
  | 8, r, h => by cases h; exact ab_clin_8
  | 9, r, h => by cases h; exact ab_clin_9
  | 10, r, h => by cases h; exact ab_clin_10
  | n + 11, r, h => by simp [vwCl] at h
set_option maxRecDepth 100000 in
theorem ab_clty0 : (List.range 11).all (fun t => match vwCl[t]? with | some r => (List.range r.2.2).all (fun f => decide (parseFieldDescriptor (r.2.1 f).2.2.1 = some (ab_ty t f)) && ab_tyc (ab_fty t f) (ab_ty t f)) | none => true) = true := by decide +kernel
theorem ab_clnm : ∀ (t : Nat) (r : vw_C), vwCl[t]? = some r → ∀ a, a < r.2.2 → ∀ b, b < r.2.2 → a ≠ b → (r.2.1 a).2.1 ≠ (r.2.1 b).2.1
  | 0, r, h => by cases h; exact nmX0
  | 1, r, h => by cases h; exact nmX1
  | 2, r, h => by cases h; exact nmX2
  | 3, r, h => by cases h; exact nmX3
  | 4, r, h => by cases h; exact nmX4
  | 5, r, h => by cases h; exact nmX5
  | 6, r, h => by cases h; exact nmX6
  | 7, r, h => by cases h; exact nmX8
  | 8, r, h => by cases h; exact nmX9
  | 9, r, h => by cases h; exact nmX10
  | 10, r, h => by cases h; exact nmX11
  | n + 11, r, h => by simp [vwCl] at h
set_option maxRecDepth 100000 in
theorem ab_kd0 : (List.range 132).all (fun k => decide (11 ≤ (ab_kd k).1) || (match vwCl[(ab_kd k).1]? with | some r => decide (r.2.2 = (ab_kd k).2) | none => false)) = true := by decide +kernel
def ab_ows : List String := [RX0, RX1, RX2, RX3, RX4, RX5, RX6, RX8, RX9, RX10, RX11, RX7, RL, RJ9, RJ0, RJ1, RJ7]

/-- a field link: own, index, receiver, field, the name that the reference bears, its place in the table -/
abbrev ab_FL : Type := Nat × (Nat × (Int × (Nat × (Nat × Nat))))
def ab_sfl : List (Cond × Nat) := [(.sameField "LoneAdjective$BestRound" "LoneAdjective$Rounds" "row" "[I", 297), (.sameField "LoneAdjective$Days" "LoneAdjective$Rounds" "row" "[I", 299), (.sameField "LoneAdjective$Days" "LoneAdjective$Rounds" "endAt" "[I", 302)]
def ab_flc (q : ab_FL) : Bool := (List.range 11).all (fun t => !decide (ab_tg q.2.2.1 t) || (match vwCl[t]? with | some r => decide (q.2.2.2.1 < r.2.2) && ab_ix q.2.2.2.2.2 (.fieldLink (ab_ows.getD q.1 "") q.2.1 (ab_ows.getD q.2.2.2.2.1 "") (r.2.1 q.2.2.2.1).2.1 (r.2.1 q.2.2.2.1).2.2.1) && (decide (ab_ows.getD q.2.2.2.2.1 "" = (r.2.1 q.2.2.2.1).1) || ab_sfl.any (fun z => decide (z.1 = .sameField (ab_ows.getD q.2.2.2.2.1 "") (r.2.1 q.2.2.2.1).1 (r.2.1 q.2.2.2.1).2.1 (r.2.1 q.2.2.2.1).2.2.1))) | none => false))
set_option maxRecDepth 100000 in
theorem ab_sfl0 : ab_sfl.all (fun z => ab_ix z.2 z.1) = true := by decide +kernel
def ab_flt_0 : List ab_FL := [(0, 9, 0, 5, 0, 293), (0, 15, 0, 2, 0, 287), (0, 32, 0, 3, 0, 289), (0, 35, 0, 4, 0, 291), (0, 38, 0, 0, 0, 296), (1, 9, 1, 0, 1, 366), (1, 15, 1, 1, 1, 368), (1, 33, 8, 2, 8, 150), (1, 39, 8, 14, 8, 190), (2, 11, 2, 0, 2, 381), (2, 15, 2, 1, 2, 383), (2, 24, 8, 0, 8, 142), (2, 42, 8, 5, 8, 162), (3, 9, 3, 6, 3, 343), (3, 15, 3, 7, 3, 344)]
set_option maxRecDepth 100000 in
theorem ab_flt0_0 : ab_flt_0.all ab_flc = true := by decide +kernel
def ab_flt_1 : List ab_FL := [(3, 18, 3, 2, 3, 336), (3, 22, 3, 3, 3, 338), (3, 25, 3, 4, 3, 340), (3, 28, 3, 5, 3, 342), (3, 31, 8, 0, 8, 141), (3, 34, 8, 3, 8, 154), (3, 37, 8, 1, 8, 147), (3, 52, 3, 1, 3, 301), (3, 55, 3, 0, 3, 298), (4, 9, 4, 1, 4, 269), (4, 15, 4, 2, 4, 270), (4, 18, 4, 0, 4, 267), (4, 22, 7, 5, 7, 246), (5, 9, 5, 2, 5, 322), (6, 9, 6, 3, 6, 107)]
set_option maxRecDepth 100000 in
theorem ab_flt0_1 : ab_flt_1.all ab_flc = true := by decide +kernel
def ab_flt_2 : List ab_FL := [(6, 15, 6, 4, 6, 108), (6, 19, 6, 5, 6, 109), (6, 22, 6, 0, 6, 102), (6, 26, 6, 1, 6, 104), (6, 29, 6, 2, 6, 106), (6, 91, 8, 0, 8, 144), (6, 94, 8, 2, 8, 152), (6, 100, 8, 3, 8, 157), (6, 103, 8, 13, 8, 188), (6, 106, 8, 5, 8, 163), (6, 110, 8, 14, 8, 192), (6, 113, 8, 1, 8, 148), (6, 116, 8, 7, 8, 168), (6, 119, 8, 8, 8, 171), (6, 125, 8, 15, 8, 195)]
set_option maxRecDepth 100000 in
theorem ab_flt0_2 : ab_flt_2.all ab_flc = true := by decide +kernel
def ab_flt_3 : List ab_FL := [(6, 128, 8, 4, 8, 160), (6, 131, 8, 9, 8, 174), (6, 134, 8, 10, 8, 178), (6, 137, 8, 11, 8, 182), (6, 140, 8, 12, 8, 185), (11, 9, 50, 0, 11, 295), (11, 15, 50, 1, 11, 300), (11, 32, 8, 3, 8, 156), (7, 9, 7, 1, 7, 238), (7, 15, 7, 2, 7, 240), (7, 18, 7, 5, 7, 245), (7, 28, 7, 0, 7, 236), (7, 31, 8, 1, 8, 146), (7, 36, 7, 3, 7, 242), (7, 45, 8, 11, 8, 180)]
set_option maxRecDepth 100000 in
theorem ab_flt0_3 : ab_flt_3.all ab_flc = true := by decide +kernel
def ab_flt_4 : List ab_FL := [(7, 48, 8, 10, 8, 176), (7, 51, 8, 7, 8, 166), (8, 9, 8, 1, 8, 145), (8, 17, 8, 5, 8, 161), (8, 20, 8, 6, 8, 164), (8, 23, 8, 7, 8, 165), (8, 27, 8, 8, 8, 169), (8, 30, 8, 9, 8, 172), (8, 33, 8, 10, 8, 175), (8, 36, 8, 11, 8, 179), (8, 39, 8, 12, 8, 183), (8, 42, 8, 13, 8, 186), (8, 45, 8, 14, 8, 189), (8, 48, 8, 15, 8, 193), (8, 54, 8, 0, 8, 140)]
set_option maxRecDepth 100000 in
theorem ab_flt0_4 : ab_flt_4.all ab_flc = true := by decide +kernel
def ab_flt_5 : List ab_FL := [(8, 57, 8, 2, 8, 149), (8, 60, 8, 3, 8, 153), (8, 63, 8, 4, 8, 158), (9, 10, 9, 0, 9, 390), (9, 16, 9, 1, 9, 391), (9, 23, 9, 2, 9, 392), (9, 27, 9, 3, 9, 393), (9, 33, 9, 4, 9, 394), (9, 37, 9, 5, 9, 395), (9, 40, 9, 6, 9, 396), (9, 46, 9, 7, 9, 397), (9, 53, 9, 8, 9, 398), (9, 60, 9, 9, 9, 399), (9, 64, 9, 10, 9, 400), (9, 70, 9, 11, 9, 401)]
set_option maxRecDepth 100000 in
theorem ab_flt0_5 : ab_flt_5.all ab_flc = true := by decide +kernel
def ab_flt_6 : List ab_FL := [(9, 77, 9, 12, 9, 402), (9, 84, 9, 13, 9, 403), (9, 88, 9, 14, 9, 404), (9, 92, 9, 15, 9, 405), (9, 100, 6, 0, 6, 103), (9, 108, 6, 1, 6, 105), (9, 118, 7, 4, 7, 244), (9, 122, 3, 2, 3, 337), (9, 125, 4, 0, 4, 268), (9, 128, 8, 3, 8, 155), (9, 131, 8, 0, 8, 143), (9, 134, 8, 2, 8, 151), (9, 137, 8, 4, 8, 159), (9, 140, 7, 0, 7, 237), (9, 143, 7, 1, 7, 239)]
set_option maxRecDepth 100000 in
theorem ab_flt0_6 : ab_flt_6.all ab_flc = true := by decide +kernel
def ab_flt_7 : List ab_FL := [(9, 146, 7, 2, 7, 241), (9, 168, 8, 7, 8, 167), (9, 171, 8, 8, 8, 170), (9, 177, 8, 9, 8, 173), (9, 180, 8, 10, 8, 177), (9, 183, 8, 11, 8, 181), (9, 186, 8, 12, 8, 184), (9, 189, 8, 13, 8, 187), (9, 196, 7, 5, 7, 247), (9, 203, 8, 14, 8, 191), (9, 210, 8, 15, 8, 194), (9, 233, 0, 2, 0, 288), (9, 235, 0, 3, 0, 290), (9, 238, 0, 4, 0, 292), (9, 241, 0, 5, 0, 294)]
set_option maxRecDepth 100000 in
theorem ab_flt0_7 : ab_flt_7.all ab_flc = true := by decide +kernel
def ab_flt_8 : List ab_FL := [(9, 245, 5, 2, 5, 323), (9, 262, 1, 0, 1, 367), (9, 265, 1, 1, 1, 369), (9, 284, 2, 0, 2, 382), (9, 287, 2, 1, 2, 384), (9, 303, 3, 3, 3, 339), (9, 306, 3, 4, 3, 341), (9, 313, 7, 3, 7, 243), (10, 7, 10, 0, 10, 955), (10, 13, 10, 2, 10, 957), (10, 17, 10, 5, 10, 960), (10, 20, 10, 6, 10, 961), (10, 24, 10, 7, 10, 962), (10, 27, 10, 8, 10, 963), (10, 30, 10, 10, 10, 965)]
set_option maxRecDepth 100000 in
theorem ab_flt0_8 : ab_flt_8.all ab_flc = true := by decide +kernel
def ab_flt_9 : List ab_FL := [(10, 33, 10, 12, 10, 967), (10, 36, 10, 13, 10, 968), (10, 39, 10, 15, 10, 970), (10, 42, 10, 16, 10, 971), (10, 45, 10, 18, 10, 973), (10, 48, 10, 27, 10, 982), (10, 51, 10, 29, 10, 984), (10, 54, 10, 31, 10, 986), (10, 57, 10, 33, 10, 988), (10, 60, 10, 35, 10, 990), (10, 63, 10, 37, 10, 992), (10, 66, 10, 38, 10, 993), (10, 69, 10, 39, 10, 994), (10, 72, 10, 40, 10, 995), (10, 75, 10, 41, 10, 996)]
set_option maxRecDepth 100000 in
theorem ab_flt0_9 : ab_flt_9.all ab_flc = true := by decide +kernel
def ab_flt_10 : List ab_FL := [(10, 78, 10, 42, 10, 997), (10, 81, 10, 43, 10, 998), (10, 84, 10, 44, 10, 999), (10, 87, 10, 45, 10, 1000), (10, 90, 10, 46, 10, 1001), (10, 93, 10, 48, 10, 1003), (10, 96, 10, 49, 10, 1004), (10, 99, 10, 3, 10, 958), (10, 106, 10, 9, 10, 964), (10, 109, 10, 11, 10, 966), (10, 115, 10, 1, 10, 956), (10, 119, 10, 20, 10, 975), (10, 122, 10, 23, 10, 978), (10, 125, 10, 21, 10, 976), (10, 128, 10, 22, 10, 977)]
set_option maxRecDepth 100000 in
theorem ab_flt0_10 : ab_flt_10.all ab_flc = true := by decide +kernel
def ab_flt_11 : List ab_FL := [(10, 136, 10, 24, 10, 979), (10, 146, 10, 28, 10, 983), (10, 149, 10, 25, 10, 980), (10, 163, 10, 30, 10, 985), (10, 166, 10, 32, 10, 987), (10, 169, 10, 34, 10, 989), (10, 172, 10, 36, 10, 991), (10, 175, 10, 26, 10, 981), (10, 200, 10, 4, 10, 959), (10, 203, 10, 14, 10, 969), (10, 209, 10, 17, 10, 972), (10, 212, 10, 19, 10, 974), (10, 337, 10, 47, 10, 1002)]
set_option maxRecDepth 100000 in
theorem ab_flt0_11 : ab_flt_11.all ab_flc = true := by decide +kernel
def ab_flt : List ab_FL := List.append ab_flt_0 (List.append ab_flt_1 (List.append ab_flt_2 (List.append ab_flt_3 (List.append ab_flt_4 (List.append ab_flt_5 (List.append ab_flt_6 (List.append ab_flt_7 (List.append ab_flt_8 (List.append ab_flt_9 (List.append ab_flt_10 (ab_flt_11)))))))))))
theorem ab_all_app {α : Type} {f : α → Bool} {a b : List α} (ha : a.all f = true) (hb : b.all f = true) : (List.append a b).all f = true := by
  show (a ++ b).all f = true
  rw [List.all_append, ha, hb]; rfl
theorem ab_flt0 : ab_flt.all ab_flc = true := ab_all_app ab_flt0_0 (ab_all_app ab_flt0_1 (ab_all_app ab_flt0_2 (ab_all_app ab_flt0_3 (ab_all_app ab_flt0_4 (ab_all_app ab_flt0_5 (ab_all_app ab_flt0_6 (ab_all_app ab_flt0_7 (ab_all_app ab_flt0_8 (ab_all_app ab_flt0_9 (ab_all_app ab_flt0_10 (ab_flt0_11)))))))))))
end
section
/-! HOW THE ABSTRACT MACHINE'S CELLS LIE IN THE HEAP: cell k at b0 + k; what was there before (1000 and on) at addresses 'sa' -/
abbrev ab_I4 : Type := ClassId × (ClassId × (ClassId × ClassId))
def ab_tys (I : ab_I4) : List (ClassId × FieldType) := [(I.1, .int), (I.2.1, .boolean), (I.2.2.1, .char), (I.2.2.2, .array .int)]
def ab_fv (b0 ty : Nat) (x : Int) : Value := if ty = 2 then (if x < 0 then .null else .ref (b0 + x.toNat)) else .int (Int32.ofInt x)
def ab_fs (b0 : Nat) (M : ab_M) (k : Nat) : List Value := (List.range (ab_kd k).2).map fun f => ab_fv b0 (ab_fty (ab_kd k).1 f) (M k f)
def ab_gr (b0 : Nat) (M : ab_M) (k : Nat) : Nat → Option Nat := fun j => if M k j < 0 then none else some (b0 + (M k j).toNat)
def ab_is (M : ab_M) (k : Nat) : Nat → Int32 := fun j => Int32.ofInt (M k j)
def ab_ce (I : ab_I4) (b0 : Nat) (M : ab_M) (k : Nat) : va_E :=
  if (ab_kd k).1 = 20 then .inl (I.1, (ab_kd k).2, .inl (ab_is M k))
  else if (ab_kd k).1 = 21 then .inl (I.2.1, (ab_kd k).2, .inl (ab_is M k))
  else if (ab_kd k).1 = 22 then .inl (I.2.2.1, (ab_kd k).2, .inl (ab_is M k))
  else if (ab_kd k).1 = 24 then .inl (I.2.2.2, (ab_kd k).2, .inr (.inr (.inr (.inr (ab_gr b0 M k)))))
  else .inr ((ab_kd k).1, ab_fs b0 M k)
def ab_ws (I : ab_I4) (b0 n : Nat) (M : ab_M) : va_W := (List.range n).map fun k => (b0 + k, ab_ce I b0 M k)
def ab_ad (b0 : Nat) (sa : Nat → Nat) (k : Nat) : Nat := if k < 1000 then b0 + k else sa k
def ab_cv (b0 : Nat) (sa : Nat → Nat) : ab_V → Value
  | .inl x => .int (Int32.ofInt x)
  | .inr (.inl x) => .long (Int64.ofInt x)
  | .inr (.inr k) => .ref (ab_ad b0 sa k)
def ab_vk : ab_V → Prop
  | .inl x => ab_rg x
  | .inr (.inl x) => ab_rl x
  | .inr (.inr _) => True
def ab_mok (L : Nat) (xs : Nat → Int32) (M : ab_M) : Prop := (∀ k j, k ≠ 999 → ab_rg (M k j)) ∧ 0 ≤ M 999 0 ∧ M 999 0 ≤ 995 ∧ 0 ≤ M 999 1 ∧ M 999 2 = L ∧ L ≤ 320 ∧ ∀ j, j < L → M 1000 j = (xs j).toInt
def ab_as (b0 : Nat) (sa : Nat → Nat) : Nat → ab_L → List (Nat × Value)
  | _, [] => []
  | i, none :: t => ab_as b0 sa (i + 1) t
  | i, some v :: t => (i, ab_cv b0 sa v) :: ab_as b0 sa (i + 1) t
/-- what was there before, and the words that no method's own list may hold -/
def ab_nwd : List Cond := [.declares ⟨"LoneAdjective$Rounds", "meet", "(LLoneAdjective$Town;II)V"⟩, .methodLinkNest "LoneAdjective" 9 ⟨"LoneAdjective$Reader", "<init>", "()V"⟩ "LoneAdjective", .methodLinkNest "LoneAdjective" 45 ⟨"LoneAdjective$Diary", "<init>", "()V"⟩ "LoneAdjective", .methodLinkNest "LoneAdjective" 52 ⟨"LoneAdjective$BestRound", "<init>", "()V"⟩ "LoneAdjective", .methodLinkNest "LoneAdjective$BestRound" 3 ⟨"LoneAdjective$Rounds", "<init>", "()V"⟩ "LoneAdjective", .methodLinkNest "LoneAdjective" 59 ⟨"LoneAdjective$DoneSets", "<init>", "()V"⟩ "LoneAdjective", .methodLinkNest "LoneAdjective$DoneSets" 3 ⟨"LoneAdjective$Rounds", "<init>", "()V"⟩ "LoneAdjective", .methodLinkNest "LoneAdjective" 69 ⟨"LoneAdjective$Days", "<init>", "()V"⟩ "LoneAdjective", .methodLinkNest "LoneAdjective$Days" 3 ⟨"LoneAdjective$Rounds", "<init>", "()V"⟩ "LoneAdjective", .methodLinkNest "LoneAdjective" 76 ⟨"LoneAdjective$Chains", "<init>", "()V"⟩ "LoneAdjective", .methodLinkNest "LoneAdjective" 83 ⟨"LoneAdjective$Chase", "<init>", "()V"⟩ "LoneAdjective"]
def ab_A (b0 : Nat) : Nat → Prop := fun q => b0 ≤ q
def ab_si (k : Nat) : Nat → Value := fun j => .int (Int32.ofInt ((ab_stt k).getD j 0))
def ab_G (b0 : Nat) (sa : Nat → Nat) (L : Nat) (xs : Nat → Int32) (s : State) : Prop :=
  (va_X (sa 1000) L xs s s.heap ∧ sa 1000 < s.heap.size ∧ sa 1000 < b0) ∧
  (va_T .int (sa 1001) 7 (ab_si 1001) (ab_A b0) s s.heap ∧ va_T .int (sa 1002) 7 (ab_si 1002) (ab_A b0) s s.heap ∧ va_T .int (sa 1003) 4 (ab_si 1003) (ab_A b0) s s.heap) ∧
  (va_Z "LoneAdjective$Reader" "NUMBERS" "[I" (.ref (sa 1001)) (ab_A b0) s s.heap ∧ va_Z "LoneAdjective$Reader" "MOST" "[I" (.ref (sa 1002)) (ab_A b0) s s.heap ∧ va_Z "LoneAdjective$Reader" "DEED_BOUNDS" "[I" (.ref (sa 1003)) (ab_A b0) s s.heap ∧ va_Z "java/lang/String" "COMPACT_STRINGS" "Z" (.int 1) (ab_A b0) s s.heap) ∧
  (vk_R "LoneAdjective$Reader" 50 "twpdrqo" (sa 1004) s ∧ vk_S 1 [7] [[116, 119, 112, 100, 114, 113, 111]] (fun _ => sa 1004) (fun _ => sa 1005) (ab_A b0) s s.heap) ∧
  (∀ w ∈ ab_nwd, va_Nw w s) ∧ (Cond.arrayOver (.array .int)).before #[] s = true
def ab_nw (s : State) (D : va_G) (I : ab_I4) (b0 : Nat) (sa : Nat → Nat) (L : Nat) (xs : Nat → Int32) (nL n0 s0 : Nat) (ls : ab_L) (st : List ab_V) (M : ab_M) (H : Heap) (locs : List Loc) (lc : Array Slot) : Prop :=
  ab_mok L xs M ∧ (∀ v ∈ st, ab_vk v) ∧ lv_has lc nL (ab_as b0 sa 0 ls) ∧ ls.length = nL ∧ (∀ v, some v ∈ ls → ab_vk v) ∧ va_P D vwCl (ab_ws I b0 (ab_nc M) M) H ∧ va_S (ab_A b0) s.heap H locs ∧ n0 ≤ ab_nc M ∧ s0 ≤ (M 999 1).toNat
/-- from here on the machine comes to Q -/
def ab_K (p : Program) (l : Launch) (e : Env) (R : Room) (s : State) (m : MethodId) (args : Array Value) (below : List Frame) (meth : Method) (c : Code) (Q : State → Prop) (D : va_G) (I : ab_I4) (b0 : Nat) (sa : Nat → Nat) (L : Nat) (xs : Nat → Int32) (nL n0 s0 : Nat) (pc : Nat) (ls : ab_L) (st : List ab_V) (M : ab_M) : Prop :=
  ∀ (H : Heap) (locs : List Loc) (lc : Array Slot), ab_nw s D I b0 sa L xs nL n0 s0 ls st M H locs lc → W p l e R s m args below meth c H locs (ab_nc M - n0) ((M 999 1).toNat - s0) Q (F0 m pc lc (st.map (ab_cv b0 sa)))
/-- what a method's body stands on -/
def ab_cx (p : Program) (s : State) (m : MethodId) (args : Array Value) (c : Code) (D : va_G) (I : ab_I4) (b0 : Nat) (sa : Nat → Nat) (L : Nat) (xs : Nat → Int32) (nL n0 : Nat) (cc : ByteArray) (own : String) : Prop :=
  p.tables.exec = Jvm.exec ∧ c.code = cc ∧ c.maxLocals = nL ∧ s.vm.findClass own = some m.cls ∧ (∀ w ∈ ab_tb, w.before args s = true) ∧ va_K D vwCl (ab_tys I) s ∧ ab_G b0 sa L xs s ∧ s.heap.size = b0 + n0
theorem ab_i32 {x : Int} (h : ab_rg x) : (Int32.ofInt x).toInt = x := Int32.toInt_ofInt_of_le (Int.le_trans (by decide) h.1) (Int.lt_of_le_of_lt h.2 (by decide))
theorem ab_i64 {x : Int} (h : ab_rl x) : (Int64.ofInt x).toInt = x := Int64.toInt_ofInt_of_le (Int.le_trans (by decide) h.1) (Int.lt_of_le_of_lt h.2 (by decide))
theorem ab_rgz (z : Int32) : ab_rg z.toInt := ⟨Int.le_trans (by decide) z.le_toInt, Int.le_of_lt_add_one (Int.lt_of_lt_of_le z.toInt_lt (by decide))⟩
theorem ab_rlz (z : Int64) : ab_rl z.toInt := ⟨Int.le_trans (by decide) z.le_toInt, Int.le_of_lt_add_one (Int.lt_of_lt_of_le z.toInt_lt (by decide))⟩
theorem ab_eq32 {x y : Int} (hx : ab_rg x) (hy : ab_rg y) : Int32.ofInt x = Int32.ofInt y ↔ x = y := by
  rw [← Int32.toInt_inj, ab_i32 hx, ab_i32 hy]
theorem ab_lt32 {x y : Int} (hx : ab_rg x) (hy : ab_rg y) : Int32.ofInt x < Int32.ofInt y ↔ x < y := by
  rw [Int32.lt_iff_toInt_lt, ab_i32 hx, ab_i32 hy]
theorem ab_le32 {x y : Int} (hx : ab_rg x) (hy : ab_rg y) : Int32.ofInt x ≤ Int32.ofInt y ↔ x ≤ y := by
  rw [Int32.le_iff_toInt_le, ab_i32 hx, ab_i32 hy]
theorem ab_cl32 {x : Int} (hx : ab_rg x) : (Int32.ofInt x).toNatClampNeg = x.toNat := by
  show (Int32.ofInt x).toInt.toNat = _
  rw [ab_i32 hx]
theorem ab_in32 {x : Int} {n : Nat} (hx : ab_rg x) (h0 : 0 ≤ x) (h1 : x < n) : vp_in (Int32.ofInt x) n := by
  rw [vp_in_iff, ab_i32 hx]
  exact ⟨h0, h1⟩
theorem ab_rg0 : ab_rg 0 := by decide
theorem ab_as_mem (b0 : Nat) (sa : Nat → Nat) : ∀ (ls : ab_L) (i : Nat) (q : Nat × Value), q ∈ ab_as b0 sa i ls ↔ ∃ (j : Nat) (v : ab_V), ls[j]? = some (some v) ∧ q = (i + j, ab_cv b0 sa v) := by
  intro ls
  induction ls with
  | nil => intro i q; simp [ab_as]
  | cons x t ih =>
    intro i q
    cases x with
    | none =>
      simp only [ab_as, ih]
      constructor
      · rintro ⟨j, v, h1, h2⟩
        exact ⟨j + 1, v, by simpa using h1, by rw [h2]; congr 1; omega⟩
      · rintro ⟨j, v, h1, h2⟩
        cases j with
        | zero => simp at h1
        | succ j => exact ⟨j, v, by simpa using h1, by rw [h2]; congr 1; omega⟩
    | some w =>
      simp only [ab_as, List.mem_cons, ih]
      constructor
      · rintro (h | ⟨j, v, h1, h2⟩)
        · exact ⟨0, w, by simp, by simpa using h⟩
        · exact ⟨j + 1, v, by simpa using h1, by rw [h2]; congr 1; omega⟩
      · rintro ⟨j, v, h1, h2⟩
        cases j with
        | zero => left; simp at h1; subst h1; simpa using h2
        | succ j => right; exact ⟨j, v, by simpa using h1, by rw [h2]; congr 1; omega⟩
theorem ab_getD {ls : ab_L} {n : Nat} {v : ab_V} (h : ls.getD n none = some v) : ls[n]? = some (some v) := by
  rw [List.getD_eq_getElem?_getD] at h
  cases hq : ls[n]? with
  | none => rw [hq] at h; cases h
  | some w => rw [hq] at h; simp at h; rw [h]
theorem ab_loc {b0 : Nat} {sa : Nat → Nat} {lc : Array Slot} {nL n : Nat} {ls : ab_L} {v : ab_V} (h : lv_has lc nL (ab_as b0 sa 0 ls)) (hg : ls.getD n none = some v) : lc[n]? = some (.val (ab_cv b0 sa v)) :=
  h.2.2 (n, ab_cv b0 sa v) ((ab_as_mem b0 sa ls 0 (n, ab_cv b0 sa v)).mpr ⟨n, v, ab_getD hg, by rw [Nat.zero_add]⟩)
theorem ab_cat_cv (b0 : Nat) (sa : Nat → Nat) (v : ab_V) : (ab_cv b0 sa v).category = ab_cat v := by
  rcases v with x | x | x <;> rfl
theorem ab_kl_get (ls : ab_L) (n j : Nat) : (ab_kl ls n)[j]? = some none ∨ ((ab_kl ls n)[j]? = ls[j]? ∧ ∀ x : Int, j + 1 = n → ls[j]? ≠ some (some (.inr (.inl x)))) := by
  cases n with
  | zero => exact Or.inr ⟨rfl, fun x h => by omega⟩
  | succ i =>
    by_cases hj : j = i
    · subst hj
      unfold ab_kl
      dsimp only
      cases hq : ls[j]? with
      | none =>
        have : ls.getD j none = none := by rw [List.getD_eq_getElem?_getD, hq]; rfl
        rw [this]
        exact Or.inr ⟨hq, fun x _ h => by cases h⟩
      | some w =>
        have hw : ls.getD j none = w := by rw [List.getD_eq_getElem?_getD, hq]; rfl
        rw [hw]
        have hlt : j < ls.length := (List.getElem?_eq_some_iff.mp hq).1
        rcases w with _ | x | x | x
        · exact Or.inl hq
        · exact Or.inr ⟨hq, fun y _ h => by cases h⟩
        · exact Or.inl (by dsimp only; rw [List.getElem?_set_self hlt])
        · exact Or.inr ⟨hq, fun y _ h => by cases h⟩
    · refine Or.inr ⟨?_, fun x h => by omega⟩
      unfold ab_kl
      dsimp only
      split
      · rw [List.getElem?_set_ne (by omega)]
      · rfl
theorem ab_kl_len (ls : ab_L) (n : Nat) : (ab_kl ls n).length = ls.length := by
  cases n with
  | zero => rfl
  | succ i =>
    unfold ab_kl
    dsimp only
    split
    · simp
    · rfl
theorem ab_set_len (ls : ab_L) (n : Nat) (v : ab_V) : (ab_set ls n v).length = ls.length := by
  rcases v with x | x | x <;> simp [ab_set, ab_kl_len]
theorem ab_set_mem {ls : ab_L} {n : Nat} {v w : ab_V} (h : some w ∈ ab_set ls n v) : w = v ∨ some w ∈ ls := by
  obtain ⟨j, hj⟩ := List.getElem?_of_mem h
  have key : ∀ L1 : ab_L, (∀ i : Nat, L1[i]? = some none ∨ L1[i]? = (ab_kl ls n)[i]? ∨ L1[i]? = some (some v)) → L1[j]? = some (some w) → w = v ∨ some w ∈ ls := by
    intro L1 h1 h2
    rcases h1 j with h3 | h3 | h3
    · rw [h3] at h2; cases h2
    · rw [h3] at h2
      rcases ab_kl_get ls n j with h4 | h4
      · rw [h4] at h2; cases h2
      · rw [h4.1] at h2; exact Or.inr (List.mem_of_getElem? h2)
    · rw [h3] at h2; cases h2; exact Or.inl rfl
  have s1 : ∀ (L0 : ab_L) (i k : Nat) (x : Option ab_V), (L0.set k x)[i]? = L0[i]? ∨ (L0.set k x)[i]? = some x := by
    intro L0 i k x
    by_cases hik : k = i
    · subst hik
      by_cases hl : k < L0.length
      · right; rw [List.getElem?_set_self hl]
      · left; rw [List.set_eq_of_length_le (by omega)]
    · left; rw [List.getElem?_set_ne hik]
  rcases v with x | x | x
  · refine key _ (fun i => ?_) hj
    rcases s1 (ab_kl ls n) i n (some (.inl x)) with h1 | h1
    · exact Or.inr (Or.inl h1)
    · exact Or.inr (Or.inr h1)
  · refine key _ (fun i => ?_) hj
    rcases s1 ((ab_kl ls n).set n (some (.inr (.inl x)))) i (n + 1) none with h1 | h1
    · rcases s1 (ab_kl ls n) i n (some (.inr (.inl x))) with h2 | h2
      · exact Or.inr (Or.inl (h1.trans h2))
      · exact Or.inr (Or.inr (h1.trans h2))
    · exact Or.inl h1
  · refine key _ (fun i => ?_) hj
    rcases s1 (ab_kl ls n) i n (some (.inr (.inr x))) with h1 | h1
    · exact Or.inr (Or.inl h1)
    · exact Or.inr (Or.inr h1)
theorem ab_set1_sub {b0 : Nat} {sa : Nat → Nat} {ls : ab_L} {n : Nat} {v : ab_V} (hc : ab_cat v = 1) {q : Nat × Value} (h : q ∈ ab_as b0 sa 0 (ab_set ls n v)) : q ∈ (n, ab_cv b0 sa v) :: (ab_as b0 sa 0 ls).filter (fun q => !(q.1 == n) && !(q.1 + 1 == n && q.2.category == 2)) := by
  obtain ⟨j, w, hj, rfl⟩ := (ab_as_mem b0 sa _ 0 q).mp h
  have he : ab_set ls n v = (ab_kl ls n).set n (some v) := by
    rcases v with x | x | x
    · rfl
    · cases hc
    · rfl
  rw [he] at hj
  simp only [Nat.zero_add]
  by_cases hjn : j = n
  · subst hjn
    have hl : j < (ab_kl ls j).length := by
      have := (List.getElem?_eq_some_iff.mp hj).1
      simpa using this
    rw [List.getElem?_set_self hl] at hj
    cases hj
    exact List.mem_cons_self
  · rw [List.getElem?_set_ne (by omega)] at hj
    rcases ab_kl_get ls n j with h4 | ⟨h4, h5⟩
    · rw [h4] at hj; cases hj
    · rw [h4] at hj
      refine List.mem_cons_of_mem _ (List.mem_filter.mpr ⟨(ab_as_mem b0 sa ls 0 (j, ab_cv b0 sa w)).mpr ⟨j, w, hj, by rw [Nat.zero_add]⟩, ?_⟩)
      have h6 : (j == n) = false := by simpa using hjn
      simp only [h6, Bool.not_false, Bool.true_and, Bool.not_eq_true', Bool.and_eq_false_iff]
      by_cases hj1 : j + 1 = n
      · right
        rcases w with x | x | x
        · rfl
        · exact absurd hj (h5 x hj1)
        · rfl
      · left
        simpa using hj1
theorem ab_set2_sub {b0 : Nat} {sa : Nat → Nat} {ls : ab_L} {n : Nat} {x : Int} {q : Nat × Value} (h : q ∈ ab_as b0 sa 0 (ab_set ls n (.inr (.inl x)))) : q ∈ (n, ab_cv b0 sa (.inr (.inl x))) :: (ab_as b0 sa 0 ls).filter (fun q => !(q.1 == n) && (!(q.1 == n + 1) && !(q.1 + 1 == n && q.2.category == 2))) := by
  obtain ⟨j, w, hj, rfl⟩ := (ab_as_mem b0 sa _ 0 q).mp h
  have he : ab_set ls n (.inr (.inl x)) = ((ab_kl ls n).set n (some (.inr (.inl x)))).set (n + 1) none := rfl
  rw [he] at hj
  simp only [Nat.zero_add]
  by_cases hj2 : j = n + 1
  · subst hj2
    have hl : n + 1 < ((ab_kl ls n).set n (some (.inr (.inl x)))).length := by
      have := (List.getElem?_eq_some_iff.mp hj).1
      simpa using this
    rw [List.getElem?_set_self hl] at hj
    cases hj
  rw [List.getElem?_set_ne (by omega)] at hj
  by_cases hjn : j = n
  · subst hjn
    have hl : j < (ab_kl ls j).length := by
      have := (List.getElem?_eq_some_iff.mp hj).1
      simpa using this
    rw [List.getElem?_set_self hl] at hj
    cases hj
    exact List.mem_cons_self
  · rw [List.getElem?_set_ne (by omega)] at hj
    rcases ab_kl_get ls n j with h4 | ⟨h4, h5⟩
    · rw [h4] at hj; cases hj
    · rw [h4] at hj
      refine List.mem_cons_of_mem _ (List.mem_filter.mpr ⟨(ab_as_mem b0 sa ls 0 (j, ab_cv b0 sa w)).mpr ⟨j, w, hj, by rw [Nat.zero_add]⟩, ?_⟩)
      have h6 : (j == n) = false := by simpa using hjn
      have h7 : (j == n + 1) = false := by simpa using hj2
      simp only [h6, h7, Bool.not_false, Bool.true_and, Bool.not_eq_true', Bool.and_eq_false_iff]
      by_cases hj1 : j + 1 = n
      · right
        rcases w with x | x | x
        · rfl
        · exact absurd hj (h5 x hj1)
        · rfl
      · left
        simpa using hj1
end
section
section SO1
variable {p : Program} {l : Launch} {e : Env} {R : Room} {s : State} {m : MethodId} {args : Array Value} {below : List Frame} {meth : Method} {c : Code} {Q : State → Prop} {D : va_G} {I : ab_I4} {b0 : Nat} {sa : Nat → Nat} {L : Nat} {xs : Nat → Int32} {nL n0 s0 : Nat} {cc : ByteArray} {own : String} {pc : Nat} {ls : ab_L} {st : List ab_V} {M : ab_M}
theorem ab_lvm {lc : Array Slot} {n : Nat} {l1 l2 : List (Nat × Value)} (h : lv_has lc n l1) (hs : ∀ q, q ∈ l2 → q ∈ l1) : lv_has lc n l2 := ⟨h.1, h.2.1, fun q hq => h.2.2 q (hs q hq)⟩
theorem so_push {v : ab_V} {pc' : Nat} (hv : ab_vk v) (row : ∀ (H : Heap) (locs : List Loc) (cells slots : Nat) (lc : Array Slot) (rest : List Value), W p l e R s m args below meth c H locs cells slots Q (F0 m pc' lc (ab_cv b0 sa v :: rest)) → W p l e R s m args below meth c H locs cells slots Q (F0 m pc lc rest)) (k : ab_K p l e R s m args below meth c Q D I b0 sa L xs nL n0 s0 pc' ls (v :: st) M) : ab_K p l e R s m args below meth c Q D I b0 sa L xs nL n0 s0 pc ls st M := by
  intro H locs lc h
  obtain ⟨h1, h2, h3, h4⟩ := h
  exact row _ _ _ _ _ _ (k H locs lc ⟨h1, List.forall_mem_cons.mpr ⟨hv, h2⟩, h3, h4⟩)
theorem iv_lda {t len n : Nat} {u : ab_St} (hu : ab_lda t len n pc ls st M = some u) : ∃ v, ls.getD n none = some v ∧ ab_kv v = t ∧ u = (pc + len, ls, v :: st, M) := by
  unfold ab_lda at hu
  split at hu
  next v hv =>
    split at hu
    next ht => cases hu; exact ⟨v, hv, ht, rfl⟩
    next => cases hu
  next => cases hu
theorem so_lda {t len n : Nat} {u : ab_St} (hu : ab_lda t len n pc ls st M = some u) (row : ∀ v : ab_V, ab_kv v = t → ∀ (H : Heap) (locs : List Loc) (cells slots : Nat) (lc : Array Slot) (rest : List Value), lc[n]? = some (.val (ab_cv b0 sa v)) → W p l e R s m args below meth c H locs cells slots Q (F0 m (pc + len) lc (ab_cv b0 sa v :: rest)) → W p l e R s m args below meth c H locs cells slots Q (F0 m pc lc rest)) (k : ab_K p l e R s m args below meth c Q D I b0 sa L xs nL n0 s0 u.1 u.2.1 u.2.2.1 u.2.2.2) : ab_K p l e R s m args below meth c Q D I b0 sa L xs nL n0 s0 pc ls st M := by
  obtain ⟨v, hv, ht, rfl⟩ := iv_lda hu
  intro H locs lc h
  obtain ⟨h1, h2, h3, h4, h5, h6⟩ := h
  exact row v ht _ _ _ _ _ _ (ab_loc h3 hv) (k H locs lc ⟨h1, List.forall_mem_cons.mpr ⟨h5 v (List.mem_of_getElem? (ab_getD hv)), h2⟩, h3, h4, h5, h6⟩)
theorem iv_sto {t len n : Nat} {u : ab_St} (hu : ab_sto t len n pc ls st M = some u) : ∃ v r, st = v :: r ∧ ab_kv v = t ∧ n + ab_cat v ≤ ls.length ∧ u = (pc + len, ab_set ls n v, r, M) := by
  unfold ab_sto at hu
  split at hu
  next v r =>
    split at hu
    next ht => cases hu; exact ⟨v, r, rfl, ht.1, ht.2, rfl⟩
    next => cases hu
  next => cases hu
theorem so_sto {t len n : Nat} {u : ab_St} (hu : ab_sto t len n pc ls st M = some u) (row : ∀ v : ab_V, ab_kv v = t → ∀ (H : Heap) (locs : List Loc) (cells slots : Nat) (lc : Array Slot) (rest : List Value), lv_has lc nL (ab_as b0 sa 0 ls) → n + ab_cat v ≤ nL → (∀ lc' : Array Slot, lv_has lc' nL (ab_as b0 sa 0 (ab_set ls n v)) → W p l e R s m args below meth c H locs cells slots Q (F0 m (pc + len) lc' rest)) → W p l e R s m args below meth c H locs cells slots Q (F0 m pc lc (ab_cv b0 sa v :: rest))) (k : ab_K p l e R s m args below meth c Q D I b0 sa L xs nL n0 s0 u.1 u.2.1 u.2.2.1 u.2.2.2) : ab_K p l e R s m args below meth c Q D I b0 sa L xs nL n0 s0 pc ls st M := by
  obtain ⟨v, r, rfl, ht, hn, rfl⟩ := iv_sto hu
  intro H locs lc h
  obtain ⟨h1, h2, h3, h4, h5, h6⟩ := h
  obtain ⟨hv, h2⟩ := List.forall_mem_cons.mp h2
  refine row v ht _ _ _ _ _ _ h3 (h4 ▸ hn) (fun lc' h3' => k H locs lc' ⟨h1, h2, h3', (ab_set_len ls n v).trans h4, fun w hw => ?_, h6⟩)
  rcases ab_set_mem hw with rfl | hw
  · exact hv
  · exact h5 w hw
theorem iv_i2 {f : Int → Int → Option Int} {u : ab_St} (hu : ab_i2 f pc ls st M = some u) : ∃ x y z r, st = .inl y :: .inl x :: r ∧ f x y = some z ∧ u = (pc + 1, ls, .inl z :: r, M) := by
  unfold ab_i2 at hu
  split at hu
  next y x r =>
    split at hu
    next z hz => cases hu; exact ⟨x, y, z, r, rfl, hz, rfl⟩
    next => cases hu
  next => cases hu
theorem so_i2 {f : Int → Int → Option Int} {u : ab_St} (hu : ab_i2 f pc ls st M = some u) (row : ∀ x y z : Int, ab_rg x → ab_rg y → f x y = some z → ab_rg z ∧ ∀ (H : Heap) (locs : List Loc) (cells slots : Nat) (lc : Array Slot) (rest : List Value), W p l e R s m args below meth c H locs cells slots Q (F0 m (pc + 1) lc (.int (Int32.ofInt z) :: rest)) → W p l e R s m args below meth c H locs cells slots Q (F0 m pc lc (.int (Int32.ofInt y) :: .int (Int32.ofInt x) :: rest))) (k : ab_K p l e R s m args below meth c Q D I b0 sa L xs nL n0 s0 u.1 u.2.1 u.2.2.1 u.2.2.2) : ab_K p l e R s m args below meth c Q D I b0 sa L xs nL n0 s0 pc ls st M := by
  obtain ⟨x, y, z, r, rfl, hz, rfl⟩ := iv_i2 hu
  intro H locs lc h
  obtain ⟨h1, h2, h3⟩ := h
  obtain ⟨hy, h2⟩ := List.forall_mem_cons.mp h2
  obtain ⟨hx, h2⟩ := List.forall_mem_cons.mp h2
  obtain ⟨hz', hr⟩ := row x y z hx hy hz
  exact hr _ _ _ _ _ _ (k H locs lc ⟨h1, List.forall_mem_cons.mpr ⟨hz', h2⟩, h3⟩)
theorem iv_l2 {f : Int → Int → Option Int} {u : ab_St} (hu : ab_l2 f pc ls st M = some u) : ∃ x y z r, st = .inr (.inl y) :: .inr (.inl x) :: r ∧ f x y = some z ∧ u = (pc + 1, ls, .inr (.inl z) :: r, M) := by
  unfold ab_l2 at hu
  split at hu
  next y x r =>
    split at hu
    next z hz => cases hu; exact ⟨x, y, z, r, rfl, hz, rfl⟩
    next => cases hu
  next => cases hu
theorem so_l2 {f : Int → Int → Option Int} {u : ab_St} (hu : ab_l2 f pc ls st M = some u) (row : ∀ x y z : Int, ab_rl x → ab_rl y → f x y = some z → ab_rl z ∧ ∀ (H : Heap) (locs : List Loc) (cells slots : Nat) (lc : Array Slot) (rest : List Value), W p l e R s m args below meth c H locs cells slots Q (F0 m (pc + 1) lc (.long (Int64.ofInt z) :: rest)) → W p l e R s m args below meth c H locs cells slots Q (F0 m pc lc (.long (Int64.ofInt y) :: .long (Int64.ofInt x) :: rest))) (k : ab_K p l e R s m args below meth c Q D I b0 sa L xs nL n0 s0 u.1 u.2.1 u.2.2.1 u.2.2.2) : ab_K p l e R s m args below meth c Q D I b0 sa L xs nL n0 s0 pc ls st M := by
  obtain ⟨x, y, z, r, rfl, hz, rfl⟩ := iv_l2 hu
  intro H locs lc h
  obtain ⟨h1, h2, h3⟩ := h
  obtain ⟨hy, h2⟩ := List.forall_mem_cons.mp h2
  obtain ⟨hx, h2⟩ := List.forall_mem_cons.mp h2
  obtain ⟨hz', hr⟩ := row x y z hx hy hz
  exact hr _ _ _ _ _ _ (k H locs lc ⟨h1, List.forall_mem_cons.mpr ⟨hz', h2⟩, h3⟩)
theorem ab_cki {x z : Int} (h : ab_ck x = some z) : ab_rg x ∧ z = x := by
  unfold ab_ck at h
  split at h
  next hr => cases h; exact ⟨hr, rfl⟩
  next => cases h
theorem ab_cli {x z : Int} (h : ab_cl x = some z) : ab_rl x ∧ z = x := by
  unfold ab_cl at h
  split at h
  next hr => cases h; exact ⟨hr, rfl⟩
  next => cases h
theorem ab_divi {x y z : Int} (h : ab_div x y = some z) : y ≠ 0 ∧ ab_rg z ∧ z = x.tdiv y := by
  unfold ab_div at h
  split at h
  next => cases h
  next hy => obtain ⟨h1, rfl⟩ := ab_cki h; exact ⟨hy, h1, rfl⟩
theorem ab_remi {x y z : Int} (h : ab_rem x y = some z) : y ≠ 0 ∧ ab_rg (x.tdiv y) ∧ z = x - x.tdiv y * y := by
  unfold ab_rem at h
  split at h
  next => cases h
  next hy =>
    cases h
    by_cases h0 : y = 0
    · exact absurd (Or.inl h0) hy
    · by_cases h1 : ab_rg (x.tdiv y)
      · exact ⟨h0, h1, rfl⟩
      · exact absurd (Or.inr h1) hy
theorem ab_div32 {x y : Int} (hx : ab_rg x) (hy : ab_rg y) : Int32.ofInt x / Int32.ofInt y = Int32.ofInt (x.tdiv y) := by
  rw [Int32.ofInt_tdiv (by exact hx.1) (by exact hx.2) (by exact hy.1) (by exact hy.2)]
theorem ab_div64 {x y : Int} (hx : ab_rl x) (hy : ab_rl y) : Int64.ofInt x / Int64.ofInt y = Int64.ofInt (x.tdiv y) := by
  rw [Int64.ofInt_tdiv (by exact hx.1) (by exact hx.2) (by exact hy.1) (by exact hy.2)]
theorem ab_rem32 {x y : Int} (hx : ab_rg x) (hy : ab_rg y) (h0 : y ≠ 0) : ab_rg (x - x.tdiv y * y) := by
  have h1 : x - x.tdiv y * y = x.tmod y := by
    have := Int.tmod_add_mul_tdiv x y
    rw [Int.mul_comm] at this
    omega
  rw [h1]
  have h2 := Int.lt_tmod_of_pos
  obtain ⟨a1, a2⟩ := hx
  rcases Int.le_total 0 x with hp | hp
  · have b1 := Int.tmod_nonneg y hp
    have b2 : x.tmod y ≤ x := by
      have := Int.tmod_add_mul_tdiv x y
      have b3 : 0 ≤ y * x.tdiv y := by
        rcases Int.le_total 0 y with hy0 | hy0
        · exact Int.mul_nonneg hy0 (Int.tdiv_nonneg hp hy0)
        · exact Int.mul_nonneg_of_nonpos_of_nonpos hy0 (Int.tdiv_nonpos_of_nonneg_of_nonpos hp hy0)
      omega
    exact ⟨by omega, by omega⟩
  · have b1 : x.tmod y ≤ 0 := by
      have := Int.tmod_nonneg y (show 0 ≤ -x by omega)
      rw [Int.neg_tmod] at this
      omega
    have b2 : x ≤ x.tmod y := by
      have := Int.tmod_add_mul_tdiv x y
      have b3 : 0 ≤ y * (-x).tdiv y := by
        rcases Int.le_total 0 y with hy0 | hy0
        · exact Int.mul_nonneg hy0 (Int.tdiv_nonneg (by omega) hy0)
        · exact Int.mul_nonneg_of_nonpos_of_nonpos hy0 (Int.tdiv_nonpos_of_nonneg_of_nonpos (by omega) hy0)
      rw [Int.neg_tdiv, Int.mul_neg] at b3
      omega
    exact ⟨by omega, by omega⟩
end SO1
end
section
section SO2
variable {p : Program} {l : Launch} {e : Env} {R : Room} {s : State} {m : MethodId} {args : Array Value} {below : List Frame} {meth : Method} {c : Code} {Q : State → Prop} {D : va_G} {I : ab_I4} {b0 : Nat} {sa : Nat → Nat} {L : Nat} {xs : Nat → Int32} {nL n0 s0 : Nat} {cc : ByteArray} {own : String} {pc : Nat} {ls : ab_L} {st : List ab_V} {M : ab_M}
theorem iv_br1 {c : Jvm.ClassFile.Cond} {k : Nat} {u : ab_St} (hu : ab_br1 c k pc ls st M = some u) : ∃ x r, st = .inl x :: r ∧ u = (if ab_cmp c x 0 = true then k else pc + 3, ls, r, M) := by
  unfold ab_br1 at hu
  split at hu
  next x r => cases hu; exact ⟨x, r, rfl, rfl⟩
  next => cases hu
theorem iv_br2 {c : Jvm.ClassFile.Cond} {k : Nat} {u : ab_St} (hu : ab_br2 c k pc ls st M = some u) : ∃ x y r, st = .inl y :: .inl x :: r ∧ u = (if ab_cmp c x y = true then k else pc + 3, ls, r, M) := by
  unfold ab_br2 at hu
  split at hu
  next y x r => cases hu; exact ⟨x, y, r, rfl, rfl⟩
  next => cases hu
theorem so_br1 {c' : Jvm.ClassFile.Cond} {off : Int} {k : Nat} {u : ab_St} (hx : p.tables.exec = Jvm.exec) (hb : c.code = cc) (hd : decode cc pc = .ok (.ifCond c' off, 3)) (ht : (pc : Int) + off = (k : Int)) (hu : ab_br1 c' k pc ls st M = some u) (kk : ab_K p l e R s m args below meth c Q D I b0 sa L xs nL n0 s0 u.1 u.2.1 u.2.2.1 u.2.2.2) : ab_K p l e R s m args below meth c Q D I b0 sa L xs nL n0 s0 pc ls st M := by
  obtain ⟨x, r, rfl, rfl⟩ := iv_br1 hu
  intro H locs lc h
  obtain ⟨h1, h2, h3⟩ := h
  obtain ⟨hvx, h2⟩ := List.forall_mem_cons.mp h2
  have hvx : ab_rg x := hvx
  have e0 : ∀ z : Int, ab_rg z → (Int32.ofInt z = 0 ↔ z = 0) := fun z hz => ab_eq32 hz ab_rg0
  have e1 : ∀ z : Int, ab_rg z → (Int32.ofInt z < 0 ↔ z < 0) := fun z hz => ab_lt32 hz ab_rg0
  have e2 : ∀ z : Int, ab_rg z → (0 ≤ Int32.ofInt z ↔ 0 ≤ z) := fun z hz => ab_le32 ab_rg0 hz
  have e3 : ∀ z : Int, ab_rg z → (0 < Int32.ofInt z ↔ 0 < z) := fun z hz => ab_lt32 ab_rg0 hz
  have e4 : ∀ z : Int, ab_rg z → (Int32.ofInt z ≤ 0 ↔ z ≤ 0) := fun z hz => ab_le32 hz ab_rg0
  have go : ∀ b : Bool, ab_cmp c' x 0 = b → W p l e R s m args below meth c H locs (ab_nc M - n0) ((M 999 1).toNat - s0) Q (F0 m (if b = true then k else pc + 3) lc (r.map (ab_cv b0 sa))) := by
    intro b hbq
    have := kk H locs lc ⟨h1, h2, h3⟩
    dsimp only at this
    rw [hbq] at this
    exact this
  cases c' with
  | eq => exact lv_if_eq hx hb hd ht (fun q => go true (by simp [ab_cmp, (e0 x hvx).mp q])) (fun q => go false (by simp [ab_cmp]; exact fun z => q ((e0 x hvx).mpr z)))
  | ne => exact lv_if_ne hx hb hd ht (fun q => go true (by simp [ab_cmp]; exact fun z => q ((e0 x hvx).mpr z))) (fun q => go false (by simp [ab_cmp]; exact (e0 x hvx).mp q))
  | lt => exact lv_if_lt hx hb hd ht (fun q => go true (by simp [ab_cmp]; exact (e1 x hvx).mp q)) (fun q => go false (by simp [ab_cmp]; exact Int.not_lt.mp fun z => q ((e1 x hvx).mpr z)))
  | ge => exact lv_if_ge hx hb hd ht (fun q => go true (by simp [ab_cmp]; exact (e2 x hvx).mp q)) (fun q => go false (by simp [ab_cmp]; exact Int.not_le.mp fun z => q ((e2 x hvx).mpr z)))
  | gt => exact lv_if_gt hx hb hd ht (fun q => go true (by simp [ab_cmp]; exact (e3 x hvx).mp q)) (fun q => go false (by simp [ab_cmp]; exact Int.not_lt.mp fun z => q ((e3 x hvx).mpr z)))
  | le => exact lv_if_le hx hb hd ht (fun q => go true (by simp [ab_cmp]; exact (e4 x hvx).mp q)) (fun q => go false (by simp [ab_cmp]; exact Int.not_le.mp fun z => q ((e4 x hvx).mpr z)))
theorem so_br2 {c' : Jvm.ClassFile.Cond} {off : Int} {k : Nat} {u : ab_St} (hx : p.tables.exec = Jvm.exec) (hb : c.code = cc) (hd : decode cc pc = .ok (.if_icmp c' off, 3)) (ht : (pc : Int) + off = (k : Int)) (hu : ab_br2 c' k pc ls st M = some u) (kk : ab_K p l e R s m args below meth c Q D I b0 sa L xs nL n0 s0 u.1 u.2.1 u.2.2.1 u.2.2.2) : ab_K p l e R s m args below meth c Q D I b0 sa L xs nL n0 s0 pc ls st M := by
  obtain ⟨x, y, r, rfl, rfl⟩ := iv_br2 hu
  intro H locs lc h
  obtain ⟨h1, h2, h3⟩ := h
  obtain ⟨hvy, h2⟩ := List.forall_mem_cons.mp h2
  obtain ⟨hvx, h2⟩ := List.forall_mem_cons.mp h2
  have hvx : ab_rg x := hvx
  have hvy : ab_rg y := hvy
  have e0 := ab_eq32 hvx hvy
  have e1 := ab_lt32 hvx hvy
  have e2 := ab_le32 hvy hvx
  have e3 := ab_lt32 hvy hvx
  have e4 := ab_le32 hvx hvy
  have go : ∀ b : Bool, ab_cmp c' x y = b → W p l e R s m args below meth c H locs (ab_nc M - n0) ((M 999 1).toNat - s0) Q (F0 m (if b = true then k else pc + 3) lc (r.map (ab_cv b0 sa))) := by
    intro b hbq
    have := kk H locs lc ⟨h1, h2, h3⟩
    dsimp only at this
    rw [hbq] at this
    exact this
  cases c' with
  | eq => exact lv_icmp_eq hx hb hd ht (fun q => go true (by simp [ab_cmp]; exact e0.mp q)) (fun q => go false (by simp [ab_cmp]; exact fun z => q (e0.mpr z)))
  | ne => exact lv_icmp_ne hx hb hd ht (fun q => go true (by simp [ab_cmp]; exact fun z => q (e0.mpr z))) (fun q => go false (by simp [ab_cmp]; exact e0.mp q))
  | lt => exact lv_icmp_lt hx hb hd ht (fun q => go true (by simp [ab_cmp]; exact e1.mp q)) (fun q => go false (by simp [ab_cmp]; exact Int.not_lt.mp fun z => q (e1.mpr z)))
  | ge => exact lv_icmp_ge hx hb hd ht (fun q => go true (by simp [ab_cmp]; exact e2.mp q)) (fun q => go false (by simp [ab_cmp]; exact Int.not_le.mp fun z => q (e2.mpr z)))
  | gt => exact lv_icmp_gt hx hb hd ht (fun q => go true (by simp [ab_cmp]; exact e3.mp q)) (fun q => go false (by simp [ab_cmp]; exact Int.not_lt.mp fun z => q (e3.mpr z)))
  | le => exact lv_icmp_le hx hb hd ht (fun q => go true (by simp [ab_cmp]; exact e4.mp q)) (fun q => go false (by simp [ab_cmp]; exact Int.not_le.mp fun z => q (e4.mpr z)))
theorem so_sw {d lo hi : Int} {offs : Array Int} {len k : Nat} {u : ab_St} (hx : p.tables.exec = Jvm.exec) (hb : c.code = cc) (hd : decode cc pc = .ok (.tableswitch d lo hi offs, len)) (ht : (pc : Int) + d = (k : Int)) (hu : ab_sw pc k lo hi offs ls st M = some u) (kk : ab_K p l e R s m args below meth c Q D I b0 sa L xs nL n0 s0 u.1 u.2.1 u.2.2.1 u.2.2.2) : ab_K p l e R s m args below meth c Q D I b0 sa L xs nL n0 s0 pc ls st M := by
  unfold ab_sw at hu
  split at hu
  next x r =>
    intro H locs lc h
    obtain ⟨h1, h2, h3⟩ := h
    obtain ⟨hvx, h2⟩ := List.forall_mem_cons.mp h2
    have hvx : ab_rg x := hvx
    split at hu
    next hc =>
      cases hu
      refine lv_tableOut hx hb hd ?_ ht (kk H locs lc ⟨h1, h2, h3⟩)
      rw [ab_i32 hvx]
      exact hc
    next hc =>
      split at hu
      next off ho =>
        split at hu
        next hp =>
          cases hu
          refine lv_tableIn hx hb hd ?_ ?_ (off := off) ?_ ?_ (kk H locs lc ⟨h1, h2, h3⟩)
          · rw [ab_i32 hvx]; exact fun z => hc (Or.inl z)
          · rw [ab_i32 hvx]; exact fun z => hc (Or.inr z)
          · rw [ab_i32 hvx]; exact ho
          · exact (Int.toNat_of_nonneg hp).symm
        next => cases hu
      next => cases hu
  next => cases hu
theorem so_lsw {d : Int} {ps : Array (Int × Int)} {len : Nat} {u : ab_St} (hx : p.tables.exec = Jvm.exec) (hb : c.code = cc) (hd : decode cc pc = .ok (.lookupswitch d ps, len)) (hp : (ps.toList.zip (ps.toList.drop 1)).all (fun (a, next) => a.1 < next.1) = true) (hu : ab_lsw pc d ps ls st M = some u) (kk : ab_K p l e R s m args below meth c Q D I b0 sa L xs nL n0 s0 u.1 u.2.1 u.2.2.1 u.2.2.2) : ab_K p l e R s m args below meth c Q D I b0 sa L xs nL n0 s0 pc ls st M := by
  unfold ab_lsw at hu
  split at hu
  next x r =>
    intro H locs lc h
    obtain ⟨h1, h2, h3⟩ := h
    obtain ⟨hvx, h2⟩ := List.forall_mem_cons.mp h2
    have hvx : ab_rg x := hvx
    split at hu
    next hq =>
      cases hu
      refine lv_lookup hx hb hd hp (off := Op.lookupswitch.offset ps.toList d x) ?_ ?_ (kk H locs lc ⟨h1, h2, h3⟩)
      · rw [ab_i32 hvx]
      · exact (Int.toNat_of_nonneg hq).symm
    next => cases hu
  next => cases hu
theorem so_iinc {n : Nat} {z : Int} {u : ab_St} (hx : p.tables.exec = Jvm.exec) (hb : c.code = cc) (hd : decode cc pc = .ok (.iinc n z, 3)) (hu : ab_iinc n z pc ls st M = some u) (kk : ab_K p l e R s m args below meth c Q D I b0 sa L xs nL n0 s0 u.1 u.2.1 u.2.2.1 u.2.2.2) : ab_K p l e R s m args below meth c Q D I b0 sa L xs nL n0 s0 pc ls st M := by
  unfold ab_iinc at hu
  split at hu
  next x hg =>
    split at hu
    next hr =>
      cases hu
      intro H locs lc h
      obtain ⟨h1, h2, h3, h4, h5, h6⟩ := h
      have hgx := ab_getD hg
      have hlt : n < ls.length := (List.getElem?_eq_some_iff.mp hgx).1
      obtain ⟨j, hj⟩ := List.getElem?_of_mem ((ab_as_mem b0 sa ls 0 (n, ab_cv b0 sa (.inl x))).mpr ⟨n, .inl x, hgx, by rw [Nat.zero_add]⟩)
      refine lv_iinc (x := Int32.ofInt x) (v := Int32.ofInt (x + z)) hx hb hd h3 hj (by rw [Int32.ofInt_add]) (by omega) rfl (fun lc' h3' => kk H locs lc' ⟨h1, h2, ?_, by simpa using h4, ?_, h6⟩)
      · refine ab_lvm h3' (fun q hq => ?_)
        obtain ⟨i, w, hi, rfl⟩ := (ab_as_mem b0 sa _ 0 q).mp hq
        by_cases hin : i = n
        · subst hin
          rw [List.getElem?_set_self hlt] at hi
          cases hi
          simp only [Nat.zero_add]
          exact List.mem_cons_self
        · rw [List.getElem?_set_ne (by omega)] at hi
          refine List.mem_cons_of_mem _ (List.mem_filter.mpr ⟨(ab_as_mem b0 sa ls 0 _).mpr ⟨i, w, hi, rfl⟩, ?_⟩)
          simp only [Nat.zero_add]
          have h6' : (i == n) = false := by simpa using hin
          simp only [h6', Bool.not_false, Bool.true_and, Bool.not_eq_true', Bool.and_eq_false_iff]
          by_cases hj1 : i + 1 = n
          · right
            rcases w with w | w | w
            · rfl
            · exfalso
              have q1 := h3.2.2 (i, ab_cv b0 sa (.inr (.inl w))) ((ab_as_mem b0 sa ls 0 (i, ab_cv b0 sa (.inr (.inl w)))).mpr ⟨i, _, hi, by rw [Nat.zero_add]⟩)
              have q2 := h3.2.1.1 i _ q1 rfl
              have q3 := h3.2.2 (n, ab_cv b0 sa (.inl x)) ((ab_as_mem b0 sa ls 0 (n, ab_cv b0 sa (.inl x))).mpr ⟨n, _, hgx, by rw [Nat.zero_add]⟩)
              dsimp only at q2 q3
              rw [hj1, q3] at q2
              cases q2
            · rfl
          · left
            simpa using hj1
      · intro v hv
        obtain ⟨i, hi⟩ := List.getElem?_of_mem hv
        by_cases hin : i = n
        · subst hin
          rw [List.getElem?_set_self hlt] at hi
          cases hi
          exact hr
        · rw [List.getElem?_set_ne (by omega)] at hi
          exact h5 v (List.mem_of_getElem? hi)
    next => cases hu
  next => cases hu
theorem ab_i2c {x : Int} (h0 : 0 ≤ x) (h1 : x < 65536) : ((Int32.ofInt x).toUInt32 % 65536).toInt32 = Int32.ofInt x := by
  obtain ⟨n, rfl⟩ := Int.eq_ofNat_of_zero_le h0
  have e : Int32.ofInt (n : Int) = nI n := Int32.ofInt_eq_ofNat
  rw [e, pk_char, pk_tn (by omega), Nat.mod_eq_of_lt (by omega)]
theorem ab_i2b {x : Int} (h0 : -128 ≤ x) (h1 : x < 128) : (Int32.ofInt x).toInt8.toInt32 = Int32.ofInt x := by
  apply Int32.toInt_inj.mp
  rw [Int8.toInt_toInt32, Int32.toInt_toInt8, ab_i32 ⟨by omega, by omega⟩]
  exact Int.bmod_eq_of_le (by omega) (by omega)
theorem so_cnv {i : Instr} {t : Nat} {u : ab_St} (hx : p.tables.exec = Jvm.exec) (hb : c.code = cc) (hd : decode cc pc = .ok (i, 1)) (hi : (t = 0 ∧ i = .i2l) ∨ (t = 1 ∧ i = .l2i) ∨ (t = 2 ∧ i = .i2c) ∨ (t = 3 ∧ i = .i2b)) (hu : ab_cnv t pc ls st M = some u) (kk : ab_K p l e R s m args below meth c Q D I b0 sa L xs nL n0 s0 u.1 u.2.1 u.2.2.1 u.2.2.2) : ab_K p l e R s m args below meth c Q D I b0 sa L xs nL n0 s0 pc ls st M := by
  unfold ab_cnv at hu
  split at hu
  next x r =>
    intro H locs lc h
    obtain ⟨h1, h2, h3⟩ := h
    obtain ⟨hvx, h2⟩ := List.forall_mem_cons.mp h2
    have hvx : ab_rg x := hvx
    rcases hi with ⟨rfl, rfl⟩ | ⟨rfl, rfl⟩ | ⟨rfl, rfl⟩ | ⟨rfl, rfl⟩
    · simp at hu
      subst hu
      refine lv_i2l hx hb hd ?_ (kk H locs lc ⟨h1, List.forall_mem_cons.mpr ⟨?_, h2⟩, h3⟩)
      · exact Int32.toInt64_ofInt (by exact hvx.1) (by exact hvx.2)
      · exact ⟨by have := hvx.1; omega, by have := hvx.2; omega⟩
    · simp at hu
    · simp at hu
      obtain ⟨hc, rfl⟩ := hu
      exact lv_i2c hx hb hd (ab_i2c hc.1 hc.2) (kk H locs lc ⟨h1, List.forall_mem_cons.mpr ⟨hvx, h2⟩, h3⟩)
    · simp at hu
      obtain ⟨hc, rfl⟩ := hu
      exact lv_i2b hx hb hd (ab_i2b hc.1 hc.2) (kk H locs lc ⟨h1, List.forall_mem_cons.mpr ⟨hvx, h2⟩, h3⟩)
  next x r =>
    split at hu
    next hc =>
      cases hu
      intro H locs lc h
      obtain ⟨h1, h2, h3⟩ := h
      obtain ⟨hvx, h2⟩ := List.forall_mem_cons.mp h2
      rcases hi with ⟨rfl, rfl⟩ | ⟨rfl, rfl⟩ | ⟨rfl, rfl⟩ | ⟨rfl, rfl⟩
      · exact absurd hc.1 (by decide)
      · exact lv_l2i hx hb hd Int64.toInt32_ofInt (kk H locs lc ⟨h1, List.forall_mem_cons.mpr ⟨hc.2, h2⟩, h3⟩)
      · exact absurd hc.1 (by decide)
      · exact absurd hc.1 (by decide)
    next => cases hu
  next => cases hu
theorem so_dup {u : ab_St} (hx : p.tables.exec = Jvm.exec) (hb : c.code = cc) (hd : decode cc pc = .ok (.dup, 1)) (hu : ab_dup pc ls st M = some u) (kk : ab_K p l e R s m args below meth c Q D I b0 sa L xs nL n0 s0 u.1 u.2.1 u.2.2.1 u.2.2.2) : ab_K p l e R s m args below meth c Q D I b0 sa L xs nL n0 s0 pc ls st M := by
  unfold ab_dup at hu
  split at hu
  next v r =>
    split at hu
    next hc =>
      cases hu
      intro H locs lc h
      obtain ⟨h1, h2, h3⟩ := h
      obtain ⟨hv, h2⟩ := List.forall_mem_cons.mp h2
      exact lv_dup hx hb hd ((ab_cat_cv b0 sa v).trans hc) (kk H locs lc ⟨h1, List.forall_mem_cons.mpr ⟨hv, List.forall_mem_cons.mpr ⟨hv, h2⟩⟩, h3⟩)
    next => cases hu
  next => cases hu
theorem so_pop {u : ab_St} (hx : p.tables.exec = Jvm.exec) (hb : c.code = cc) (hd : decode cc pc = .ok (.pop, 1)) (hu : ab_pop pc ls st M = some u) (kk : ab_K p l e R s m args below meth c Q D I b0 sa L xs nL n0 s0 u.1 u.2.1 u.2.2.1 u.2.2.2) : ab_K p l e R s m args below meth c Q D I b0 sa L xs nL n0 s0 pc ls st M := by
  unfold ab_pop at hu
  split at hu
  next v r =>
    split at hu
    next hc =>
      cases hu
      intro H locs lc h
      obtain ⟨h1, h2, h3⟩ := h
      obtain ⟨hv, h2⟩ := List.forall_mem_cons.mp h2
      exact lv_pop hx hb hd ((ab_cat_cv b0 sa v).trans hc) (kk H locs lc ⟨h1, h2, h3⟩)
    next => cases hu
  next => cases hu
theorem so_dup2 {u : ab_St} (hx : p.tables.exec = Jvm.exec) (hb : c.code = cc) (hd : decode cc pc = .ok (.dup2, 1)) (hu : ab_dup2 pc ls st M = some u) (kk : ab_K p l e R s m args below meth c Q D I b0 sa L xs nL n0 s0 u.1 u.2.1 u.2.2.1 u.2.2.2) : ab_K p l e R s m args below meth c Q D I b0 sa L xs nL n0 s0 pc ls st M := by
  unfold ab_dup2 at hu
  split at hu
  next v w r =>
    split at hu
    next hc =>
      cases hu
      intro H locs lc h
      obtain ⟨h1, h2, h3⟩ := h
      obtain ⟨hv, h2⟩ := List.forall_mem_cons.mp h2
      obtain ⟨hw, h2⟩ := List.forall_mem_cons.mp h2
      exact lv_dup2_11 hx hb hd ((ab_cat_cv b0 sa v).trans hc.1) ((ab_cat_cv b0 sa w).trans hc.2) (kk H locs lc ⟨h1, List.forall_mem_cons.mpr ⟨hv, List.forall_mem_cons.mpr ⟨hw, List.forall_mem_cons.mpr ⟨hv, List.forall_mem_cons.mpr ⟨hw, h2⟩⟩⟩⟩, h3⟩)
    next => cases hu
  next => cases hu
theorem so_lcmp {u : ab_St} (hx : p.tables.exec = Jvm.exec) (hb : c.code = cc) (hd : decode cc pc = .ok (.lcmp, 1)) (hu : ab_lcmp pc ls st M = some u) (kk : ab_K p l e R s m args below meth c Q D I b0 sa L xs nL n0 s0 u.1 u.2.1 u.2.2.1 u.2.2.2) : ab_K p l e R s m args below meth c Q D I b0 sa L xs nL n0 s0 pc ls st M := by
  unfold ab_lcmp at hu
  split at hu
  next y x r =>
    cases hu
    intro H locs lc h
    obtain ⟨h1, h2, h3⟩ := h
    obtain ⟨hy, h2⟩ := List.forall_mem_cons.mp h2
    obtain ⟨hvx, h2⟩ := List.forall_mem_cons.mp h2
    have hy : ab_rl y := hy
    have hvx : ab_rl x := hvx
    have := kk H locs lc ⟨h1, List.forall_mem_cons.mpr ⟨(show ab_rg (if x < y then -1 else if x = y then 0 else 1) by split; decide; split <;> decide), h2⟩, h3⟩
    have hz : Int32.ofInt (if x < y then -1 else if x = y then 0 else 1) = lg_cmp (Int64.ofInt x) (Int64.ofInt y) := by
      unfold lg_cmp
      simp only [gt_iff_lt, Int64.lt_iff_toInt_lt, ← Int64.toInt_inj, ab_i64 hvx, ab_i64 hy]
      by_cases a1 : x < y
      · rw [if_pos a1, if_neg (by omega), if_neg (by omega)]; rfl
      · rw [if_neg a1]
        by_cases a2 : x = y
        · rw [if_pos a2, if_neg (by omega), if_pos a2]; rfl
        · rw [if_neg a2, if_pos (by omega)]; rfl
    refine W.lcmp hx hb hd ?_
    rw [← hz]
    exact this
  next => cases hu
end SO2
end
section
section SO3
variable {p : Program} {l : Launch} {e : Env} {R : Room} {s : State} {m : MethodId} {args : Array Value} {below : List Frame} {meth : Method} {c : Code} {Q : State → Prop} {D : va_G} {I : ab_I4} {b0 : Nat} {sa : Nat → Nat} {L : Nat} {xs : Nat → Int32} {nL n0 s0 : Nat} {cc : ByteArray} {own : String} {pc : Nat} {ls : ab_L} {st : List ab_V} {M : ab_M}
theorem ab_ws_get {n k : Nat} (h : k < n) : (ab_ws I b0 n M)[k]? = some (b0 + k, ab_ce I b0 M k) := by
  unfold ab_ws
  rw [List.getElem?_map, List.getElem?_range h]
  rfl
theorem ab_ws_len {n : Nat} : (ab_ws I b0 n M).length = n := by simp [ab_ws]
theorem ab_ws_at {n k : Nat} {q : Nat × va_E} (h : (ab_ws I b0 n M)[k]? = some q) : k < n ∧ q = (b0 + k, ab_ce I b0 M k) := by
  have hk : k < n := by
    have := (List.getElem?_eq_some_iff.mp h).1
    rwa [ab_ws_len] at this
  rw [ab_ws_get hk] at h
  exact ⟨hk, (Option.some.inj h).symm⟩
theorem ab_D {n : Nat} : va_D (ab_A b0) (ab_ws I b0 n M) := by
  refine ⟨fun i j q r hi hj he => ?_, fun k q hk => ?_⟩
  · obtain ⟨-, rfl⟩ := ab_ws_at hi
    obtain ⟨-, rfl⟩ := ab_ws_at hj
    dsimp only at he
    omega
  · obtain ⟨-, rfl⟩ := ab_ws_at hk
    exact Nat.le_add_right _ _
theorem ab_ce_eq {M' : ab_M} {k : Nat} (h : M' k = M k) : ab_ce I b0 M' k = ab_ce I b0 M k := by
  unfold ab_ce ab_fs ab_gr ab_is
  rw [h]
theorem ab_ws_set {M' : ab_M} {n k : Nat} (hk : k < n) (h : ∀ j, j ≠ k → M' j = M j) : (ab_ws I b0 n M).set k (b0 + k, ab_ce I b0 M' k) = ab_ws I b0 n M' := by
  apply List.ext_getElem?
  intro i
  by_cases hi : i = k
  · subst hi
    rw [List.getElem?_set_self (by rw [ab_ws_len]; exact hk), ab_ws_get hk]
  · rw [List.getElem?_set_ne (Ne.symm hi)]
    by_cases hin : i < n
    · rw [ab_ws_get hin, ab_ws_get hin, ab_ce_eq (h i hi)]
    · rw [List.getElem?_eq_none (by rw [ab_ws_len]; omega), List.getElem?_eq_none (by rw [ab_ws_len]; omega)]
theorem ab_w_ne {k f j : Nat} {v : Int} (h : j ≠ k) : ab_w M k f v j = M j := by
  funext b
  unfold ab_w
  rw [if_neg (fun q => h q.1)]
theorem ab_w_nc {k f : Nat} {v : Int} (h : k ≠ 999) : ab_nc (ab_w M k f v) = ab_nc M := by
  unfold ab_nc
  rw [ab_w_ne (Ne.symm h)]
theorem ab_mok_w {k f : Nat} {v : Int} (h : ab_mok L xs M) (hk : k < ab_nc M) (hv : ab_rg v) : ab_mok L xs (ab_w M k f v) := by
  obtain ⟨h1, h2, h3, h4, h5, h6, h7⟩ := h
  have hn : ab_nc M ≤ 995 := by unfold ab_nc; omega
  refine ⟨fun a b ha => ?_, by rw [ab_w_ne (by omega)]; exact h2, by rw [ab_w_ne (by omega)]; exact h3, by rw [ab_w_ne (by omega)]; exact h4, by rw [ab_w_ne (by omega)]; exact h5, h6, fun j hj => by rw [ab_w_ne (by omega)]; exact h7 j hj⟩
  unfold ab_w
  split
  · exact hv
  · exact h1 a b ha
theorem ab_fs_len {k : Nat} : (ab_fs b0 M k).length = (ab_kd k).2 := by simp [ab_fs]
theorem ab_fs_get {k f : Nat} (h : f < (ab_kd k).2) : (ab_fs b0 M k)[f]? = some (ab_fv b0 (ab_fty (ab_kd k).1 f) (M k f)) := by
  unfold ab_fs
  rw [List.getElem?_map, List.getElem?_range h]
  rfl
theorem ab_fs_set {k f : Nat} {v : Int} (h : f < (ab_kd k).2) : (ab_fs b0 M k).set f (ab_fv b0 (ab_fty (ab_kd k).1 f) v) = ab_fs b0 (ab_w M k f v) k := by
  apply List.ext_getElem?
  intro i
  by_cases hi : i = f
  · subst hi
    rw [List.getElem?_set_self (by rw [ab_fs_len]; exact h), ab_fs_get h]
    unfold ab_w
    rw [if_pos ⟨rfl, rfl⟩]
  · rw [List.getElem?_set_ne (Ne.symm hi)]
    by_cases hin : i < (ab_kd k).2
    · rw [ab_fs_get hin, ab_fs_get hin]
      unfold ab_w
      rw [if_neg (fun q => hi q.2)]
    · rw [List.getElem?_eq_none (by rw [ab_fs_len]; omega), List.getElem?_eq_none (by rw [ab_fs_len]; omega)]
theorem ab_ce_obj {k : Nat} (h : (ab_kd k).1 < 11) : ab_ce I b0 M k = .inr ((ab_kd k).1, ab_fs b0 M k) := by
  unfold ab_ce
  rw [if_neg (by omega), if_neg (by omega), if_neg (by omega), if_neg (by omega)]
theorem ab_kdN {k : Nat} (h : (ab_kd k).1 < 11) : ∃ r : vw_C, vwCl[(ab_kd k).1]? = some r ∧ r.2.2 = (ab_kd k).2 := by
  by_cases hk : k < 132
  · have h1 := List.all_eq_true.mp ab_kd0 k (List.mem_range.mpr hk)
    simp only [Bool.or_eq_true, decide_eq_true_eq] at h1
    rcases h1 with h1 | h1
    · omega
    · split at h1
      next r hr => exact ⟨r, hr, of_decide_eq_true h1⟩
      next => cases h1
  · have : ab_kd k = (99, 0) := by
      unfold ab_kd
      rw [List.getD_eq_getElem?_getD, List.getElem?_eq_none (by show ab_kds.length ≤ k; have : ab_kds.length = 132 := by decide +kernel
                                                                omega)]
      rfl
    rw [this] at h
    exact absurd h (by decide)
theorem ab_clty {t f : Nat} {r : vw_C} (ht : vwCl[t]? = some r) (hf : f < r.2.2) : parseFieldDescriptor (r.2.1 f).2.2.1 = some (ab_ty t f) ∧ ab_tyc (ab_fty t f) (ab_ty t f) = true := by
  have hl : t < 11 := (List.getElem?_eq_some_iff.mp ht).1
  have h1 := List.all_eq_true.mp ab_clty0 t (List.mem_range.mpr hl)
  rw [ht] at h1
  have h2 := List.all_eq_true.mp h1 f (List.mem_range.mpr hf)
  simp only [Bool.and_eq_true, decide_eq_true_eq] at h2
  exact h2
theorem ab_fl {q : ab_FL} {t : Nat} (hq : q ∈ ab_flt) (ht : ab_tg q.2.2.1 t) (hl : t < 11) : ∃ r : vw_C, vwCl[t]? = some r ∧ q.2.2.2.1 < r.2.2 ∧ Cond.fieldLink (ab_ows.getD q.1 "") q.2.1 (ab_ows.getD q.2.2.2.2.1 "") (r.2.1 q.2.2.2.1).2.1 (r.2.1 q.2.2.2.1).2.2.1 ∈ ab_tb ∧ (ab_ows.getD q.2.2.2.2.1 "" = (r.2.1 q.2.2.2.1).1 ∨ Cond.sameField (ab_ows.getD q.2.2.2.2.1 "") (r.2.1 q.2.2.2.1).1 (r.2.1 q.2.2.2.1).2.1 (r.2.1 q.2.2.2.1).2.2.1 ∈ ab_tb) := by
  have h0 := List.all_eq_true.mp ab_flt0 q hq
  have h1 := List.all_eq_true.mp h0 t (List.mem_range.mpr hl)
  simp only [Bool.or_eq_true, Bool.not_eq_true', decide_eq_false_iff_not] at h1
  rcases h1 with h1 | h1
  · exact absurd ht h1
  · split at h1
    next r hr =>
      simp only [Bool.and_eq_true, Bool.or_eq_true, decide_eq_true_eq] at h1
      obtain ⟨⟨h2, h3⟩, h4⟩ := h1
      refine ⟨r, hr, h2, ab_ix_mem h3, ?_⟩
      rcases h4 with h4 | h4
      · exact Or.inl h4
      · obtain ⟨z, hz, hz2⟩ := List.any_eq_true.mp h4
        have hz3 := of_decide_eq_true hz2
        have hz4 := ab_ix_mem (List.all_eq_true.mp ab_sfl0 z hz)
        rw [hz3] at hz4
        exact Or.inr hz4
    next => cases h1
theorem ab_hsame {ref O nm ds : String} (hts : ∀ w ∈ ab_tb, w.before args s = true) (h : ref = O ∨ Cond.sameField ref O nm ds ∈ ab_tb) : ∀ x, s.fieldFound? O nm ds = some x → s.fieldFound? ref nm ds = some x := by
  intro x hx
  rcases h with rfl | h
  · exact hx
  · exact u_same (hts _ h) x hx
theorem so_get {idx f : Nat} {x : Int} {u : ab_St} (C : ab_cx p s m args c D I b0 sa L xs nL n0 cc own) (hd : decode cc pc = .ok (.getfield idx, 3)) (hq : x ≠ 30 → ∃ q : ab_FL, q ∈ ab_flt ∧ own = ab_ows.getD q.1 "" ∧ q.2.1 = idx ∧ q.2.2.1 = x ∧ q.2.2.2.1 = f) (hstr : x = 30 → own = "java/lang/String" ∧ ((f = 0 ∧ idx = 9) ∨ (f ≠ 0 ∧ idx = 15))) (hu : ab_get f x pc ls st M = some u) (kk : ab_K p l e R s m args below meth c Q D I b0 sa L xs nL n0 s0 u.1 u.2.1 u.2.2.1 u.2.2.2) : ab_K p l e R s m args below meth c Q D I b0 sa L xs nL n0 s0 pc ls st M := by
  obtain ⟨hx, hb, hml, hown, hts, hK, hG, hsz⟩ := C
  unfold ab_get at hu
  split at hu
  next k r =>
    split at hu
    next h30 =>
      obtain ⟨ho, hfi⟩ := hstr h30
      have hl1 : Cond.fieldLink "java/lang/String" 9 "java/lang/String" "value" "[B" ∈ ab_tb := ab_ix_mem (i := 1438) (by decide +kernel)
      have hl2 : Cond.fieldLink "java/lang/String" 15 "java/lang/String" "coder" "B" ∈ ab_tb := ab_ix_mem (i := 1437) (by decide +kernel)
      split at hu
      next hk =>
        have hvk := (hG.2.2.2.1.2.1 0 (by decide))
        intro H locs lc h
        obtain ⟨h1, h2, h3, h4, h5, hP, hS, h8⟩ := h
        have had : ab_cv b0 sa (.inr (.inr k)) = .ref (sa 1004) := by rw [hk]; rfl
        obtain ⟨-, h2⟩ := List.forall_mem_cons.mp h2
        rw [List.map_cons, had]
        subst ho
        split at hu
        next hf =>
          cases hu
          obtain ⟨-, rfl⟩ | ⟨hn, -⟩ := hfi
          · exact vk_getf hx hb hvk.2.2.1 hS hown (hts _ hl1) (fun _ h => h) hd (kk H locs lc ⟨h1, List.forall_mem_cons.mpr ⟨trivial, h2⟩, h3, h4, h5, hP, hS, h8⟩)
          · exact absurd hf hn
        next hf =>
          cases hu
          obtain ⟨hn, -⟩ | ⟨-, rfl⟩ := hfi
          · exact absurd hn hf
          · exact vk_getf hx hb hvk.2.1 hS hown (hts _ hl2) (fun _ h => h) hd (kk H locs lc ⟨h1, List.forall_mem_cons.mpr ⟨ab_rg0, h2⟩, h3, h4, h5, hP, hS, h8⟩)
      next => cases hu
    next h30 =>
      split at hu
      next hob =>
        obtain ⟨hk, ht, htg, hf⟩ := hob
        obtain ⟨q, hqm, ho, hq1, hq2, hq3⟩ := hq h30
        subst hq1; subst hq2; subst hq3
        obtain ⟨rr, hr, hfr, hlk, hsm⟩ := ab_fl hqm htg ht
        have row : ∀ (H : Heap) (locs : List Loc) (cells slots : Nat) (lc : Array Slot) (rest : List Value), va_P D vwCl (ab_ws I b0 (ab_nc M) M) H → ab_nc M ≤ 995 → W p l e R s m args below meth c H locs cells slots Q (F0 m (pc + 3) lc (ab_fv b0 (ab_fty (ab_kd k).1 q.2.2.2.1) (M k q.2.2.2.1) :: rest)) → W p l e R s m args below meth c H locs cells slots Q (F0 m pc lc (ab_cv b0 sa (.inr (.inr k)) :: rest)) := by
          intro H locs cells slots lc rest hP hn kw
          have had : ab_cv b0 sa (.inr (.inr k)) = .ref (b0 + k) := by
            show Value.ref (ab_ad b0 sa k) = _
            unfold ab_ad
            rw [if_pos (by omega)]
          rw [had]
          exact va_get (T := rr.2.1) (C := rr.1) (N := rr.2.2) hx hb hts (ab_clin _ rr hr) hown hK hP k (fs := ab_fs b0 M k) (by rw [ab_ws_get hk, ab_ce_obj ht]) hr q.2.2.2.1 hfr (by rw [ho]; exact hts _ hlk) (ab_hsame hts hsm) (ab_fs_get hf) hd kw
        split at hu
        next hty =>
          split at hu
          next hpos =>
            cases hu
            intro H locs lc h
            obtain ⟨h1, h2, h3, h4, h5, hP, hS, h8⟩ := h
            obtain ⟨-, h2⟩ := List.forall_mem_cons.mp h2
            refine row _ _ _ _ _ _ hP (by unfold ab_nc; have := h1.2.2.1; omega) ?_
            have e1 : ab_fv b0 (ab_fty (ab_kd k).1 q.2.2.2.1) (M k q.2.2.2.1) = ab_cv b0 sa (.inr (.inr (M k q.2.2.2.1).toNat)) := by
              show _ = Value.ref (ab_ad b0 sa _)
              unfold ab_fv ab_ad
              rw [if_pos hty, if_neg (by omega), if_pos (by omega)]
            rw [e1]
            exact kk H locs lc ⟨h1, List.forall_mem_cons.mpr ⟨trivial, h2⟩, h3, h4, h5, hP, hS, h8⟩
          next => cases hu
        next hty =>
          cases hu
          intro H locs lc h
          obtain ⟨h1, h2, h3, h4, h5, hP, hS, h8⟩ := h
          obtain ⟨-, h2⟩ := List.forall_mem_cons.mp h2
          have hn : ab_nc M ≤ 995 := by unfold ab_nc; have := h1.2.2.1; omega
          refine row _ _ _ _ _ _ hP hn ?_
          have e1 : ab_fv b0 (ab_fty (ab_kd k).1 q.2.2.2.1) (M k q.2.2.2.1) = ab_cv b0 sa (.inl (M k q.2.2.2.1)) := by
            unfold ab_fv
            rw [if_neg hty]
            rfl
          rw [e1]
          exact kk H locs lc ⟨h1, List.forall_mem_cons.mpr ⟨h1.1 k _ (by omega), h2⟩, h3, h4, h5, hP, hS, h8⟩
      next => cases hu
  next => cases hu
end SO3
end
section
section SO4
variable {p : Program} {l : Launch} {e : Env} {R : Room} {s : State} {m : MethodId} {args : Array Value} {below : List Frame} {meth : Method} {c : Code} {Q : State → Prop} {D : va_G} {I : ab_I4} {b0 : Nat} {sa : Nat → Nat} {L : Nat} {xs : Nat → Int32} {nL n0 s0 : Nat} {cc : ByteArray} {own : String} {pc : Nat} {ls : ab_L} {st : List ab_V} {M : ab_M}
theorem ab_adk {k : Nat} (h : k < 1000) : ab_cv b0 sa (.inr (.inr k)) = .ref (b0 + k) := by
  show Value.ref (ab_ad b0 sa k) = _
  unfold ab_ad
  rw [if_pos h]
theorem ab_ads {k : Nat} (h : ¬ k < 1000) : ab_cv b0 sa (.inr (.inr k)) = .ref (sa k) := by
  show Value.ref (ab_ad b0 sa k) = _
  unfold ab_ad
  rw [if_neg h]
theorem ab_n995 (h : ab_mok L xs M) : ab_nc M ≤ 995 := by unfold ab_nc; have := h.2.2.1; omega
/-- behind a store of one place -/
theorem so_wr {k f : Nat} {v : Int} {r : List ab_V} {pc' : Nat} (hk : k < ab_nc M) (hv : ab_rg v) (kk : ab_K p l e R s m args below meth c Q D I b0 sa L xs nL n0 s0 pc' ls r (ab_w M k f v)) {H1 : Heap} {locs1 : List Loc} {lc : Array Slot} {ce : va_E} (h1 : ab_mok L xs M) (h2 : ∀ v ∈ r, ab_vk v) (h3 : lv_has lc nL (ab_as b0 sa 0 ls)) (h4 : ls.length = nL) (h5 : ∀ v, some v ∈ ls → ab_vk v) (hn : n0 ≤ ab_nc M) (hs : s0 ≤ (M 999 1).toNat) (hce : ce = ab_ce I b0 (ab_w M k f v) k) (hP : va_P D vwCl ((ab_ws I b0 (ab_nc M) M).set k (b0 + k, ce)) H1) (hS : va_S (ab_A b0) s.heap H1 locs1) : W p l e R s m args below meth c H1 locs1 (ab_nc M - n0) ((M 999 1).toNat - s0) Q (F0 m pc' lc (r.map (ab_cv b0 sa))) := by
  have hn9 := ab_n995 h1
  have e1 : ab_nc (ab_w M k f v) = ab_nc M := ab_w_nc (by omega)
  have e2 : (ab_w M k f v) 999 1 = M 999 1 := by rw [ab_w_ne (by omega)]
  rw [hce, ab_ws_set hk (fun j hj => ab_w_ne hj)] at hP
  have := kk H1 locs1 lc ⟨ab_mok_w h1 hk hv, h2, h3, h4, h5, by rw [e1]; exact hP, hS, by rw [e1]; exact hn, by rw [e2]; exact hs⟩
  rw [e1, e2] at this
  exact this
theorem so_put {idx f : Nat} {x : Int} {u : ab_St} (C : ab_cx p s m args c D I b0 sa L xs nL n0 cc own) (hd : decode cc pc = .ok (.putfield idx, 3)) (hq : ∃ q : ab_FL, q ∈ ab_flt ∧ own = ab_ows.getD q.1 "" ∧ q.2.1 = idx ∧ q.2.2.1 = x ∧ q.2.2.2.1 = f) (hfin : ∀ (t : Nat) (r : vw_C), ab_tg x t → vwCl[t]? = some r → (r.2.1 f).2.2.2 = false ∨ ((r.2.1 f).2.2.2 = true ∧ meth.name = "<init>" ∧ (r.2.1 f).1 = own)) (hu : ab_put f x pc ls st M = some u) (kk : ab_K p l e R s m args below meth c Q D I b0 sa L xs nL n0 s0 u.1 u.2.1 u.2.2.1 u.2.2.2) : ab_K p l e R s m args below meth c Q D I b0 sa L xs nL n0 s0 pc ls st M := by
  obtain ⟨hx, hb, hml, hown, hts, hK, hG, hsz⟩ := C
  have main : ∀ (k : Nat) (r : List ab_V) (v : Int) (w : ab_V), ab_ob M k f x → u = (pc + 3, ls, r, ab_w M k f v) → (∀ (H : Heap) (locs : List Loc) (lc : Array Slot), ab_mok L xs M → ab_rg v ∧ ab_cv b0 sa w = ab_fv b0 (ab_fty (ab_kd k).1 f) v ∧ narrow (ab_ty (ab_kd k).1 f) (ab_cv b0 sa w) = ab_cv b0 sa w ∧ fits (ab_ty (ab_kd k).1 f) (ab_cv b0 sa w) = true ∨ ¬ ab_vk w) → ab_K p l e R s m args below meth c Q D I b0 sa L xs nL n0 s0 pc ls (w :: .inr (.inr k) :: r) M := by
    intro k r v w hob he hw
    obtain ⟨hk, ht, htg, hf⟩ := hob
    obtain ⟨q, hqm, ho, hq1, hq2, hq3⟩ := hq
    subst hq1; subst hq2; subst hq3
    obtain ⟨rr, hr, hfr, hlk, hsm⟩ := ab_fl hqm htg ht
    intro H locs lc h
    obtain ⟨h1, h2, h3, h4, h5, hP, hS, h8, h9⟩ := h
    obtain ⟨hvw, h2⟩ := List.forall_mem_cons.mp h2
    obtain ⟨-, h2⟩ := List.forall_mem_cons.mp h2
    rcases hw H locs lc h1 with ⟨hv, e1, e2, e3⟩ | hno
    · have hn9 := ab_n995 h1
      rw [List.map_cons, List.map_cons, ab_adk (by omega : k < 1000)]
      subst he
      have hty := ab_clty hr hfr
      have hcell : (ab_ws I b0 (ab_nc M) M)[k]? = some (b0 + k, .inr ((ab_kd k).1, ab_fs b0 M k)) := by rw [ab_ws_get hk, ab_ce_obj ht]
      have fin : ∀ (H1 : Heap) (locs1 : List Loc), va_P D vwCl ((ab_ws I b0 (ab_nc M) M).set k (b0 + k, .inr ((ab_kd k).1, (ab_fs b0 M k).set q.2.2.2.1 (ab_cv b0 sa w)))) H1 → va_D (ab_A b0) ((ab_ws I b0 (ab_nc M) M).set k (b0 + k, .inr ((ab_kd k).1, (ab_fs b0 M k).set q.2.2.2.1 (ab_cv b0 sa w)))) → va_S (ab_A b0) s.heap H1 locs1 → W p l e R s m args below meth c H1 locs1 (ab_nc M - n0) ((M 999 1).toNat - s0) Q (F0 m (pc + 3) lc (r.map (ab_cv b0 sa))) := by
        intro H1 locs1 hP1 _ hS1
        refine so_wr hk hv kk h1 h2 h3 h4 h5 h8 h9 ?_ hP1 hS1
        rw [ab_ce_obj ht, ← ab_fs_set hf, e1]
      rcases hfin _ rr htg hr with hf0 | ⟨hf1, hin, hdc⟩
      · exact va_put (T := rr.2.1) (C := rr.1) (N := rr.2.2) hx hb hts (ab_clin _ rr hr) (ab_ty (ab_kd k).1) (fun j hj => (ab_clty hr hj).1) (ab_clnm _ rr hr) hown hK hP ab_D hS k hcell hr q.2.2.2.1 hfr (by rw [ho]; exact hts _ hlk) (ab_hsame hts hsm) hf0 hty.1 e2 e3 (by rw [ab_fs_len]; exact hf) hd fin
      · exact va_putF (T := rr.2.1) (C := rr.1) (N := rr.2.2) hx hb hts (ab_clin _ rr hr) (ab_ty (ab_kd k).1) (fun j hj => (ab_clty hr hj).1) (ab_clnm _ rr hr) hown hK hP ab_D hS k hcell hr q.2.2.2.1 hfr (by rw [ho]; exact hts _ hlk) (ab_hsame hts hsm) hf1 hin hdc hty.1 e2 e3 (by rw [ab_fs_len]; exact hf) hd fin
    · exact absurd hvw hno
  have htyk : ∀ k : Nat, ab_ob M k f x → ab_tyc (ab_fty (ab_kd k).1 f) (ab_ty (ab_kd k).1 f) = true := by
    intro k hob
    obtain ⟨rr, hr, hn⟩ := ab_kdN hob.2.1
    exact (ab_clty hr (by rw [hn]; exact hob.2.2.2)).2
  unfold ab_put at hu
  split at hu
  next v k r =>
    split at hu
    next hc =>
      cases hu
      refine main k r v _ hc.1 rfl (fun H locs lc _ => ?_)
      by_cases hv : ab_rg v
      · left
        have ht := htyk k hc.1
        refine ⟨hv, ?_, ?_⟩
        · unfold ab_fv
          rw [if_neg (by rcases hc.2 with h | h <;> omega)]
          rfl
        · rcases hc.2 with h0 | ⟨h0, h01⟩
          · rw [h0] at ht
            revert ht
            cases hty : ab_ty (ab_kd k).1 f <;> intro ht <;> first | (cases ht; done) | exact ⟨rfl, rfl⟩
          · rw [h0] at ht
            revert ht
            cases hty : ab_ty (ab_kd k).1 f <;> intro ht <;> first | (cases ht; done) | (rcases h01 with rfl | rfl <;> exact ⟨rfl, rfl⟩)
      · right
        exact hv
    next => cases hu
  next j k r =>
    split at hu
    next hc =>
      cases hu
      refine main k r j _ hc.1 rfl (fun H locs lc hm => ?_)
      left
      have ht := htyk k hc.1
      have hn9 := ab_n995 hm
      obtain ⟨hob, h2, hj⟩ := hc
      refine ⟨⟨by omega, by omega⟩, ?_, ?_⟩
      · rw [ab_adk (by omega)]
        unfold ab_fv
        rw [if_pos h2, if_neg (by omega)]
        rfl
      · rw [h2] at ht
        revert ht
        cases hty : ab_ty (ab_kd k).1 f <;> intro ht <;> first | (cases ht; done) | exact ⟨rfl, rfl⟩
    next => cases hu
  next => cases hu
theorem iv_ald {t : Nat} {u : ab_St} (hu : ab_ald t pc ls st M = some u) : ∃ i k r, st = .inl i :: .inr (.inr k) :: r ∧
    ((k < 1000 ∧ ab_ar M t k i ∧ ((t = 24 ∧ 0 ≤ M k i.toNat ∧ M k i.toNat < 1000 ∧ u = (pc + 1, ls, .inr (.inr (M k i.toNat).toNat) :: r, M)) ∨ (t ≠ 24 ∧ u = (pc + 1, ls, .inl (M k i.toNat) :: r, M)))) ∨
     (k = 1000 ∧ t = 20 ∧ 0 ≤ i ∧ i < M 999 2 ∧ u = (pc + 1, ls, .inl (M 1000 i.toNat) :: r, M)) ∨
     (1000 < k ∧ ((t = 20 ∧ k < 1004) ∨ (t = 21 ∧ k = 1005)) ∧ 0 ≤ i ∧ i < (ab_stt k).length ∧ u = (pc + 1, ls, .inl ((ab_stt k).getD i.toNat 0) :: r, M))) := by
  unfold ab_ald at hu
  split at hu
  next i k r =>
    refine ⟨i, k, r, rfl, ?_⟩
    split at hu
    next h1 =>
      left
      split at hu
      next h2 =>
        refine ⟨h1, h2, ?_⟩
        split at hu
        next h3 =>
          split at hu
          next h4 => cases hu; exact Or.inl ⟨h3, h4.1, h4.2, rfl⟩
          next => cases hu
        next h3 => cases hu; exact Or.inr ⟨h3, rfl⟩
      next => cases hu
    next h1 =>
      split at hu
      next h2 =>
        split at hu
        next h3 => cases hu; exact Or.inr (Or.inl ⟨h2, h3.1, h3.2.1, h3.2.2, rfl⟩)
        next => cases hu
      next h2 =>
        split at hu
        next h3 => cases hu; exact Or.inr (Or.inr ⟨by omega, h3.1, h3.2.1, h3.2.2, rfl⟩)
        next => cases hu
  next => cases hu
theorem so_iald {u : ab_St} (C : ab_cx p s m args c D I b0 sa L xs nL n0 cc own) (hd : decode cc pc = .ok (.iaload, 1)) (hu : ab_ald 20 pc ls st M = some u) (kk : ab_K p l e R s m args below meth c Q D I b0 sa L xs nL n0 s0 u.1 u.2.1 u.2.2.1 u.2.2.2) : ab_K p l e R s m args below meth c Q D I b0 sa L xs nL n0 s0 pc ls st M := by
  obtain ⟨hx, hb, hml, hown, hts, hK, hG, hsz⟩ := C
  obtain ⟨i, k, r, rfl, hc⟩ := iv_ald hu
  intro H locs lc h
  obtain ⟨h1, h2, h3, h4, h5, hP, hS, h8⟩ := h
  obtain ⟨hvi, h2⟩ := List.forall_mem_cons.mp h2
  obtain ⟨-, h2⟩ := List.forall_mem_cons.mp h2
  have hvi : ab_rg i := hvi
  have hn9 := ab_n995 h1
  have fin : ∀ z : Int, ab_rg z → u = (pc + 1, ls, .inl z :: r, M) → W p l e R s m args below meth c H locs (ab_nc M - n0) ((M 999 1).toNat - s0) Q (F0 m (pc + 1) lc (.int (Int32.ofInt z) :: r.map (ab_cv b0 sa))) := by
    intro z hz he
    subst he
    exact kk H locs lc ⟨h1, List.forall_mem_cons.mpr ⟨hz, h2⟩, h3, h4, h5, hP, hS, h8⟩
  rcases hc with ⟨hk, ⟨ha1, ha2, ha3, ha4⟩, (⟨h24, -⟩ | ⟨-, he⟩)⟩ | ⟨rfl, -, ha3, ha4, he⟩ | ⟨hk, hk2, ha3, ha4, he⟩
  · cases h24
  · rw [List.map_cons, List.map_cons, ab_adk hk]
    refine va_iald hx hb hK hP k 0 (cA := I.1) (n := (ab_kd k).2) (f := ab_is M k) (by rw [ab_ws_get ha1]; unfold ab_ce; rw [if_pos ha2]) rfl (ab_in32 hvi ha3 ha4) hd ?_
    have := fin _ (h1.1 k i.toNat (by omega)) he
    show W p l e R s m args below meth c _ _ _ _ _ (F0 m (pc + 1) lc (.int (Int32.ofInt (M k (Int32.ofInt i).toNatClampNeg)) :: _))
    rw [ab_cl32 hvi]
    exact this
  · rw [List.map_cons, List.map_cons, ab_ads (by omega)]
    obtain ⟨⟨hX, hbl, hbb⟩, -⟩ := hG
    have hL : M 999 2 = L := h1.2.2.2.2.1
    refine va_sld hx hb hX hbl (Nat.not_le.mpr hbb) hS (ab_in32 hvi ha3 (by omega)) hd ?_
    have e1 := h1.2.2.2.2.2.2 i.toNat (by omega)
    have := fin _ (by rw [e1]; exact ab_rgz _) he
    rw [e1, Int32.ofInt_toInt] at this
    rw [ab_cl32 hvi]
    exact this
  · rw [List.map_cons, List.map_cons, ab_ads (by omega)]
    have key : ∃ N, va_T .int (sa k) N (ab_si k) (ab_A b0) s s.heap ∧ (ab_stt k).length = N ∧ ∀ j, ab_rg ((ab_stt k).getD j 0) := by
      have h3c : k = 1001 ∨ k = 1002 ∨ k = 1003 := by rcases hk2 with ⟨-, h⟩ | ⟨h, -⟩ <;> omega
      have rgl : ∀ l : List Int, l.all (fun z => decide (ab_rg z)) = true → ∀ j, ab_rg (l.getD j 0) := by
        intro l hl j
        rw [List.getD_eq_getElem?_getD]
        cases hj : l[j]? with
        | none => exact ab_rg0
        | some z => exact of_decide_eq_true (List.all_eq_true.mp hl z (List.mem_of_getElem? hj))
      rcases h3c with rfl | rfl | rfl
      · exact ⟨7, hG.2.1.1, rfl, rgl _ (by decide)⟩
      · exact ⟨7, hG.2.1.2.1, rfl, rgl _ (by decide)⟩
      · exact ⟨4, hG.2.1.2.2, rfl, rgl _ (by decide)⟩
    obtain ⟨N, hT, hN, hr⟩ := key
    refine va_ti hx hb hT hS (ab_in32 hvi ha3 (by omega)) rfl hd ?_
    have := fin _ (hr i.toNat) he
    unfold ab_si
    rw [ab_cl32 hvi]
    exact this
theorem so_bald {u : ab_St} (C : ab_cx p s m args c D I b0 sa L xs nL n0 cc own) (hd : decode cc pc = .ok (.baload, 1)) (hu : ab_ald 21 pc ls st M = some u) (kk : ab_K p l e R s m args below meth c Q D I b0 sa L xs nL n0 s0 u.1 u.2.1 u.2.2.1 u.2.2.2) : ab_K p l e R s m args below meth c Q D I b0 sa L xs nL n0 s0 pc ls st M := by
  obtain ⟨hx, hb, hml, hown, hts, hK, hG, hsz⟩ := C
  obtain ⟨i, k, r, rfl, hc⟩ := iv_ald hu
  intro H locs lc h
  obtain ⟨h1, h2, h3, h4, h5, hP, hS, h8⟩ := h
  obtain ⟨hvi, h2⟩ := List.forall_mem_cons.mp h2
  obtain ⟨-, h2⟩ := List.forall_mem_cons.mp h2
  have hvi : ab_rg i := hvi
  have hn9 := ab_n995 h1
  have fin : ∀ z : Int, ab_rg z → u = (pc + 1, ls, .inl z :: r, M) → W p l e R s m args below meth c H locs (ab_nc M - n0) ((M 999 1).toNat - s0) Q (F0 m (pc + 1) lc (.int (Int32.ofInt z) :: r.map (ab_cv b0 sa))) := by
    intro z hz he
    subst he
    exact kk H locs lc ⟨h1, List.forall_mem_cons.mpr ⟨hz, h2⟩, h3, h4, h5, hP, hS, h8⟩
  rcases hc with ⟨hk, ⟨ha1, ha2, ha3, ha4⟩, (⟨h24, -⟩ | ⟨-, he⟩)⟩ | ⟨rfl, h20, ha3, ha4, he⟩ | ⟨hk, hk2, ha3, ha4, he⟩
  · cases h24
  · rw [List.map_cons, List.map_cons, ab_adk hk]
    refine va_zald hx hb hK hP k 1 (cA := I.2.1) (n := (ab_kd k).2) (f := ab_is M k) (by rw [ab_ws_get ha1]; unfold ab_ce; rw [if_neg (by omega), if_pos ha2]) rfl (ab_in32 hvi ha3 ha4) hd ?_
    have := fin _ (h1.1 k i.toNat (by omega)) he
    show W p l e R s m args below meth c _ _ _ _ _ (F0 m (pc + 1) lc (.int (Int32.ofInt (M k (Int32.ofInt i).toNatClampNeg)) :: _))
    rw [ab_cl32 hvi]
    exact this
  · cases h20
  · obtain ⟨h20, -⟩ | ⟨-, rfl⟩ := hk2
    · cases h20
    · rw [List.map_cons, List.map_cons, ab_ads (by omega)]
      have hT := (hG.2.2.2.1.2.1 0 (by decide)).2.2.2
      have hlen : (ab_stt 1005).length = 7 := rfl
      refine va_tb hx hb hT hS (ab_in32 hvi ha3 (by show i < 7; omega)) rfl hd ?_
      have hj : i.toNat < 7 := by omega
      rw [ab_cl32 hvi]
      generalize i.toNat = j at hj he
      have hz : ab_rg ((ab_stt 1005).getD j 0) ∧ Int32.ofInt ((ab_stt 1005).getD j 0) = (([[116, 119, 112, 100, 114, 113, 111]] : List (List Int32)).getD 0 []).getD j 0 := by
        have : j = 0 ∨ j = 1 ∨ j = 2 ∨ j = 3 ∨ j = 4 ∨ j = 5 ∨ j = 6 := by omega
        rcases this with rfl | rfl | rfl | rfl | rfl | rfl | rfl <;> exact ⟨by decide, by decide⟩
      have := fin _ hz.1 he
      rw [hz.2] at this
      exact this
theorem so_cald {u : ab_St} (C : ab_cx p s m args c D I b0 sa L xs nL n0 cc own) (hd : decode cc pc = .ok (.caload, 1)) (hu : ab_ald 22 pc ls st M = some u) (kk : ab_K p l e R s m args below meth c Q D I b0 sa L xs nL n0 s0 u.1 u.2.1 u.2.2.1 u.2.2.2) : ab_K p l e R s m args below meth c Q D I b0 sa L xs nL n0 s0 pc ls st M := by
  obtain ⟨hx, hb, hml, hown, hts, hK, hG, hsz⟩ := C
  obtain ⟨i, k, r, rfl, hc⟩ := iv_ald hu
  intro H locs lc h
  obtain ⟨h1, h2, h3, h4, h5, hP, hS, h8⟩ := h
  obtain ⟨hvi, h2⟩ := List.forall_mem_cons.mp h2
  obtain ⟨-, h2⟩ := List.forall_mem_cons.mp h2
  have hvi : ab_rg i := hvi
  have hn9 := ab_n995 h1
  rcases hc with ⟨hk, ⟨ha1, ha2, ha3, ha4⟩, (⟨h24, -⟩ | ⟨-, he⟩)⟩ | ⟨rfl, h20, ha3, ha4, he⟩ | ⟨hk, hk2, ha3, ha4, he⟩
  · cases h24
  · rw [List.map_cons, List.map_cons, ab_adk hk]
    refine va_cald hx hb hK hP k 2 (cA := I.2.2.1) (n := (ab_kd k).2) (f := ab_is M k) (by rw [ab_ws_get ha1]; unfold ab_ce; rw [if_neg (by omega), if_neg (by omega), if_pos ha2]) rfl (ab_in32 hvi ha3 ha4) hd ?_
    show W p l e R s m args below meth c _ _ _ _ _ (F0 m (pc + 1) lc (.int (Int32.ofInt (M k (Int32.ofInt i).toNatClampNeg)) :: _))
    rw [ab_cl32 hvi]
    subst he
    exact kk H locs lc ⟨h1, List.forall_mem_cons.mpr ⟨h1.1 k i.toNat (by omega), h2⟩, h3, h4, h5, hP, hS, h8⟩
  · cases h20
  · rcases hk2 with ⟨h20, -⟩ | ⟨h20, -⟩ <;> cases h20
theorem so_aald {u : ab_St} (C : ab_cx p s m args c D I b0 sa L xs nL n0 cc own) (hd : decode cc pc = .ok (.aaload, 1)) (hu : ab_ald 24 pc ls st M = some u) (kk : ab_K p l e R s m args below meth c Q D I b0 sa L xs nL n0 s0 u.1 u.2.1 u.2.2.1 u.2.2.2) : ab_K p l e R s m args below meth c Q D I b0 sa L xs nL n0 s0 pc ls st M := by
  obtain ⟨hx, hb, hml, hown, hts, hK, hG, hsz⟩ := C
  obtain ⟨i, k, r, rfl, hc⟩ := iv_ald hu
  intro H locs lc h
  obtain ⟨h1, h2, h3, h4, h5, hP, hS, h8⟩ := h
  obtain ⟨hvi, h2⟩ := List.forall_mem_cons.mp h2
  obtain ⟨-, h2⟩ := List.forall_mem_cons.mp h2
  have hvi : ab_rg i := hvi
  have hn9 := ab_n995 h1
  rcases hc with ⟨hk, ⟨ha1, ha2, ha3, ha4⟩, (⟨-, hp, hp2, he⟩ | ⟨h24, -⟩)⟩ | ⟨rfl, h20, ha3, ha4, he⟩ | ⟨hk, hk2, ha3, ha4, he⟩
  · rw [List.map_cons, List.map_cons, ab_adk hk]
    have hcell : (ab_ws I b0 (ab_nc M) M)[k]? = some (b0 + k, .inl (I.2.2.2, (ab_kd k).2, .inr (.inr (.inr (.inr (ab_gr b0 M k)))))) := by
      rw [ab_ws_get ha1]; unfold ab_ce; rw [if_neg (by omega), if_neg (by omega), if_neg (by omega), if_pos ha2]
    have hin := ab_in32 hvi ha3 ha4
    have hlt : (Int32.ofInt i).toNatClampNeg < (ab_kd k).2 := by rw [ab_cl32 hvi]; omega
    refine W.aald (v := va_rf (ab_gr b0 M k (Int32.ofInt i).toNatClampNeg)) (ty := .array .int) hx hb (hP k _ hcell) ((hK.2 3 _ rfl).1 _ (fun j => va_rf (ab_gr b0 M k j))) rfl (fun q => by cases q) (by show ¬ (_ < 0 ∨ (arrV _ _ _).slots.size ≤ _); rw [arrV_size]; exact hin) (by show (arrV _ _ _).slots[_]? = _; rw [arrV_read _ _ hlt]) rfl rfl hd ?_
    subst he
    have e1 : va_rf (ab_gr b0 M k (Int32.ofInt i).toNatClampNeg) = ab_cv b0 sa (.inr (.inr (M k i.toNat).toNat)) := by
      rw [ab_cl32 hvi, ab_adk (by omega)]
      unfold ab_gr
      rw [if_neg (by omega)]
      rfl
    rw [e1]
    exact kk H locs lc ⟨h1, List.forall_mem_cons.mpr ⟨trivial, h2⟩, h3, h4, h5, hP, hS, h8⟩
  · exact absurd rfl h24
  · cases h20
  · rcases hk2 with ⟨h20, -⟩ | ⟨h20, -⟩ <;> cases h20
theorem iv_ast {t : Nat} {u : ab_St} (hu : ab_ast t pc ls st M = some u) : ∃ v i k r, st = .inl v :: .inl i :: .inr (.inr k) :: r ∧ ab_ar M t k i ∧ (t = 21 → v = 0 ∨ v = 1) ∧ (t = 22 → 0 ≤ v ∧ v < 65536) ∧ u = (pc + 1, ls, r, ab_w M k i.toNat v) := by
  unfold ab_ast at hu
  split at hu
  next v i k r =>
    split at hu
    next h => cases hu; exact ⟨v, i, k, r, rfl, h.1, h.2.1, h.2.2, rfl⟩
    next => cases hu
  next => cases hu
theorem ab_is_w {k j : Nat} {v : Int} : upd (ab_is M k) j (Int32.ofInt v) = ab_is (ab_w M k j v) k := by
  funext q
  unfold upd ab_is ab_w
  by_cases h : q = j
  · rw [if_pos h, if_pos ⟨rfl, h⟩]
  · rw [if_neg h, if_neg (fun z => h z.2)]
theorem so_ast {i0 : Instr} {t : Nat} {u : ab_St} (C : ab_cx p s m args c D I b0 sa L xs nL n0 cc own) (hd : decode cc pc = .ok (i0, 1)) (hi0 : (t = 20 ∧ i0 = .iastore) ∨ (t = 21 ∧ i0 = .bastore) ∨ (t = 22 ∧ i0 = .castore)) (hu : ab_ast t pc ls st M = some u) (kk : ab_K p l e R s m args below meth c Q D I b0 sa L xs nL n0 s0 u.1 u.2.1 u.2.2.1 u.2.2.2) : ab_K p l e R s m args below meth c Q D I b0 sa L xs nL n0 s0 pc ls st M := by
  obtain ⟨hx, hb, hml, hown, hts, hK, hG, hsz⟩ := C
  obtain ⟨v, i, k, r, rfl, ⟨ha1, ha2, ha3, ha4⟩, hz, hc, rfl⟩ := iv_ast hu
  intro H locs lc h
  obtain ⟨h1, h2, h3, h4, h5, hP, hS, h8, h9⟩ := h
  obtain ⟨hvv, h2⟩ := List.forall_mem_cons.mp h2
  obtain ⟨hvi, h2⟩ := List.forall_mem_cons.mp h2
  obtain ⟨-, h2⟩ := List.forall_mem_cons.mp h2
  have hvi : ab_rg i := hvi
  have hvv : ab_rg v := hvv
  have hn9 := ab_n995 h1
  have hin := ab_in32 hvi ha3 ha4
  rw [List.map_cons, List.map_cons, List.map_cons, ab_adk (by omega : k < 1000)]
  rcases hi0 with ⟨rfl, rfl⟩ | ⟨rfl, rfl⟩ | ⟨rfl, rfl⟩
  · refine va_iast hx hb hK hP ab_D hS k 0 (cA := I.1) (n := (ab_kd k).2) (f := ab_is M k) (by rw [ab_ws_get ha1]; unfold ab_ce; rw [if_pos ha2]) rfl hin hd (fun H1 locs1 hP1 _ hS1 => ?_)
    refine so_wr ha1 hvv kk h1 h2 h3 h4 h5 h8 h9 ?_ hP1 hS1
    rw [ab_cl32 hvi, ab_is_w]
    unfold ab_ce
    rw [if_pos ha2]
  · have hv : vp_nar .boolean (Int32.ofInt v) = Int32.ofInt v := by rcases hz rfl with rfl | rfl <;> rfl
    refine va_zast hx hb hK hP ab_D hS k 1 (cA := I.2.1) (n := (ab_kd k).2) (f := ab_is M k) (by rw [ab_ws_get ha1]; unfold ab_ce; rw [if_neg (by omega), if_pos ha2]) rfl hin hd (fun H1 locs1 hP1 _ hS1 => ?_)
    refine so_wr ha1 hvv kk h1 h2 h3 h4 h5 h8 h9 ?_ hP1 hS1
    rw [hv, ab_cl32 hvi, ab_is_w]
    unfold ab_ce
    rw [if_neg (by omega), if_pos ha2]
  · have hv : vp_nar .char (Int32.ofInt v) = Int32.ofInt v := by
      obtain ⟨q, rfl⟩ := Int.eq_ofNat_of_zero_le (hc rfl).1
      have e : Int32.ofInt (q : Int) = nI q := Int32.ofInt_eq_ofNat
      rw [e]
      unfold vp_nar
      rw [(pk_charN (by have := (hc rfl).2; omega)).1]
    refine va_cast hx hb hK hP ab_D hS k 2 (cA := I.2.2.1) (n := (ab_kd k).2) (f := ab_is M k) (by rw [ab_ws_get ha1]; unfold ab_ce; rw [if_neg (by omega), if_neg (by omega), if_pos ha2]) rfl hin hd (fun H1 locs1 hP1 _ hS1 => ?_)
    refine so_wr ha1 hvv kk h1 h2 h3 h4 h5 h8 h9 ?_ hP1 hS1
    rw [hv, ab_cl32 hvi, ab_is_w]
    unfold ab_ce
    rw [if_neg (by omega), if_neg (by omega), if_pos ha2]
theorem so_len {u : ab_St} (C : ab_cx p s m args c D I b0 sa L xs nL n0 cc own) (hd : decode cc pc = .ok (.arraylength, 1)) (hu : ab_len pc ls st M = some u) (kk : ab_K p l e R s m args below meth c Q D I b0 sa L xs nL n0 s0 u.1 u.2.1 u.2.2.1 u.2.2.2) : ab_K p l e R s m args below meth c Q D I b0 sa L xs nL n0 s0 pc ls st M := by
  obtain ⟨hx, hb, hml, hown, hts, hK, hG, hsz⟩ := C
  unfold ab_len at hu
  split at hu
  next k r =>
    intro H locs lc h
    obtain ⟨h1, h2, h3, h4, h5, hP, hS, h8⟩ := h
    obtain ⟨-, h2⟩ := List.forall_mem_cons.mp h2
    have hn9 := ab_n995 h1
    split at hu
    next hk =>
      split at hu
      next hc =>
        cases hu
        rw [List.map_cons, ab_adk hk]
        have hlen : (ab_kd k).2 < 1000 := by
          by_cases hk2 : k < 132
          · have h0 : (List.range 132).all (fun k => decide ((ab_kd k).2 < 1000)) = true := by decide +kernel
            exact of_decide_eq_true (List.all_eq_true.mp h0 k (List.mem_range.mpr hk2))
          · have : ab_kd k = (99, 0) := by
              unfold ab_kd
              rw [List.getD_eq_getElem?_getD, List.getElem?_eq_none (by show ab_kds.length ≤ k; have : ab_kds.length = 132 := by decide +kernel
                                                                        omega)]
              rfl
            rw [this]; decide
        have kf := kk H locs lc ⟨h1, List.forall_mem_cons.mpr ⟨(⟨by omega, by omega⟩ : ab_rg ((ab_kd k).2 : Int)), h2⟩, h3, h4, h5, hP, hS, h8⟩
        have e : Int32.ofNat (ab_kd k).2 = Int32.ofInt ((ab_kd k).2 : Int) := Int32.ofInt_eq_ofNat.symm
        have h4c : (ab_kd k).1 = 20 ∨ (ab_kd k).1 = 21 ∨ (ab_kd k).1 = 22 ∨ (ab_kd k).1 = 24 ∨ (ab_kd k).1 = 23 := by omega
        rcases h4c with ht | ht | ht | ht | ht
        · exact va_alen hx hb hK hP k 0 (cA := I.1) (x := ((ab_kd k).2, .inl (ab_is M k))) (by rw [ab_ws_get hc.1]; unfold ab_ce; rw [if_pos ht]) (ty := .int) rfl e hd kf
        · exact va_alen hx hb hK hP k 1 (cA := I.2.1) (x := ((ab_kd k).2, .inl (ab_is M k))) (by rw [ab_ws_get hc.1]; unfold ab_ce; rw [if_neg (by omega), if_pos ht]) (ty := .boolean) rfl e hd kf
        · exact va_alen hx hb hK hP k 2 (cA := I.2.2.1) (x := ((ab_kd k).2, .inl (ab_is M k))) (by rw [ab_ws_get hc.1]; unfold ab_ce; rw [if_neg (by omega), if_neg (by omega), if_pos ht]) (ty := .char) rfl e hd kf
        · exact va_alen hx hb hK hP k 3 (cA := I.2.2.2) (x := ((ab_kd k).2, .inr (.inr (.inr (.inr (ab_gr b0 M k)))))) (by rw [ab_ws_get hc.1]; unfold ab_ce; rw [if_neg (by omega), if_neg (by omega), if_neg (by omega), if_pos ht]) (ty := .array .int) rfl e hd kf
        · exfalso
          have hk2 : k < 132 := by
            by_cases hk2 : k < 132
            · exact hk2
            · have : ab_kd k = (99, 0) := by
                unfold ab_kd
                rw [List.getD_eq_getElem?_getD, List.getElem?_eq_none (by show ab_kds.length ≤ k; have : ab_kds.length = 132 := by decide +kernel
                                                                          omega)]
                rfl
              rw [this] at ht; cases ht
          have h0 : (List.range 132).all (fun k => !decide ((ab_kd k).1 = 23)) = true := by decide +kernel
          have := List.all_eq_true.mp h0 k (List.mem_range.mpr hk2)
          simp [ht] at this
      next => cases hu
    next hk =>
      split at hu
      next hk2 =>
        cases hu
        rw [List.map_cons, ab_ads hk, hk2]
        obtain ⟨⟨hX, hbl, hbb⟩, -⟩ := hG
        have hL : M 999 2 = L := h1.2.2.2.2.1
        have hL3 := h1.2.2.2.2.2.1
        refine va_slen hx hb hX hbl (Nat.not_le.mpr hbb) hS hd ?_
        have := kk H locs lc ⟨h1, List.forall_mem_cons.mpr ⟨(⟨by omega, by omega⟩ : ab_rg (M 999 2)), h2⟩, h3, h4, h5, hP, hS, h8⟩
        rw [hL] at this
        have e : Int32.ofNat L = Int32.ofInt (L : Int) := Int32.ofInt_eq_ofNat.symm
        rw [e]
        exact this
      next hk2 =>
        split at hu
        next hk3 =>
          cases hu
          rw [List.map_cons, ab_ads hk, hk3]
          have hT := (hG.2.2.2.1.2.1 0 (by decide)).2.2.2
          exact va_tlen hx hb hT hS (v := Int32.ofInt 7) (by rfl) hd (kk H locs lc ⟨h1, List.forall_mem_cons.mpr ⟨(by decide : ab_rg 7), h2⟩, h3, h4, h5, hP, hS, h8⟩)
        next => cases hu
  next => cases hu
end SO4
end
section
section SO5
variable {p : Program} {l : Launch} {e : Env} {R : Room} {s : State} {m : MethodId} {args : Array Value} {below : List Frame} {meth : Method} {c : Code} {Q : State → Prop} {D : va_G} {I : ab_I4} {b0 : Nat} {sa : Nat → Nat} {L : Nat} {xs : Nat → Int32} {nL n0 s0 : Nat} {cc : ByteArray} {own : String} {pc : Nat} {ls : ab_L} {st : List ab_V} {M : ab_M}
theorem ab_sz {H : Heap} {locs : List Loc} {slots : Nat} {g : JFrame} (hs : s.heap.size = b0 + n0) (hn : n0 ≤ ab_nc M) (hP : va_P D vwCl (ab_ws I b0 (ab_nc M) M) H) (hS : va_S (ab_A b0) s.heap H locs) (k : H.size = b0 + ab_nc M → W p l e R s m args below meth c H locs (ab_nc M - n0) slots Q g) : W p l e R s m args below meth c H locs (ab_nc M - n0) slots Q g := by
  intro T hT X
  refine k ?_ T hT X
  have h1 := X.heapSize
  rw [hT] at h1
  have h2 : b0 + ab_nc M ≤ H.size := by
    by_cases h0 : ab_nc M = 0
    · have := hS.1; omega
    · have := (hP (ab_nc M - 1) _ (ab_ws_get (by omega))).lt
      dsimp only at this
      omega
  omega
theorem ab_fty_big {t f : Nat} (h : 11 ≤ t) : ab_fty t f = 0 := by
  unfold ab_fty
  have : ab_fts.getD t [] = [] := by
    rw [List.getD_eq_getElem?_getD, List.getElem?_eq_none (by show ab_fts.length ≤ t; exact h)]
    rfl
  rw [this]
  rfl
theorem ab_mk_lt {k : Nat} (hn : ab_nc M ≤ 995) (h : k < ab_nc M) : ab_mk M k = M k := by
  funext b
  unfold ab_mk
  rw [if_neg (by omega), if_neg (by omega)]
theorem ab_mk_at {b : Nat} : ab_mk M (ab_nc M) b = if ab_fty (ab_kd (ab_nc M)).1 b = 2 then -1 else 0 := by
  unfold ab_mk
  rw [if_pos rfl]
theorem ab_mk_9 {b : Nat} (hn : ab_nc M ≤ 995) : ab_mk M 999 b = if b = 0 then M 999 0 + 1 else if b = 1 then M 999 1 + (ab_kd (ab_nc M)).2 else M 999 b := by
  unfold ab_mk
  rw [if_neg (by omega), if_pos rfl]
theorem ab_mk_nc (h0 : 0 ≤ M 999 0) (hn : ab_nc M ≤ 995) : ab_nc (ab_mk M) = ab_nc M + 1 := by
  have : ab_mk M 999 0 = M 999 0 + 1 := by rw [ab_mk_9 hn, if_pos rfl]
  unfold ab_nc at *
  rw [this]
  omega
theorem ab_mok_mk (h : ab_mok L xs M) (hl : M 999 0 < 990) : ab_mok L xs (ab_mk M) := by
  have hn := ab_n995 h
  obtain ⟨h1, h2, h3, h4, h5, h6, h7⟩ := h
  refine ⟨fun k j hk => ?_, ?_, ?_, ?_, ?_, h6, fun j hj => ?_⟩
  · unfold ab_mk
    split
    · split <;> decide
    · exact h1 k j hk
  · rw [ab_mk_9 hn, if_pos rfl]; omega
  · rw [ab_mk_9 hn, if_pos rfl]; omega
  · rw [ab_mk_9 hn, if_neg (by decide), if_pos rfl]; omega
  · rw [ab_mk_9 hn, if_neg (by decide), if_neg (by decide)]; exact h5
  · unfold ab_mk
    rw [if_neg (by omega), if_neg (by decide)]
    exact h7 j hj
/-- behind a new cell -/
theorem so_mk {r : List ab_V} {pc' : Nat} {H H1 : Heap} {locs : List Loc} {lc : Array Slot} (hl : M 999 0 < 990) (kk : ab_K p l e R s m args below meth c Q D I b0 sa L xs nL n0 s0 pc' ls (.inr (.inr (ab_nc M)) :: r) (ab_mk M)) (h1 : ab_mok L xs M) (h2 : ∀ v ∈ r, ab_vk v) (h3 : lv_has lc nL (ab_as b0 sa 0 ls)) (h4 : ls.length = nL) (h5 : ∀ v, some v ∈ ls → ab_vk v) (hP : va_P D vwCl (ab_ws I b0 (ab_nc M) M) H) (hS : va_S (ab_A b0) s.heap H locs) (hn : n0 ≤ ab_nc M) (hs : s0 ≤ (M 999 1).toNat) (hz : H.size = b0 + ab_nc M) (z1 : H1.size = b0 + ab_nc M + 1) (o1 : ∀ q, q < b0 + ab_nc M → H1[q]? = H[q]?) (hat : va_at D vwCl (b0 + ab_nc M, ab_ce I b0 (ab_mk M) (ab_nc M)) H1) : W p l e R s m args below meth c H1 locs (ab_nc M - n0 + 1) ((M 999 1).toNat - s0 + (ab_kd (ab_nc M)).2) Q (F0 m pc' lc (.ref (b0 + ab_nc M) :: r.map (ab_cv b0 sa))) := by
  have hn9 := ab_n995 h1
  have e1 := ab_mk_nc h1.2.1 hn9
  have e2 : ab_mk M 999 1 = M 999 1 + (ab_kd (ab_nc M)).2 := by rw [ab_mk_9 hn9, if_neg (by decide), if_pos rfl]
  have h04 := h1.2.2.2.1
  have hP1 : va_P D vwCl (ab_ws I b0 (ab_nc (ab_mk M)) (ab_mk M)) H1 := by
    intro k q hk
    obtain ⟨hk, rfl⟩ := ab_ws_at hk
    rw [e1] at hk
    by_cases hlt : k < ab_nc M
    · rw [ab_ce_eq (ab_mk_lt hn9 hlt)]
      exact (hP k _ (ab_ws_get hlt)).kept (o1 _ (by dsimp only; omega))
    · have : k = ab_nc M := by omega
      subst this
      exact hat
  have := kk H1 locs lc ⟨ab_mok_mk h1 hl, List.forall_mem_cons.mpr ⟨trivial, h2⟩, h3, h4, h5, hP1, ⟨Nat.le_trans hS.1 (by omega), fun q q1 q2 => (o1 q (by have := hS.1; omega)).trans (hS.2.1 q q1 q2), hS.2.2⟩, by omega, by rw [e2]; omega⟩
  rw [e1, e2, List.map_cons, ab_adk (by omega)] at this
  have e3 : ab_nc M + 1 - n0 = ab_nc M - n0 + 1 := by omega
  have e4 : (M 999 1 + ((ab_kd (ab_nc M)).2 : Int)).toNat - s0 = (M 999 1).toNat - s0 + (ab_kd (ab_nc M)).2 := by omega
  rw [e3, e4] at this
  exact this
theorem so_new {idx : Nat} {x : Int} {u : ab_St} (C : ab_cx p s m args c D I b0 sa L xs nL n0 cc own) (hd : decode cc pc = .ok (.new idx, 3)) (hlk : ∀ (t : Nat) (r : vw_C), x = t → vwCl[t]? = some r → Cond.classLink own idx r.1 ∈ ab_tb ∧ Cond.instantiable r.1 r.2.2 ∈ ab_tb ∧ Cond.initialized r.1 ∈ ab_tb) (hu : ab_new x pc ls st M = some u) (hrm : ab_nc u.2.2.2 - n0 ≤ R.cells ∧ (u.2.2.2 999 1).toNat - s0 ≤ R.slots) (kk : ab_K p l e R s m args below meth c Q D I b0 sa L xs nL n0 s0 u.1 u.2.1 u.2.2.1 u.2.2.2) : ab_K p l e R s m args below meth c Q D I b0 sa L xs nL n0 s0 pc ls st M := by
  obtain ⟨hx, hb, hml, hown, hts, hK, hG, hsz⟩ := C
  unfold ab_new at hu
  split at hu
  next hc =>
    cases hu
    obtain ⟨c1, c2, c3, c4⟩ := hc
    intro H locs lc h
    obtain ⟨h1, h2, h3, h4, h5, hP, hS, h8, h9⟩ := h
    have hn9 := ab_n995 h1
    obtain ⟨r, hr, hN⟩ := ab_kdN c4
    obtain ⟨l1, l2, l3⟩ := hlk _ r c3 hr
    have hKn := hK.1 _ _ hr
    have e1 := ab_mk_nc h1.2.1 hn9
    have e2 : ab_mk M 999 1 = M 999 1 + (ab_kd (ab_nc M)).2 := by rw [ab_mk_9 hn9, if_neg (by decide), if_pos rfl]
    have h04 := h1.2.2.2.1
    dsimp only at hrm
    rw [e1, e2] at hrm
    refine ab_sz hsz h8 hP hS (fun hz => ?_)
    refine W.newcK hx hb hown (hts _ l1) (hts _ l2) (hts _ l3) rfl hd (by omega) (by rw [hN]; omega) hKn.2.1 hz (fun H1 kC hkC q1 z1 o1 => ?_)
    rw [hN]
    refine so_mk c2 kk h1 h2 h3 h4 h5 hP hS h8 h9 hz z1 o1 ?_
    rw [ab_ce_obj c4]
    refine ⟨r, hr, (u_born (ab_ty (ab_kd (ab_nc M)).1) hts (ab_clin _ r hr) hKn hkC q1 (fun k hk => (ab_clty hr hk).1)).to (fun j hj => ?_)⟩
    have hj' : j < (ab_kd (ab_nc M)).2 := by omega
    have hty := (ab_clty hr hj).2
    show _ = (ab_fs b0 (ab_mk M) (ab_nc M)).getD j .null
    rw [List.getD_eq_getElem?_getD, ab_fs_get hj', ab_mk_at]
    show _ = ab_fv _ _ _
    unfold ab_fv
    revert hty
    have h3f : ab_fty (ab_kd (ab_nc M)).1 j = 0 ∨ ab_fty (ab_kd (ab_nc M)).1 j = 1 ∨ ab_fty (ab_kd (ab_nc M)).1 j = 2 ∨ 3 ≤ ab_fty (ab_kd (ab_nc M)).1 j := by omega
    rcases h3f with h0 | h0 | h0 | h0
    · rw [h0]
      cases ab_ty (ab_kd (ab_nc M)).1 j <;> intro ht <;> first | (cases ht; done) | rfl
    · rw [h0]
      cases ab_ty (ab_kd (ab_nc M)).1 j <;> intro ht <;> first | (cases ht; done) | rfl
    · rw [h0]
      cases ab_ty (ab_kd (ab_nc M)).1 j <;> intro ht <;> first | (cases ht; done) | rfl
    · obtain ⟨z, hz3⟩ : ∃ z, ab_fty (ab_kd (ab_nc M)).1 j = z + 3 := ⟨_, (Nat.sub_add_cancel h0).symm⟩
      rw [hz3]
      cases ab_ty (ab_kd (ab_nc M)).1 j <;> intro ht <;> cases ht
  next => cases hu
theorem so_nar {at' : ArrayType} {x : Int} {u : ab_St} (C : ab_cx p s m args c D I b0 sa L xs nL n0 cc own) (hd : decode cc pc = .ok (.newarray at', 2)) (hat : (x = 20 → at' = .int) ∧ (x = 21 → at' = .boolean) ∧ (x = 22 → at' = .char)) (hu : ab_nar x pc ls st M = some u) (hrm : ab_nc u.2.2.2 - n0 ≤ R.cells ∧ (u.2.2.2 999 1).toNat - s0 ≤ R.slots) (kk : ab_K p l e R s m args below meth c Q D I b0 sa L xs nL n0 s0 u.1 u.2.1 u.2.2.1 u.2.2.2) : ab_K p l e R s m args below meth c Q D I b0 sa L xs nL n0 s0 pc ls st M := by
  obtain ⟨hx, hb, hml, hown, hts, hK, hG, hsz⟩ := C
  unfold ab_nar at hu
  split at hu
  next n r =>
    split at hu
    next hc =>
      cases hu
      obtain ⟨c1, c2, c3, c4, c5, c6⟩ := hc
      intro H locs lc h
      obtain ⟨h1, h2, h3, h4, h5, hP, hS, h8, h9⟩ := h
      obtain ⟨hvn, h2⟩ := List.forall_mem_cons.mp h2
      have hvn : ab_rg n := hvn
      have hn9 := ab_n995 h1
      have e1 := ab_mk_nc h1.2.1 hn9
      have e2 : ab_mk M 999 1 = M 999 1 + (ab_kd (ab_nc M)).2 := by rw [ab_mk_9 hn9, if_neg (by decide), if_pos rfl]
      have h04 := h1.2.2.2.1
      dsimp only at hrm
      rw [e1, e2] at hrm
      have hNn : (Int32.ofInt n).toNatClampNeg = (ab_kd (ab_nc M)).2 := by rw [ab_cl32 hvn]; omega
      have hneg : ¬ Int32.ofInt n < 0 := by
        have : (Int32.ofInt n < 0) ↔ n < 0 := ab_lt32 hvn ab_rg0
        rw [this]; omega
      have zero : ∀ j, ab_is (ab_mk M) (ab_nc M) j = 0 := by
        intro j
        unfold ab_is
        rw [ab_mk_at, ab_fty_big (by omega), if_neg (by decide)]
        rfl
      refine ab_sz hsz h8 hP hS (fun hz => ?_)
      rcases c4 with rfl | rfl | rfl
      · obtain rfl := hat.1 rfl
        refine va_newaK hx hb (hts _ (ab_ix_mem (i := 124) (by decide +kernel))) rfl hd rfl hneg hNn (by show _ * 4 ≤ _; omega) (by omega) (by omega) hz (fun H1 cA q1 z1 o1 _ hcA => ?_)
        have ec : cA = I.1 := Option.some.inj (hcA.symm.trans (hK.2 0 _ rfl).2)
        subst ec
        refine so_mk c2 kk h1 h2 h3 h4 h5 hP hS h8 h9 hz z1 o1 ?_
        unfold ab_ce
        rw [if_pos (by omega)]
        show H1[b0 + ab_nc M]? = some (vp_cell _ _)
        rw [q1, vp_cell_i]
        congr 2
        funext j
        rw [zero j]
        rfl
      · obtain rfl := hat.2.1 rfl
        refine va_newaK hx hb (hts _ (ab_ix_mem (i := 329) (by decide +kernel))) rfl hd rfl hneg hNn (by show _ * 1 ≤ _; omega) (by omega) (by omega) hz (fun H1 cA q1 z1 o1 _ hcA => ?_)
        have ec : cA = I.2.1 := Option.some.inj (hcA.symm.trans (hK.2 1 _ rfl).2)
        subst ec
        refine so_mk c2 kk h1 h2 h3 h4 h5 hP hS h8 h9 hz z1 o1 ?_
        unfold ab_ce
        rw [if_neg (by omega), if_pos (by omega)]
        show H1[b0 + ab_nc M]? = some (vp_cell _ _)
        rw [q1, vp_cell_i]
        congr 2
        funext j
        rw [zero j]
        rfl
      · obtain rfl := hat.2.2 rfl
        refine va_newaK hx hb (hts _ (ab_ix_mem (i := 123) (by decide +kernel))) rfl hd rfl hneg hNn (by show _ * 2 ≤ _; omega) (by omega) (by omega) hz (fun H1 cA q1 z1 o1 _ hcA => ?_)
        have ec : cA = I.2.2.1 := Option.some.inj (hcA.symm.trans (hK.2 2 _ rfl).2)
        subst ec
        refine so_mk c2 kk h1 h2 h3 h4 h5 hP hS h8 h9 hz z1 o1 ?_
        unfold ab_ce
        rw [if_neg (by omega), if_neg (by omega), if_pos (by omega)]
        show H1[b0 + ab_nc M]? = some (vp_cell _ _)
        rw [q1, vp_cell_i]
        congr 2
        funext j
        rw [zero j]
        rfl
    next => cases hu
  next => cases hu
theorem so_oi {idx : Nat} {u : ab_St} (C : ab_cx p s m args c D I b0 sa L xs nL n0 cc own) (hd : decode cc pc = .ok (.invokespecial idx, 3)) (hlk : Cond.methodLink own idx Lib.objectInit ∈ ab_tb) (hR : 1 ≤ R.frames ∧ 100 ≤ R.locals) (hu : ab_oi pc ls st M = some u) (kk : ab_K p l e R s m args below meth c Q D I b0 sa L xs nL n0 s0 u.1 u.2.1 u.2.2.1 u.2.2.2) : ab_K p l e R s m args below meth c Q D I b0 sa L xs nL n0 s0 pc ls st M := by
  obtain ⟨hx, hb, hml, hown, hts, hK, hG, hsz⟩ := C
  unfold ab_oi at hu
  split at hu
  next k r =>
    split at hu
    next hc =>
      cases hu
      intro H locs lc h
      obtain ⟨h1, h2, h3⟩ := h
      obtain ⟨-, h2⟩ := List.forall_mem_cons.mp h2
      have hcat : ((r.map (ab_cv b0 sa)).map fun v => v.category).sum = (r.map ab_cat).sum := by
        rw [List.map_map]
        congr 1
        apply List.map_congr_left
        intro v _
        exact ab_cat_cv b0 sa v
      refine W.objInit hx hb hown (hts _ hlk) (hts _ (ab_ix_mem (i := 94) (by decide +kernel))) (hts _ (ab_ix_mem (i := 95) (by decide +kernel))) rfl (by rw [hml]; exact h3.1.1) rfl hd hR.1 ?_ (kk H locs lc ⟨h1, h2, h3⟩)
      rw [hcat]
      show 2 * 0 + _ + 12 ≤ _
      omega
    next => cases hu
  next => cases hu
theorem ab_cpm_ne {sc d sp dp n j : Nat} (h : j ≠ d) : ab_cpm M sc d sp dp n j = M j := by
  funext b
  unfold ab_cpm
  rw [if_neg (fun q => h q.1)]
theorem so_cpy {idx : Nat} {u : ab_St} (C : ab_cx p s m args c D I b0 sa L xs nL n0 cc own) (hd : decode cc pc = .ok (.invokestatic idx, 3)) (hlk : Cond.methodLink own idx arraycopyName ∈ ab_tb) (hR : 1 ≤ R.frames ∧ 100 ≤ R.locals) (hu : ab_cpy pc ls st M = some u) (kk : ab_K p l e R s m args below meth c Q D I b0 sa L xs nL n0 s0 u.1 u.2.1 u.2.2.1 u.2.2.2) : ab_K p l e R s m args below meth c Q D I b0 sa L xs nL n0 s0 pc ls st M := by
  obtain ⟨hx, hb, hml, hown, hts, hK, hG, hsz⟩ := C
  unfold ab_cpy at hu
  split at hu
  next n dp d sp sc r =>
    split at hu
    next hc =>
      cases hu
      obtain ⟨c1, c2, c3, c4, c5, c6, c7, c8, c9, c10⟩ := hc
      intro H locs lc h
      obtain ⟨h1, h2, h3, h4, h5, hP, hS, h8, h9⟩ := h
      obtain ⟨hvn, h2⟩ := List.forall_mem_cons.mp h2
      obtain ⟨hvdp, h2⟩ := List.forall_mem_cons.mp h2
      obtain ⟨-, h2⟩ := List.forall_mem_cons.mp h2
      obtain ⟨hvsp, h2⟩ := List.forall_mem_cons.mp h2
      obtain ⟨-, h2⟩ := List.forall_mem_cons.mp h2
      have hvn : ab_rg n := hvn
      have hvdp : ab_rg dp := hvdp
      have hvsp : ab_rg sp := hvsp
      have hn9 := ab_n995 h1
      have ng : ∀ z : Int, ab_rg z → 0 ≤ z → ¬ Int32.ofInt z < 0 := by
        intro z hz h0
        have : (Int32.ofInt z < 0) ↔ z < 0 := ab_lt32 hz ab_rg0
        rw [this]; omega
      have hcat : ((r.map (ab_cv b0 sa)).map fun v => v.category).sum = (r.map ab_cat).sum := by
        rw [List.map_map]
        congr 1
        apply List.map_congr_left
        intro v _
        exact ab_cat_cv b0 sa v
      rw [List.map_cons, List.map_cons, List.map_cons, List.map_cons, List.map_cons, ab_adk (by omega : d < 1000), ab_adk (by omega : sc < 1000)]
      refine va_copyi hx hb (by rw [hml]; exact h3.1.symm) hown (hts _ hlk) (hts _ (ab_ix_mem (i := 754) (by decide +kernel))) (hts _ (ab_ix_mem (i := 753) (by decide +kernel))) (hts _ (ab_ix_mem (i := 87) (by decide +kernel))) hK hP ab_D hS sc d 0 0 (f := ab_is M sc) (g := ab_is M d) (ty := .int) (c0 := I.1) (c1 := I.1) (n0 := (ab_kd sc).2) (n1 := (ab_kd d).2)
        (by rw [ab_ws_get c1]; unfold ab_ce; rw [if_pos c3]) (by rw [ab_ws_get c2]; unfold ab_ce; rw [if_pos c4]) rfl rfl rfl (ng _ hvsp c6) (ng _ hvdp c7) (ng _ hvn c5) (by rw [ab_cl32 hvsp, ab_cl32 hvn]; omega) (by rw [ab_cl32 hvdp, ab_cl32 hvn]; omega) (fun _ _ => rfl) hR.1 (by rw [hcat]; show _ + (5 + 2 + 11) ≤ _; omega) hd (fun H1 locs1 hP1 _ hS1 => ?_)
      rw [ab_cl32 hvsp, ab_cl32 hvdp, ab_cl32 hvn] at hP1
      have ec : va_cpy (ab_is M sc) (ab_is M d) sp.toNat dp.toNat n.toNat = ab_is (ab_cpm M sc d sp.toNat dp.toNat n.toNat) d := by
        funext q
        unfold va_cpy ab_is ab_cpm
        by_cases hq : dp.toNat ≤ q ∧ q < dp.toNat + n.toNat
        · rw [if_pos hq, if_pos ⟨rfl, hq.1, hq.2⟩]
        · rw [if_neg hq, if_neg (fun z => hq z.2)]
      have ece : (.inl (I.1, (ab_kd d).2, .inl (va_cpy (ab_is M sc) (ab_is M d) sp.toNat dp.toNat n.toNat)) : va_E) = ab_ce I b0 (ab_cpm M sc d sp.toNat dp.toNat n.toNat) d := by
        unfold ab_ce
        rw [if_pos c4, ec]
      rw [ece, ab_ws_set c2 (fun j hj => ab_cpm_ne hj)] at hP1
      have e1 : ab_nc (ab_cpm M sc d sp.toNat dp.toNat n.toNat) = ab_nc M := by unfold ab_nc; rw [ab_cpm_ne (by omega)]
      have e9 : ab_cpm M sc d sp.toNat dp.toNat n.toNat 999 = M 999 := ab_cpm_ne (by omega)
      have hm : ab_mok L xs (ab_cpm M sc d sp.toNat dp.toNat n.toNat) := by
        obtain ⟨m1, m2, m3, m4, m5, m6, m7⟩ := h1
        refine ⟨fun a b ha => ?_, by rw [e9]; exact m2, by rw [e9]; exact m3, by rw [e9]; exact m4, by rw [e9]; exact m5, m6, fun j hj => by rw [ab_cpm_ne (by omega)]; exact m7 j hj⟩
        unfold ab_cpm
        split
        · exact m1 sc _ (by omega)
        · exact m1 a b ha
      have kk : ab_K p l e R s m args below meth c Q D I b0 sa L xs nL n0 s0 (pc + 3) ls r (ab_cpm M sc d sp.toNat dp.toNat n.toNat) := kk
      have := kk H1 locs1 lc ⟨hm, h2, h3, h4, h5, by rw [e1]; exact hP1, hS1, by rw [e1]; exact h8, by rw [e9]; exact h9⟩
      rw [e1, e9] at this
      exact this
    next => cases hu
  next => cases hu
end SO5
end
section
/-- what an instruction that is no call and no return needs of the tables -/
def ab_eok (own : String) (cc : ByteArray) (nm : String) (pc : Nat) (en : ab_E) : Prop := match en.1 with
  | .iconst n => decode cc pc = .ok (.iconst n, 1) ∧ ab_rg n
  | .bipush n => decode cc pc = .ok (.bipush n, 2) ∧ ab_rg n ∧ (Int8.ofInt n).toInt32 = Int32.ofInt n
  | .sipush n => decode cc pc = .ok (.sipush n, 3) ∧ ab_rg n ∧ (Int16.ofInt n).toInt32 = Int32.ofInt n
  | .ldc i => decode cc pc = .ok (.ldc i, 2) ∧ (en.2.2.1 = 0 → ab_rg en.2.2.2 ∧ Cond.constant own i (Int32.ofInt en.2.2.2) ∈ ab_tb) ∧ (en.2.2.1 ≠ 0 → own = "LoneAdjective$Reader" ∧ i = 50)
  | .ldc_w i => decode cc pc = .ok (.ldc_w i, 3) ∧ ab_rg en.2.2.2 ∧ Cond.constant own i (Int32.ofInt en.2.2.2) ∈ ab_tb
  | .ldc2_w i => decode cc pc = .ok (.ldc2_w i, 3) ∧ ab_rl en.2.2.2 ∧ Cond.constantLong own i (Int64.ofInt en.2.2.2) ∈ ab_tb
  | .goto off => decode cc pc = .ok (.goto off, 3) ∧ (pc : Int) + off = (en.2.2.1 : Int)
  | .ifCond c off => decode cc pc = .ok (.ifCond c off, 3) ∧ (pc : Int) + off = (en.2.2.1 : Int)
  | .if_icmp c off => decode cc pc = .ok (.if_icmp c off, 3) ∧ (pc : Int) + off = (en.2.2.1 : Int)
  | .tableswitch d lo hi offs => (∃ len, decode cc pc = .ok (.tableswitch d lo hi offs, len)) ∧ (pc : Int) + d = (en.2.2.1 : Int)
  | .lookupswitch d ps => (∃ len, decode cc pc = .ok (.lookupswitch d ps, len)) ∧ (ps.toList.zip (ps.toList.drop 1)).all (fun (a, next) => a.1 < next.1) = true
  | .getfield i => decode cc pc = .ok (.getfield i, 3) ∧ (en.2.2.2 ≠ 30 → ∃ q : ab_FL, q ∈ ab_flt ∧ own = ab_ows.getD q.1 "" ∧ q.2.1 = i ∧ q.2.2.1 = en.2.2.2 ∧ q.2.2.2.1 = en.2.2.1) ∧ (en.2.2.2 = 30 → own = "java/lang/String" ∧ ((en.2.2.1 = 0 ∧ i = 9) ∨ (en.2.2.1 ≠ 0 ∧ i = 15)))
  | .putfield i => decode cc pc = .ok (.putfield i, 3) ∧ (∃ q : ab_FL, q ∈ ab_flt ∧ own = ab_ows.getD q.1 "" ∧ q.2.1 = i ∧ q.2.2.1 = en.2.2.2 ∧ q.2.2.2.1 = en.2.2.1) ∧ (∀ (t : Nat) (r : vw_C), ab_tg en.2.2.2 t → vwCl[t]? = some r → (r.2.1 en.2.2.1).2.2.2 = false ∨ ((r.2.1 en.2.2.1).2.2.2 = true ∧ nm = "<init>" ∧ (r.2.1 en.2.2.1).1 = own))
  | .getstatic i => decode cc pc = .ok (.getstatic i, 3) ∧ ((en.2.2.2 = 0 ∧ own = "LoneAdjective$Reader" ∧ ((en.2.2.1 = 1001 ∧ Cond.fieldLink own i "LoneAdjective$Reader" "NUMBERS" "[I" ∈ ab_tb) ∨ (en.2.2.1 = 1002 ∧ Cond.fieldLink own i "LoneAdjective$Reader" "MOST" "[I" ∈ ab_tb) ∨ (en.2.2.1 = 1003 ∧ Cond.fieldLink own i "LoneAdjective$Reader" "DEED_BOUNDS" "[I" ∈ ab_tb))) ∨ (en.2.2.2 ≠ 0 ∧ en.2.2.1 = 1 ∧ Cond.fieldLink own i "java/lang/String" "COMPACT_STRINGS" "Z" ∈ ab_tb))
  | .new i => decode cc pc = .ok (.new i, 3) ∧ (∀ (t : Nat) (r : vw_C), en.2.2.2 = t → vwCl[t]? = some r → Cond.classLink own i r.1 ∈ ab_tb ∧ Cond.instantiable r.1 r.2.2 ∈ ab_tb ∧ Cond.initialized r.1 ∈ ab_tb)
  | .newarray a => decode cc pc = .ok (.newarray a, 2) ∧ (en.2.2.2 = 20 → a = .int) ∧ (en.2.2.2 = 21 → a = .boolean) ∧ (en.2.2.2 = 22 → a = .char)
  | .multianewarray i n => decode cc pc = .ok (.multianewarray i 2, 4) ∧ n = 2 ∧ Cond.classLink own i "[[I" ∈ ab_tb
  | .invokespecial i => decode cc pc = .ok (.invokespecial i, 3) ∧ Cond.methodLink own i Lib.objectInit ∈ ab_tb
  | .invokestatic i => decode cc pc = .ok (.invokestatic i, 3) ∧ (en.2.2.1 = 901 → Cond.methodLink own i arraycopyName ∈ ab_tb) ∧ (en.2.2.1 ≠ 901 → en.2.2.1 = 902 → Cond.methodLink own i Lib.Math.max.name ∈ ab_tb) ∧ (en.2.2.1 ≠ 901 → en.2.2.1 ≠ 902 → Cond.methodLink own i Lib.Math.min.name ∈ ab_tb)
  | .iinc n z => decode cc pc = .ok (.iinc n z, 3)
  | .iload n => decode cc pc = .ok (.iload n, 2)
  | .lload n => decode cc pc = .ok (.lload n, 2)
  | .aload n => decode cc pc = .ok (.aload n, 2)
  | .istore n => decode cc pc = .ok (.istore n, 2)
  | .lstore n => decode cc pc = .ok (.lstore n, 2)
  | .astore n => decode cc pc = .ok (.astore n, 2)
  | i => decode cc pc = .ok (i, 1)
section SO6
variable {p : Program} {l : Launch} {e : Env} {R : Room} {s : State} {m : MethodId} {args : Array Value} {below : List Frame} {meth : Method} {c : Code} {Q : State → Prop} {D : va_G} {I : ab_I4} {b0 : Nat} {sa : Nat → Nat} {L : Nat} {xs : Nat → Int32} {nL n0 s0 : Nat} {cc : ByteArray} {own : String} {pc : Nat} {ls : ab_L} {st : List ab_V} {M : ab_M}
set_option maxRecDepth 100000 in
theorem so_mm {idx : Nat} {b : Bool} {u : ab_St} (C : ab_cx p s m args c D I b0 sa L xs nL n0 cc own) (hd : decode cc pc = .ok (.invokestatic idx, 3)) (hlk : Cond.methodLink own idx (if b = true then Lib.Math.max.name else Lib.Math.min.name) ∈ ab_tb) (hR : 1 ≤ R.frames ∧ 100 ≤ R.locals) (hu : ab_mm b pc ls st M = some u) (hrm : ab_nc u.2.2.2 - n0 ≤ R.cells ∧ (u.2.2.2 999 1).toNat - s0 ≤ R.slots) (kk : ab_K p l e R s m args below meth c Q D I b0 sa L xs nL n0 s0 u.1 u.2.1 u.2.2.1 u.2.2.2) : ab_K p l e R s m args below meth c Q D I b0 sa L xs nL n0 s0 pc ls st M := by
  obtain ⟨hx, hb, hml, hown, hts, hK, hG, hsz⟩ := C
  unfold ab_mm at hu
  split at hu
  next y x r =>
    split at hu
    next hc =>
      cases hu
      intro H locs lc h
      obtain ⟨h1, h2, h3⟩ := h
      obtain ⟨hy, h2⟩ := List.forall_mem_cons.mp h2
      obtain ⟨hvx, h2⟩ := List.forall_mem_cons.mp h2
      have hy : ab_rg y := hy
      have hvx : ab_rg x := hvx
      have hcat : ((r.map (ab_cv b0 sa)).map fun v => v.category).sum = (r.map ab_cat).sum := by
        rw [List.map_map]
        congr 1
        apply List.map_congr_left
        intro v _
        exact ab_cat_cv b0 sa v
      have hini : Cond.initialized "java/lang/Math" ∈ ab_tb := ab_ix_mem (i := 83) (by decide +kernel)
      cases b with
      | true =>
        have kf := kk H locs lc ⟨h1, List.forall_mem_cons.mpr ⟨(show ab_rg (if true = true then (if x < y then y else x) else (if y < x then y else x)) by rw [if_pos rfl]; split <;> assumption), h2⟩, h3⟩
        refine va_mmax hx hb (by rw [hml]; exact h3.1.1.symm) hown (hts _ hlk) (hts _ (ab_ix_mem (i := 497) (by decide +kernel))) (hts _ hini) (hts _ (List.mem_filter.mpr ⟨List.mem_of_getElem? (i := 498) rfl, rfl⟩)) hR.1 (by rw [hcat]; omega) hrm.1 hrm.2 hd ?_
        have e : (if Int32.ofInt x < Int32.ofInt y then Int32.ofInt y else Int32.ofInt x) = Int32.ofInt (if x < y then y else x) := by
          simp only [ab_lt32 hvx hy]
          split <;> rfl
        rw [e]
        exact kf
      | false =>
        have kf := kk H locs lc ⟨h1, List.forall_mem_cons.mpr ⟨(show ab_rg (if false = true then (if x < y then y else x) else (if y < x then y else x)) by rw [if_neg (by decide)]; split <;> assumption), h2⟩, h3⟩
        refine va_mmin hx hb (by rw [hml]; exact h3.1.1.symm) hown (hts _ hlk) (hts _ (ab_ix_mem (i := 500) (by decide +kernel))) (hts _ hini) (hts _ (List.mem_filter.mpr ⟨List.mem_of_getElem? (i := 501) rfl, rfl⟩)) hR.1 (by rw [hcat]; omega) hrm.1 hrm.2 hd ?_
        have e : (if Int32.ofInt y < Int32.ofInt x then Int32.ofInt y else Int32.ofInt x) = Int32.ofInt (if y < x then y else x) := by
          simp only [ab_lt32 hy hvx]
          split <;> rfl
        rw [e]
        exact kf
    next => cases hu
  next => cases hu
theorem so_st1 {en : ab_E} {u : ab_St} (C : ab_cx p s m args c D I b0 sa L xs nL n0 cc own) (hR : 1 ≤ R.frames ∧ 100 ≤ R.locals) (hk : ab_eok own cc meth.name pc en) (hu : ab_st1 en pc ls st M = some u) (hrm : ab_nc u.2.2.2 - n0 ≤ R.cells ∧ (u.2.2.2 999 1).toNat - s0 ≤ R.slots)
    (hna2 : ∀ i : Nat, decode cc pc = .ok (.multianewarray i 2, 4) → Cond.classLink own i "[[I" ∈ ab_tb → ab_na2 pc ls st M = some u → ab_K p l e R s m args below meth c Q D I b0 sa L xs nL n0 s0 pc ls st M) (kk : ab_K p l e R s m args below meth c Q D I b0 sa L xs nL n0 s0 u.1 u.2.1 u.2.2.1 u.2.2.2) : ab_K p l e R s m args below meth c Q D I b0 sa L xs nL n0 s0 pc ls st M := by
  have C' := C
  obtain ⟨hx, hb, hml, hown, hts, hK, hG, hsz⟩ := C'
  obtain ⟨i, kd, k, x⟩ := en
  cases i with
  | iconst n =>
    obtain ⟨hd, hr⟩ : decode cc pc = .ok (.iconst n, 1) ∧ ab_rg n := hk
    cases hu
    exact so_push (v := .inl n) hr (fun H locs cells slots lc rest kw => lv_iconst hx hb hd rfl kw) kk
  | bipush n =>
    obtain ⟨hd, hr, hn8⟩ : decode cc pc = .ok (.bipush n, 2) ∧ ab_rg n ∧ (Int8.ofInt n).toInt32 = Int32.ofInt n := hk
    cases hu
    exact so_push (v := .inl n) hr (fun H locs cells slots lc rest kw => lv_bipush hx hb hd hn8 kw) kk
  | sipush n =>
    obtain ⟨hd, hr, hn8⟩ : decode cc pc = .ok (.sipush n, 3) ∧ ab_rg n ∧ (Int16.ofInt n).toInt32 = Int32.ofInt n := hk
    cases hu
    exact so_push (v := .inl n) hr (fun H locs cells slots lc rest kw => lv_sipush hx hb hd hn8 kw) kk
  | lconst n =>
    have hd : decode cc pc = .ok (.lconst n, 1) := hk
    cases hu
    refine so_push (v := .inr (.inl n.val)) ?_ (fun H locs cells slots lc rest kw => lv_lconst hx hb hd ?_ kw) kk
    · have := n.isLt
      exact ⟨by omega, by omega⟩
    · have : n = 0 ∨ n = 1 := by omega
      rcases this with rfl | rfl <;> rfl
  | ldc n =>
    obtain ⟨hd, h0, h1⟩ : decode cc pc = .ok (.ldc n, 2) ∧ (k = 0 → ab_rg x ∧ Cond.constant own n (Int32.ofInt x) ∈ ab_tb) ∧ (k ≠ 0 → own = "LoneAdjective$Reader" ∧ n = 50) := hk
    cases hu
    by_cases hk0 : k = 0
    · have kk : ab_K p l e R s m args below meth c Q D I b0 sa L xs nL n0 s0 (pc + 2) ls ((if k = 0 then .inl x else .inr (.inr 1004)) :: st) M := kk
      rw [if_pos hk0] at kk
      exact so_push (v := .inl x) (h0 hk0).1 (fun H locs cells slots lc rest kw => lv_ldc hx hb hown (hts _ (h0 hk0).2) hd kw) kk
    · have kk2 : ab_K p l e R s m args below meth c Q D I b0 sa L xs nL n0 s0 (pc + 2) ls ((if k = 0 then .inl x else .inr (.inr 1004)) :: st) M := kk
      rw [if_neg hk0] at kk2
      obtain ⟨ho, rfl⟩ := h1 hk0
      subst ho
      refine so_push (v := .inr (.inr 1004)) trivial (fun H locs cells slots lc rest kw => va_ldcS hx hb hown hG.2.2.2.1.1 hd ?_) kk2
      rw [ab_ads (by omega)] at kw
      exact kw
  | ldc_w n =>
    obtain ⟨hd, h0, h1⟩ : decode cc pc = .ok (.ldc_w n, 3) ∧ ab_rg x ∧ Cond.constant own n (Int32.ofInt x) ∈ ab_tb := hk
    cases hu
    exact so_push (v := .inl x) h0 (fun H locs cells slots lc rest kw => lv_ldcw hx hb hown (hts _ h1) hd kw) kk
  | ldc2_w n =>
    obtain ⟨hd, h0, h1⟩ : decode cc pc = .ok (.ldc2_w n, 3) ∧ ab_rl x ∧ Cond.constantLong own n (Int64.ofInt x) ∈ ab_tb := hk
    cases hu
    exact so_push (v := .inr (.inl x)) h0 (fun H locs cells slots lc rest kw => lv_ldc2 hx hb hown (hts _ h1) hd kw) kk
  | iload n =>
    have hd : decode cc pc = .ok (.iload n, 2) := hk
    refine so_lda hu (fun v hv H locs cells slots lc rest hl kw => ?_) kk
    rcases v with z | z | z
    · exact lv_iload hx hb hd hl kw
    · cases hv
    · cases hv
  | iload_n n =>
    have hd : decode cc pc = .ok (.iload_n n, 1) := hk
    refine so_lda hu (fun v hv H locs cells slots lc rest hl kw => ?_) kk
    rcases v with z | z | z
    · exact lv_iload_n hx hb hd rfl hl kw
    · cases hv
    · cases hv
  | lload n =>
    have hd : decode cc pc = .ok (.lload n, 2) := hk
    refine so_lda hu (fun v hv H locs cells slots lc rest hl kw => ?_) kk
    rcases v with z | z | z
    · cases hv
    · exact lv_lload hx hb hd hl kw
    · cases hv
  | lload_n n =>
    have hd : decode cc pc = .ok (.lload_n n, 1) := hk
    refine so_lda hu (fun v hv H locs cells slots lc rest hl kw => ?_) kk
    rcases v with z | z | z
    · cases hv
    · exact lv_lload_n hx hb hd rfl hl kw
    · cases hv
  | aload n =>
    have hd : decode cc pc = .ok (.aload n, 2) := hk
    refine so_lda hu (fun v hv H locs cells slots lc rest hl kw => ?_) kk
    rcases v with z | z | z
    · cases hv
    · cases hv
    · exact lv_aload hx hb hd hl kw
  | aload_n n =>
    have hd : decode cc pc = .ok (.aload_n n, 1) := hk
    refine so_lda hu (fun v hv H locs cells slots lc rest hl kw => ?_) kk
    rcases v with z | z | z
    · cases hv
    · cases hv
    · exact lv_aload_n hx hb hd rfl hl kw
  | istore n =>
    have hd : decode cc pc = .ok (.istore n, 2) := hk
    refine so_sto hu (fun v hv H locs cells slots lc rest hl hn kw => ?_) kk
    rcases v with z | z | z
    · exact lv_istore hx hb hd hl (by exact hn) rfl (fun lc' h' => kw lc' (ab_lvm h' (fun q hq => ab_set1_sub rfl hq)))
    · cases hv
    · cases hv
  | istore_n n =>
    have hd : decode cc pc = .ok (.istore_n n, 1) := hk
    refine so_sto hu (fun v hv H locs cells slots lc rest hl hn kw => ?_) kk
    rcases v with z | z | z
    · exact lv_istore_n hx hb hd rfl hl (by exact hn) rfl (fun lc' h' => kw lc' (ab_lvm h' (fun q hq => ab_set1_sub rfl hq)))
    · cases hv
    · cases hv
  | lstore n =>
    have hd : decode cc pc = .ok (.lstore n, 2) := hk
    refine so_sto hu (fun v hv H locs cells slots lc rest hl hn kw => ?_) kk
    rcases v with z | z | z
    · cases hv
    · exact lv_lstore hx hb hd hl (by exact hn) rfl (fun lc' h' => kw lc' (ab_lvm h' (fun q hq => ab_set2_sub hq)))
    · cases hv
  | astore n =>
    have hd : decode cc pc = .ok (.astore n, 2) := hk
    refine so_sto hu (fun v hv H locs cells slots lc rest hl hn kw => ?_) kk
    rcases v with z | z | z
    · cases hv
    · cases hv
    · exact lv_astore hx hb hd hl (by exact hn) rfl (fun lc' h' => kw lc' (ab_lvm h' (fun q hq => ab_set1_sub rfl hq)))
  | astore_n n =>
    have hd : decode cc pc = .ok (.astore_n n, 1) := hk
    refine so_sto hu (fun v hv H locs cells slots lc rest hl hn kw => ?_) kk
    rcases v with z | z | z
    · cases hv
    · cases hv
    · exact lv_astore_n hx hb hd rfl hl (by exact hn) rfl (fun lc' h' => kw lc' (ab_lvm h' (fun q hq => ab_set1_sub rfl hq)))
  | iinc n z => exact so_iinc hx hb hk hu kk
  | iadd =>
    have hd : decode cc pc = .ok (.iadd, 1) := hk
    refine so_i2 hu (fun a b z ha hb' hz => ?_) kk
    obtain ⟨hr, rfl⟩ := ab_cki hz
    exact ⟨hr, fun H locs cells slots lc rest kw => lv_iadd hx hb hd (by rw [← Int32.ofInt_add]; exact kw)⟩
  | isub =>
    have hd : decode cc pc = .ok (.isub, 1) := hk
    refine so_i2 hu (fun a b z ha hb' hz => ?_) kk
    obtain ⟨hr, rfl⟩ := ab_cki hz
    exact ⟨hr, fun H locs cells slots lc rest kw => lv_isub hx hb hd (by rw [← Int32.ofInt_sub]; exact kw)⟩
  | imul =>
    have hd : decode cc pc = .ok (.imul, 1) := hk
    refine so_i2 hu (fun a b z ha hb' hz => ?_) kk
    obtain ⟨hr, rfl⟩ := ab_cki hz
    exact ⟨hr, fun H locs cells slots lc rest kw => lv_imul hx hb hd (by rw [← Int32.ofInt_mul]; exact kw)⟩
  | idiv =>
    have hd : decode cc pc = .ok (.idiv, 1) := hk
    refine so_i2 hu (fun a b z ha hb' hz => ?_) kk
    obtain ⟨h0, hr, rfl⟩ := ab_divi hz
    refine ⟨hr, fun H locs cells slots lc rest kw => lv_idiv hx hb hd ?_ (by rw [ab_div32 ha hb']; exact kw)⟩
    intro q
    exact h0 ((ab_eq32 hb' ab_rg0).mp q)
  | irem =>
    have hd : decode cc pc = .ok (.irem, 1) := hk
    refine so_i2 hu (fun a b z ha hb' hz => ?_) kk
    obtain ⟨h0, hr, rfl⟩ := ab_remi hz
    refine ⟨ab_rem32 ha hb' h0, fun H locs cells slots lc rest kw => lv_irem hx hb hd ?_ ?_⟩
    · intro q
      exact h0 ((ab_eq32 hb' ab_rg0).mp q)
    · rw [ab_div32 ha hb', ← Int32.ofInt_mul, ← Int32.ofInt_sub]
      exact kw
  | iand =>
    have hd : decode cc pc = .ok (.iand, 1) := hk
    refine so_i2 (f := fun x y => some (ab_and x y)) hu (fun a b z ha hb' hz => ?_) kk
    cases hz
    refine ⟨ab_rgz _, fun H locs cells slots lc rest kw => lv_iand hx hb hd ?_⟩
    unfold ab_and at kw
    rw [Int32.ofInt_toInt] at kw
    exact kw
  | ior =>
    have hd : decode cc pc = .ok (.ior, 1) := hk
    refine so_i2 (f := fun x y => some (ab_or x y)) hu (fun a b z ha hb' hz => ?_) kk
    cases hz
    refine ⟨ab_rgz _, fun H locs cells slots lc rest kw => lv_ior hx hb hd ?_⟩
    unfold ab_or at kw
    rw [Int32.ofInt_toInt] at kw
    exact kw
  | ixor =>
    have hd : decode cc pc = .ok (.ixor, 1) := hk
    refine so_i2 (f := fun x y => some (ab_xor x y)) hu (fun a b z ha hb' hz => ?_) kk
    cases hz
    refine ⟨ab_rgz _, fun H locs cells slots lc rest kw => lv_ixor hx hb hd ?_⟩
    unfold ab_xor at kw
    rw [Int32.ofInt_toInt] at kw
    exact kw
  | ishl =>
    have hd : decode cc pc = .ok (.ishl, 1) := hk
    refine so_i2 (f := fun x y => some (ab_shl x y)) hu (fun a b z ha hb' hz => ?_) kk
    cases hz
    refine ⟨ab_rgz _, fun H locs cells slots lc rest kw => lv_ishl hx hb hd ?_⟩
    unfold ab_shl at kw
    rw [Int32.ofInt_toInt] at kw
    exact kw
  | ishr =>
    have hd : decode cc pc = .ok (.ishr, 1) := hk
    refine so_i2 (f := fun x y => some (ab_shr x y)) hu (fun a b z ha hb' hz => ?_) kk
    cases hz
    refine ⟨ab_rgz _, fun H locs cells slots lc rest kw => lv_ishr hx hb hd ?_⟩
    unfold ab_shr at kw
    rw [Int32.ofInt_toInt] at kw
    exact kw
  | ladd =>
    have hd : decode cc pc = .ok (.ladd, 1) := hk
    refine so_l2 hu (fun a b z ha hb' hz => ?_) kk
    obtain ⟨hr, rfl⟩ := ab_cli hz
    exact ⟨hr, fun H locs cells slots lc rest kw => lv_ladd hx hb hd (by rw [← Int64.ofInt_add]; exact kw)⟩
  | lmul =>
    have hd : decode cc pc = .ok (.lmul, 1) := hk
    refine so_l2 hu (fun a b z ha hb' hz => ?_) kk
    obtain ⟨hr, rfl⟩ := ab_cli hz
    exact ⟨hr, fun H locs cells slots lc rest kw => lv_lmul hx hb hd (by rw [← Int64.ofInt_mul]; exact kw)⟩
  | ldiv =>
    have hd : decode cc pc = .ok (.ldiv, 1) := hk
    refine so_l2 hu (fun a b z ha hb' hz => ?_) kk
    by_cases h0 : b = 0
    · rw [if_pos h0] at hz; cases hz
    · rw [if_neg h0] at hz
      obtain ⟨hr, rfl⟩ := ab_cli hz
      refine ⟨hr, fun H locs cells slots lc rest kw => lv_ldiv hx hb hd ?_ (by rw [ab_div64 ha hb']; exact kw)⟩
      intro q
      apply h0
      have := congrArg Int64.toInt q
      rw [ab_i64 hb'] at this
      exact this
  | land =>
    have hd : decode cc pc = .ok (.land, 1) := hk
    refine so_l2 (f := fun x y => some (ab_land x y)) hu (fun a b z ha hb' hz => ?_) kk
    cases hz
    refine ⟨ab_rlz _, fun H locs cells slots lc rest kw => lv_land hx hb hd ?_⟩
    unfold ab_land at kw
    rw [Int64.ofInt_toInt] at kw
    exact kw
  | i2l => exact so_cnv hx hb hk (Or.inl ⟨rfl, rfl⟩) hu kk
  | l2i => exact so_cnv hx hb hk (Or.inr (Or.inl ⟨rfl, rfl⟩)) hu kk
  | i2c => exact so_cnv hx hb hk (Or.inr (Or.inr (Or.inl ⟨rfl, rfl⟩))) hu kk
  | i2b => exact so_cnv hx hb hk (Or.inr (Or.inr (Or.inr ⟨rfl, rfl⟩))) hu kk
  | lcmp => exact so_lcmp hx hb hk hu kk
  | dup => exact so_dup hx hb hk hu kk
  | pop => exact so_pop hx hb hk hu kk
  | dup2 => exact so_dup2 hx hb hk hu kk
  | goto off =>
    obtain ⟨hd, ht⟩ : decode cc pc = .ok (.goto off, 3) ∧ (pc : Int) + off = (k : Int) := hk
    cases hu
    exact fun H locs lc h => lv_goto hx hb hd ht (kk H locs lc h)
  | ifCond c' off => exact so_br1 hx hb hk.1 hk.2 hu kk
  | if_icmp c' off => exact so_br2 hx hb hk.1 hk.2 hu kk
  | tableswitch d lo hi offs =>
    obtain ⟨⟨len, hd⟩, ht⟩ := hk
    exact so_sw hx hb hd ht hu kk
  | lookupswitch d ps =>
    obtain ⟨⟨len, hd⟩, ht⟩ := hk
    exact so_lsw hx hb hd ht hu kk
  | getfield i => exact so_get C hk.1 hk.2.1 hk.2.2 hu kk
  | putfield i => exact so_put C hk.1 hk.2.1 hk.2.2 hu kk
  | getstatic i =>
    obtain ⟨hd, hc⟩ := hk
    cases hu
    have kk : ab_K p l e R s m args below meth c Q D I b0 sa L xs nL n0 s0 (pc + 3) ls ((if x = 0 then .inr (.inr k) else .inl k) :: st) M := kk
    rcases hc with ⟨h0, ho, hq⟩ | ⟨h0, hq, hlk⟩
    · have h0 : x = 0 := h0
      rw [if_pos h0] at kk
      intro H locs lc h
      have hS := h.2.2.2.2.2.2.1
      have h' := h
      obtain ⟨h1, h2, h3⟩ := h'
      have kf := kk H locs lc ⟨h1, List.forall_mem_cons.mpr ⟨trivial, h2⟩, h3⟩
      rcases hq with ⟨hq, hlk⟩ | ⟨hq, hlk⟩ | ⟨hq, hlk⟩
      · have hq : k = 1001 := hq
        rw [List.map_cons, ab_ads (by omega), hq] at kf
        exact va_gets hx hb hG.2.2.1.1 hS hown (hts _ hlk) (fun _ h => h) hd kf
      · have hq : k = 1002 := hq
        rw [List.map_cons, ab_ads (by omega), hq] at kf
        exact va_gets hx hb hG.2.2.1.2.1 hS hown (hts _ hlk) (fun _ h => h) hd kf
      · have hq : k = 1003 := hq
        rw [List.map_cons, ab_ads (by omega), hq] at kf
        exact va_gets hx hb hG.2.2.1.2.2.1 hS hown (hts _ hlk) (fun _ h => h) hd kf
    · have h0 : x ≠ 0 := h0
      have hq : k = 1 := hq
      rw [if_neg h0, hq] at kk
      intro H locs lc h
      have hS := h.2.2.2.2.2.2.1
      obtain ⟨h1, h2, h3⟩ := h
      have kf := kk H locs lc ⟨h1, List.forall_mem_cons.mpr ⟨(by decide : ab_rg 1), h2⟩, h3⟩
      exact va_gets hx hb hG.2.2.1.2.2.2 hS hown (hts _ hlk) (fun _ h => h) hd kf
  | iaload => exact so_iald C hk hu kk
  | baload => exact so_bald C hk hu kk
  | caload => exact so_cald C hk hu kk
  | aaload => exact so_aald C hk hu kk
  | iastore => exact so_ast C hk (Or.inl ⟨rfl, rfl⟩) hu kk
  | bastore => exact so_ast C hk (Or.inr (Or.inl ⟨rfl, rfl⟩)) hu kk
  | castore => exact so_ast C hk (Or.inr (Or.inr ⟨rfl, rfl⟩)) hu kk
  | arraylength => exact so_len C hk hu kk
  | new i => exact so_new C hk.1 hk.2 hu hrm kk
  | newarray a => exact so_nar C hk.1 hk.2 hu hrm kk
  | multianewarray i n => exact hna2 i hk.1 hk.2.2 hu
  | invokespecial i => exact so_oi C hk.1 hk.2 hR hu kk
  | invokestatic i =>
    have hu : (if k = 901 then ab_cpy pc ls st M else ab_mm (decide (k = 902)) pc ls st M) = some u := hu
    by_cases h901 : k = 901
    · rw [if_pos h901] at hu
      exact so_cpy C hk.1 (hk.2.1 h901) hR hu kk
    · rw [if_neg h901] at hu
      by_cases h902 : k = 902
      · rw [decide_eq_true h902] at hu
        exact so_mm C hk.1 (by rw [if_pos rfl]; exact hk.2.2.1 h901 h902) hR hu hrm kk
      · rw [decide_eq_false h902] at hu
        exact so_mm C hk.1 (by rw [if_neg (by decide)]; exact hk.2.2.2 h901 h902) hR hu hrm kk
  | _ => cases hu
end SO6
end
section
/-! THE COUNTS ONLY GROW, and more steps or calls do no harm -/
section MONO
variable {p : Program} {l : Launch} {e : Env} {R : Room} {s : State} {m : MethodId} {args : Array Value} {below : List Frame} {meth : Method} {c : Code} {Q : State → Prop} {D : va_G} {I : ab_I4} {b0 : Nat} {sa : Nat → Nat} {L : Nat} {xs : Nat → Int32} {nL n0 s0 : Nat} {cc : ByteArray} {own : String} {pc : Nat} {ls : ab_L} {st : List ab_V} {M : ab_M}
def ab_up (M M' : ab_M) : Prop := M 999 0 ≤ M' 999 0 ∧ M 999 1 ≤ M' 999 1 ∧ M' 999 0 ≤ 995 ∧ M' 999 2 = M 999 2 ∧ M' 1000 = M 1000
theorem ab_up_rfl (h : M 999 0 ≤ 995) : ab_up M M := ⟨Int.le_refl _, Int.le_refl _, h, rfl, rfl⟩
theorem ab_up_trans {M1 M2 : ab_M} (h1 : ab_up M M1) (h2 : ab_up M1 M2) : ab_up M M2 := ⟨Int.le_trans h1.1 h2.1, Int.le_trans h1.2.1 h2.2.1, h2.2.2.1, h2.2.2.2.1.trans h1.2.2.2.1, h2.2.2.2.2.trans h1.2.2.2.2⟩
theorem ab_up_w {k f : Nat} {v : Int} (h : M 999 0 ≤ 995) (hk : k < ab_nc M) : ab_up M (ab_w M k f v) := by
  have h9 : k ≠ 999 := by unfold ab_nc at hk; omega
  have h10 : k ≠ 1000 := by unfold ab_nc at hk; omega
  have e : ab_w M k f v 999 = M 999 := ab_w_ne (Ne.symm h9)
  refine ⟨?_, ?_, ?_, ?_, ab_w_ne (Ne.symm h10)⟩ <;> rw [e] <;> first | exact Int.le_refl _ | exact h
theorem ab_up_mk (h : M 999 0 < 990) : ab_up M (ab_mk M) := by
  have hn : ab_nc M ≤ 995 := by unfold ab_nc; omega
  refine ⟨?_, ?_, ?_, ?_, ?_⟩
  · rw [ab_mk_9 hn, if_pos rfl]; omega
  · rw [ab_mk_9 hn, if_neg (by decide), if_pos rfl]; omega
  · rw [ab_mk_9 hn, if_pos rfl]; omega
  · rw [ab_mk_9 hn, if_neg (by decide), if_neg (by decide)]
  · funext b; unfold ab_mk; rw [if_neg (by omega), if_neg (by decide)]
theorem ab_up_mk2 {n b : Nat} (h : M 999 0 < 900) (hn : n < 10) : ab_up M (ab_mk2 M n b) := by
  have hc : ab_nc M ≤ 900 := by unfold ab_nc; omega
  have e9 : ∀ y, ab_mk2 M n b 999 y = if y = 0 then M 999 0 + 1 + n else if y = 1 then M 999 1 + n + n * b else M 999 y := by
    intro y
    unfold ab_mk2
    rw [if_neg (by omega), if_neg (by omega), if_pos rfl]
  refine ⟨?_, ?_, ?_, ?_, ?_⟩
  · rw [e9, if_pos rfl]; omega
  · rw [e9, if_neg (by decide), if_pos rfl]
    have : (0 : Int) ≤ (n : Int) * (b : Int) := Int.mul_nonneg (by omega) (by omega)
    omega
  · rw [e9, if_pos rfl]; omega
  · rw [e9, if_neg (by decide), if_neg (by decide)]
  · funext y; unfold ab_mk2; rw [if_neg (by omega), if_neg (by omega), if_neg (by decide)]
theorem ab_up_st1 {en : ab_E} {u : ab_St} (h : M 999 0 ≤ 995) (hu : ab_st1 en pc ls st M = some u) : ab_up M u.2.2.2 := by
  have same : u.2.2.2 = M → ab_up M u.2.2.2 := fun q => by rw [q]; exact ab_up_rfl h
  obtain ⟨i, kd, k, x⟩ := en
  cases i with
  | iconst n => cases hu; exact same rfl
  | bipush n => cases hu; exact same rfl
  | sipush n => cases hu; exact same rfl
  | lconst n => cases hu; exact same rfl
  | ldc n => cases hu; exact same rfl
  | ldc_w n => cases hu; exact same rfl
  | ldc2_w n => cases hu; exact same rfl
  | iload n => obtain ⟨v, -, -, rfl⟩ := iv_lda hu; exact same rfl
  | iload_n n => obtain ⟨v, -, -, rfl⟩ := iv_lda hu; exact same rfl
  | lload n => obtain ⟨v, -, -, rfl⟩ := iv_lda hu; exact same rfl
  | lload_n n => obtain ⟨v, -, -, rfl⟩ := iv_lda hu; exact same rfl
  | aload n => obtain ⟨v, -, -, rfl⟩ := iv_lda hu; exact same rfl
  | aload_n n => obtain ⟨v, -, -, rfl⟩ := iv_lda hu; exact same rfl
  | istore n => obtain ⟨v, r, -, -, -, rfl⟩ := iv_sto hu; exact same rfl
  | istore_n n => obtain ⟨v, r, -, -, -, rfl⟩ := iv_sto hu; exact same rfl
  | lstore n => obtain ⟨v, r, -, -, -, rfl⟩ := iv_sto hu; exact same rfl
  | astore n => obtain ⟨v, r, -, -, -, rfl⟩ := iv_sto hu; exact same rfl
  | astore_n n => obtain ⟨v, r, -, -, -, rfl⟩ := iv_sto hu; exact same rfl
  | iinc n z =>
    have hu : ab_iinc n z pc ls st M = some u := hu
    unfold ab_iinc at hu
    split at hu
    · split at hu
      · cases hu; exact same rfl
      · cases hu
    · cases hu
  | iadd => obtain ⟨a, b, z, r, -, -, rfl⟩ := iv_i2 (f := fun x y => ab_ck (x + y)) hu; exact same rfl
  | isub => obtain ⟨a, b, z, r, -, -, rfl⟩ := iv_i2 (f := fun x y => ab_ck (x - y)) hu; exact same rfl
  | imul => obtain ⟨a, b, z, r, -, -, rfl⟩ := iv_i2 (f := fun x y => ab_ck (x * y)) hu; exact same rfl
  | idiv => obtain ⟨a, b, z, r, -, -, rfl⟩ := iv_i2 (f := ab_div) hu; exact same rfl
  | irem => obtain ⟨a, b, z, r, -, -, rfl⟩ := iv_i2 (f := ab_rem) hu; exact same rfl
  | iand => obtain ⟨a, b, z, r, -, -, rfl⟩ := iv_i2 (f := fun x y => some (ab_and x y)) hu; exact same rfl
  | ior => obtain ⟨a, b, z, r, -, -, rfl⟩ := iv_i2 (f := fun x y => some (ab_or x y)) hu; exact same rfl
  | ixor => obtain ⟨a, b, z, r, -, -, rfl⟩ := iv_i2 (f := fun x y => some (ab_xor x y)) hu; exact same rfl
  | ishl => obtain ⟨a, b, z, r, -, -, rfl⟩ := iv_i2 (f := fun x y => some (ab_shl x y)) hu; exact same rfl
  | ishr => obtain ⟨a, b, z, r, -, -, rfl⟩ := iv_i2 (f := fun x y => some (ab_shr x y)) hu; exact same rfl
  | ladd => obtain ⟨a, b, z, r, -, -, rfl⟩ := iv_l2 (f := fun x y => ab_cl (x + y)) hu; exact same rfl
  | lmul => obtain ⟨a, b, z, r, -, -, rfl⟩ := iv_l2 (f := fun x y => ab_cl (x * y)) hu; exact same rfl
  | ldiv => obtain ⟨a, b, z, r, -, -, rfl⟩ := iv_l2 (f := fun x y => if y = 0 then none else ab_cl (x.tdiv y)) hu; exact same rfl
  | land => obtain ⟨a, b, z, r, -, -, rfl⟩ := iv_l2 (f := fun x y => some (ab_land x y)) hu; exact same rfl
  | i2l =>
    have hu : ab_cnv 0 pc ls st M = some u := hu
    unfold ab_cnv at hu
    split at hu
    · simp at hu; subst hu; exact same rfl
    · simp at hu
    · cases hu
  | l2i =>
    have hu : ab_cnv 1 pc ls st M = some u := hu
    unfold ab_cnv at hu
    split at hu
    · simp at hu
    · split at hu
      · cases hu; exact same rfl
      · cases hu
    · cases hu
  | i2c =>
    have hu : ab_cnv 2 pc ls st M = some u := hu
    unfold ab_cnv at hu
    split at hu
    · simp at hu; obtain ⟨-, rfl⟩ := hu; exact same rfl
    · simp at hu
    · cases hu
  | i2b =>
    have hu : ab_cnv 3 pc ls st M = some u := hu
    unfold ab_cnv at hu
    split at hu
    · simp at hu; obtain ⟨-, rfl⟩ := hu; exact same rfl
    · simp at hu
    · cases hu
  | lcmp =>
    have hu : ab_lcmp pc ls st M = some u := hu
    unfold ab_lcmp at hu
    split at hu
    · cases hu; exact same rfl
    · cases hu
  | dup =>
    have hu : ab_dup pc ls st M = some u := hu
    unfold ab_dup at hu
    split at hu
    · split at hu
      · cases hu; exact same rfl
      · cases hu
    · cases hu
  | pop =>
    have hu : ab_pop pc ls st M = some u := hu
    unfold ab_pop at hu
    split at hu
    · split at hu
      · cases hu; exact same rfl
      · cases hu
    · cases hu
  | dup2 =>
    have hu : ab_dup2 pc ls st M = some u := hu
    unfold ab_dup2 at hu
    split at hu
    · split at hu
      · cases hu; exact same rfl
      · cases hu
    · cases hu
  | goto off => cases hu; exact same rfl
  | ifCond c' off => obtain ⟨a, r, -, rfl⟩ := iv_br1 (c := c') (k := k) hu; exact same rfl
  | if_icmp c' off => obtain ⟨a, b, r, -, rfl⟩ := iv_br2 (c := c') (k := k) hu; exact same rfl
  | tableswitch d lo hi offs =>
    have hu : ab_sw pc k lo hi offs ls st M = some u := hu
    unfold ab_sw at hu
    split at hu
    · split at hu
      · cases hu; exact same rfl
      · split at hu
        · split at hu
          · cases hu; exact same rfl
          · cases hu
        · cases hu
    · cases hu
  | lookupswitch d ps =>
    have hu : ab_lsw pc d ps ls st M = some u := hu
    unfold ab_lsw at hu
    split at hu
    · split at hu
      · cases hu; exact same rfl
      · cases hu
    · cases hu
  | getfield i =>
    have hu : ab_get k x pc ls st M = some u := hu
    unfold ab_get at hu
    split at hu
    · split at hu
      · split at hu
        · split at hu
          · cases hu; exact same rfl
          · cases hu; exact same rfl
        · cases hu
      · split at hu
        · split at hu
          · split at hu
            · cases hu; exact same rfl
            · cases hu
          · cases hu; exact same rfl
        · cases hu
    · cases hu
  | putfield i =>
    have hu : ab_put k x pc ls st M = some u := hu
    unfold ab_put at hu
    split at hu
    · split at hu
      next hc => cases hu; exact ab_up_w h hc.1.1
      next => cases hu
    · split at hu
      next hc => cases hu; exact ab_up_w h hc.1.1
      next => cases hu
    · cases hu
  | getstatic i => cases hu; exact same rfl
  | iaload => obtain ⟨i, k, r, -, (⟨-, -, (⟨-, -, -, rfl⟩ | ⟨-, rfl⟩)⟩ | ⟨-, -, -, -, rfl⟩ | ⟨-, -, -, -, rfl⟩)⟩ := iv_ald hu <;> exact same rfl
  | baload => obtain ⟨i, k, r, -, (⟨-, -, (⟨-, -, -, rfl⟩ | ⟨-, rfl⟩)⟩ | ⟨-, -, -, -, rfl⟩ | ⟨-, -, -, -, rfl⟩)⟩ := iv_ald hu <;> exact same rfl
  | caload => obtain ⟨i, k, r, -, (⟨-, -, (⟨-, -, -, rfl⟩ | ⟨-, rfl⟩)⟩ | ⟨-, -, -, -, rfl⟩ | ⟨-, -, -, -, rfl⟩)⟩ := iv_ald hu <;> exact same rfl
  | aaload => obtain ⟨i, k, r, -, (⟨-, -, (⟨-, -, -, rfl⟩ | ⟨-, rfl⟩)⟩ | ⟨-, -, -, -, rfl⟩ | ⟨-, -, -, -, rfl⟩)⟩ := iv_ald hu <;> exact same rfl
  | iastore => obtain ⟨v, i, k, r, -, ha, -, -, rfl⟩ := iv_ast hu; exact ab_up_w h ha.1
  | bastore => obtain ⟨v, i, k, r, -, ha, -, -, rfl⟩ := iv_ast hu; exact ab_up_w h ha.1
  | castore => obtain ⟨v, i, k, r, -, ha, -, -, rfl⟩ := iv_ast hu; exact ab_up_w h ha.1
  | arraylength =>
    have hu : ab_len pc ls st M = some u := hu
    unfold ab_len at hu
    split at hu
    · split at hu
      · split at hu
        · cases hu; exact same rfl
        · cases hu
      · split at hu
        · cases hu; exact same rfl
        · split at hu
          · cases hu; exact same rfl
          · cases hu
    · cases hu
  | new i =>
    have hu : ab_new x pc ls st M = some u := hu
    unfold ab_new at hu
    split at hu
    next hc => cases hu; exact ab_up_mk hc.2.1
    next => cases hu
  | newarray a =>
    have hu : ab_nar x pc ls st M = some u := hu
    unfold ab_nar at hu
    split at hu
    · split at hu
      next hc => cases hu; exact ab_up_mk hc.2.1
      next => cases hu
    · cases hu
  | multianewarray i n =>
    have hu : ab_na2 pc ls st M = some u := hu
    unfold ab_na2 at hu
    split at hu
    · split at hu
      next hc => cases hu; exact ab_up_mk2 hc.2.1 (by omega)
      next => cases hu
    · cases hu
  | invokespecial i =>
    have hu : ab_oi pc ls st M = some u := hu
    unfold ab_oi at hu
    split at hu
    · split at hu
      · cases hu; exact same rfl
      · cases hu
    · cases hu
  | invokestatic i =>
    have hu : (if k = 901 then ab_cpy pc ls st M else ab_mm (decide (k = 902)) pc ls st M) = some u := hu
    split at hu
    · unfold ab_cpy at hu
      split at hu
      · split at hu
        next hc =>
          cases hu
          have e9 := hc.2.1
          unfold ab_nc at e9
          refine ⟨?_, ?_, ?_, ?_, ab_cpm_ne (by omega)⟩ <;> dsimp only <;> rw [ab_cpm_ne (by omega)] <;> first | exact Int.le_refl _ | exact h
        next => cases hu
      · cases hu
    · unfold ab_mm at hu
      split at hu
      · split at hu
        · cases hu; exact same rfl
        · cases hu
      · cases hu
  | _ => cases hu
theorem ab_up_run : ∀ (n d mm pc : Nat) (ls : ab_L) (st : List ab_V) (M : ab_M) (z : Option ab_V × ab_M), M 999 0 ≤ 995 → ab_run n d mm pc ls st M = some z → ab_up M z.2 := by
  intro n
  induction n with
  | zero => intro d mm pc ls st M z _ hr; cases hr
  | succ n ih =>
    intro d mm pc ls st M z h hr
    rw [ab_run] at hr
    split at hr
    · cases hr
    next en hat =>
      split at hr
      · split at hr
        · cases hr
        next u hu =>
          have h1 := ab_up_st1 h hu
          exact ab_up_trans h1 (ih _ _ _ _ _ _ _ h1.2.2.1 hr)
      · split at hr
        · cases hr
        · split at hr
          · cases hr
          next q hq =>
            split at hr
            · cases hr
            next w hw =>
              have h1 := ih _ _ _ _ _ _ _ h hw
              exact ab_up_trans h1 (ih _ _ _ _ _ _ _ h1.2.2.1 hr)
      · unfold ab_ret at hr
        split at hr
        · split at hr
          · cases hr; exact ab_up_rfl h
          · cases hr
        · split at hr
          · cases hr; exact ab_up_rfl h
          · cases hr
        · cases hr
      · cases hr
end MONO
end
section
/-! LINKS OF CALLS, constants, classes, by program -/
abbrev ab_RC : Type := MethodName × (ByteArray × (Nat × Option FieldType))
theorem ab_cdm {i : Nat} {y : MethodName} {b : ByteArray} {n : Nat} {r : Option FieldType} (h : lw_tbl[i]? = some (.code y b n r)) : Cond.code y b n r ∈ ab_tb := List.mem_filter.mpr ⟨List.mem_of_getElem? h, rfl⟩
set_option maxRecDepth 100000 in
theorem ab_cd_0 : Cond.code yX0_init cX0_init 1 (none) ∈ ab_tb := ab_cdm (i := 282) rfl
set_option maxRecDepth 100000 in
theorem ab_cd_1 : Cond.code yX0_find cX0_find 5 (none) ∈ ab_tb := ab_cdm (i := 728) rfl
set_option maxRecDepth 100000 in
theorem ab_cd_2 : Cond.code yX0_meet cX0_meet 5 (none) ∈ ab_tb := ab_cdm (i := 744) rfl
set_option maxRecDepth 100000 in
theorem ab_cd_3 : Cond.code yX1_init cX1_init 1 (none) ∈ ab_tb := ab_cdm (i := 364) rfl
set_option maxRecDepth 100000 in
theorem ab_cd_4 : Cond.code yX1_find cX1_find 3 (none) ∈ ab_tb := ab_cdm (i := 815) rfl
set_option maxRecDepth 100000 in
theorem ab_cd_5 : Cond.code yX1_lendOn cX1_lendOn 9 (none) ∈ ab_tb := ab_cdm (i := 820) rfl
set_option maxRecDepth 100000 in
theorem ab_cd_6 : Cond.code yX1_compare cX1_compare 4 (none) ∈ ab_tb := ab_cdm (i := 824) rfl
set_option maxRecDepth 100000 in
theorem ab_cd_7 : Cond.code yX2_init cX2_init 1 (none) ∈ ab_tb := ab_cdm (i := 379) rfl
set_option maxRecDepth 100000 in
theorem ab_cd_8 : Cond.code yX2_place cX2_place 3 (some .int) ∈ ab_tb := ab_cdm (i := 858) rfl
set_option maxRecDepth 100000 in
theorem ab_cd_9 : Cond.code yX2_solve cX2_solve 6 (none) ∈ ab_tb := ab_cdm (i := 854) rfl
set_option maxRecDepth 100000 in
theorem ab_cd_10 : Cond.code yX2_decideAt cX2_decideAt 6 (some .boolean) ∈ ab_tb := ab_cdm (i := 862) rfl
set_option maxRecDepth 100000 in
theorem ab_cd_11 : Cond.code yX2_decide cX2_decide 14 (some .boolean) ∈ ab_tb := ab_cdm (i := 866) rfl
set_option maxRecDepth 100000 in
theorem ab_cd_12 : Cond.code yX3_init cX3_init 1 (none) ∈ ab_tb := ab_cdm (i := 334) rfl
set_option maxRecDepth 100000 in
theorem ab_cd_13 : Cond.code yX3_add cX3_add 3 (some .boolean) ∈ ab_tb := ab_cdm (i := 895) rfl
set_option maxRecDepth 100000 in
theorem ab_cd_14 : Cond.code yX3_find cX3_find 3 (none) ∈ ab_tb := ab_cdm (i := 903) rfl
set_option maxRecDepth 100000 in
theorem ab_cd_15 : Cond.code yX3_meet cX3_meet 4 (none) ∈ ab_tb := ab_cdm (i := 757) rfl
set_option maxRecDepth 100000 in
theorem ab_cd_16 : Cond.code yX3_agrees cX3_agrees 2 (some .boolean) ∈ ab_tb := ab_cdm (i := 761) rfl
set_option maxRecDepth 100000 in
theorem ab_cd_17 : Cond.code yX3_placeOf cX3_placeOf 6 (some .int) ∈ ab_tb := ab_cdm (i := 765) rfl
set_option maxRecDepth 100000 in
theorem ab_cd_18 : Cond.code yX4_init cX4_init 1 (none) ∈ ab_tb := ab_cdm (i := 265) rfl
set_option maxRecDepth 100000 in
theorem ab_cd_19 : Cond.code yX4_add cX4_add 3 (some .boolean) ∈ ab_tb := ab_cdm (i := 919) rfl
set_option maxRecDepth 100000 in
theorem ab_cd_20 : Cond.code yX4_firstWrong cX4_firstWrong 3 (some .int) ∈ ab_tb := ab_cdm (i := 927) rfl
set_option maxRecDepth 100000 in
theorem ab_cd_21 : Cond.code yX5_init cX5_init 1 (none) ∈ ab_tb := ab_cdm (i := 320) rfl
set_option maxRecDepth 100000 in
theorem ab_cd_22 : Cond.code yX5_find cX5_find 6 (none) ∈ ab_tb := ab_cdm (i := 791) rfl
set_option maxRecDepth 100000 in
theorem ab_cd_23 : Cond.code yX5_meet cX5_meet 4 (none) ∈ ab_tb := ab_cdm (i := 773) rfl
set_option maxRecDepth 100000 in
theorem ab_cd_24 : Cond.code yX6_init cX6_init 1 (none) ∈ ab_tb := ab_cdm (i := 100) rfl
set_option maxRecDepth 100000 in
theorem ab_cd_25 : Cond.code yX6_add cX6_add 2 (some .boolean) ∈ ab_tb := ab_cdm (i := 447) rfl
set_option maxRecDepth 100000 in
theorem ab_cd_26 : Cond.code yX6_read cX6_read 3 (some .int) ∈ ab_tb := ab_cdm (i := 456) rfl
set_option maxRecDepth 100000 in
theorem ab_cd_27 : Cond.code yX6_skipBlanks cX6_skipBlanks 1 (none) ∈ ab_tb := ab_cdm (i := 462) rfl
set_option maxRecDepth 100000 in
theorem ab_cd_28 : Cond.code yX6_readClause cX6_readClause 4 (none) ∈ ab_tb := ab_cdm (i := 466) rfl
set_option maxRecDepth 100000 in
theorem ab_cd_29 : Cond.code yX6_readEnd cX6_readEnd 3 (none) ∈ ab_tb := ab_cdm (i := 581) rfl
set_option maxRecDepth 100000 in
theorem ab_cd_30 : Cond.code yX6_isFigure cX6_isFigure 1 (some .boolean) ∈ ab_tb := ab_cdm (i := 564) rfl
set_option maxRecDepth 100000 in
theorem ab_cd_31 : Cond.code yX6_readNumber cX6_readNumber 7 (none) ∈ ab_tb := ab_cdm (i := 561) rfl
set_option maxRecDepth 100000 in
theorem ab_cd_32 : Cond.code yX6_lowest cX6_lowest 2 (some .int) ∈ ab_tb := ab_cdm (i := 567) rfl
set_option maxRecDepth 100000 in
theorem ab_cd_33 : Cond.code yX6_highest cX6_highest 4 (some .int) ∈ ab_tb := ab_cdm (i := 571) rfl
set_option maxRecDepth 100000 in
theorem ab_cd_34 : Cond.code yX6_again cX6_again 5 (some .boolean) ∈ ab_tb := ab_cdm (i := 577) rfl
set_option maxRecDepth 100000 in
theorem ab_cd_35 : Cond.code yX6_take cX6_take 3 (none) ∈ ab_tb := ab_cdm (i := 585) rfl
set_option maxRecDepth 100000 in
theorem ab_cd_36 : Cond.code yX6_takeDeed cX6_takeDeed 3 (none) ∈ ab_tb := ab_cdm (i := 589) rfl
set_option maxRecDepth 100000 in
theorem ab_cd_37 : Cond.code yX7_init cX7_init 1 (none) ∈ ab_tb := ab_cdm (i := 285) rfl
set_option maxRecDepth 100000 in
theorem ab_cd_38 : Cond.code yX7_tryAll cX7_tryAll 5 (none) ∈ ab_tb := ab_cdm (i := 734) rfl
set_option maxRecDepth 100000 in
theorem ab_cd_39 : Cond.code yX7_goOn cX7_goOn 8 (none) ∈ ab_tb := ab_cdm (i := 738) rfl
set_option maxRecDepth 100000 in
theorem ab_cd_40 : Cond.code yX7_setOfRow cX7_setOfRow 4 (some .int) ∈ ab_tb := ab_cdm (i := 750) rfl
set_option maxRecDepth 100000 in
theorem ab_cd_41 : Cond.code yX8_init cX8_init 1 (none) ∈ ab_tb := ab_cdm (i := 233) rfl
set_option maxRecDepth 100000 in
theorem ab_cd_42 : Cond.code yX8_beginIn cX8_beginIn 2 (none) ∈ ab_tb := ab_cdm (i := 601) rfl
set_option maxRecDepth 100000 in
theorem ab_cd_43 : Cond.code yX8_become cX8_become 2 (none) ∈ ab_tb := ab_cdm (i := 943) rfl
set_option maxRecDepth 100000 in
theorem ab_cd_44 : Cond.code yX8_standOf cX8_standOf 3 (some .int) ∈ ab_tb := ab_cdm (i := 618) rfl
set_option maxRecDepth 100000 in
theorem ab_cd_45 : Cond.code yX8_reaches cX8_reaches 3 (some .boolean) ∈ ab_tb := ab_cdm (i := 677) rfl
set_option maxRecDepth 100000 in
theorem ab_cd_46 : Cond.code yX8_hand cX8_hand 3 (none) ∈ ab_tb := ab_cdm (i := 684) rfl
set_option maxRecDepth 100000 in
theorem ab_cd_47 : Cond.code yX8_finish cX8_finish 3 (none) ∈ ab_tb := ab_cdm (i := 692) rfl
set_option maxRecDepth 100000 in
theorem ab_cd_48 : Cond.code yX8_draw cX8_draw 2 (some .int) ∈ ab_tb := ab_cdm (i := 712) rfl
set_option maxRecDepth 100000 in
theorem ab_cd_49 : Cond.code yX9_init cX9_init 1 (none) ∈ ab_tb := ab_cdm (i := 129) rfl
set_option maxRecDepth 100000 in
theorem ab_cd_50 : Cond.code yX9_clear cX9_clear 2 (none) ∈ ab_tb := ab_cdm (i := 136) rfl
set_option maxRecDepth 100000 in
theorem ab_cd_51 : Cond.code yX9_isSquare cX9_isSquare 2 (some .boolean) ∈ ab_tb := ab_cdm (i := 630) rfl
set_option maxRecDepth 100000 in
theorem ab_cd_52 : Cond.code yX9_isPerson cX9_isPerson 2 (some .boolean) ∈ ab_tb := ab_cdm (i := 644) rfl
set_option maxRecDepth 100000 in
theorem ab_cd_53 : Cond.code yX9_areTwoPeople cX9_areTwoPeople 3 (some .boolean) ∈ ab_tb := ab_cdm (i := 660) rfl
set_option maxRecDepth 100000 in
theorem ab_cd_54 : Cond.code yX9_isDeed cX9_isDeed 2 (some .boolean) ∈ ab_tb := ab_cdm (i := 652) rfl
set_option maxRecDepth 100000 in
theorem ab_cd_55 : Cond.code yX9_isWord cX9_isWord 2 (some .boolean) ∈ ab_tb := ab_cdm (i := 669) rfl
set_option maxRecDepth 100000 in
theorem ab_cd_56 : Cond.code yX9_measure cX9_measure 4 (none) ∈ ab_tb := ab_cdm (i := 593) rfl
set_option maxRecDepth 100000 in
theorem ab_cd_57 : Cond.code yX9_shorten cX9_shorten 5 (none) ∈ ab_tb := ab_cdm (i := 597) rfl
set_option maxRecDepth 100000 in
theorem ab_cd_58 : Cond.code yX9_between cX9_between 3 (some .int) ∈ ab_tb := ab_cdm (i := 635) rfl
set_option maxRecDepth 100000 in
theorem ab_cd_59 : Cond.code yX9_squareOf cX9_squareOf 2 (some .int) ∈ ab_tb := ab_cdm (i := 769) rfl
set_option maxRecDepth 100000 in
theorem ab_cd_60 : Cond.code yX9_worthOf cX9_worthOf 4 (some .int) ∈ ab_tb := ab_cdm (i := 622) rfl
set_option maxRecDepth 100000 in
theorem ab_cd_61 : Cond.code yX9_costOf cX9_costOf 4 (some .int) ∈ ab_tb := ab_cdm (i := 807) rfl
set_option maxRecDepth 100000 in
theorem ab_cd_62 : Cond.code yX9_deedsOf cX9_deedsOf 4 (some .int) ∈ ab_tb := ab_cdm (i := 875) rfl
set_option maxRecDepth 100000 in
theorem ab_cd_63 : Cond.code yX9_endOf cX9_endOf 6 (some .int) ∈ ab_tb := ab_cdm (i := 780) rfl
set_option maxRecDepth 100000 in
theorem ab_cd_64 : Cond.code yX10_init cX10_init 1 (none) ∈ ab_tb := ab_cdm (i := 92) rfl
set_option maxRecDepth 100000 in
theorem ab_cd_65 : Cond.code yX10_feed cX10_feed 2 (some .int) ∈ ab_tb := ab_cdm (i := 442) rfl
set_option maxRecDepth 100000 in
theorem ab_cd_66 : Cond.code yX10_town cX10_town 3 (some .int) ∈ ab_tb := ab_cdm (i := 452) rfl
set_option maxRecDepth 100000 in
theorem ab_cd_67 : Cond.code yX10_fault cX10_fault 1 (some .int) ∈ ab_tb := ab_cdm (i := 606) rfl
set_option maxRecDepth 100000 in
theorem ab_cd_68 : Cond.code yX10_told cX10_told 2 (some .int) ∈ ab_tb := ab_cdm (i := 610) rfl
set_option maxRecDepth 100000 in
theorem ab_cd_69 : Cond.code yX10_far cX10_far 3 (some .int) ∈ ab_tb := ab_cdm (i := 626) rfl
set_option maxRecDepth 100000 in
theorem ab_cd_70 : Cond.code yX10_person cX10_person 3 (some .int) ∈ ab_tb := ab_cdm (i := 640) rfl
set_option maxRecDepth 100000 in
theorem ab_cd_71 : Cond.code yX10_deed cX10_deed 3 (some .int) ∈ ab_tb := ab_cdm (i := 648) rfl
set_option maxRecDepth 100000 in
theorem ab_cd_72 : Cond.code yX10_trust cX10_trust 3 (some .int) ∈ ab_tb := ab_cdm (i := 656) rfl
set_option maxRecDepth 100000 in
theorem ab_cd_73 : Cond.code yX10_lets cX10_lets 2 (some .int) ∈ ab_tb := ab_cdm (i := 665) rfl
set_option maxRecDepth 100000 in
theorem ab_cd_74 : Cond.code yX10_lend cX10_lend 2 (some .int) ∈ ab_tb := ab_cdm (i := 673) rfl
set_option maxRecDepth 100000 in
theorem ab_cd_75 : Cond.code yX10_act cX10_act 2 (some .int) ∈ ab_tb := ab_cdm (i := 688) rfl
set_option maxRecDepth 100000 in
theorem ab_cd_76 : Cond.code yX10_drop cX10_drop 2 (some .int) ∈ ab_tb := ab_cdm (i := 696) rfl
set_option maxRecDepth 100000 in
theorem ab_cd_77 : Cond.code yX10_pass cX10_pass 2 (some .int) ∈ ab_tb := ab_cdm (i := 700) rfl
set_option maxRecDepth 100000 in
theorem ab_cd_78 : Cond.code yX10_drift cX10_drift 3 (some .int) ∈ ab_tb := ab_cdm (i := 704) rfl
set_option maxRecDepth 100000 in
theorem ab_cd_79 : Cond.code yX10_round cX10_round 2 (some .int) ∈ ab_tb := ab_cdm (i := 724) rfl
set_option maxRecDepth 100000 in
theorem ab_cd_80 : Cond.code yX10_two cX10_two 5 (some .int) ∈ ab_tb := ab_cdm (i := 787) rfl
set_option maxRecDepth 100000 in
theorem ab_cd_81 : Cond.code yX10_reword cX10_reword 7 (some .int) ∈ ab_tb := ab_cdm (i := 803) rfl
set_option maxRecDepth 100000 in
theorem ab_cd_82 : Cond.code yX10_chain cX10_chain 4 (some .int) ∈ ab_tb := ab_cdm (i := 811) rfl
set_option maxRecDepth 100000 in
theorem ab_cd_83 : Cond.code yX10_lost cX10_lost 4 (some .int) ∈ ab_tb := ab_cdm (i := 829) rfl
set_option maxRecDepth 100000 in
theorem ab_cd_84 : Cond.code yX10_sold cX10_sold 5 (some .int) ∈ ab_tb := ab_cdm (i := 833) rfl
set_option maxRecDepth 100000 in
theorem ab_cd_85 : Cond.code yX10_thief cX10_thief 6 (some .int) ∈ ab_tb := ab_cdm (i := 850) rfl
set_option maxRecDepth 100000 in
theorem ab_cd_86 : Cond.code yX10_vote cX10_vote 6 (some .int) ∈ ab_tb := ab_cdm (i := 871) rfl
set_option maxRecDepth 100000 in
theorem ab_cd_87 : Cond.code yX10_bestWord cX10_bestWord 1 (some .int) ∈ ab_tb := ab_cdm (i := 887) rfl
set_option maxRecDepth 100000 in
theorem ab_cd_88 : Cond.code yX10_tell cX10_tell 3 (some .int) ∈ ab_tb := ab_cdm (i := 891) rfl
set_option maxRecDepth 100000 in
theorem ab_cd_89 : Cond.code yX10_days cX10_days 1 (some .int) ∈ ab_tb := ab_cdm (i := 899) rfl
set_option maxRecDepth 100000 in
theorem ab_cd_90 : Cond.code yX10_where cX10_where 2 (some .int) ∈ ab_tb := ab_cdm (i := 910) rfl
set_option maxRecDepth 100000 in
theorem ab_cd_91 : Cond.code yX10_write cX10_write 3 (some .int) ∈ ab_tb := ab_cdm (i := 914) rfl
set_option maxRecDepth 100000 in
theorem ab_cd_92 : Cond.code yX10_judge cX10_judge 1 (some .int) ∈ ab_tb := ab_cdm (i := 923) rfl
set_option maxRecDepth 100000 in
theorem ab_cd_93 : Cond.code yX10_tear cX10_tear 2 (some .int) ∈ ab_tb := ab_cdm (i := 931) rfl
set_option maxRecDepth 100000 in
theorem ab_cd_94 : Cond.code yX10_seed cX10_seed 3 (some .int) ∈ ab_tb := ab_cdm (i := 935) rfl
set_option maxRecDepth 100000 in
theorem ab_cd_95 : Cond.code yX10_keep cX10_keep 3 (some .int) ∈ ab_tb := ab_cdm (i := 939) rfl
set_option maxRecDepth 100000 in
theorem ab_cd_96 : Cond.code yX10_goBack cX10_goBack 3 (some .int) ∈ ab_tb := ab_cdm (i := 948) rfl
set_option maxRecDepth 100000 in
theorem ab_cd_97 : Cond.code yX10_deedsThatAre cX10_deedsThatAre 4 (some .int) ∈ ab_tb := ab_cdm (i := 614) rfl
set_option maxRecDepth 100000 in
theorem ab_cd_98 : Cond.code yX10_driftOnce cX10_driftOnce 3 (none) ∈ ab_tb := ab_cdm (i := 708) rfl
set_option maxRecDepth 100000 in
theorem ab_cd_99 : Cond.code yX10_firstOpenOf cX10_firstOpenOf 3 (some .int) ∈ ab_tb := ab_cdm (i := 720) rfl
set_option maxRecDepth 100000 in
theorem ab_cd_100 : Cond.code yX10_mostBeside cX10_mostBeside 5 (some .int) ∈ ab_tb := ab_cdm (i := 798) rfl
set_option maxRecDepth 100000 in
theorem ab_cd_101 : Cond.code yX10_sellMinute cX10_sellMinute 3 (none) ∈ ab_tb := ab_cdm (i := 838) rfl
set_option maxRecDepth 100000 in
theorem ab_cd_102 : Cond.code yX10_bidOf cX10_bidOf 2 (some .int) ∈ ab_tb := ab_cdm (i := 846) rfl
set_option maxRecDepth 100000 in
theorem ab_cd_103 : Cond.code yX10_highestBidder cX10_highestBidder 4 (some .int) ∈ ab_tb := ab_cdm (i := 842) rfl
set_option maxRecDepth 100000 in
theorem ab_cd_104 : Cond.code yX10_wordForMost cX10_wordForMost 6 (some .int) ∈ ab_tb := ab_cdm (i := 879) rfl
set_option maxRecDepth 100000 in
theorem ab_cd_105 : Cond.code yX10_mostVoted cX10_mostVoted 4 (some .int) ∈ ab_tb := ab_cdm (i := 883) rfl
set_option maxRecDepth 100000 in
theorem ab_cd_106 : Cond.code yX11_init cX11_init 2 (none) ∈ ab_tb := ab_cdm (i := 953) rfl
set_option maxRecDepth 100000 in
theorem ab_cd_107 : Cond.code yX11_in cX11_in 6 (some .boolean) ∈ ab_tb := ab_cdm (i := 1113) rfl
set_option maxRecDepth 100000 in
theorem ab_cd_108 : Cond.code yX11_has cX11_has 2 (some .boolean) ∈ ab_tb := ab_cdm (i := 1197) rfl
set_option maxRecDepth 100000 in
theorem ab_cd_109 : Cond.code yX11_isSquare cX11_isSquare 2 (some .boolean) ∈ ab_tb := ab_cdm (i := 1205) rfl
set_option maxRecDepth 100000 in
theorem ab_cd_110 : Cond.code yX11_isPerson cX11_isPerson 2 (some .boolean) ∈ ab_tb := ab_cdm (i := 1218) rfl
set_option maxRecDepth 100000 in
theorem ab_cd_111 : Cond.code yX11_isDeed cX11_isDeed 2 (some .boolean) ∈ ab_tb := ab_cdm (i := 1226) rfl
set_option maxRecDepth 100000 in
theorem ab_cd_112 : Cond.code yX11_feed cX11_feed 2 (some .int) ∈ ab_tb := ab_cdm (i := 1109) rfl
set_option maxRecDepth 100000 in
theorem ab_cd_113 : Cond.code yX11_nextToken cX11_nextToken 1 (none) ∈ ab_tb := ab_cdm (i := 1127) rfl
set_option maxRecDepth 100000 in
theorem ab_cd_114 : Cond.code yX11_faults cX11_faults 2 (some .boolean) ∈ ab_tb := ab_cdm (i := 1138) rfl
set_option maxRecDepth 100000 in
theorem ab_cd_115 : Cond.code yX11_takes cX11_takes 2 (some .boolean) ∈ ab_tb := ab_cdm (i := 1134) rfl
set_option maxRecDepth 100000 in
theorem ab_cd_116 : Cond.code yX11_isNumber cX11_isNumber 3 (some .boolean) ∈ ab_tb := ab_cdm (i := 1142) rfl
set_option maxRecDepth 100000 in
theorem ab_cd_117 : Cond.code yX11_taken cX11_taken 2 (some .int) ∈ ab_tb := ab_cdm (i := 1146) rfl
set_option maxRecDepth 100000 in
theorem ab_cd_118 : Cond.code yX11_readWay cX11_readWay 3 (some .boolean) ∈ ab_tb := ab_cdm (i := 1150) rfl
set_option maxRecDepth 100000 in
theorem ab_cd_119 : Cond.code yX11_readPerson cX11_readPerson 1 (some .boolean) ∈ ab_tb := ab_cdm (i := 1154) rfl
set_option maxRecDepth 100000 in
theorem ab_cd_120 : Cond.code yX11_readDeed cX11_readDeed 4 (some .boolean) ∈ ab_tb := ab_cdm (i := 1158) rfl
set_option maxRecDepth 100000 in
theorem ab_cd_121 : Cond.code yX11_readReword cX11_readReword 2 (some .boolean) ∈ ab_tb := ab_cdm (i := 1162) rfl
set_option maxRecDepth 100000 in
theorem ab_cd_122 : Cond.code yX11_readTrust cX11_readTrust 3 (some .boolean) ∈ ab_tb := ab_cdm (i := 1166) rfl
set_option maxRecDepth 100000 in
theorem ab_cd_123 : Cond.code yX11_readOther cX11_readOther 1 (some .boolean) ∈ ab_tb := ab_cdm (i := 1170) rfl
set_option maxRecDepth 100000 in
theorem ab_cd_124 : Cond.code yX11_readTown cX11_readTown 3 (some .boolean) ∈ ab_tb := ab_cdm (i := 1123) rfl
set_option maxRecDepth 100000 in
theorem ab_cd_125 : Cond.code yX11_findFars cX11_findFars 4 (none) ∈ ab_tb := ab_cdm (i := 1174) rfl
set_option maxRecDepth 100000 in
theorem ab_cd_126 : Cond.code yX11_town cX11_town 3 (some .int) ∈ ab_tb := ab_cdm (i := 1119) rfl
set_option maxRecDepth 100000 in
theorem ab_cd_127 : Cond.code yX11_fault cX11_fault 1 (some .int) ∈ ab_tb := ab_cdm (i := 1178) rfl
set_option maxRecDepth 100000 in
theorem ab_cd_128 : Cond.code yX11_howOf cX11_howOf 2 (some .int) ∈ ab_tb := ab_cdm (i := 1190) rfl
set_option maxRecDepth 100000 in
theorem ab_cd_129 : Cond.code yX11_deedsThatAre cX11_deedsThatAre 4 (some .int) ∈ ab_tb := ab_cdm (i := 1186) rfl
set_option maxRecDepth 100000 in
theorem ab_cd_130 : Cond.code yX11_worthOf cX11_worthOf 4 (some .int) ∈ ab_tb := ab_cdm (i := 1194) rfl
set_option maxRecDepth 100000 in
theorem ab_cd_131 : Cond.code yX11_told cX11_told 2 (some .int) ∈ ab_tb := ab_cdm (i := 1182) rfl
set_option maxRecDepth 100000 in
theorem ab_cd_132 : Cond.code yX11_farOf cX11_farOf 4 (some .int) ∈ ab_tb := ab_cdm (i := 1209) rfl
set_option maxRecDepth 100000 in
theorem ab_cd_133 : Cond.code yX11_far cX11_far 3 (some .int) ∈ ab_tb := ab_cdm (i := 1201) rfl
set_option maxRecDepth 100000 in
theorem ab_cd_134 : Cond.code yX11_person cX11_person 3 (some .int) ∈ ab_tb := ab_cdm (i := 1214) rfl
set_option maxRecDepth 100000 in
theorem ab_cd_135 : Cond.code yX11_deed cX11_deed 3 (some .int) ∈ ab_tb := ab_cdm (i := 1222) rfl
set_option maxRecDepth 100000 in
theorem ab_cd_136 : Cond.code yX11_areTwo cX11_areTwo 3 (some .boolean) ∈ ab_tb := ab_cdm (i := 1235) rfl
set_option maxRecDepth 100000 in
theorem ab_cd_137 : Cond.code yX11_trust cX11_trust 3 (some .int) ∈ ab_tb := ab_cdm (i := 1231) rfl
set_option maxRecDepth 100000 in
theorem ab_cd_138 : Cond.code yX11_lets cX11_lets 2 (some .int) ∈ ab_tb := ab_cdm (i := 1239) rfl
set_option maxRecDepth 100000 in
theorem ab_cd_139 : Cond.code yX11_placeOf cX11_placeOf 2 (some .int) ∈ ab_tb := ab_cdm (i := 1295) rfl
set_option maxRecDepth 100000 in
theorem ab_cd_140 : Cond.code yX11_lend cX11_lend 3 (some .int) ∈ ab_tb := ab_cdm (i := 1243) rfl
set_option maxRecDepth 100000 in
theorem ab_cd_141 : Cond.code yX11_walkTo cX11_walkTo 3 (none) ∈ ab_tb := ab_cdm (i := 1249) rfl
set_option maxRecDepth 100000 in
theorem ab_cd_142 : Cond.code yX11_doNow cX11_doNow 2 (none) ∈ ab_tb := ab_cdm (i := 1257) rfl
set_option maxRecDepth 100000 in
theorem ab_cd_143 : Cond.code yX11_act cX11_act 2 (some .int) ∈ ab_tb := ab_cdm (i := 1253) rfl
set_option maxRecDepth 100000 in
theorem ab_cd_144 : Cond.code yX11_drop cX11_drop 2 (some .int) ∈ ab_tb := ab_cdm (i := 1261) rfl
set_option maxRecDepth 100000 in
theorem ab_cd_145 : Cond.code yX11_pass cX11_pass 2 (some .int) ∈ ab_tb := ab_cdm (i := 1265) rfl
set_option maxRecDepth 100000 in
theorem ab_cd_146 : Cond.code yX11_draw cX11_draw 2 (some .int) ∈ ab_tb := ab_cdm (i := 1275) rfl
set_option maxRecDepth 100000 in
theorem ab_cd_147 : Cond.code yX11_drift cX11_drift 7 (some .int) ∈ ab_tb := ab_cdm (i := 1270) rfl
set_option maxRecDepth 100000 in
theorem ab_cd_148 : Cond.code yX11_endBehind cX11_endBehind 6 (some .int) ∈ ab_tb := ab_cdm (i := 1291) rfl
set_option maxRecDepth 100000 in
theorem ab_cd_149 : Cond.code yX11_findEnds cX11_findEnds 10 (none) ∈ ab_tb := ab_cdm (i := 1287) rfl
set_option maxRecDepth 100000 in
theorem ab_cd_150 : Cond.code yX11_endOf cX11_endOf 5 (some .int) ∈ ab_tb := ab_cdm (i := 1299) rfl
set_option maxRecDepth 100000 in
theorem ab_cd_151 : Cond.code yX11_isRow cX11_isRow 8 (some .boolean) ∈ ab_tb := ab_cdm (i := 1311) rfl
set_option maxRecDepth 100000 in
theorem ab_cd_152 : Cond.code yX11_firstRow cX11_firstRow 11 (some .int) ∈ ab_tb := ab_cdm (i := 1303) rfl
set_option maxRecDepth 100000 in
theorem ab_cd_153 : Cond.code yX11_digits cX11_digits 7 (some .int) ∈ ab_tb := ab_cdm (i := 1307) rfl
set_option maxRecDepth 100000 in
theorem ab_cd_154 : Cond.code yX11_isAhead cX11_isAhead 4 (some .boolean) ∈ ab_tb := ab_cdm (i := 1315) rfl
set_option maxRecDepth 100000 in
theorem ab_cd_155 : Cond.code yX11_round cX11_round 7 (some .int) ∈ ab_tb := ab_cdm (i := 1283) rfl
set_option maxRecDepth 100000 in
theorem ab_cd_156 : Cond.code yX11_two cX11_two 8 (some .int) ∈ ab_tb := ab_cdm (i := 1319) rfl
set_option maxRecDepth 100000 in
theorem ab_cd_157 : Cond.code yX11_costOf cX11_costOf 5 (some .int) ∈ ab_tb := ab_cdm (i := 1327) rfl
set_option maxRecDepth 100000 in
theorem ab_cd_158 : Cond.code yX11_reword cX11_reword 6 (some .int) ∈ ab_tb := ab_cdm (i := 1323) rfl
set_option maxRecDepth 100000 in
theorem ab_cd_159 : Cond.code yX11_chain cX11_chain 10 (some .int) ∈ ab_tb := ab_cdm (i := 1331) rfl
set_option maxRecDepth 100000 in
theorem ab_cd_160 : Cond.code yX11_oddsOf cX11_oddsOf 12 (some .int) ∈ ab_tb := ab_cdm (i := 1335) rfl
set_option maxRecDepth 100000 in
theorem ab_cd_161 : Cond.code yX11_lost cX11_lost 5 (some .int) ∈ ab_tb := ab_cdm (i := 1341) rfl
set_option maxRecDepth 100000 in
theorem ab_cd_162 : Cond.code yX11_bidOf cX11_bidOf 3 (some .int) ∈ ab_tb := ab_cdm (i := 1350) rfl
set_option maxRecDepth 100000 in
theorem ab_cd_163 : Cond.code yX11_sold cX11_sold 8 (some .int) ∈ ab_tb := ab_cdm (i := 1345) rfl
set_option maxRecDepth 100000 in
theorem ab_cd_164 : Cond.code yX11_leads cX11_leads 3 (some .boolean) ∈ ab_tb := ab_cdm (i := 1366) rfl
set_option maxRecDepth 100000 in
theorem ab_cd_165 : Cond.code yX11_escapesFrom cX11_escapesFrom 9 (some .int) ∈ ab_tb := ab_cdm (i := 1362) rfl
set_option maxRecDepth 100000 in
theorem ab_cd_166 : Cond.code yX11_catchesFrom cX11_catchesFrom 9 (some .int) ∈ ab_tb := ab_cdm (i := 1370) rfl
set_option maxRecDepth 100000 in
theorem ab_cd_167 : Cond.code yX11_findThief cX11_findThief 6 (none) ∈ ab_tb := ab_cdm (i := 1358) rfl
set_option maxRecDepth 100000 in
theorem ab_cd_168 : Cond.code yX11_thief cX11_thief 7 (some .int) ∈ ab_tb := ab_cdm (i := 1354) rfl
set_option maxRecDepth 100000 in
theorem ab_cd_169 : Cond.code yX11_deedsOf cX11_deedsOf 4 (some .int) ∈ ab_tb := ab_cdm (i := 1387) rfl
set_option maxRecDepth 100000 in
theorem ab_cd_170 : Cond.code yX11_voteOf cX11_voteOf 7 (some .int) ∈ ab_tb := ab_cdm (i := 1383) rfl
set_option maxRecDepth 100000 in
theorem ab_cd_171 : Cond.code yX11_votesFor cX11_votesFor 4 (some .int) ∈ ab_tb := ab_cdm (i := 1379) rfl
set_option maxRecDepth 100000 in
theorem ab_cd_172 : Cond.code yX11_vote cX11_vote 6 (some .int) ∈ ab_tb := ab_cdm (i := 1374) rfl
set_option maxRecDepth 100000 in
theorem ab_cd_173 : Cond.code yX11_bestWord cX11_bestWord 5 (some .int) ∈ ab_tb := ab_cdm (i := 1391) rfl
set_option maxRecDepth 100000 in
theorem ab_cd_174 : Cond.code yX11_tell cX11_tell 3 (some .int) ∈ ab_tb := ab_cdm (i := 1395) rfl
set_option maxRecDepth 100000 in
theorem ab_cd_175 : Cond.code yX11_isDay cX11_isDay 6 (some .boolean) ∈ ab_tb := ab_cdm (i := 1407) rfl
set_option maxRecDepth 100000 in
theorem ab_cd_176 : Cond.code yX11_findDays cX11_findDays 8 (some .int) ∈ ab_tb := ab_cdm (i := 1403) rfl
set_option maxRecDepth 100000 in
theorem ab_cd_177 : Cond.code yX11_days cX11_days 1 (some .int) ∈ ab_tb := ab_cdm (i := 1399) rfl
set_option maxRecDepth 100000 in
theorem ab_cd_178 : Cond.code yX11_where cX11_where 2 (some .int) ∈ ab_tb := ab_cdm (i := 1411) rfl
set_option maxRecDepth 100000 in
theorem ab_cd_179 : Cond.code yX11_write cX11_write 3 (some .int) ∈ ab_tb := ab_cdm (i := 1415) rfl
set_option maxRecDepth 100000 in
theorem ab_cd_180 : Cond.code yX11_judge cX11_judge 2 (some .int) ∈ ab_tb := ab_cdm (i := 1420) rfl
set_option maxRecDepth 100000 in
theorem ab_cd_181 : Cond.code yX11_tear cX11_tear 2 (some .int) ∈ ab_tb := ab_cdm (i := 1424) rfl
set_option maxRecDepth 100000 in
theorem ab_cd_182 : Cond.code yX11_seed cX11_seed 3 (some .int) ∈ ab_tb := ab_cdm (i := 1428) rfl
set_option maxRecDepth 100000 in
theorem ab_cd_183 : Cond.code yX11_keep cX11_keep 3 (some .int) ∈ ab_tb := ab_cdm (i := 1432) rfl
set_option maxRecDepth 100000 in
theorem ab_cd_184 : Cond.code yX11_goBack cX11_goBack 3 (some .int) ∈ ab_tb := ab_cdm (i := 1436) rfl
set_option maxRecDepth 100000 in
theorem ab_cd_185 : Cond.code yJ0_length_8abf5 cJ0_length_8abf5 1 (some .int) ∈ ab_tb := ab_cdm (i := 485) rfl
set_option maxRecDepth 100000 in
theorem ab_cd_186 : Cond.code yJ0_indexOf_0f7a4 cJ0_indexOf_0f7a4 2 (some .int) ∈ ab_tb := ab_cdm (i := 471) rfl
set_option maxRecDepth 100000 in
theorem ab_cd_187 : Cond.code yJ0_indexOf_7cf53 cJ0_indexOf_7cf53 3 (some .int) ∈ ab_tb := ab_cdm (i := 475) rfl
set_option maxRecDepth 100000 in
theorem ab_cd_188 : Cond.code yJ0_coder_7d493 cJ0_coder_7d493 1 (some .byte) ∈ ab_tb := ab_cdm (i := 489) rfl
set_option maxRecDepth 100000 in
theorem ab_cd_189 : Cond.code yJ0_isLatin1_aae02 cJ0_isLatin1_aae02 1 (some .boolean) ∈ ab_tb := ab_cdm (i := 479) rfl
set_option maxRecDepth 100000 in
theorem ab_cd_190 : Cond.code yJ1_canEncode_9a6ad cJ1_canEncode_9a6ad 1 (some .boolean) ∈ ab_tb := ab_cdm (i := 495) rfl
set_option maxRecDepth 100000 in
theorem ab_cd_191 : Cond.code yJ1_indexOf_4cfef cJ1_indexOf_4cfef 4 (some .int) ∈ ab_tb := ab_cdm (i := 492) rfl
set_option maxRecDepth 100000 in
theorem ab_cd_192 : Cond.code yJ1_indexOfChar_4cfef cJ1_indexOfChar_4cfef 6 (some .int) ∈ ab_tb := ab_cdm (i := 504) rfl
set_option maxRecDepth 100000 in
theorem ab_cd_193 : Cond.code yJ7_fill_53178 cJ7_fill_53178 4 (none) ∈ ab_tb := ab_cdm (i := 139) rfl
def ab_rcs_0 : List ab_RC := [(yX0_init, cX0_init, 1, none), (yX0_find, cX0_find, 5, none), (yX0_meet, cX0_meet, 5, none), (yX1_init, cX1_init, 1, none), (yX1_find, cX1_find, 3, none), (yX1_lendOn, cX1_lendOn, 9, none), (yX1_compare, cX1_compare, 4, none), (yX2_init, cX2_init, 1, none), (yX2_place, cX2_place, 3, some .int), (yX2_solve, cX2_solve, 6, none), (yX2_decideAt, cX2_decideAt, 6, some .boolean), (yX2_decide, cX2_decide, 14, some .boolean), (yX3_init, cX3_init, 1, none), (yX3_add, cX3_add, 3, some .boolean)]
theorem ab_rcm_0 : ∀ r ∈ ab_rcs_0, Cond.code r.1 r.2.1 r.2.2.1 r.2.2.2 ∈ ab_tb := List.forall_mem_cons.mpr ⟨ab_cd_0, List.forall_mem_cons.mpr ⟨ab_cd_1, List.forall_mem_cons.mpr ⟨ab_cd_2, List.forall_mem_cons.mpr ⟨ab_cd_3, List.forall_mem_cons.mpr ⟨ab_cd_4, List.forall_mem_cons.mpr ⟨ab_cd_5, List.forall_mem_cons.mpr ⟨ab_cd_6, List.forall_mem_cons.mpr ⟨ab_cd_7, List.forall_mem_cons.mpr ⟨ab_cd_8, List.forall_mem_cons.mpr ⟨ab_cd_9, List.forall_mem_cons.mpr ⟨ab_cd_10, List.forall_mem_cons.mpr ⟨ab_cd_11, List.forall_mem_cons.mpr ⟨ab_cd_12, List.forall_mem_cons.mpr ⟨ab_cd_13, fun _ h => absurd h List.not_mem_nil⟩⟩⟩⟩⟩⟩⟩⟩⟩⟩⟩⟩⟩⟩
def ab_rcs_1 : List ab_RC := [(yX3_find, cX3_find, 3, none), (yX3_meet, cX3_meet, 4, none), (yX3_agrees, cX3_agrees, 2, some .boolean), (yX3_placeOf, cX3_placeOf, 6, some .int), (yX4_init, cX4_init, 1, none), (yX4_add, cX4_add, 3, some .boolean), (yX4_firstWrong, cX4_firstWrong, 3, some .int), (yX5_init, cX5_init, 1, none), (yX5_find, cX5_find, 6, none), (yX5_meet, cX5_meet, 4, none), (yX6_init, cX6_init, 1, none), (yX6_add, cX6_add, 2, some .boolean), (yX6_read, cX6_read, 3, some .int), (yX6_skipBlanks, cX6_skipBlanks, 1, none)]
theorem ab_rcm_1 : ∀ r ∈ ab_rcs_1, Cond.code r.1 r.2.1 r.2.2.1 r.2.2.2 ∈ ab_tb := List.forall_mem_cons.mpr ⟨ab_cd_14, List.forall_mem_cons.mpr ⟨ab_cd_15, List.forall_mem_cons.mpr ⟨ab_cd_16, List.forall_mem_cons.mpr ⟨ab_cd_17, List.forall_mem_cons.mpr ⟨ab_cd_18, List.forall_mem_cons.mpr ⟨ab_cd_19, List.forall_mem_cons.mpr ⟨ab_cd_20, List.forall_mem_cons.mpr ⟨ab_cd_21, List.forall_mem_cons.mpr ⟨ab_cd_22, List.forall_mem_cons.mpr ⟨ab_cd_23, List.forall_mem_cons.mpr ⟨ab_cd_24, List.forall_mem_cons.mpr ⟨ab_cd_25, List.forall_mem_cons.mpr ⟨ab_cd_26, List.forall_mem_cons.mpr ⟨ab_cd_27, fun _ h => absurd h List.not_mem_nil⟩⟩⟩⟩⟩⟩⟩⟩⟩⟩⟩⟩⟩⟩
def ab_rcs_2 : List ab_RC := [(yX6_readClause, cX6_readClause, 4, none), (yX6_readEnd, cX6_readEnd, 3, none), (yX6_isFigure, cX6_isFigure, 1, some .boolean), (yX6_readNumber, cX6_readNumber, 7, none), (yX6_lowest, cX6_lowest, 2, some .int), (yX6_highest, cX6_highest, 4, some .int), (yX6_again, cX6_again, 5, some .boolean), (yX6_take, cX6_take, 3, none), (yX6_takeDeed, cX6_takeDeed, 3, none), (yX7_init, cX7_init, 1, none), (yX7_tryAll, cX7_tryAll, 5, none), (yX7_goOn, cX7_goOn, 8, none), (yX7_setOfRow, cX7_setOfRow, 4, some .int), (yX8_init, cX8_init, 1, none)]
theorem ab_rcm_2 : ∀ r ∈ ab_rcs_2, Cond.code r.1 r.2.1 r.2.2.1 r.2.2.2 ∈ ab_tb := List.forall_mem_cons.mpr ⟨ab_cd_28, List.forall_mem_cons.mpr ⟨ab_cd_29, List.forall_mem_cons.mpr ⟨ab_cd_30, List.forall_mem_cons.mpr ⟨ab_cd_31, List.forall_mem_cons.mpr ⟨ab_cd_32, List.forall_mem_cons.mpr ⟨ab_cd_33, List.forall_mem_cons.mpr ⟨ab_cd_34, List.forall_mem_cons.mpr ⟨ab_cd_35, List.forall_mem_cons.mpr ⟨ab_cd_36, List.forall_mem_cons.mpr ⟨ab_cd_37, List.forall_mem_cons.mpr ⟨ab_cd_38, List.forall_mem_cons.mpr ⟨ab_cd_39, List.forall_mem_cons.mpr ⟨ab_cd_40, List.forall_mem_cons.mpr ⟨ab_cd_41, fun _ h => absurd h List.not_mem_nil⟩⟩⟩⟩⟩⟩⟩⟩⟩⟩⟩⟩⟩⟩
def ab_rcs_3 : List ab_RC := [(yX8_beginIn, cX8_beginIn, 2, none), (yX8_become, cX8_become, 2, none), (yX8_standOf, cX8_standOf, 3, some .int), (yX8_reaches, cX8_reaches, 3, some .boolean), (yX8_hand, cX8_hand, 3, none), (yX8_finish, cX8_finish, 3, none), (yX8_draw, cX8_draw, 2, some .int), (yX9_init, cX9_init, 1, none), (yX9_clear, cX9_clear, 2, none), (yX9_isSquare, cX9_isSquare, 2, some .boolean), (yX9_isPerson, cX9_isPerson, 2, some .boolean), (yX9_areTwoPeople, cX9_areTwoPeople, 3, some .boolean), (yX9_isDeed, cX9_isDeed, 2, some .boolean), (yX9_isWord, cX9_isWord, 2, some .boolean)]
theorem ab_rcm_3 : ∀ r ∈ ab_rcs_3, Cond.code r.1 r.2.1 r.2.2.1 r.2.2.2 ∈ ab_tb := List.forall_mem_cons.mpr ⟨ab_cd_42, List.forall_mem_cons.mpr ⟨ab_cd_43, List.forall_mem_cons.mpr ⟨ab_cd_44, List.forall_mem_cons.mpr ⟨ab_cd_45, List.forall_mem_cons.mpr ⟨ab_cd_46, List.forall_mem_cons.mpr ⟨ab_cd_47, List.forall_mem_cons.mpr ⟨ab_cd_48, List.forall_mem_cons.mpr ⟨ab_cd_49, List.forall_mem_cons.mpr ⟨ab_cd_50, List.forall_mem_cons.mpr ⟨ab_cd_51, List.forall_mem_cons.mpr ⟨ab_cd_52, List.forall_mem_cons.mpr ⟨ab_cd_53, List.forall_mem_cons.mpr ⟨ab_cd_54, List.forall_mem_cons.mpr ⟨ab_cd_55, fun _ h => absurd h List.not_mem_nil⟩⟩⟩⟩⟩⟩⟩⟩⟩⟩⟩⟩⟩⟩
def ab_rcs_4 : List ab_RC := [(yX9_measure, cX9_measure, 4, none), (yX9_shorten, cX9_shorten, 5, none), (yX9_between, cX9_between, 3, some .int), (yX9_squareOf, cX9_squareOf, 2, some .int), (yX9_worthOf, cX9_worthOf, 4, some .int), (yX9_costOf, cX9_costOf, 4, some .int), (yX9_deedsOf, cX9_deedsOf, 4, some .int), (yX9_endOf, cX9_endOf, 6, some .int), (yX10_init, cX10_init, 1, none), (yX10_feed, cX10_feed, 2, some .int), (yX10_town, cX10_town, 3, some .int), (yX10_fault, cX10_fault, 1, some .int), (yX10_told, cX10_told, 2, some .int), (yX10_far, cX10_far, 3, some .int)]
theorem ab_rcm_4 : ∀ r ∈ ab_rcs_4, Cond.code r.1 r.2.1 r.2.2.1 r.2.2.2 ∈ ab_tb := List.forall_mem_cons.mpr ⟨ab_cd_56, List.forall_mem_cons.mpr ⟨ab_cd_57, List.forall_mem_cons.mpr ⟨ab_cd_58, List.forall_mem_cons.mpr ⟨ab_cd_59, List.forall_mem_cons.mpr ⟨ab_cd_60, List.forall_mem_cons.mpr ⟨ab_cd_61, List.forall_mem_cons.mpr ⟨ab_cd_62, List.forall_mem_cons.mpr ⟨ab_cd_63, List.forall_mem_cons.mpr ⟨ab_cd_64, List.forall_mem_cons.mpr ⟨ab_cd_65, List.forall_mem_cons.mpr ⟨ab_cd_66, List.forall_mem_cons.mpr ⟨ab_cd_67, List.forall_mem_cons.mpr ⟨ab_cd_68, List.forall_mem_cons.mpr ⟨ab_cd_69, fun _ h => absurd h List.not_mem_nil⟩⟩⟩⟩⟩⟩⟩⟩⟩⟩⟩⟩⟩⟩
def ab_rcs_5 : List ab_RC := [(yX10_person, cX10_person, 3, some .int), (yX10_deed, cX10_deed, 3, some .int), (yX10_trust, cX10_trust, 3, some .int), (yX10_lets, cX10_lets, 2, some .int), (yX10_lend, cX10_lend, 2, some .int), (yX10_act, cX10_act, 2, some .int), (yX10_drop, cX10_drop, 2, some .int), (yX10_pass, cX10_pass, 2, some .int), (yX10_drift, cX10_drift, 3, some .int), (yX10_round, cX10_round, 2, some .int), (yX10_two, cX10_two, 5, some .int), (yX10_reword, cX10_reword, 7, some .int), (yX10_chain, cX10_chain, 4, some .int), (yX10_lost, cX10_lost, 4, some .int)]
theorem ab_rcm_5 : ∀ r ∈ ab_rcs_5, Cond.code r.1 r.2.1 r.2.2.1 r.2.2.2 ∈ ab_tb := List.forall_mem_cons.mpr ⟨ab_cd_70, List.forall_mem_cons.mpr ⟨ab_cd_71, List.forall_mem_cons.mpr ⟨ab_cd_72, List.forall_mem_cons.mpr ⟨ab_cd_73, List.forall_mem_cons.mpr ⟨ab_cd_74, List.forall_mem_cons.mpr ⟨ab_cd_75, List.forall_mem_cons.mpr ⟨ab_cd_76, List.forall_mem_cons.mpr ⟨ab_cd_77, List.forall_mem_cons.mpr ⟨ab_cd_78, List.forall_mem_cons.mpr ⟨ab_cd_79, List.forall_mem_cons.mpr ⟨ab_cd_80, List.forall_mem_cons.mpr ⟨ab_cd_81, List.forall_mem_cons.mpr ⟨ab_cd_82, List.forall_mem_cons.mpr ⟨ab_cd_83, fun _ h => absurd h List.not_mem_nil⟩⟩⟩⟩⟩⟩⟩⟩⟩⟩⟩⟩⟩⟩
def ab_rcs_6 : List ab_RC := [(yX10_sold, cX10_sold, 5, some .int), (yX10_thief, cX10_thief, 6, some .int), (yX10_vote, cX10_vote, 6, some .int), (yX10_bestWord, cX10_bestWord, 1, some .int), (yX10_tell, cX10_tell, 3, some .int), (yX10_days, cX10_days, 1, some .int), (yX10_where, cX10_where, 2, some .int), (yX10_write, cX10_write, 3, some .int), (yX10_judge, cX10_judge, 1, some .int), (yX10_tear, cX10_tear, 2, some .int), (yX10_seed, cX10_seed, 3, some .int), (yX10_keep, cX10_keep, 3, some .int), (yX10_goBack, cX10_goBack, 3, some .int), (yX10_deedsThatAre, cX10_deedsThatAre, 4, some .int)]
theorem ab_rcm_6 : ∀ r ∈ ab_rcs_6, Cond.code r.1 r.2.1 r.2.2.1 r.2.2.2 ∈ ab_tb := List.forall_mem_cons.mpr ⟨ab_cd_84, List.forall_mem_cons.mpr ⟨ab_cd_85, List.forall_mem_cons.mpr ⟨ab_cd_86, List.forall_mem_cons.mpr ⟨ab_cd_87, List.forall_mem_cons.mpr ⟨ab_cd_88, List.forall_mem_cons.mpr ⟨ab_cd_89, List.forall_mem_cons.mpr ⟨ab_cd_90, List.forall_mem_cons.mpr ⟨ab_cd_91, List.forall_mem_cons.mpr ⟨ab_cd_92, List.forall_mem_cons.mpr ⟨ab_cd_93, List.forall_mem_cons.mpr ⟨ab_cd_94, List.forall_mem_cons.mpr ⟨ab_cd_95, List.forall_mem_cons.mpr ⟨ab_cd_96, List.forall_mem_cons.mpr ⟨ab_cd_97, fun _ h => absurd h List.not_mem_nil⟩⟩⟩⟩⟩⟩⟩⟩⟩⟩⟩⟩⟩⟩
def ab_rcs_7 : List ab_RC := [(yX10_driftOnce, cX10_driftOnce, 3, none), (yX10_firstOpenOf, cX10_firstOpenOf, 3, some .int), (yX10_mostBeside, cX10_mostBeside, 5, some .int), (yX10_sellMinute, cX10_sellMinute, 3, none), (yX10_bidOf, cX10_bidOf, 2, some .int), (yX10_highestBidder, cX10_highestBidder, 4, some .int), (yX10_wordForMost, cX10_wordForMost, 6, some .int), (yX10_mostVoted, cX10_mostVoted, 4, some .int), (yX11_init, cX11_init, 2, none), (yX11_in, cX11_in, 6, some .boolean), (yX11_has, cX11_has, 2, some .boolean), (yX11_isSquare, cX11_isSquare, 2, some .boolean), (yX11_isPerson, cX11_isPerson, 2, some .boolean), (yX11_isDeed, cX11_isDeed, 2, some .boolean)]
theorem ab_rcm_7 : ∀ r ∈ ab_rcs_7, Cond.code r.1 r.2.1 r.2.2.1 r.2.2.2 ∈ ab_tb := List.forall_mem_cons.mpr ⟨ab_cd_98, List.forall_mem_cons.mpr ⟨ab_cd_99, List.forall_mem_cons.mpr ⟨ab_cd_100, List.forall_mem_cons.mpr ⟨ab_cd_101, List.forall_mem_cons.mpr ⟨ab_cd_102, List.forall_mem_cons.mpr ⟨ab_cd_103, List.forall_mem_cons.mpr ⟨ab_cd_104, List.forall_mem_cons.mpr ⟨ab_cd_105, List.forall_mem_cons.mpr ⟨ab_cd_106, List.forall_mem_cons.mpr ⟨ab_cd_107, List.forall_mem_cons.mpr ⟨ab_cd_108, List.forall_mem_cons.mpr ⟨ab_cd_109, List.forall_mem_cons.mpr ⟨ab_cd_110, List.forall_mem_cons.mpr ⟨ab_cd_111, fun _ h => absurd h List.not_mem_nil⟩⟩⟩⟩⟩⟩⟩⟩⟩⟩⟩⟩⟩⟩
def ab_rcs_8 : List ab_RC := [(yX11_feed, cX11_feed, 2, some .int), (yX11_nextToken, cX11_nextToken, 1, none), (yX11_faults, cX11_faults, 2, some .boolean), (yX11_takes, cX11_takes, 2, some .boolean), (yX11_isNumber, cX11_isNumber, 3, some .boolean), (yX11_taken, cX11_taken, 2, some .int), (yX11_readWay, cX11_readWay, 3, some .boolean), (yX11_readPerson, cX11_readPerson, 1, some .boolean), (yX11_readDeed, cX11_readDeed, 4, some .boolean), (yX11_readReword, cX11_readReword, 2, some .boolean), (yX11_readTrust, cX11_readTrust, 3, some .boolean), (yX11_readOther, cX11_readOther, 1, some .boolean), (yX11_readTown, cX11_readTown, 3, some .boolean), (yX11_findFars, cX11_findFars, 4, none)]
theorem ab_rcm_8 : ∀ r ∈ ab_rcs_8, Cond.code r.1 r.2.1 r.2.2.1 r.2.2.2 ∈ ab_tb := List.forall_mem_cons.mpr ⟨ab_cd_112, List.forall_mem_cons.mpr ⟨ab_cd_113, List.forall_mem_cons.mpr ⟨ab_cd_114, List.forall_mem_cons.mpr ⟨ab_cd_115, List.forall_mem_cons.mpr ⟨ab_cd_116, List.forall_mem_cons.mpr ⟨ab_cd_117, List.forall_mem_cons.mpr ⟨ab_cd_118, List.forall_mem_cons.mpr ⟨ab_cd_119, List.forall_mem_cons.mpr ⟨ab_cd_120, List.forall_mem_cons.mpr ⟨ab_cd_121, List.forall_mem_cons.mpr ⟨ab_cd_122, List.forall_mem_cons.mpr ⟨ab_cd_123, List.forall_mem_cons.mpr ⟨ab_cd_124, List.forall_mem_cons.mpr ⟨ab_cd_125, fun _ h => absurd h List.not_mem_nil⟩⟩⟩⟩⟩⟩⟩⟩⟩⟩⟩⟩⟩⟩
def ab_rcs_9 : List ab_RC := [(yX11_town, cX11_town, 3, some .int), (yX11_fault, cX11_fault, 1, some .int), (yX11_howOf, cX11_howOf, 2, some .int), (yX11_deedsThatAre, cX11_deedsThatAre, 4, some .int), (yX11_worthOf, cX11_worthOf, 4, some .int), (yX11_told, cX11_told, 2, some .int), (yX11_farOf, cX11_farOf, 4, some .int), (yX11_far, cX11_far, 3, some .int), (yX11_person, cX11_person, 3, some .int), (yX11_deed, cX11_deed, 3, some .int), (yX11_areTwo, cX11_areTwo, 3, some .boolean), (yX11_trust, cX11_trust, 3, some .int), (yX11_lets, cX11_lets, 2, some .int), (yX11_placeOf, cX11_placeOf, 2, some .int)]
theorem ab_rcm_9 : ∀ r ∈ ab_rcs_9, Cond.code r.1 r.2.1 r.2.2.1 r.2.2.2 ∈ ab_tb := List.forall_mem_cons.mpr ⟨ab_cd_126, List.forall_mem_cons.mpr ⟨ab_cd_127, List.forall_mem_cons.mpr ⟨ab_cd_128, List.forall_mem_cons.mpr ⟨ab_cd_129, List.forall_mem_cons.mpr ⟨ab_cd_130, List.forall_mem_cons.mpr ⟨ab_cd_131, List.forall_mem_cons.mpr ⟨ab_cd_132, List.forall_mem_cons.mpr ⟨ab_cd_133, List.forall_mem_cons.mpr ⟨ab_cd_134, List.forall_mem_cons.mpr ⟨ab_cd_135, List.forall_mem_cons.mpr ⟨ab_cd_136, List.forall_mem_cons.mpr ⟨ab_cd_137, List.forall_mem_cons.mpr ⟨ab_cd_138, List.forall_mem_cons.mpr ⟨ab_cd_139, fun _ h => absurd h List.not_mem_nil⟩⟩⟩⟩⟩⟩⟩⟩⟩⟩⟩⟩⟩⟩
def ab_rcs_10 : List ab_RC := [(yX11_lend, cX11_lend, 3, some .int), (yX11_walkTo, cX11_walkTo, 3, none), (yX11_doNow, cX11_doNow, 2, none), (yX11_act, cX11_act, 2, some .int), (yX11_drop, cX11_drop, 2, some .int), (yX11_pass, cX11_pass, 2, some .int), (yX11_draw, cX11_draw, 2, some .int), (yX11_drift, cX11_drift, 7, some .int), (yX11_endBehind, cX11_endBehind, 6, some .int), (yX11_findEnds, cX11_findEnds, 10, none), (yX11_endOf, cX11_endOf, 5, some .int), (yX11_isRow, cX11_isRow, 8, some .boolean), (yX11_firstRow, cX11_firstRow, 11, some .int), (yX11_digits, cX11_digits, 7, some .int)]
theorem ab_rcm_10 : ∀ r ∈ ab_rcs_10, Cond.code r.1 r.2.1 r.2.2.1 r.2.2.2 ∈ ab_tb := List.forall_mem_cons.mpr ⟨ab_cd_140, List.forall_mem_cons.mpr ⟨ab_cd_141, List.forall_mem_cons.mpr ⟨ab_cd_142, List.forall_mem_cons.mpr ⟨ab_cd_143, List.forall_mem_cons.mpr ⟨ab_cd_144, List.forall_mem_cons.mpr ⟨ab_cd_145, List.forall_mem_cons.mpr ⟨ab_cd_146, List.forall_mem_cons.mpr ⟨ab_cd_147, List.forall_mem_cons.mpr ⟨ab_cd_148, List.forall_mem_cons.mpr ⟨ab_cd_149, List.forall_mem_cons.mpr ⟨ab_cd_150, List.forall_mem_cons.mpr ⟨ab_cd_151, List.forall_mem_cons.mpr ⟨ab_cd_152, List.forall_mem_cons.mpr ⟨ab_cd_153, fun _ h => absurd h List.not_mem_nil⟩⟩⟩⟩⟩⟩⟩⟩⟩⟩⟩⟩⟩⟩
def ab_rcs_11 : List ab_RC := [(yX11_isAhead, cX11_isAhead, 4, some .boolean), (yX11_round, cX11_round, 7, some .int), (yX11_two, cX11_two, 8, some .int), (yX11_costOf, cX11_costOf, 5, some .int), (yX11_reword, cX11_reword, 6, some .int), (yX11_chain, cX11_chain, 10, some .int), (yX11_oddsOf, cX11_oddsOf, 12, some .int), (yX11_lost, cX11_lost, 5, some .int), (yX11_bidOf, cX11_bidOf, 3, some .int), (yX11_sold, cX11_sold, 8, some .int), (yX11_leads, cX11_leads, 3, some .boolean), (yX11_escapesFrom, cX11_escapesFrom, 9, some .int), (yX11_catchesFrom, cX11_catchesFrom, 9, some .int), (yX11_findThief, cX11_findThief, 6, none)]
theorem ab_rcm_11 : ∀ r ∈ ab_rcs_11, Cond.code r.1 r.2.1 r.2.2.1 r.2.2.2 ∈ ab_tb := List.forall_mem_cons.mpr ⟨ab_cd_154, List.forall_mem_cons.mpr ⟨ab_cd_155, List.forall_mem_cons.mpr ⟨ab_cd_156, List.forall_mem_cons.mpr ⟨ab_cd_157, List.forall_mem_cons.mpr ⟨ab_cd_158, List.forall_mem_cons.mpr ⟨ab_cd_159, List.forall_mem_cons.mpr ⟨ab_cd_160, List.forall_mem_cons.mpr ⟨ab_cd_161, List.forall_mem_cons.mpr ⟨ab_cd_162, List.forall_mem_cons.mpr ⟨ab_cd_163, List.forall_mem_cons.mpr ⟨ab_cd_164, List.forall_mem_cons.mpr ⟨ab_cd_165, List.forall_mem_cons.mpr ⟨ab_cd_166, List.forall_mem_cons.mpr ⟨ab_cd_167, fun _ h => absurd h List.not_mem_nil⟩⟩⟩⟩⟩⟩⟩⟩⟩⟩⟩⟩⟩⟩
def ab_rcs_12 : List ab_RC := [(yX11_thief, cX11_thief, 7, some .int), (yX11_deedsOf, cX11_deedsOf, 4, some .int), (yX11_voteOf, cX11_voteOf, 7, some .int), (yX11_votesFor, cX11_votesFor, 4, some .int), (yX11_vote, cX11_vote, 6, some .int), (yX11_bestWord, cX11_bestWord, 5, some .int), (yX11_tell, cX11_tell, 3, some .int), (yX11_isDay, cX11_isDay, 6, some .boolean), (yX11_findDays, cX11_findDays, 8, some .int), (yX11_days, cX11_days, 1, some .int), (yX11_where, cX11_where, 2, some .int), (yX11_write, cX11_write, 3, some .int), (yX11_judge, cX11_judge, 2, some .int), (yX11_tear, cX11_tear, 2, some .int)]
theorem ab_rcm_12 : ∀ r ∈ ab_rcs_12, Cond.code r.1 r.2.1 r.2.2.1 r.2.2.2 ∈ ab_tb := List.forall_mem_cons.mpr ⟨ab_cd_168, List.forall_mem_cons.mpr ⟨ab_cd_169, List.forall_mem_cons.mpr ⟨ab_cd_170, List.forall_mem_cons.mpr ⟨ab_cd_171, List.forall_mem_cons.mpr ⟨ab_cd_172, List.forall_mem_cons.mpr ⟨ab_cd_173, List.forall_mem_cons.mpr ⟨ab_cd_174, List.forall_mem_cons.mpr ⟨ab_cd_175, List.forall_mem_cons.mpr ⟨ab_cd_176, List.forall_mem_cons.mpr ⟨ab_cd_177, List.forall_mem_cons.mpr ⟨ab_cd_178, List.forall_mem_cons.mpr ⟨ab_cd_179, List.forall_mem_cons.mpr ⟨ab_cd_180, List.forall_mem_cons.mpr ⟨ab_cd_181, fun _ h => absurd h List.not_mem_nil⟩⟩⟩⟩⟩⟩⟩⟩⟩⟩⟩⟩⟩⟩
def ab_rcs_13 : List ab_RC := [(yX11_seed, cX11_seed, 3, some .int), (yX11_keep, cX11_keep, 3, some .int), (yX11_goBack, cX11_goBack, 3, some .int), (yJ0_length_8abf5, cJ0_length_8abf5, 1, some .int), (yJ0_indexOf_0f7a4, cJ0_indexOf_0f7a4, 2, some .int), (yJ0_indexOf_7cf53, cJ0_indexOf_7cf53, 3, some .int), (yJ0_coder_7d493, cJ0_coder_7d493, 1, some .byte), (yJ0_isLatin1_aae02, cJ0_isLatin1_aae02, 1, some .boolean), (yJ1_canEncode_9a6ad, cJ1_canEncode_9a6ad, 1, some .boolean), (yJ1_indexOf_4cfef, cJ1_indexOf_4cfef, 4, some .int), (yJ1_indexOfChar_4cfef, cJ1_indexOfChar_4cfef, 6, some .int), (yJ7_fill_53178, cJ7_fill_53178, 4, none)]
theorem ab_rcm_13 : ∀ r ∈ ab_rcs_13, Cond.code r.1 r.2.1 r.2.2.1 r.2.2.2 ∈ ab_tb := List.forall_mem_cons.mpr ⟨ab_cd_182, List.forall_mem_cons.mpr ⟨ab_cd_183, List.forall_mem_cons.mpr ⟨ab_cd_184, List.forall_mem_cons.mpr ⟨ab_cd_185, List.forall_mem_cons.mpr ⟨ab_cd_186, List.forall_mem_cons.mpr ⟨ab_cd_187, List.forall_mem_cons.mpr ⟨ab_cd_188, List.forall_mem_cons.mpr ⟨ab_cd_189, List.forall_mem_cons.mpr ⟨ab_cd_190, List.forall_mem_cons.mpr ⟨ab_cd_191, List.forall_mem_cons.mpr ⟨ab_cd_192, List.forall_mem_cons.mpr ⟨ab_cd_193, fun _ h => absurd h List.not_mem_nil⟩⟩⟩⟩⟩⟩⟩⟩⟩⟩⟩⟩
theorem ab_fm_app {α : Type} {p : α → Prop} {a b : List α} (ha : ∀ x ∈ a, p x) (hb : ∀ x ∈ b, p x) : ∀ x ∈ List.append a b, p x := List.forall_mem_append.mpr ⟨ha, hb⟩
def ab_rcs : List ab_RC := List.append ab_rcs_0 (List.append ab_rcs_1 (List.append ab_rcs_2 (List.append ab_rcs_3 (List.append ab_rcs_4 (List.append ab_rcs_5 (List.append ab_rcs_6 (List.append ab_rcs_7 (List.append ab_rcs_8 (List.append ab_rcs_9 (List.append ab_rcs_10 (List.append ab_rcs_11 (List.append ab_rcs_12 (ab_rcs_13)))))))))))))
theorem ab_rcm : ∀ r ∈ ab_rcs, Cond.code r.1 r.2.1 r.2.2.1 r.2.2.2 ∈ ab_tb := ab_fm_app ab_rcm_0 (ab_fm_app ab_rcm_1 (ab_fm_app ab_rcm_2 (ab_fm_app ab_rcm_3 (ab_fm_app ab_rcm_4 (ab_fm_app ab_rcm_5 (ab_fm_app ab_rcm_6 (ab_fm_app ab_rcm_7 (ab_fm_app ab_rcm_8 (ab_fm_app ab_rcm_9 (ab_fm_app ab_rcm_10 (ab_fm_app ab_rcm_11 (ab_fm_app ab_rcm_12 (ab_rcm_13)))))))))))))
def ab_oil_0 : List Nat := [0, 0, 0, 1, 1, 1, 1, 2, 2, 2, 2, 2, 3, 3, 3, 3, 3, 3, 4, 4, 4, 5, 5, 5, 6, 6, 6, 6, 6, 6, 6, 6, 6, 6, 6, 6, 6, 11, 11, 11]
def ab_oil_1 : List Nat := [11, 7, 7, 7, 7, 7, 7, 7, 7, 8, 8, 8, 8, 8, 8, 8, 8, 8, 8, 8, 8, 8, 8, 8, 9, 9, 9, 9, 9, 9, 9, 9, 9, 9, 9, 9, 9, 9, 9, 9]
def ab_oil_2 : List Nat := [9, 9, 9, 9, 9, 9, 9, 9, 9, 9, 9, 9, 9, 9, 9, 9, 9, 9, 9, 9, 9, 9, 9, 9, 9, 9, 10, 10, 10, 10, 10, 10, 10, 10, 10, 10, 10, 10, 10, 10]
def ab_oil_3 : List Nat := [10, 10, 10, 10, 10, 10, 10, 10, 10, 10, 10, 10, 10, 10, 10, 10, 10, 10, 10, 10, 10, 10, 10, 10, 10, 10, 10, 10, 10, 10, 10, 10, 10, 10, 10, 10, 10, 10, 10, 10]
def ab_oil_4 : List Nat := [10, 10, 10, 10, 10, 10, 10, 10, 10, 10, 10, 10, 10, 10, 10, 10, 10, 10, 10, 10, 10, 10, 10, 10, 10, 14, 14, 14, 14, 14, 15, 15, 15, 16, 12]
def ab_oil : List Nat := List.append ab_oil_0 (List.append ab_oil_1 (List.append ab_oil_2 (List.append ab_oil_3 (ab_oil_4))))
def ab_rec (m : Nat) : ab_RC := ab_rcs.getD m (yL_law, cL_law, 4, some .boolean)
def ab_y (m : Nat) : MethodName := (ab_rec m).1
def ab_b (m : Nat) : ByteArray := (ab_rec m).2.1
def ab_rv (m : Nat) : Option FieldType := (ab_rec m).2.2.2
def ab_oi' (m : Nat) : Nat := ab_oil.getD m 0
def ab_mc (m : Nat) : Bool := decide ((ab_rec m).2.2.1 = ab_mx m) && plainName (ab_y m).cls && !decide ((ab_y m).cls = "java/lang/invoke/MethodHandle") && !decide ((ab_y m).cls = "java/lang/invoke/VarHandle") && decide (ab_ows.getD (ab_oi' m) "" = (ab_y m).cls) && decide (ab_mx m ≤ 100)
set_option maxRecDepth 100000 in
theorem ab_mc_0 : (List.range' 0 28).all ab_mc = true := by decide +kernel
set_option maxRecDepth 100000 in
theorem ab_mc_1 : (List.range' 28 28).all ab_mc = true := by decide +kernel
set_option maxRecDepth 100000 in
theorem ab_mc_2 : (List.range' 56 28).all ab_mc = true := by decide +kernel
set_option maxRecDepth 100000 in
theorem ab_mc_3 : (List.range' 84 28).all ab_mc = true := by decide +kernel
set_option maxRecDepth 100000 in
theorem ab_mc_4 : (List.range' 112 28).all ab_mc = true := by decide +kernel
set_option maxRecDepth 100000 in
theorem ab_mc_5 : (List.range' 140 28).all ab_mc = true := by decide +kernel
set_option maxRecDepth 100000 in
theorem ab_mc_6 : (List.range' 168 26).all ab_mc = true := by decide +kernel
theorem ab_mcs : ∀ m, m < 194 → ab_mc m = true := by
  intro m hm
  by_cases h0 : m < 28
  · exact List.all_eq_true.mp ab_mc_0 m (List.mem_range'_1.mpr ⟨by omega, by omega⟩)
  by_cases h1 : m < 56
  · exact List.all_eq_true.mp ab_mc_1 m (List.mem_range'_1.mpr ⟨by omega, by omega⟩)
  by_cases h2 : m < 84
  · exact List.all_eq_true.mp ab_mc_2 m (List.mem_range'_1.mpr ⟨by omega, by omega⟩)
  by_cases h3 : m < 112
  · exact List.all_eq_true.mp ab_mc_3 m (List.mem_range'_1.mpr ⟨by omega, by omega⟩)
  by_cases h4 : m < 140
  · exact List.all_eq_true.mp ab_mc_4 m (List.mem_range'_1.mpr ⟨by omega, by omega⟩)
  by_cases h5 : m < 168
  · exact List.all_eq_true.mp ab_mc_5 m (List.mem_range'_1.mpr ⟨by omega, by omega⟩)
  by_cases h6 : m < 194
  · exact List.all_eq_true.mp ab_mc_6 m (List.mem_range'_1.mpr ⟨by omega, by omega⟩)
  omega
abbrev ab_CL : Type := Nat × (Nat × (Nat × (Nat × (Nat × List Nat))))
def ab_pn (d : String) (n : Nat) : Bool := decide ((parseMethodDescriptor d).map (fun d => d.parameters.length) = some n)
def ab_xm : MethodName := ⟨"LoneAdjective$Rounds", "meet", "(LLoneAdjective$Town;II)V"⟩
def ab_cn (t : Nat) : String := match vwCl[t]? with
  | some r => r.1
  | none => ""
def ab_lkc (q : ab_CL) : Bool :=
  let own := ab_ows.getD q.2.1 ""
  let i := q.2.2.1
  let k := q.2.2.2.1
  let x := q.2.2.2.2.1
  let w := fun j => q.2.2.2.2.2.getD j 0
  if q.1 = 0 then decide (k < 194) && ab_ix (w 0) (.methodLink own i (ab_y k)) && ab_ix (w 1) (.static (ab_y k)) && ab_ix (w 2) (.initialized (ab_y k).cls) && ab_pn (ab_y k).desc x
  else if q.1 = 1 then decide (k < 194) && ab_ix (w 0) (.methodLink own i (ab_y k)) && ab_ix (w 1) (.instanceMethod (ab_y k)) && ab_ix (w 2) (.initialized (ab_y k).cls) && decide ((ab_y k).name = "<init>") && decide (ab_rv k = none) && decide (0 < x) && ab_pn (ab_y k).desc (x - 1)
  else if q.1 = 2 then decide (k < 194) && ab_nwd.any (fun z => decide (z = .methodLinkNest own i (ab_y k) "LoneAdjective")) && ab_ix (w 1) (.instanceMethod (ab_y k)) && ab_ix (w 2) (.initialized (ab_y k).cls) && decide ((ab_y k).name = "<init>") && decide (ab_rv k = none) && decide (0 < x) && ab_pn (ab_y k).desc (x - 1)
  else if q.1 = 3 then decide (k < 194) && ab_ix (w 0) (.methodLink own i (ab_y k)) && ab_ix (w 1) (.instanceMethod (ab_y k)) && ab_ix (w 2) (.selects (ab_y k).cls (ab_y k) (ab_y k)) && ab_ix (w 3) (.initialized (ab_y k).cls) && decide (0 < x) && ab_pn (ab_y k).desc (x - 1) && (decide (ab_rt k < 11 ∧ ab_cn (ab_rt k) = (ab_y k).cls) || decide (ab_rt k = 30 ∧ (ab_y k).cls = "java/lang/String"))
  else if q.1 = 4 then decide (k % 1000 < 194) && decide (1 ≤ k / 1000) && decide (k / 1000 ≤ 11) && ab_ix (w 0) (.methodLink own i ⟨ab_cn (k / 1000 - 1), (ab_y (k % 1000)).name, (ab_y (k % 1000)).desc⟩) && ab_ix (w 1) (.sameMethod (ab_cn (k / 1000 - 1)) (ab_y (k % 1000)).cls (ab_y (k % 1000)).name (ab_y (k % 1000)).desc) && ab_ix (w 2) (.selects (ab_cn (k / 1000 - 1)) ⟨ab_cn (k / 1000 - 1), (ab_y (k % 1000)).name, (ab_y (k % 1000)).desc⟩ (ab_y (k % 1000))) && ab_ix (w 3) (.instanceMethod (ab_y (k % 1000))) && ab_ix (w 4) (.initialized (ab_y (k % 1000)).cls) && decide (0 < x) && ab_pn (ab_y (k % 1000)).desc (x - 1)
  else if q.1 = 5 then decide (k = 300) && ab_ix (w 0) (.methodLink own i ab_xm) && ab_ix (w 1) (.sameMethod ab_xm.cls ab_xm.cls ab_xm.name ab_xm.desc) && decide (0 < x) && ab_pn ab_xm.desc (x - 1) && [(0, 2), (3, 5), (5, 8)].all (fun z => decide (ab_meet z.1 < 194) && ab_ix (w z.2) (.selects (ab_cn z.1) ab_xm (ab_y (ab_meet z.1))) && ab_ix (w (z.2 + 1)) (.instanceMethod (ab_y (ab_meet z.1))) && ab_ix (w (z.2 + 2)) (.initialized (ab_y (ab_meet z.1)).cls))
  else false
def ab_clt_0 : List ab_CL := [(2, 0, 3, 37, 1, [0, 284, 74]), (4, 0, 19, 1038, 5, [729, 730, 732, 733, 74]), (4, 0, 23, 1040, 2, [745, 746, 748, 749, 74]), (3, 0, 27, 60, 2, [751, 620, 621, 70]), (0, 1, 18, 193, 2, [816, 138, 71]), (0, 1, 25, 5, 6, [818, 819, 78]), (3, 1, 29, 6, 4, [821, 823, 15, 78]), (0, 2, 18, 193, 2, [855, 138, 71]), (0, 2, 30, 8, 3, [856, 857, 79]), (3, 2, 34, 10, 3, [859, 861, 19, 79]), (3, 2, 38, 11, 6, [863, 865, 20, 79]), (2, 3, 3, 37, 1, [0, 284, 74])]
set_option maxRecDepth 100000 in
theorem ab_clt0_0 : ab_clt_0.all ab_lkc = true := by decide +kernel
def ab_clt_1 : List ab_CL := [(4, 3, 40, 4038, 5, [904, 905, 906, 733, 74]), (3, 3, 44, 16, 1, [758, 760, 12, 77]), (3, 3, 48, 17, 3, [762, 764, 13, 77]), (3, 3, 58, 59, 2, [766, 767, 768, 70]), (2, 5, 3, 37, 1, [0, 284, 74]), (4, 5, 15, 6038, 5, [792, 793, 794, 733, 74]), (4, 5, 19, 6040, 2, [774, 775, 776, 749, 74]), (0, 6, 32, 193, 2, [457, 138, 71]), (3, 6, 38, 50, 1, [458, 134, 135, 70]), (3, 6, 43, 27, 1, [459, 461, 0, 69]), (3, 6, 46, 28, 2, [463, 465, 1, 69]), (3, 6, 52, 186, 2, [468, 469, 470, 81])]
set_option maxRecDepth 100000 in
theorem ab_clt0_1 : ab_clt_1.all ab_lkc = true := by decide +kernel
def ab_clt_2 : List ab_CL := [(3, 6, 64, 31, 4, [558, 560, 2, 69]), (3, 6, 68, 29, 3, [578, 580, 5, 69]), (3, 6, 72, 35, 3, [582, 584, 6, 69]), (0, 6, 75, 30, 1, [562, 563, 69]), (0, 6, 79, 32, 2, [565, 566, 69]), (3, 6, 83, 33, 4, [568, 570, 3, 69]), (3, 6, 87, 34, 5, [574, 576, 4, 69]), (3, 6, 122, 36, 2, [586, 588, 7, 69]), (0, 11, 18, 193, 2, [735, 138, 71]), (0, 11, 24, 39, 6, [736, 737, 74]), (5, 11, 28, 300, 4, [739, 741, 742, 743, 75, 755, 756, 77, 771, 772, 76]), (3, 11, 38, 63, 4, [777, 778, 779, 70])]
set_option maxRecDepth 100000 in
theorem ab_clt0_2 : ab_clt_2.all ab_lkc = true := by decide +kernel
def ab_clt_3 : List ab_CL := [(3, 11, 42, 59, 2, [783, 767, 768, 70]), (0, 7, 22, 193, 2, [235, 138, 71]), (3, 7, 54, 58, 3, [678, 633, 634, 70]), (3, 8, 51, 50, 1, [133, 134, 135, 70]), (0, 8, 66, 193, 2, [137, 138, 71]), (3, 8, 72, 52, 2, [661, 642, 643, 70]), (3, 8, 76, 57, 4, [594, 596, 8, 70]), (3, 8, 80, 51, 2, [636, 628, 629, 70]), (3, 8, 83, 54, 2, [770, 650, 651, 70]), (3, 8, 86, 59, 2, [781, 767, 768, 70]), (3, 8, 90, 58, 3, [782, 633, 634, 70]), (2, 9, 9, 24, 1, [0, 99, 69])]
set_option maxRecDepth 100000 in
theorem ab_clt0_3 : ab_clt_3.all ab_lkc = true := by decide +kernel
def ab_clt_4 : List ab_CL := [(1, 9, 22, 49, 1, [127, 128, 70]), (1, 9, 32, 41, 1, [231, 232, 72]), (2, 9, 45, 18, 1, [0, 264, 73]), (2, 9, 52, 0, 1, [0, 281, 75]), (2, 9, 59, 21, 1, [0, 319, 76]), (2, 9, 69, 12, 1, [0, 333, 77]), (2, 9, 76, 3, 1, [0, 363, 78]), (2, 9, 83, 7, 1, [0, 378, 79]), (3, 9, 96, 25, 2, [444, 445, 446, 69]), (3, 9, 104, 26, 2, [453, 454, 455, 69]), (3, 9, 111, 56, 1, [590, 591, 592, 70]), (3, 9, 114, 42, 2, [598, 599, 600, 72])]
set_option maxRecDepth 100000 in
theorem ab_clt0_4 : ab_clt_4.all ab_lkc = true := by decide +kernel
def ab_clt_5 : List ab_CL := [(3, 9, 149, 97, 2, [611, 613, 9, 68]), (3, 9, 153, 60, 2, [619, 620, 621, 70]), (3, 9, 156, 51, 2, [627, 628, 629, 70]), (3, 9, 161, 58, 3, [632, 633, 634, 70]), (3, 9, 165, 52, 2, [641, 642, 643, 70]), (3, 9, 174, 54, 2, [649, 650, 651, 70]), (3, 9, 192, 44, 3, [615, 616, 617, 72]), (3, 9, 199, 53, 3, [657, 658, 659, 70]), (3, 9, 207, 55, 2, [666, 667, 668, 70]), (3, 9, 213, 45, 3, [674, 675, 676, 72]), (3, 9, 219, 46, 3, [681, 682, 683, 72]), (3, 9, 223, 47, 3, [689, 690, 691, 72])]
set_option maxRecDepth 100000 in
theorem ab_clt0_5 : ab_clt_5.all ab_lkc = true := by decide +kernel
def ab_clt_6 : List ab_CL := [(3, 9, 226, 98, 1, [705, 707, 10, 68]), (3, 9, 229, 1, 5, [725, 726, 727, 75]), (3, 9, 244, 22, 5, [788, 789, 790, 76]), (3, 9, 249, 100, 3, [795, 797, 14, 68]), (3, 9, 257, 61, 2, [804, 805, 806, 70]), (3, 9, 260, 4, 3, [812, 813, 814, 78]), (0, 9, 268, 193, 2, [834, 138, 71]), (3, 9, 274, 101, 1, [835, 837, 16, 68]), (3, 9, 277, 9, 3, [851, 852, 853, 79]), (0, 9, 280, 8, 3, [867, 857, 79]), (3, 9, 290, 62, 2, [872, 873, 874, 70]), (3, 9, 293, 104, 2, [876, 878, 21, 68])]
set_option maxRecDepth 100000 in
theorem ab_clt0_6 : ab_clt_6.all ab_lkc = true := by decide +kernel
def ab_clt_7 : List ab_CL := [(3, 9, 296, 105, 1, [880, 882, 22, 68]), (3, 9, 300, 13, 3, [892, 893, 894, 77]), (3, 9, 302, 14, 3, [900, 901, 902, 77]), (3, 9, 308, 19, 3, [916, 917, 918, 73]), (3, 9, 309, 20, 2, [924, 925, 926, 73]), (3, 9, 316, 43, 2, [940, 941, 942, 72]), (3, 9, 320, 48, 2, [709, 710, 711, 72]), (3, 9, 323, 99, 2, [717, 719, 11, 68]), (3, 9, 326, 103, 2, [839, 841, 17, 68]), (3, 9, 329, 102, 2, [843, 845, 18, 68]), (0, 10, 102, 107, 3, [1111, 1112, 80]), (3, 10, 139, 114, 2, [1135, 1137, 26, 80])]
set_option maxRecDepth 100000 in
theorem ab_clt0_7 : ab_clt_7.all ab_lkc = true := by decide +kernel
def ab_clt_8 : List ab_CL := [(3, 10, 143, 113, 1, [1124, 1126, 24, 80]), (3, 10, 152, 116, 3, [1139, 1141, 27, 80]), (3, 10, 156, 117, 1, [1143, 1145, 28, 80]), (3, 10, 160, 115, 2, [1131, 1133, 25, 80]), (3, 10, 178, 118, 1, [1147, 1149, 29, 80]), (3, 10, 182, 119, 1, [1151, 1153, 30, 80]), (3, 10, 185, 120, 1, [1155, 1157, 31, 80]), (3, 10, 188, 121, 1, [1159, 1161, 32, 80]), (3, 10, 191, 122, 1, [1163, 1165, 33, 80]), (3, 10, 194, 123, 1, [1167, 1169, 34, 80]), (3, 10, 197, 124, 1, [1120, 1122, 23, 80]), (3, 10, 206, 125, 1, [1171, 1173, 35, 80])]
set_option maxRecDepth 100000 in
theorem ab_clt0_8 : ab_clt_8.all ab_lkc = true := by decide +kernel
def ab_clt_9 : List ab_CL := [(3, 10, 215, 128, 2, [1187, 1189, 37, 80]), (0, 10, 219, 108, 2, [1195, 1196, 80]), (3, 10, 222, 129, 2, [1183, 1185, 36, 80]), (3, 10, 225, 130, 2, [1191, 1193, 38, 80]), (3, 10, 228, 109, 2, [1202, 1204, 39, 80]), (3, 10, 231, 132, 3, [1206, 1208, 40, 80]), (3, 10, 236, 110, 2, [1215, 1217, 41, 80]), (3, 10, 239, 111, 2, [1223, 1225, 42, 80]), (3, 10, 244, 136, 3, [1232, 1234, 43, 80]), (3, 10, 249, 141, 3, [1246, 1248, 44, 80]), (3, 10, 253, 142, 2, [1254, 1256, 45, 80]), (3, 10, 268, 146, 2, [1272, 1274, 46, 80])]
set_option maxRecDepth 100000 in
theorem ab_clt0_9 : ab_clt_9.all ab_lkc = true := by decide +kernel
def ab_clt_10 : List ab_CL := [(3, 10, 271, 139, 2, [1292, 1294, 49, 80]), (3, 10, 274, 148, 4, [1288, 1290, 48, 80]), (3, 10, 278, 153, 3, [1304, 1306, 52, 80]), (3, 10, 281, 151, 4, [1308, 1310, 53, 80]), (3, 10, 285, 154, 3, [1312, 1314, 54, 80]), (3, 10, 288, 149, 4, [1284, 1286, 47, 80]), (3, 10, 292, 150, 3, [1296, 1298, 50, 80]), (3, 10, 295, 152, 4, [1300, 1302, 51, 80]), (3, 10, 298, 157, 2, [1324, 1326, 55, 80]), (3, 10, 301, 160, 5, [1332, 1334, 56, 80]), (3, 10, 311, 162, 2, [1347, 1349, 57, 80]), (3, 10, 314, 164, 3, [1363, 1365, 60, 80])]
set_option maxRecDepth 100000 in
theorem ab_clt0_10 : ab_clt_10.all ab_lkc = true := by decide +kernel
def ab_clt_11 : List ab_CL := [(3, 10, 317, 165, 4, [1359, 1361, 59, 80]), (3, 10, 320, 166, 4, [1367, 1369, 61, 80]), (3, 10, 323, 167, 2, [1355, 1357, 58, 80]), (3, 10, 326, 169, 2, [1384, 1386, 64, 80]), (3, 10, 329, 170, 2, [1380, 1382, 63, 80]), (3, 10, 334, 171, 2, [1376, 1378, 62, 80]), (3, 10, 340, 175, 2, [1404, 1406, 66, 80]), (3, 10, 343, 176, 2, [1400, 1402, 65, 80]), (3, 14, 335, 188, 1, [486, 487, 488, 81]), (3, 14, 633, 187, 3, [472, 473, 474, 81]), (3, 14, 492, 189, 1, [476, 477, 478, 81]), (3, 14, 505, 185, 1, [482, 483, 484, 81])]
set_option maxRecDepth 100000 in
theorem ab_clt0_11 : ab_clt_11.all ab_lkc = true := by decide +kernel
def ab_clt_12 : List ab_CL := [(0, 14, 637, 191, 4, [490, 491, 82]), (0, 15, 88, 190, 1, [493, 494, 82]), (0, 15, 95, 192, 4, [502, 503, 82]), (1, 12, 9, 64, 1, [90, 91, 68]), (1, 12, 12, 106, 1, [951, 952, 80]), (3, 12, 13, 65, 2, [439, 440, 441, 68]), (3, 12, 17, 112, 2, [1106, 1107, 1108, 80]), (3, 12, 18, 66, 1, [449, 450, 451, 68]), (3, 12, 22, 126, 1, [1116, 1117, 1118, 80]), (3, 12, 23, 67, 1, [603, 604, 605, 68]), (3, 12, 26, 127, 1, [1175, 1176, 1177, 80]), (3, 12, 27, 68, 2, [607, 608, 609, 68])]
set_option maxRecDepth 100000 in
theorem ab_clt0_12 : ab_clt_12.all ab_lkc = true := by decide +kernel
def ab_clt_13 : List ab_CL := [(3, 12, 30, 131, 2, [1179, 1180, 1181, 80]), (3, 12, 31, 69, 3, [623, 624, 625, 68]), (3, 12, 35, 133, 3, [1198, 1199, 1200, 80]), (3, 12, 36, 70, 3, [637, 638, 639, 68]), (3, 12, 39, 134, 3, [1211, 1212, 1213, 80]), (3, 12, 40, 71, 3, [645, 646, 647, 68]), (3, 12, 43, 135, 3, [1219, 1220, 1221, 80]), (3, 12, 44, 72, 3, [653, 654, 655, 68]), (3, 12, 47, 137, 3, [1228, 1229, 1230, 80]), (3, 12, 48, 73, 2, [662, 663, 664, 68]), (3, 12, 51, 138, 2, [1236, 1237, 1238, 80]), (3, 12, 52, 74, 2, [670, 671, 672, 68])]
set_option maxRecDepth 100000 in
theorem ab_clt0_13 : ab_clt_13.all ab_lkc = true := by decide +kernel
def ab_clt_14 : List ab_CL := [(3, 12, 55, 140, 2, [1240, 1241, 1242, 80]), (3, 12, 56, 75, 2, [685, 686, 687, 68]), (3, 12, 59, 143, 2, [1250, 1251, 1252, 80]), (3, 12, 60, 76, 1, [693, 694, 695, 68]), (3, 12, 63, 144, 1, [1258, 1259, 1260, 80]), (3, 12, 64, 77, 2, [697, 698, 699, 68]), (3, 12, 67, 145, 2, [1262, 1263, 1264, 80]), (3, 12, 68, 78, 2, [701, 702, 703, 68]), (3, 12, 71, 147, 2, [1267, 1268, 1269, 80]), (3, 12, 72, 79, 2, [721, 722, 723, 68]), (3, 12, 75, 155, 2, [1280, 1281, 1282, 80]), (3, 12, 76, 80, 2, [784, 785, 786, 68])]
set_option maxRecDepth 100000 in
theorem ab_clt0_14 : ab_clt_14.all ab_lkc = true := by decide +kernel
def ab_clt_15 : List ab_CL := [(3, 12, 79, 156, 2, [1316, 1317, 1318, 80]), (3, 12, 80, 81, 2, [800, 801, 802, 68]), (3, 12, 83, 158, 2, [1320, 1321, 1322, 80]), (3, 12, 84, 82, 4, [808, 809, 810, 68]), (3, 12, 88, 159, 4, [1328, 1329, 1330, 80]), (3, 12, 89, 83, 2, [826, 827, 828, 68]), (3, 12, 92, 161, 2, [1338, 1339, 1340, 80]), (3, 12, 93, 84, 4, [830, 831, 832, 68]), (3, 12, 96, 163, 4, [1342, 1343, 1344, 80]), (3, 12, 97, 85, 5, [847, 848, 849, 68]), (3, 12, 101, 168, 5, [1351, 1352, 1353, 80]), (3, 12, 102, 86, 2, [868, 869, 870, 68])]
set_option maxRecDepth 100000 in
theorem ab_clt0_15 : ab_clt_15.all ab_lkc = true := by decide +kernel
def ab_clt_16 : List ab_CL := [(3, 12, 105, 172, 2, [1371, 1372, 1373, 80]), (3, 12, 106, 87, 1, [884, 885, 886, 68]), (3, 12, 109, 173, 1, [1388, 1389, 1390, 80]), (3, 12, 110, 88, 3, [888, 889, 890, 68]), (3, 12, 113, 174, 3, [1392, 1393, 1394, 80]), (3, 12, 114, 89, 1, [896, 897, 898, 68]), (3, 12, 117, 177, 1, [1396, 1397, 1398, 80]), (3, 12, 118, 90, 2, [907, 908, 909, 68]), (3, 12, 121, 178, 2, [1408, 1409, 1410, 80]), (3, 12, 122, 91, 3, [911, 912, 913, 68]), (3, 12, 125, 179, 3, [1412, 1413, 1414, 80]), (3, 12, 126, 92, 1, [920, 921, 922, 68])]
set_option maxRecDepth 100000 in
theorem ab_clt0_16 : ab_clt_16.all ab_lkc = true := by decide +kernel
def ab_clt_17 : List ab_CL := [(3, 12, 129, 180, 1, [1417, 1418, 1419, 80]), (3, 12, 130, 93, 1, [928, 929, 930, 68]), (3, 12, 133, 181, 1, [1421, 1422, 1423, 80]), (3, 12, 134, 94, 2, [932, 933, 934, 68]), (3, 12, 137, 182, 2, [1425, 1426, 1427, 80]), (3, 12, 138, 95, 2, [936, 937, 938, 68]), (3, 12, 141, 183, 2, [1429, 1430, 1431, 80]), (3, 12, 142, 96, 2, [945, 946, 947, 68]), (3, 12, 145, 184, 2, [1433, 1434, 1435, 80])]
set_option maxRecDepth 100000 in
theorem ab_clt0_17 : ab_clt_17.all ab_lkc = true := by decide +kernel
def ab_clt : List ab_CL := List.append ab_clt_0 (List.append ab_clt_1 (List.append ab_clt_2 (List.append ab_clt_3 (List.append ab_clt_4 (List.append ab_clt_5 (List.append ab_clt_6 (List.append ab_clt_7 (List.append ab_clt_8 (List.append ab_clt_9 (List.append ab_clt_10 (List.append ab_clt_11 (List.append ab_clt_12 (List.append ab_clt_13 (List.append ab_clt_14 (List.append ab_clt_15 (List.append ab_clt_16 (ab_clt_17)))))))))))))))))
theorem ab_clt0 : ab_clt.all ab_lkc = true := ab_all_app ab_clt0_0 (ab_all_app ab_clt0_1 (ab_all_app ab_clt0_2 (ab_all_app ab_clt0_3 (ab_all_app ab_clt0_4 (ab_all_app ab_clt0_5 (ab_all_app ab_clt0_6 (ab_all_app ab_clt0_7 (ab_all_app ab_clt0_8 (ab_all_app ab_clt0_9 (ab_all_app ab_clt0_10 (ab_all_app ab_clt0_11 (ab_all_app ab_clt0_12 (ab_all_app ab_clt0_13 (ab_all_app ab_clt0_14 (ab_all_app ab_clt0_15 (ab_all_app ab_clt0_16 (ab_clt0_17)))))))))))))))))
def ab_cnt : List (Nat × (Nat × (Int × Nat))) := [(1, 24, 1000000000, 817), (7, 64, 65536, 716), (9, 95, -1000000002, 443), (9, 103, -1000000004, 448), (9, 160, -1000000001, 631), (9, 217, -1000000003, 679), (9, 218, 90000, 680), (9, 307, 99999, 915), (10, 114, -1000000002, 1114), (10, 118, -1000000004, 1115), (10, 135, 1000000, 1130), (10, 235, -1000000001, 1210), (10, 247, -1000000003, 1244), (10, 248, 90000, 1245), (10, 265, 65536, 1279)]
set_option maxRecDepth 100000 in
theorem ab_cnt0 : ab_cnt.all (fun q => decide (ab_rg q.2.2.1) && ab_ix q.2.2.2 (.constant (ab_ows.getD q.1 "") q.2.1 (Int32.ofInt q.2.2.1))) = true := by decide +kernel
def ab_lnt : List (Nat × (Nat × (Int × Nat))) := [(1, 43, 10, 825), (7, 58, 1103515245, 713), (7, 60, 12345, 714), (7, 62, 2147483647, 715), (10, 112, 255, 1110), (10, 131, 48, 1128), (10, 133, 57, 1129), (10, 242, 6, 1227), (10, 257, 999, 1266), (10, 259, 1103515245, 1276), (10, 261, 12345, 1277), (10, 263, 2147483647, 1278), (10, 266, 30, 1271), (10, 305, 1000000000, 1336), (10, 307, 10, 1337), (10, 309, 9, 1346), (10, 332, -1, 1375), (10, 346, 99999, 1416)]
set_option maxRecDepth 100000 in
theorem ab_lnt0 : ab_lnt.all (fun q => decide (ab_rl q.2.2.1) && ab_ix q.2.2.2 (.constantLong (ab_ows.getD q.1 "") q.2.1 (Int64.ofInt q.2.2.1))) = true := by decide +kernel
def ab_nwt : List (Nat × (Nat × (Nat × (Nat × (Nat × Nat))))) := [(9, 7, 6, 96, 97, 69), (9, 20, 8, 125, 126, 70), (9, 30, 7, 229, 230, 72), (9, 43, 4, 261, 262, 73), (9, 50, 0, 278, 279, 75), (9, 57, 5, 316, 317, 76), (9, 67, 3, 330, 331, 77), (9, 74, 1, 360, 361, 78), (9, 81, 2, 375, 376, 79), (12, 7, 9, 88, 89, 68), (12, 10, 10, 949, 950, 80)]
set_option maxRecDepth 100000 in
theorem ab_nwt0 : ab_nwt.all (fun q => match vwCl[q.2.2.1]? with | some r => ab_ix q.2.2.2.1 (.classLink (ab_ows.getD q.1 "") q.2.1 r.1) && ab_ix q.2.2.2.2.1 (.instantiable r.1 r.2.2) && ab_ix q.2.2.2.2.2 (.initialized r.1) | none => false) = true := by decide +kernel
def ab_sn (k : Nat) : String × (String × String) := if k = 1001 then ("LoneAdjective$Reader", "NUMBERS", "[I") else if k = 1002 then ("LoneAdjective$Reader", "MOST", "[I") else if k = 1003 then ("LoneAdjective$Reader", "DEED_BOUNDS", "[I") else ("java/lang/String", "COMPACT_STRINGS", "Z")
def ab_gst : List (Nat × (Nat × (Nat × Nat))) := [(6, 58, 1002, 554), (6, 61, 1001, 556), (6, 97, 1003, 572), (14, 38, 1, 480)]
set_option maxRecDepth 100000 in
theorem ab_gst0 : ab_gst.all (fun q => ab_ix q.2.2.2 (.fieldLink (ab_ows.getD q.1 "") q.2.1 (ab_sn q.2.2.1).1 (ab_sn q.2.2.1).2.1 (ab_sn q.2.2.1).2.2)) = true := by decide +kernel
def ab_oit : List (Nat × (Nat × Nat)) := [(9, 1, 93), (6, 3, 101), (8, 3, 130), (7, 3, 234), (4, 3, 266), (11, 3, 286), (1, 3, 365), (2, 3, 380), (10, 1, 954)]
set_option maxRecDepth 100000 in
theorem ab_oit0 : ab_oit.all (fun q => ab_ix q.2.2 (.methodLink (ab_ows.getD q.1 "") q.2.1 Lib.objectInit)) = true := by decide +kernel
def ab_act : List (Nat × (Nat × Nat)) := [(0, 41, 752), (7, 39, 944)]
set_option maxRecDepth 100000 in
theorem ab_act0 : ab_act.all (fun q => ab_ix q.2.2 (.methodLink (ab_ows.getD q.1 "") q.2.1 arraycopyName)) = true := by decide +kernel
def ab_mmt : List (Nat × (Nat × (Nat × Nat))) := [(15, 92, 902, 496), (15, 38, 903, 499), (9, 252, 902, 799)]
set_option maxRecDepth 100000 in
theorem ab_mmt0 : ab_mmt.all (fun q => ab_ix q.2.2.2 (.methodLink (ab_ows.getD q.1 "") q.2.1 (if q.2.2.1 = 902 then Lib.Math.max.name else Lib.Math.min.name))) = true := by decide +kernel
theorem ab_mul0 : Cond.classLink "LoneAdjective$Town" 15 "[[I" ∈ ab_tb := ab_ix_mem (i := 131) (by decide +kernel)
end
section
/-! EACH INSTRUCTION'S NEEDS, as a test that a program runs -/
def ab_dc (cc : ByteArray) (pc : Nat) (i : Instr) (n : Nat) : Bool := decide (decode cc pc = .ok (i, n))
def ab_dl (cc : ByteArray) (pc : Nat) (i : Instr) : Bool := match decode cc pc with
  | .ok (j, _) => decide (j = i)
  | _ => false
theorem ab_dli {cc : ByteArray} {pc : Nat} {i : Instr} (h : ab_dl cc pc i = true) : ∃ n, decode cc pc = .ok (i, n) := by
  unfold ab_dl at h
  split at h
  next j n hd => rw [hd, of_decide_eq_true h]; exact ⟨n, rfl⟩
  next => cases h
def ab_en0 (oid : Nat) (cc : ByteArray) (ini : Bool) (pc : Nat) (en : ab_E) : Bool := match en.1 with
  | .iconst n => ab_dc cc pc (.iconst n) 1 && decide (ab_rg n)
  | .bipush n => ab_dc cc pc (.bipush n) 2 && decide (ab_rg n) && decide ((Int8.ofInt n).toInt32 = Int32.ofInt n)
  | .sipush n => ab_dc cc pc (.sipush n) 3 && decide (ab_rg n) && decide ((Int16.ofInt n).toInt32 = Int32.ofInt n)
  | .ldc i => ab_dc cc pc (.ldc i) 2 && (if en.2.2.1 = 0 then ab_cnt.any (fun q => decide (q.1 = oid ∧ q.2.1 = i ∧ q.2.2.1 = en.2.2.2)) else decide (oid = 6 ∧ i = 50))
  | .ldc_w i => ab_dc cc pc (.ldc_w i) 3 && ab_cnt.any (fun q => decide (q.1 = oid ∧ q.2.1 = i ∧ q.2.2.1 = en.2.2.2))
  | .ldc2_w i => ab_dc cc pc (.ldc2_w i) 3 && ab_lnt.any (fun q => decide (q.1 = oid ∧ q.2.1 = i ∧ q.2.2.1 = en.2.2.2))
  | .goto off => ab_dc cc pc (.goto off) 3 && decide ((pc : Int) + off = (en.2.2.1 : Int))
  | .ifCond c off => ab_dc cc pc (.ifCond c off) 3 && decide ((pc : Int) + off = (en.2.2.1 : Int))
  | .if_icmp c off => ab_dc cc pc (.if_icmp c off) 3 && decide ((pc : Int) + off = (en.2.2.1 : Int))
  | .tableswitch d lo hi offs => ab_dl cc pc (.tableswitch d lo hi offs) && decide ((pc : Int) + d = (en.2.2.1 : Int))
  | .lookupswitch d ps => ab_dl cc pc (.lookupswitch d ps) && (ps.toList.zip (ps.toList.drop 1)).all (fun (a, next) => a.1 < next.1)
  | .getfield i => ab_dc cc pc (.getfield i) 3 && (if en.2.2.2 = 30 then decide (oid = 14 ∧ ((en.2.2.1 = 0 ∧ i = 9) ∨ (en.2.2.1 ≠ 0 ∧ i = 15))) else ab_flt.any (fun q => decide (q.1 = oid ∧ q.2.1 = i ∧ q.2.2.1 = en.2.2.2 ∧ q.2.2.2.1 = en.2.2.1)))
  | .putfield i => ab_dc cc pc (.putfield i) 3 && ab_flt.any (fun q => decide (q.1 = oid ∧ q.2.1 = i ∧ q.2.2.1 = en.2.2.2 ∧ q.2.2.2.1 = en.2.2.1)) && (List.range 11).all (fun t => !decide (ab_tg en.2.2.2 t) || (match vwCl[t]? with | some r => !(r.2.1 en.2.2.1).2.2.2 || (ini && decide ((r.2.1 en.2.2.1).1 = ab_ows.getD oid "")) | none => true))
  | .getstatic i => ab_dc cc pc (.getstatic i) 3 && ab_gst.any (fun q => decide (q.1 = oid ∧ q.2.1 = i ∧ q.2.2.1 = en.2.2.1)) && (decide (en.2.2.2 = 0 ∧ oid = 6 ∧ (en.2.2.1 = 1001 ∨ en.2.2.1 = 1002 ∨ en.2.2.1 = 1003)) || decide (en.2.2.2 ≠ 0 ∧ en.2.2.1 = 1))
  | .new i => ab_dc cc pc (.new i) 3 && ab_nwt.any (fun q => decide (q.1 = oid ∧ q.2.1 = i ∧ (q.2.2.1 : Int) = en.2.2.2))
  | .newarray a => ab_dc cc pc (.newarray a) 2 && (decide (en.2.2.2 = 20 ∧ a = .int) || decide (en.2.2.2 = 21 ∧ a = .boolean) || decide (en.2.2.2 = 22 ∧ a = .char))
  | .multianewarray i n => ab_dc cc pc (.multianewarray i 2) 4 && decide (n = 2 ∧ oid = 8 ∧ i = 15)
  | .invokespecial i => ab_dc cc pc (.invokespecial i) 3 && ab_oit.any (fun q => decide (q.1 = oid ∧ q.2.1 = i))
  | .invokestatic i => ab_dc cc pc (.invokestatic i) 3 && (if en.2.2.1 = 901 then ab_act.any (fun q => decide (q.1 = oid ∧ q.2.1 = i)) else decide (en.2.2.1 = 902 ∨ en.2.2.1 = 903) && ab_mmt.any (fun q => decide (q.1 = oid ∧ q.2.1 = i ∧ q.2.2.1 = en.2.2.1)))
  | .iinc n z => ab_dc cc pc (.iinc n z) 3
  | .iload n => ab_dc cc pc (.iload n) 2
  | .lload n => ab_dc cc pc (.lload n) 2
  | .aload n => ab_dc cc pc (.aload n) 2
  | .istore n => ab_dc cc pc (.istore n) 2
  | .lstore n => ab_dc cc pc (.lstore n) 2
  | .astore n => ab_dc cc pc (.astore n) 2
  | i => ab_dc cc pc i 1
theorem ab_fl_any {oid i f : Nat} {x : Int} (h : ab_flt.any (fun q => decide (q.1 = oid ∧ q.2.1 = i ∧ q.2.2.1 = x ∧ q.2.2.2.1 = f)) = true) : ∃ q : ab_FL, q ∈ ab_flt ∧ ab_ows.getD oid "" = ab_ows.getD q.1 "" ∧ q.2.1 = i ∧ q.2.2.1 = x ∧ q.2.2.2.1 = f := by
  obtain ⟨q, hq, h2⟩ := List.any_eq_true.mp h
  obtain ⟨a1, a2, a3, a4⟩ := of_decide_eq_true h2
  exact ⟨q, hq, by rw [a1], a2, a3, a4⟩
theorem ab_cn_any {oid i : Nat} {x : Int} (h : ab_cnt.any (fun q => decide (q.1 = oid ∧ q.2.1 = i ∧ q.2.2.1 = x)) = true) : ab_rg x ∧ Cond.constant (ab_ows.getD oid "") i (Int32.ofInt x) ∈ ab_tb := by
  obtain ⟨q, hq, h2⟩ := List.any_eq_true.mp h
  obtain ⟨a1, a2, a3⟩ := of_decide_eq_true h2
  have h3 := List.all_eq_true.mp ab_cnt0 q hq
  simp only [Bool.and_eq_true, decide_eq_true_eq] at h3
  subst a1; subst a2; subst a3
  exact ⟨h3.1, ab_ix_mem h3.2⟩
theorem ab_ln_any {oid i : Nat} {x : Int} (h : ab_lnt.any (fun q => decide (q.1 = oid ∧ q.2.1 = i ∧ q.2.2.1 = x)) = true) : ab_rl x ∧ Cond.constantLong (ab_ows.getD oid "") i (Int64.ofInt x) ∈ ab_tb := by
  obtain ⟨q, hq, h2⟩ := List.any_eq_true.mp h
  obtain ⟨a1, a2, a3⟩ := of_decide_eq_true h2
  have h3 := List.all_eq_true.mp ab_lnt0 q hq
  simp only [Bool.and_eq_true, decide_eq_true_eq] at h3
  subst a1; subst a2; subst a3
  exact ⟨h3.1, ab_ix_mem h3.2⟩
theorem ab_gs_any {oid i k : Nat} (h : ab_gst.any (fun q => decide (q.1 = oid ∧ q.2.1 = i ∧ q.2.2.1 = k)) = true) : Cond.fieldLink (ab_ows.getD oid "") i (ab_sn k).1 (ab_sn k).2.1 (ab_sn k).2.2 ∈ ab_tb := by
  obtain ⟨q, hq, h2⟩ := List.any_eq_true.mp h
  obtain ⟨a1, a2, a3⟩ := of_decide_eq_true h2
  have h3 := List.all_eq_true.mp ab_gst0 q hq
  subst a1; subst a2; subst a3
  exact ab_ix_mem h3
theorem ab_en0_ok {oid : Nat} {cc : ByteArray} {ini : Bool} {nm : String} {pc : Nat} {en : ab_E} (hi : ini = true → nm = "<init>") (h : ab_en0 oid cc ini pc en = true) : ab_eok (ab_ows.getD oid "") cc nm pc en := by
  obtain ⟨i, kd, k, x⟩ := en
  have dc : ∀ {j : Instr} {n : Nat}, ab_dc cc pc j n = true → decode cc pc = .ok (j, n) := fun h => of_decide_eq_true h
  cases i with
  | iconst n =>
    have h : (ab_dc cc pc (.iconst n) 1 && decide (ab_rg n)) = true := h
    simp only [Bool.and_eq_true, decide_eq_true_eq] at h
    exact ⟨dc h.1, h.2⟩
  | bipush n =>
    have h : (ab_dc cc pc (.bipush n) 2 && decide (ab_rg n) && decide ((Int8.ofInt n).toInt32 = Int32.ofInt n)) = true := h
    simp only [Bool.and_eq_true, decide_eq_true_eq] at h
    exact ⟨dc h.1.1, h.1.2, h.2⟩
  | sipush n =>
    have h : (ab_dc cc pc (.sipush n) 3 && decide (ab_rg n) && decide ((Int16.ofInt n).toInt32 = Int32.ofInt n)) = true := h
    simp only [Bool.and_eq_true, decide_eq_true_eq] at h
    exact ⟨dc h.1.1, h.1.2, h.2⟩
  | ldc j =>
    have h : (ab_dc cc pc (.ldc j) 2 && (if k = 0 then ab_cnt.any (fun q => decide (q.1 = oid ∧ q.2.1 = j ∧ q.2.2.1 = x)) else decide (oid = 6 ∧ j = 50))) = true := h
    rw [Bool.and_eq_true] at h
    refine ⟨dc h.1, fun h0 => ?_, fun h0 => ?_⟩
    · have h0 : k = 0 := h0
      have h2 := h.2
      rw [if_pos h0] at h2
      exact ab_cn_any h2
    · have h0 : ¬ k = 0 := h0
      have h2 := h.2
      rw [if_neg h0] at h2
      obtain ⟨a1, a2⟩ := of_decide_eq_true h2
      exact ⟨by rw [a1]; rfl, a2⟩
  | ldc_w j =>
    have h : (ab_dc cc pc (.ldc_w j) 3 && ab_cnt.any (fun q => decide (q.1 = oid ∧ q.2.1 = j ∧ q.2.2.1 = x))) = true := h
    rw [Bool.and_eq_true] at h
    exact ⟨dc h.1, ab_cn_any h.2⟩
  | ldc2_w j =>
    have h : (ab_dc cc pc (.ldc2_w j) 3 && ab_lnt.any (fun q => decide (q.1 = oid ∧ q.2.1 = j ∧ q.2.2.1 = x))) = true := h
    rw [Bool.and_eq_true] at h
    exact ⟨dc h.1, ab_ln_any h.2⟩
  | goto off =>
    have h : (ab_dc cc pc (.goto off) 3 && decide ((pc : Int) + off = (k : Int))) = true := h
    simp only [Bool.and_eq_true, decide_eq_true_eq] at h
    exact ⟨dc h.1, h.2⟩
  | ifCond c off =>
    have h : (ab_dc cc pc (.ifCond c off) 3 && decide ((pc : Int) + off = (k : Int))) = true := h
    simp only [Bool.and_eq_true, decide_eq_true_eq] at h
    exact ⟨dc h.1, h.2⟩
  | if_icmp c off =>
    have h : (ab_dc cc pc (.if_icmp c off) 3 && decide ((pc : Int) + off = (k : Int))) = true := h
    simp only [Bool.and_eq_true, decide_eq_true_eq] at h
    exact ⟨dc h.1, h.2⟩
  | tableswitch d lo hi offs =>
    have h : (ab_dl cc pc (.tableswitch d lo hi offs) && decide ((pc : Int) + d = (k : Int))) = true := h
    simp only [Bool.and_eq_true, decide_eq_true_eq] at h
    exact ⟨ab_dli h.1, h.2⟩
  | lookupswitch d ps =>
    have h : (ab_dl cc pc (.lookupswitch d ps) && (ps.toList.zip (ps.toList.drop 1)).all (fun (a, next) => a.1 < next.1)) = true := h
    rw [Bool.and_eq_true] at h
    exact ⟨ab_dli h.1, h.2⟩
  | getfield j =>
    have h : (ab_dc cc pc (.getfield j) 3 && (if x = 30 then decide (oid = 14 ∧ ((k = 0 ∧ j = 9) ∨ (k ≠ 0 ∧ j = 15))) else ab_flt.any (fun q => decide (q.1 = oid ∧ q.2.1 = j ∧ q.2.2.1 = x ∧ q.2.2.2.1 = k)))) = true := h
    rw [Bool.and_eq_true] at h
    refine ⟨dc h.1, fun h0 => ?_, fun h0 => ?_⟩
    · have h0 : ¬ x = 30 := h0
      have h2 := h.2
      rw [if_neg h0] at h2
      exact ab_fl_any h2
    · have h0 : x = 30 := h0
      have h2 := h.2
      rw [if_pos h0] at h2
      obtain ⟨a1, a2⟩ := of_decide_eq_true h2
      exact ⟨by rw [a1]; rfl, a2⟩
  | putfield j =>
    have h : (ab_dc cc pc (.putfield j) 3 && ab_flt.any (fun q => decide (q.1 = oid ∧ q.2.1 = j ∧ q.2.2.1 = x ∧ q.2.2.2.1 = k)) && (List.range 11).all (fun t => !decide (ab_tg x t) || (match vwCl[t]? with | some r => !(r.2.1 k).2.2.2 || (ini && decide ((r.2.1 k).1 = ab_ows.getD oid "")) | none => true))) = true := h
    rw [Bool.and_eq_true, Bool.and_eq_true] at h
    refine ⟨dc h.1.1, ab_fl_any h.1.2, fun t r ht hr => ?_⟩
    have hl : t < 11 := (List.getElem?_eq_some_iff.mp hr).1
    have h3 := List.all_eq_true.mp h.2 t (List.mem_range.mpr hl)
    rw [hr] at h3
    simp only [Bool.or_eq_true, Bool.not_eq_true', decide_eq_false_iff_not, Bool.and_eq_true, decide_eq_true_eq] at h3
    rcases h3 with h3 | h3 | h3
    · exact absurd ht h3
    · exact Or.inl h3
    · cases hq : (r.2.1 k).2.2.2 with
      | false => exact Or.inl rfl
      | true => exact Or.inr ⟨rfl, hi h3.1, h3.2⟩
  | getstatic j =>
    have h : (ab_dc cc pc (.getstatic j) 3 && ab_gst.any (fun q => decide (q.1 = oid ∧ q.2.1 = j ∧ q.2.2.1 = k)) && (decide (x = 0 ∧ oid = 6 ∧ (k = 1001 ∨ k = 1002 ∨ k = 1003)) || decide (x ≠ 0 ∧ k = 1))) = true := h
    rw [Bool.and_eq_true, Bool.and_eq_true, Bool.or_eq_true] at h
    have hl := ab_gs_any h.1.2
    refine ⟨dc h.1.1, ?_⟩
    rcases h.2 with h3 | h3
    · obtain ⟨a1, a2, a3⟩ := of_decide_eq_true h3
      refine Or.inl ⟨a1, by rw [a2]; rfl, ?_⟩
      rcases a3 with rfl | rfl | rfl
      · exact Or.inl ⟨rfl, hl⟩
      · exact Or.inr (Or.inl ⟨rfl, hl⟩)
      · exact Or.inr (Or.inr ⟨rfl, hl⟩)
    · obtain ⟨a1, rfl⟩ := of_decide_eq_true h3
      exact Or.inr ⟨a1, rfl, hl⟩
  | new j =>
    have h : (ab_dc cc pc (.new j) 3 && ab_nwt.any (fun q => decide (q.1 = oid ∧ q.2.1 = j ∧ (q.2.2.1 : Int) = x))) = true := h
    rw [Bool.and_eq_true] at h
    refine ⟨dc h.1, fun t r ht hr => ?_⟩
    obtain ⟨q, hq, h2⟩ := List.any_eq_true.mp h.2
    obtain ⟨a1, a2, a3⟩ := of_decide_eq_true h2
    have h3 := List.all_eq_true.mp ab_nwt0 q hq
    have ht : x = t := ht
    have : q.2.2.1 = t := by omega
    rw [this, hr] at h3
    simp only [Bool.and_eq_true] at h3
    subst a1; subst a2
    exact ⟨ab_ix_mem h3.1.1, ab_ix_mem h3.1.2, ab_ix_mem h3.2⟩
  | newarray a =>
    have h : (ab_dc cc pc (.newarray a) 2 && (decide (x = 20 ∧ a = .int) || decide (x = 21 ∧ a = .boolean) || decide (x = 22 ∧ a = .char))) = true := h
    simp only [Bool.and_eq_true, Bool.or_eq_true, decide_eq_true_eq] at h
    refine ⟨dc h.1, ?_⟩
    rcases h.2 with (⟨rfl, rfl⟩ | ⟨rfl, rfl⟩) | ⟨rfl, rfl⟩
    · exact ⟨fun _ => rfl, fun z => absurd z (by dsimp only; decide), fun z => absurd z (by dsimp only; decide)⟩
    · exact ⟨fun z => absurd z (by dsimp only; decide), fun _ => rfl, fun z => absurd z (by dsimp only; decide)⟩
    · exact ⟨fun z => absurd z (by dsimp only; decide), fun z => absurd z (by dsimp only; decide), fun _ => rfl⟩
  | multianewarray j n =>
    have h : (ab_dc cc pc (.multianewarray j 2) 4 && decide (n = 2 ∧ oid = 8 ∧ j = 15)) = true := h
    simp only [Bool.and_eq_true, decide_eq_true_eq] at h
    obtain ⟨h1, h2, h3, h4⟩ := h
    refine ⟨dc h1, h2, ?_⟩
    rw [h3, h4]
    exact ab_mul0
  | invokespecial j =>
    have h : (ab_dc cc pc (.invokespecial j) 3 && ab_oit.any (fun q => decide (q.1 = oid ∧ q.2.1 = j))) = true := h
    rw [Bool.and_eq_true] at h
    refine ⟨dc h.1, ?_⟩
    obtain ⟨q, hq, h2⟩ := List.any_eq_true.mp h.2
    obtain ⟨a1, a2⟩ := of_decide_eq_true h2
    have h3 := ab_ix_mem (List.all_eq_true.mp ab_oit0 q hq)
    rw [a1, a2] at h3
    exact h3
  | invokestatic j =>
    have h : (ab_dc cc pc (.invokestatic j) 3 && (if k = 901 then ab_act.any (fun q => decide (q.1 = oid ∧ q.2.1 = j)) else decide (k = 902 ∨ k = 903) && ab_mmt.any (fun q => decide (q.1 = oid ∧ q.2.1 = j ∧ q.2.2.1 = k)))) = true := h
    rw [Bool.and_eq_true] at h
    have mm : ¬ k = 901 → (k = 902 ∨ k = 903) ∧ Cond.methodLink (ab_ows.getD oid "") j (if k = 902 then Lib.Math.max.name else Lib.Math.min.name) ∈ ab_tb := by
      intro h0
      have h2 := h.2
      rw [if_neg h0, Bool.and_eq_true] at h2
      refine ⟨of_decide_eq_true h2.1, ?_⟩
      obtain ⟨q, hq, h4⟩ := List.any_eq_true.mp h2.2
      obtain ⟨a1, a2, a3⟩ := of_decide_eq_true h4
      have h3 := ab_ix_mem (List.all_eq_true.mp ab_mmt0 q hq)
      rw [a1, a2, a3] at h3
      exact h3
    refine ⟨dc h.1, fun h0 => ?_, fun h0 h1 => ?_, fun h0 h1 => ?_⟩
    · have h0 : k = 901 := h0
      have h2 := h.2
      rw [if_pos h0] at h2
      obtain ⟨q, hq, h4⟩ := List.any_eq_true.mp h2
      obtain ⟨a1, a2⟩ := of_decide_eq_true h4
      have h3 := ab_ix_mem (List.all_eq_true.mp ab_act0 q hq)
      rw [a1, a2] at h3
      exact h3
    · have h1 : k = 902 := h1
      have := (mm h0).2
      rw [if_pos h1] at this
      exact this
    · have h1 : ¬ k = 902 := h1
      have := (mm h0).2
      rw [if_neg h1] at this
      exact this
  | _ => exact dc h
/-- a call's link -/
def ab_cok (oid : Nat) (cc : ByteArray) (pc : Nat) (en : ab_E) : Prop := ∃ q : ab_CL, q ∈ ab_clt ∧ q.2.1 = oid ∧ q.2.2.2.1 = en.2.2.1 ∧ (q.2.2.2.2.1 : Int) = en.2.2.2 ∧
  ((q.1 = 0 ∧ en.1 = .invokestatic q.2.2.1) ∨ ((q.1 = 1 ∨ q.1 = 2) ∧ en.1 = .invokespecial q.2.2.1) ∨ ((q.1 = 3 ∨ q.1 = 4 ∨ q.1 = 5) ∧ en.1 = .invokevirtual q.2.2.1)) ∧ decode cc pc = .ok (en.1, 3)
def ab_en1 (oid : Nat) (cc : ByteArray) (pc : Nat) (en : ab_E) : Bool := ab_dc cc pc en.1 3 && ab_clt.any (fun q => decide (q.2.1 = oid ∧ q.2.2.2.1 = en.2.2.1 ∧ (q.2.2.2.2.1 : Int) = en.2.2.2) && (match en.1 with
  | .invokestatic i => decide (q.2.2.1 = i ∧ q.1 = 0)
  | .invokespecial i => decide (q.2.2.1 = i ∧ (q.1 = 1 ∨ q.1 = 2))
  | .invokevirtual i => decide (q.2.2.1 = i ∧ (q.1 = 3 ∨ q.1 = 4 ∨ q.1 = 5))
  | _ => false))
theorem ab_en1_ok {oid : Nat} {cc : ByteArray} {pc : Nat} {en : ab_E} (h : ab_en1 oid cc pc en = true) : ab_cok oid cc pc en := by
  unfold ab_en1 at h
  rw [Bool.and_eq_true] at h
  obtain ⟨q, hq, h2⟩ := List.any_eq_true.mp h.2
  rw [Bool.and_eq_true] at h2
  obtain ⟨a1, a2, a3⟩ := of_decide_eq_true h2.1
  refine ⟨q, hq, a1, a2, a3, ?_, of_decide_eq_true h.1⟩
  have h3 := h2.2
  split at h3
  next i hi =>
    obtain ⟨b1, b2⟩ := of_decide_eq_true h3
    exact Or.inl ⟨b2, by rw [hi, b1]⟩
  next i hi =>
    obtain ⟨b1, b2⟩ := of_decide_eq_true h3
    exact Or.inr (Or.inl ⟨b2, by rw [hi, b1]⟩)
  next i hi =>
    obtain ⟨b1, b2⟩ := of_decide_eq_true h3
    exact Or.inr (Or.inr ⟨b2, by rw [hi, b1]⟩)
  next => cases h3
/-- a return's -/
def ab_rok (rv : Option FieldType) (cc : ByteArray) (pc : Nat) (en : ab_E) : Prop := (en.2.2.1 = 0 ∧ rv = none ∧ decode cc pc = .ok (.return_, 1)) ∨ (en.2.2.1 = 1 ∧ decode cc pc = .ok (.ireturn, 1) ∧ ((en.2.2.2 = 0 ∧ rv = some .int) ∨ (en.2.2.2 = 1 ∧ rv = some .boolean) ∨ (en.2.2.2 = 3 ∧ rv = some .byte)))
def ab_en2 (rv : Option FieldType) (cc : ByteArray) (pc : Nat) (en : ab_E) : Bool := (decide (en.2.2.1 = 0 ∧ rv = none) && ab_dc cc pc .return_ 1) || (decide (en.2.2.1 = 1) && ab_dc cc pc .ireturn 1 && (decide (en.2.2.2 = 0 ∧ rv = some .int) || decide (en.2.2.2 = 1 ∧ rv = some .boolean) || decide (en.2.2.2 = 3 ∧ rv = some .byte)))
theorem ab_en2_ok {rv : Option FieldType} {cc : ByteArray} {pc : Nat} {en : ab_E} (h : ab_en2 rv cc pc en = true) : ab_rok rv cc pc en := by
  unfold ab_en2 at h
  simp only [Bool.or_eq_true, Bool.and_eq_true, decide_eq_true_eq] at h
  rcases h with ⟨⟨h1, h2⟩, h3⟩ | ⟨⟨h1, h2⟩, h3⟩
  · exact Or.inl ⟨h1, h2, of_decide_eq_true h3⟩
  · refine Or.inr ⟨h1, of_decide_eq_true h2, ?_⟩
    rcases h3 with (h3 | h3) | h3
    · exact Or.inl h3
    · exact Or.inr (Or.inl h3)
    · exact Or.inr (Or.inr h3)
def ab_enB (oid : Nat) (cc : ByteArray) (ini : Bool) (rv : Option FieldType) (q : Nat × ab_E) : Bool := match q.2.2.1 with
  | 0 => ab_en0 oid cc ini q.1 q.2
  | 1 => ab_en1 oid cc q.1 q.2
  | 2 => ab_en2 rv cc q.1 q.2
  | _ => true
end
section
set_option maxRecDepth 100000 in
theorem ab_ok_0 : ab_c0.all (ab_enB 0 cX0_init true (none)) = true := by decide +kernel
set_option maxRecDepth 100000 in
theorem ab_ok_1 : ab_c1.all (ab_enB 0 cX0_find false (none)) = true := by decide +kernel
set_option maxRecDepth 100000 in
theorem ab_ok_2_0 : ab_c2_0.all (ab_enB 0 cX0_meet false (none)) = true := by decide +kernel
set_option maxRecDepth 100000 in
theorem ab_ok_2_1 : ab_c2_1.all (ab_enB 0 cX0_meet false (none)) = true := by decide +kernel
theorem ab_ok_2 : ab_c2.all (ab_enB 0 cX0_meet false (none)) = true := ab_all_app ab_ok_2_0 (ab_ok_2_1)
set_option maxRecDepth 100000 in
theorem ab_ok_3 : ab_c3.all (ab_enB 1 cX1_init true (none)) = true := by decide +kernel
set_option maxRecDepth 100000 in
theorem ab_ok_4 : ab_c4.all (ab_enB 1 cX1_find false (none)) = true := by decide +kernel
set_option maxRecDepth 100000 in
theorem ab_ok_5_0 : ab_c5_0.all (ab_enB 1 cX1_lendOn false (none)) = true := by decide +kernel
set_option maxRecDepth 100000 in
theorem ab_ok_5_1 : ab_c5_1.all (ab_enB 1 cX1_lendOn false (none)) = true := by decide +kernel
set_option maxRecDepth 100000 in
theorem ab_ok_5_2 : ab_c5_2.all (ab_enB 1 cX1_lendOn false (none)) = true := by decide +kernel
theorem ab_ok_5 : ab_c5.all (ab_enB 1 cX1_lendOn false (none)) = true := ab_all_app ab_ok_5_0 (ab_all_app ab_ok_5_1 (ab_ok_5_2))
set_option maxRecDepth 100000 in
theorem ab_ok_6 : ab_c6.all (ab_enB 1 cX1_compare false (none)) = true := by decide +kernel
set_option maxRecDepth 100000 in
theorem ab_ok_7 : ab_c7.all (ab_enB 2 cX2_init true (none)) = true := by decide +kernel
set_option maxRecDepth 100000 in
theorem ab_ok_8 : ab_c8.all (ab_enB 2 cX2_place false (some .int)) = true := by decide +kernel
set_option maxRecDepth 100000 in
theorem ab_ok_9_0 : ab_c9_0.all (ab_enB 2 cX2_solve false (none)) = true := by decide +kernel
set_option maxRecDepth 100000 in
theorem ab_ok_9_1 : ab_c9_1.all (ab_enB 2 cX2_solve false (none)) = true := by decide +kernel
set_option maxRecDepth 100000 in
theorem ab_ok_9_2 : ab_c9_2.all (ab_enB 2 cX2_solve false (none)) = true := by decide +kernel
theorem ab_ok_9 : ab_c9.all (ab_enB 2 cX2_solve false (none)) = true := ab_all_app ab_ok_9_0 (ab_all_app ab_ok_9_1 (ab_ok_9_2))
set_option maxRecDepth 100000 in
theorem ab_ok_10_0 : ab_c10_0.all (ab_enB 2 cX2_decideAt false (some .boolean)) = true := by decide +kernel
set_option maxRecDepth 100000 in
theorem ab_ok_10_1 : ab_c10_1.all (ab_enB 2 cX2_decideAt false (some .boolean)) = true := by decide +kernel
theorem ab_ok_10 : ab_c10.all (ab_enB 2 cX2_decideAt false (some .boolean)) = true := ab_all_app ab_ok_10_0 (ab_ok_10_1)
set_option maxRecDepth 100000 in
theorem ab_ok_11_0 : ab_c11_0.all (ab_enB 2 cX2_decide false (some .boolean)) = true := by decide +kernel
set_option maxRecDepth 100000 in
theorem ab_ok_11_1 : ab_c11_1.all (ab_enB 2 cX2_decide false (some .boolean)) = true := by decide +kernel
set_option maxRecDepth 100000 in
theorem ab_ok_11_2 : ab_c11_2.all (ab_enB 2 cX2_decide false (some .boolean)) = true := by decide +kernel
set_option maxRecDepth 100000 in
theorem ab_ok_11_3 : ab_c11_3.all (ab_enB 2 cX2_decide false (some .boolean)) = true := by decide +kernel
theorem ab_ok_11 : ab_c11.all (ab_enB 2 cX2_decide false (some .boolean)) = true := ab_all_app ab_ok_11_0 (ab_all_app ab_ok_11_1 (ab_all_app ab_ok_11_2 (ab_ok_11_3)))
set_option maxRecDepth 100000 in
theorem ab_ok_12 : ab_c12.all (ab_enB 3 cX3_init true (none)) = true := by decide +kernel
set_option maxRecDepth 100000 in
theorem ab_ok_13 : ab_c13.all (ab_enB 3 cX3_add false (some .boolean)) = true := by decide +kernel
set_option maxRecDepth 100000 in
theorem ab_ok_14 : ab_c14.all (ab_enB 3 cX3_find false (none)) = true := by decide +kernel
set_option maxRecDepth 100000 in
theorem ab_ok_15 : ab_c15.all (ab_enB 3 cX3_meet false (none)) = true := by decide +kernel
set_option maxRecDepth 100000 in
theorem ab_ok_16 : ab_c16.all (ab_enB 3 cX3_agrees false (some .boolean)) = true := by decide +kernel
set_option maxRecDepth 100000 in
theorem ab_ok_17_0 : ab_c17_0.all (ab_enB 3 cX3_placeOf false (some .int)) = true := by decide +kernel
set_option maxRecDepth 100000 in
theorem ab_ok_17_1 : ab_c17_1.all (ab_enB 3 cX3_placeOf false (some .int)) = true := by decide +kernel
theorem ab_ok_17 : ab_c17.all (ab_enB 3 cX3_placeOf false (some .int)) = true := ab_all_app ab_ok_17_0 (ab_ok_17_1)
set_option maxRecDepth 100000 in
theorem ab_ok_18 : ab_c18.all (ab_enB 4 cX4_init true (none)) = true := by decide +kernel
set_option maxRecDepth 100000 in
theorem ab_ok_19 : ab_c19.all (ab_enB 4 cX4_add false (some .boolean)) = true := by decide +kernel
set_option maxRecDepth 100000 in
theorem ab_ok_20 : ab_c20.all (ab_enB 4 cX4_firstWrong false (some .int)) = true := by decide +kernel
set_option maxRecDepth 100000 in
theorem ab_ok_21 : ab_c21.all (ab_enB 5 cX5_init true (none)) = true := by decide +kernel
set_option maxRecDepth 100000 in
theorem ab_ok_22 : ab_c22.all (ab_enB 5 cX5_find false (none)) = true := by decide +kernel
set_option maxRecDepth 100000 in
theorem ab_ok_23 : ab_c23.all (ab_enB 5 cX5_meet false (none)) = true := by decide +kernel
set_option maxRecDepth 100000 in
theorem ab_ok_24 : ab_c24.all (ab_enB 6 cX6_init true (none)) = true := by decide +kernel
set_option maxRecDepth 100000 in
theorem ab_ok_25 : ab_c25.all (ab_enB 6 cX6_add false (some .boolean)) = true := by decide +kernel
set_option maxRecDepth 100000 in
theorem ab_ok_26_0 : ab_c26_0.all (ab_enB 6 cX6_read false (some .int)) = true := by decide +kernel
set_option maxRecDepth 100000 in
theorem ab_ok_26_1 : ab_c26_1.all (ab_enB 6 cX6_read false (some .int)) = true := by decide +kernel
theorem ab_ok_26 : ab_c26.all (ab_enB 6 cX6_read false (some .int)) = true := ab_all_app ab_ok_26_0 (ab_ok_26_1)
set_option maxRecDepth 100000 in
theorem ab_ok_27 : ab_c27.all (ab_enB 6 cX6_skipBlanks false (none)) = true := by decide +kernel
set_option maxRecDepth 100000 in
theorem ab_ok_28_0 : ab_c28_0.all (ab_enB 6 cX6_readClause false (none)) = true := by decide +kernel
set_option maxRecDepth 100000 in
theorem ab_ok_28_1 : ab_c28_1.all (ab_enB 6 cX6_readClause false (none)) = true := by decide +kernel
set_option maxRecDepth 100000 in
theorem ab_ok_28_2 : ab_c28_2.all (ab_enB 6 cX6_readClause false (none)) = true := by decide +kernel
theorem ab_ok_28 : ab_c28.all (ab_enB 6 cX6_readClause false (none)) = true := ab_all_app ab_ok_28_0 (ab_all_app ab_ok_28_1 (ab_ok_28_2))
set_option maxRecDepth 100000 in
theorem ab_ok_29_0 : ab_c29_0.all (ab_enB 6 cX6_readEnd false (none)) = true := by decide +kernel
set_option maxRecDepth 100000 in
theorem ab_ok_29_1 : ab_c29_1.all (ab_enB 6 cX6_readEnd false (none)) = true := by decide +kernel
theorem ab_ok_29 : ab_c29.all (ab_enB 6 cX6_readEnd false (none)) = true := ab_all_app ab_ok_29_0 (ab_ok_29_1)
set_option maxRecDepth 100000 in
theorem ab_ok_30 : ab_c30.all (ab_enB 6 cX6_isFigure false (some .boolean)) = true := by decide +kernel
set_option maxRecDepth 100000 in
theorem ab_ok_31_0 : ab_c31_0.all (ab_enB 6 cX6_readNumber false (none)) = true := by decide +kernel
set_option maxRecDepth 100000 in
theorem ab_ok_31_1 : ab_c31_1.all (ab_enB 6 cX6_readNumber false (none)) = true := by decide +kernel
set_option maxRecDepth 100000 in
theorem ab_ok_31_2 : ab_c31_2.all (ab_enB 6 cX6_readNumber false (none)) = true := by decide +kernel
set_option maxRecDepth 100000 in
theorem ab_ok_31_3 : ab_c31_3.all (ab_enB 6 cX6_readNumber false (none)) = true := by decide +kernel
theorem ab_ok_31 : ab_c31.all (ab_enB 6 cX6_readNumber false (none)) = true := ab_all_app ab_ok_31_0 (ab_all_app ab_ok_31_1 (ab_all_app ab_ok_31_2 (ab_ok_31_3)))
set_option maxRecDepth 100000 in
theorem ab_ok_32 : ab_c32.all (ab_enB 6 cX6_lowest false (some .int)) = true := by decide +kernel
set_option maxRecDepth 100000 in
theorem ab_ok_33_0 : ab_c33_0.all (ab_enB 6 cX6_highest false (some .int)) = true := by decide +kernel
set_option maxRecDepth 100000 in
theorem ab_ok_33_1 : ab_c33_1.all (ab_enB 6 cX6_highest false (some .int)) = true := by decide +kernel
set_option maxRecDepth 100000 in
theorem ab_ok_33_2 : ab_c33_2.all (ab_enB 6 cX6_highest false (some .int)) = true := by decide +kernel
theorem ab_ok_33 : ab_c33.all (ab_enB 6 cX6_highest false (some .int)) = true := ab_all_app ab_ok_33_0 (ab_all_app ab_ok_33_1 (ab_ok_33_2))
set_option maxRecDepth 100000 in
theorem ab_ok_34_0 : ab_c34_0.all (ab_enB 6 cX6_again false (some .boolean)) = true := by decide +kernel
set_option maxRecDepth 100000 in
theorem ab_ok_34_1 : ab_c34_1.all (ab_enB 6 cX6_again false (some .boolean)) = true := by decide +kernel
set_option maxRecDepth 100000 in
theorem ab_ok_34_2 : ab_c34_2.all (ab_enB 6 cX6_again false (some .boolean)) = true := by decide +kernel
theorem ab_ok_34 : ab_c34.all (ab_enB 6 cX6_again false (some .boolean)) = true := ab_all_app ab_ok_34_0 (ab_all_app ab_ok_34_1 (ab_ok_34_2))
set_option maxRecDepth 100000 in
theorem ab_ok_35_0 : ab_c35_0.all (ab_enB 6 cX6_take false (none)) = true := by decide +kernel
set_option maxRecDepth 100000 in
theorem ab_ok_35_1 : ab_c35_1.all (ab_enB 6 cX6_take false (none)) = true := by decide +kernel
set_option maxRecDepth 100000 in
theorem ab_ok_35_2 : ab_c35_2.all (ab_enB 6 cX6_take false (none)) = true := by decide +kernel
set_option maxRecDepth 100000 in
theorem ab_ok_35_3 : ab_c35_3.all (ab_enB 6 cX6_take false (none)) = true := by decide +kernel
set_option maxRecDepth 100000 in
theorem ab_ok_35_4 : ab_c35_4.all (ab_enB 6 cX6_take false (none)) = true := by decide +kernel
theorem ab_ok_35 : ab_c35.all (ab_enB 6 cX6_take false (none)) = true := ab_all_app ab_ok_35_0 (ab_all_app ab_ok_35_1 (ab_all_app ab_ok_35_2 (ab_all_app ab_ok_35_3 (ab_ok_35_4))))
set_option maxRecDepth 100000 in
theorem ab_ok_36_0 : ab_c36_0.all (ab_enB 6 cX6_takeDeed false (none)) = true := by decide +kernel
set_option maxRecDepth 100000 in
theorem ab_ok_36_1 : ab_c36_1.all (ab_enB 6 cX6_takeDeed false (none)) = true := by decide +kernel
theorem ab_ok_36 : ab_c36.all (ab_enB 6 cX6_takeDeed false (none)) = true := ab_all_app ab_ok_36_0 (ab_ok_36_1)
set_option maxRecDepth 100000 in
theorem ab_ok_37 : ab_c37.all (ab_enB 11 cX7_init true (none)) = true := by decide +kernel
set_option maxRecDepth 100000 in
theorem ab_ok_38 : ab_c38.all (ab_enB 11 cX7_tryAll false (none)) = true := by decide +kernel
set_option maxRecDepth 100000 in
theorem ab_ok_39_0 : ab_c39_0.all (ab_enB 11 cX7_goOn false (none)) = true := by decide +kernel
set_option maxRecDepth 100000 in
theorem ab_ok_39_1 : ab_c39_1.all (ab_enB 11 cX7_goOn false (none)) = true := by decide +kernel
set_option maxRecDepth 100000 in
theorem ab_ok_39_2 : ab_c39_2.all (ab_enB 11 cX7_goOn false (none)) = true := by decide +kernel
theorem ab_ok_39 : ab_c39.all (ab_enB 11 cX7_goOn false (none)) = true := ab_all_app ab_ok_39_0 (ab_all_app ab_ok_39_1 (ab_ok_39_2))
set_option maxRecDepth 100000 in
theorem ab_ok_40 : ab_c40.all (ab_enB 11 cX7_setOfRow false (some .int)) = true := by decide +kernel
end
section
set_option maxRecDepth 100000 in
theorem ab_ok_41 : ab_c41.all (ab_enB 7 cX8_init true (none)) = true := by decide +kernel
set_option maxRecDepth 100000 in
theorem ab_ok_42 : ab_c42.all (ab_enB 7 cX8_beginIn false (none)) = true := by decide +kernel
set_option maxRecDepth 100000 in
theorem ab_ok_43 : ab_c43.all (ab_enB 7 cX8_become false (none)) = true := by decide +kernel
set_option maxRecDepth 100000 in
theorem ab_ok_44 : ab_c44.all (ab_enB 7 cX8_standOf false (some .int)) = true := by decide +kernel
set_option maxRecDepth 100000 in
theorem ab_ok_45 : ab_c45.all (ab_enB 7 cX8_reaches false (some .boolean)) = true := by decide +kernel
set_option maxRecDepth 100000 in
theorem ab_ok_46 : ab_c46.all (ab_enB 7 cX8_hand false (none)) = true := by decide +kernel
set_option maxRecDepth 100000 in
theorem ab_ok_47 : ab_c47.all (ab_enB 7 cX8_finish false (none)) = true := by decide +kernel
set_option maxRecDepth 100000 in
theorem ab_ok_48 : ab_c48.all (ab_enB 7 cX8_draw false (some .int)) = true := by decide +kernel
set_option maxRecDepth 100000 in
theorem ab_ok_49_0 : ab_c49_0.all (ab_enB 8 cX9_init true (none)) = true := by decide +kernel
set_option maxRecDepth 100000 in
theorem ab_ok_49_1 : ab_c49_1.all (ab_enB 8 cX9_init true (none)) = true := by decide +kernel
theorem ab_ok_49 : ab_c49.all (ab_enB 8 cX9_init true (none)) = true := ab_all_app ab_ok_49_0 (ab_ok_49_1)
set_option maxRecDepth 100000 in
theorem ab_ok_50_0 : ab_c50_0.all (ab_enB 8 cX9_clear false (none)) = true := by decide +kernel
set_option maxRecDepth 100000 in
theorem ab_ok_50_1 : ab_c50_1.all (ab_enB 8 cX9_clear false (none)) = true := by decide +kernel
theorem ab_ok_50 : ab_c50.all (ab_enB 8 cX9_clear false (none)) = true := ab_all_app ab_ok_50_0 (ab_ok_50_1)
set_option maxRecDepth 100000 in
theorem ab_ok_51 : ab_c51.all (ab_enB 8 cX9_isSquare false (some .boolean)) = true := by decide +kernel
set_option maxRecDepth 100000 in
theorem ab_ok_52 : ab_c52.all (ab_enB 8 cX9_isPerson false (some .boolean)) = true := by decide +kernel
set_option maxRecDepth 100000 in
theorem ab_ok_53 : ab_c53.all (ab_enB 8 cX9_areTwoPeople false (some .boolean)) = true := by decide +kernel
set_option maxRecDepth 100000 in
theorem ab_ok_54 : ab_c54.all (ab_enB 8 cX9_isDeed false (some .boolean)) = true := by decide +kernel
set_option maxRecDepth 100000 in
theorem ab_ok_55 : ab_c55.all (ab_enB 8 cX9_isWord false (some .boolean)) = true := by decide +kernel
set_option maxRecDepth 100000 in
theorem ab_ok_56_0 : ab_c56_0.all (ab_enB 8 cX9_measure false (none)) = true := by decide +kernel
set_option maxRecDepth 100000 in
theorem ab_ok_56_1 : ab_c56_1.all (ab_enB 8 cX9_measure false (none)) = true := by decide +kernel
set_option maxRecDepth 100000 in
theorem ab_ok_56_2 : ab_c56_2.all (ab_enB 8 cX9_measure false (none)) = true := by decide +kernel
theorem ab_ok_56 : ab_c56.all (ab_enB 8 cX9_measure false (none)) = true := ab_all_app ab_ok_56_0 (ab_all_app ab_ok_56_1 (ab_ok_56_2))
set_option maxRecDepth 100000 in
theorem ab_ok_57_0 : ab_c57_0.all (ab_enB 8 cX9_shorten false (none)) = true := by decide +kernel
set_option maxRecDepth 100000 in
theorem ab_ok_57_1 : ab_c57_1.all (ab_enB 8 cX9_shorten false (none)) = true := by decide +kernel
theorem ab_ok_57 : ab_c57.all (ab_enB 8 cX9_shorten false (none)) = true := ab_all_app ab_ok_57_0 (ab_ok_57_1)
set_option maxRecDepth 100000 in
theorem ab_ok_58 : ab_c58.all (ab_enB 8 cX9_between false (some .int)) = true := by decide +kernel
set_option maxRecDepth 100000 in
theorem ab_ok_59 : ab_c59.all (ab_enB 8 cX9_squareOf false (some .int)) = true := by decide +kernel
set_option maxRecDepth 100000 in
theorem ab_ok_60 : ab_c60.all (ab_enB 8 cX9_worthOf false (some .int)) = true := by decide +kernel
set_option maxRecDepth 100000 in
theorem ab_ok_61_0 : ab_c61_0.all (ab_enB 8 cX9_costOf false (some .int)) = true := by decide +kernel
set_option maxRecDepth 100000 in
theorem ab_ok_61_1 : ab_c61_1.all (ab_enB 8 cX9_costOf false (some .int)) = true := by decide +kernel
theorem ab_ok_61 : ab_c61.all (ab_enB 8 cX9_costOf false (some .int)) = true := ab_all_app ab_ok_61_0 (ab_ok_61_1)
set_option maxRecDepth 100000 in
theorem ab_ok_62 : ab_c62.all (ab_enB 8 cX9_deedsOf false (some .int)) = true := by decide +kernel
set_option maxRecDepth 100000 in
theorem ab_ok_63_0 : ab_c63_0.all (ab_enB 8 cX9_endOf false (some .int)) = true := by decide +kernel
set_option maxRecDepth 100000 in
theorem ab_ok_63_1 : ab_c63_1.all (ab_enB 8 cX9_endOf false (some .int)) = true := by decide +kernel
theorem ab_ok_63 : ab_c63.all (ab_enB 8 cX9_endOf false (some .int)) = true := ab_all_app ab_ok_63_0 (ab_ok_63_1)
set_option maxRecDepth 100000 in
theorem ab_ok_64_0 : ab_c64_0.all (ab_enB 9 cX10_init true (none)) = true := by decide +kernel
set_option maxRecDepth 100000 in
theorem ab_ok_64_1 : ab_c64_1.all (ab_enB 9 cX10_init true (none)) = true := by decide +kernel
set_option maxRecDepth 100000 in
theorem ab_ok_64_2 : ab_c64_2.all (ab_enB 9 cX10_init true (none)) = true := by decide +kernel
theorem ab_ok_64 : ab_c64.all (ab_enB 9 cX10_init true (none)) = true := ab_all_app ab_ok_64_0 (ab_all_app ab_ok_64_1 (ab_ok_64_2))
set_option maxRecDepth 100000 in
theorem ab_ok_65 : ab_c65.all (ab_enB 9 cX10_feed false (some .int)) = true := by decide +kernel
set_option maxRecDepth 100000 in
theorem ab_ok_66_0 : ab_c66_0.all (ab_enB 9 cX10_town false (some .int)) = true := by decide +kernel
set_option maxRecDepth 100000 in
theorem ab_ok_66_1 : ab_c66_1.all (ab_enB 9 cX10_town false (some .int)) = true := by decide +kernel
set_option maxRecDepth 100000 in
theorem ab_ok_66_2 : ab_c66_2.all (ab_enB 9 cX10_town false (some .int)) = true := by decide +kernel
theorem ab_ok_66 : ab_c66.all (ab_enB 9 cX10_town false (some .int)) = true := ab_all_app ab_ok_66_0 (ab_all_app ab_ok_66_1 (ab_ok_66_2))
set_option maxRecDepth 100000 in
theorem ab_ok_67 : ab_c67.all (ab_enB 9 cX10_fault false (some .int)) = true := by decide +kernel
set_option maxRecDepth 100000 in
theorem ab_ok_68_0 : ab_c68_0.all (ab_enB 9 cX10_told false (some .int)) = true := by decide +kernel
set_option maxRecDepth 100000 in
theorem ab_ok_68_1 : ab_c68_1.all (ab_enB 9 cX10_told false (some .int)) = true := by decide +kernel
theorem ab_ok_68 : ab_c68.all (ab_enB 9 cX10_told false (some .int)) = true := ab_all_app ab_ok_68_0 (ab_ok_68_1)
set_option maxRecDepth 100000 in
theorem ab_ok_69 : ab_c69.all (ab_enB 9 cX10_far false (some .int)) = true := by decide +kernel
set_option maxRecDepth 100000 in
theorem ab_ok_70 : ab_c70.all (ab_enB 9 cX10_person false (some .int)) = true := by decide +kernel
set_option maxRecDepth 100000 in
theorem ab_ok_71_0 : ab_c71_0.all (ab_enB 9 cX10_deed false (some .int)) = true := by decide +kernel
set_option maxRecDepth 100000 in
theorem ab_ok_71_1 : ab_c71_1.all (ab_enB 9 cX10_deed false (some .int)) = true := by decide +kernel
theorem ab_ok_71 : ab_c71.all (ab_enB 9 cX10_deed false (some .int)) = true := ab_all_app ab_ok_71_0 (ab_ok_71_1)
set_option maxRecDepth 100000 in
theorem ab_ok_72 : ab_c72.all (ab_enB 9 cX10_trust false (some .int)) = true := by decide +kernel
set_option maxRecDepth 100000 in
theorem ab_ok_73 : ab_c73.all (ab_enB 9 cX10_lets false (some .int)) = true := by decide +kernel
set_option maxRecDepth 100000 in
theorem ab_ok_74_0 : ab_c74_0.all (ab_enB 9 cX10_lend false (some .int)) = true := by decide +kernel
set_option maxRecDepth 100000 in
theorem ab_ok_74_1 : ab_c74_1.all (ab_enB 9 cX10_lend false (some .int)) = true := by decide +kernel
theorem ab_ok_74 : ab_c74.all (ab_enB 9 cX10_lend false (some .int)) = true := ab_all_app ab_ok_74_0 (ab_ok_74_1)
set_option maxRecDepth 100000 in
theorem ab_ok_75_0 : ab_c75_0.all (ab_enB 9 cX10_act false (some .int)) = true := by decide +kernel
set_option maxRecDepth 100000 in
theorem ab_ok_75_1 : ab_c75_1.all (ab_enB 9 cX10_act false (some .int)) = true := by decide +kernel
theorem ab_ok_75 : ab_c75.all (ab_enB 9 cX10_act false (some .int)) = true := ab_all_app ab_ok_75_0 (ab_ok_75_1)
set_option maxRecDepth 100000 in
theorem ab_ok_76 : ab_c76.all (ab_enB 9 cX10_drop false (some .int)) = true := by decide +kernel
set_option maxRecDepth 100000 in
theorem ab_ok_77 : ab_c77.all (ab_enB 9 cX10_pass false (some .int)) = true := by decide +kernel
set_option maxRecDepth 100000 in
theorem ab_ok_78_0 : ab_c78_0.all (ab_enB 9 cX10_drift false (some .int)) = true := by decide +kernel
set_option maxRecDepth 100000 in
theorem ab_ok_78_1 : ab_c78_1.all (ab_enB 9 cX10_drift false (some .int)) = true := by decide +kernel
theorem ab_ok_78 : ab_c78.all (ab_enB 9 cX10_drift false (some .int)) = true := ab_all_app ab_ok_78_0 (ab_ok_78_1)
set_option maxRecDepth 100000 in
theorem ab_ok_79_0 : ab_c79_0.all (ab_enB 9 cX10_round false (some .int)) = true := by decide +kernel
set_option maxRecDepth 100000 in
theorem ab_ok_79_1 : ab_c79_1.all (ab_enB 9 cX10_round false (some .int)) = true := by decide +kernel
theorem ab_ok_79 : ab_c79.all (ab_enB 9 cX10_round false (some .int)) = true := ab_all_app ab_ok_79_0 (ab_ok_79_1)
set_option maxRecDepth 100000 in
theorem ab_ok_80_0 : ab_c80_0.all (ab_enB 9 cX10_two false (some .int)) = true := by decide +kernel
set_option maxRecDepth 100000 in
theorem ab_ok_80_1 : ab_c80_1.all (ab_enB 9 cX10_two false (some .int)) = true := by decide +kernel
set_option maxRecDepth 100000 in
theorem ab_ok_80_2 : ab_c80_2.all (ab_enB 9 cX10_two false (some .int)) = true := by decide +kernel
theorem ab_ok_80 : ab_c80.all (ab_enB 9 cX10_two false (some .int)) = true := ab_all_app ab_ok_80_0 (ab_all_app ab_ok_80_1 (ab_ok_80_2))
set_option maxRecDepth 100000 in
theorem ab_ok_81_0 : ab_c81_0.all (ab_enB 9 cX10_reword false (some .int)) = true := by decide +kernel
set_option maxRecDepth 100000 in
theorem ab_ok_81_1 : ab_c81_1.all (ab_enB 9 cX10_reword false (some .int)) = true := by decide +kernel
set_option maxRecDepth 100000 in
theorem ab_ok_81_2 : ab_c81_2.all (ab_enB 9 cX10_reword false (some .int)) = true := by decide +kernel
theorem ab_ok_81 : ab_c81.all (ab_enB 9 cX10_reword false (some .int)) = true := ab_all_app ab_ok_81_0 (ab_all_app ab_ok_81_1 (ab_ok_81_2))
set_option maxRecDepth 100000 in
theorem ab_ok_82_0 : ab_c82_0.all (ab_enB 9 cX10_chain false (some .int)) = true := by decide +kernel
set_option maxRecDepth 100000 in
theorem ab_ok_82_1 : ab_c82_1.all (ab_enB 9 cX10_chain false (some .int)) = true := by decide +kernel
theorem ab_ok_82 : ab_c82.all (ab_enB 9 cX10_chain false (some .int)) = true := ab_all_app ab_ok_82_0 (ab_ok_82_1)
set_option maxRecDepth 100000 in
theorem ab_ok_83_0 : ab_c83_0.all (ab_enB 9 cX10_lost false (some .int)) = true := by decide +kernel
set_option maxRecDepth 100000 in
theorem ab_ok_83_1 : ab_c83_1.all (ab_enB 9 cX10_lost false (some .int)) = true := by decide +kernel
theorem ab_ok_83 : ab_c83.all (ab_enB 9 cX10_lost false (some .int)) = true := ab_all_app ab_ok_83_0 (ab_ok_83_1)
set_option maxRecDepth 100000 in
theorem ab_ok_84_0 : ab_c84_0.all (ab_enB 9 cX10_sold false (some .int)) = true := by decide +kernel
set_option maxRecDepth 100000 in
theorem ab_ok_84_1 : ab_c84_1.all (ab_enB 9 cX10_sold false (some .int)) = true := by decide +kernel
theorem ab_ok_84 : ab_c84.all (ab_enB 9 cX10_sold false (some .int)) = true := ab_all_app ab_ok_84_0 (ab_ok_84_1)
end
section
set_option maxRecDepth 100000 in
theorem ab_ok_85_0 : ab_c85_0.all (ab_enB 9 cX10_thief false (some .int)) = true := by decide +kernel
set_option maxRecDepth 100000 in
theorem ab_ok_85_1 : ab_c85_1.all (ab_enB 9 cX10_thief false (some .int)) = true := by decide +kernel
set_option maxRecDepth 100000 in
theorem ab_ok_85_2 : ab_c85_2.all (ab_enB 9 cX10_thief false (some .int)) = true := by decide +kernel
theorem ab_ok_85 : ab_c85.all (ab_enB 9 cX10_thief false (some .int)) = true := ab_all_app ab_ok_85_0 (ab_all_app ab_ok_85_1 (ab_ok_85_2))
set_option maxRecDepth 100000 in
theorem ab_ok_86_0 : ab_c86_0.all (ab_enB 9 cX10_vote false (some .int)) = true := by decide +kernel
set_option maxRecDepth 100000 in
theorem ab_ok_86_1 : ab_c86_1.all (ab_enB 9 cX10_vote false (some .int)) = true := by decide +kernel
set_option maxRecDepth 100000 in
theorem ab_ok_86_2 : ab_c86_2.all (ab_enB 9 cX10_vote false (some .int)) = true := by decide +kernel
theorem ab_ok_86 : ab_c86.all (ab_enB 9 cX10_vote false (some .int)) = true := ab_all_app ab_ok_86_0 (ab_all_app ab_ok_86_1 (ab_ok_86_2))
set_option maxRecDepth 100000 in
theorem ab_ok_87 : ab_c87.all (ab_enB 9 cX10_bestWord false (some .int)) = true := by decide +kernel
set_option maxRecDepth 100000 in
theorem ab_ok_88 : ab_c88.all (ab_enB 9 cX10_tell false (some .int)) = true := by decide +kernel
set_option maxRecDepth 100000 in
theorem ab_ok_89 : ab_c89.all (ab_enB 9 cX10_days false (some .int)) = true := by decide +kernel
set_option maxRecDepth 100000 in
theorem ab_ok_90 : ab_c90.all (ab_enB 9 cX10_where false (some .int)) = true := by decide +kernel
set_option maxRecDepth 100000 in
theorem ab_ok_91 : ab_c91.all (ab_enB 9 cX10_write false (some .int)) = true := by decide +kernel
set_option maxRecDepth 100000 in
theorem ab_ok_92 : ab_c92.all (ab_enB 9 cX10_judge false (some .int)) = true := by decide +kernel
set_option maxRecDepth 100000 in
theorem ab_ok_93 : ab_c93.all (ab_enB 9 cX10_tear false (some .int)) = true := by decide +kernel
set_option maxRecDepth 100000 in
theorem ab_ok_94 : ab_c94.all (ab_enB 9 cX10_seed false (some .int)) = true := by decide +kernel
set_option maxRecDepth 100000 in
theorem ab_ok_95 : ab_c95.all (ab_enB 9 cX10_keep false (some .int)) = true := by decide +kernel
set_option maxRecDepth 100000 in
theorem ab_ok_96 : ab_c96.all (ab_enB 9 cX10_goBack false (some .int)) = true := by decide +kernel
set_option maxRecDepth 100000 in
theorem ab_ok_97 : ab_c97.all (ab_enB 9 cX10_deedsThatAre false (some .int)) = true := by decide +kernel
set_option maxRecDepth 100000 in
theorem ab_ok_98_0 : ab_c98_0.all (ab_enB 9 cX10_driftOnce false (none)) = true := by decide +kernel
set_option maxRecDepth 100000 in
theorem ab_ok_98_1 : ab_c98_1.all (ab_enB 9 cX10_driftOnce false (none)) = true := by decide +kernel
theorem ab_ok_98 : ab_c98.all (ab_enB 9 cX10_driftOnce false (none)) = true := ab_all_app ab_ok_98_0 (ab_ok_98_1)
set_option maxRecDepth 100000 in
theorem ab_ok_99 : ab_c99.all (ab_enB 9 cX10_firstOpenOf false (some .int)) = true := by decide +kernel
set_option maxRecDepth 100000 in
theorem ab_ok_100 : ab_c100.all (ab_enB 9 cX10_mostBeside false (some .int)) = true := by decide +kernel
set_option maxRecDepth 100000 in
theorem ab_ok_101_0 : ab_c101_0.all (ab_enB 9 cX10_sellMinute false (none)) = true := by decide +kernel
set_option maxRecDepth 100000 in
theorem ab_ok_101_1 : ab_c101_1.all (ab_enB 9 cX10_sellMinute false (none)) = true := by decide +kernel
theorem ab_ok_101 : ab_c101.all (ab_enB 9 cX10_sellMinute false (none)) = true := ab_all_app ab_ok_101_0 (ab_ok_101_1)
set_option maxRecDepth 100000 in
theorem ab_ok_102 : ab_c102.all (ab_enB 9 cX10_bidOf false (some .int)) = true := by decide +kernel
set_option maxRecDepth 100000 in
theorem ab_ok_103 : ab_c103.all (ab_enB 9 cX10_highestBidder false (some .int)) = true := by decide +kernel
set_option maxRecDepth 100000 in
theorem ab_ok_104_0 : ab_c104_0.all (ab_enB 9 cX10_wordForMost false (some .int)) = true := by decide +kernel
set_option maxRecDepth 100000 in
theorem ab_ok_104_1 : ab_c104_1.all (ab_enB 9 cX10_wordForMost false (some .int)) = true := by decide +kernel
theorem ab_ok_104 : ab_c104.all (ab_enB 9 cX10_wordForMost false (some .int)) = true := ab_all_app ab_ok_104_0 (ab_ok_104_1)
set_option maxRecDepth 100000 in
theorem ab_ok_105 : ab_c105.all (ab_enB 9 cX10_mostVoted false (some .int)) = true := by decide +kernel
set_option maxRecDepth 100000 in
theorem ab_ok_106_0 : ab_c106_0.all (ab_enB 10 cX11_init true (none)) = true := by decide +kernel
set_option maxRecDepth 100000 in
theorem ab_ok_106_1 : ab_c106_1.all (ab_enB 10 cX11_init true (none)) = true := by decide +kernel
set_option maxRecDepth 100000 in
theorem ab_ok_106_2 : ab_c106_2.all (ab_enB 10 cX11_init true (none)) = true := by decide +kernel
set_option maxRecDepth 100000 in
theorem ab_ok_106_3 : ab_c106_3.all (ab_enB 10 cX11_init true (none)) = true := by decide +kernel
set_option maxRecDepth 100000 in
theorem ab_ok_106_4 : ab_c106_4.all (ab_enB 10 cX11_init true (none)) = true := by decide +kernel
theorem ab_ok_106 : ab_c106.all (ab_enB 10 cX11_init true (none)) = true := ab_all_app ab_ok_106_0 (ab_all_app ab_ok_106_1 (ab_all_app ab_ok_106_2 (ab_all_app ab_ok_106_3 (ab_ok_106_4))))
set_option maxRecDepth 100000 in
theorem ab_ok_107 : ab_c107.all (ab_enB 10 cX11_in false (some .boolean)) = true := by decide +kernel
set_option maxRecDepth 100000 in
theorem ab_ok_108 : ab_c108.all (ab_enB 10 cX11_has false (some .boolean)) = true := by decide +kernel
set_option maxRecDepth 100000 in
theorem ab_ok_109 : ab_c109.all (ab_enB 10 cX11_isSquare false (some .boolean)) = true := by decide +kernel
set_option maxRecDepth 100000 in
theorem ab_ok_110 : ab_c110.all (ab_enB 10 cX11_isPerson false (some .boolean)) = true := by decide +kernel
set_option maxRecDepth 100000 in
theorem ab_ok_111 : ab_c111.all (ab_enB 10 cX11_isDeed false (some .boolean)) = true := by decide +kernel
set_option maxRecDepth 100000 in
theorem ab_ok_112 : ab_c112.all (ab_enB 10 cX11_feed false (some .int)) = true := by decide +kernel
set_option maxRecDepth 100000 in
theorem ab_ok_113_0 : ab_c113_0.all (ab_enB 10 cX11_nextToken false (none)) = true := by decide +kernel
set_option maxRecDepth 100000 in
theorem ab_ok_113_1 : ab_c113_1.all (ab_enB 10 cX11_nextToken false (none)) = true := by decide +kernel
set_option maxRecDepth 100000 in
theorem ab_ok_113_2 : ab_c113_2.all (ab_enB 10 cX11_nextToken false (none)) = true := by decide +kernel
set_option maxRecDepth 100000 in
theorem ab_ok_113_3 : ab_c113_3.all (ab_enB 10 cX11_nextToken false (none)) = true := by decide +kernel
theorem ab_ok_113 : ab_c113.all (ab_enB 10 cX11_nextToken false (none)) = true := ab_all_app ab_ok_113_0 (ab_all_app ab_ok_113_1 (ab_all_app ab_ok_113_2 (ab_ok_113_3)))
set_option maxRecDepth 100000 in
theorem ab_ok_114 : ab_c114.all (ab_enB 10 cX11_faults false (some .boolean)) = true := by decide +kernel
set_option maxRecDepth 100000 in
theorem ab_ok_115 : ab_c115.all (ab_enB 10 cX11_takes false (some .boolean)) = true := by decide +kernel
set_option maxRecDepth 100000 in
theorem ab_ok_116 : ab_c116.all (ab_enB 10 cX11_isNumber false (some .boolean)) = true := by decide +kernel
set_option maxRecDepth 100000 in
theorem ab_ok_117 : ab_c117.all (ab_enB 10 cX11_taken false (some .int)) = true := by decide +kernel
set_option maxRecDepth 100000 in
theorem ab_ok_118_0 : ab_c118_0.all (ab_enB 10 cX11_readWay false (some .boolean)) = true := by decide +kernel
set_option maxRecDepth 100000 in
theorem ab_ok_118_1 : ab_c118_1.all (ab_enB 10 cX11_readWay false (some .boolean)) = true := by decide +kernel
set_option maxRecDepth 100000 in
theorem ab_ok_118_2 : ab_c118_2.all (ab_enB 10 cX11_readWay false (some .boolean)) = true := by decide +kernel
set_option maxRecDepth 100000 in
theorem ab_ok_118_3 : ab_c118_3.all (ab_enB 10 cX11_readWay false (some .boolean)) = true := by decide +kernel
theorem ab_ok_118 : ab_c118.all (ab_enB 10 cX11_readWay false (some .boolean)) = true := ab_all_app ab_ok_118_0 (ab_all_app ab_ok_118_1 (ab_all_app ab_ok_118_2 (ab_ok_118_3)))
set_option maxRecDepth 100000 in
theorem ab_ok_119_0 : ab_c119_0.all (ab_enB 10 cX11_readPerson false (some .boolean)) = true := by decide +kernel
set_option maxRecDepth 100000 in
theorem ab_ok_119_1 : ab_c119_1.all (ab_enB 10 cX11_readPerson false (some .boolean)) = true := by decide +kernel
theorem ab_ok_119 : ab_c119.all (ab_enB 10 cX11_readPerson false (some .boolean)) = true := ab_all_app ab_ok_119_0 (ab_ok_119_1)
set_option maxRecDepth 100000 in
theorem ab_ok_120_0 : ab_c120_0.all (ab_enB 10 cX11_readDeed false (some .boolean)) = true := by decide +kernel
set_option maxRecDepth 100000 in
theorem ab_ok_120_1 : ab_c120_1.all (ab_enB 10 cX11_readDeed false (some .boolean)) = true := by decide +kernel
set_option maxRecDepth 100000 in
theorem ab_ok_120_2 : ab_c120_2.all (ab_enB 10 cX11_readDeed false (some .boolean)) = true := by decide +kernel
theorem ab_ok_120 : ab_c120.all (ab_enB 10 cX11_readDeed false (some .boolean)) = true := ab_all_app ab_ok_120_0 (ab_all_app ab_ok_120_1 (ab_ok_120_2))
set_option maxRecDepth 100000 in
theorem ab_ok_121_0 : ab_c121_0.all (ab_enB 10 cX11_readReword false (some .boolean)) = true := by decide +kernel
set_option maxRecDepth 100000 in
theorem ab_ok_121_1 : ab_c121_1.all (ab_enB 10 cX11_readReword false (some .boolean)) = true := by decide +kernel
theorem ab_ok_121 : ab_c121.all (ab_enB 10 cX11_readReword false (some .boolean)) = true := ab_all_app ab_ok_121_0 (ab_ok_121_1)
set_option maxRecDepth 100000 in
theorem ab_ok_122_0 : ab_c122_0.all (ab_enB 10 cX11_readTrust false (some .boolean)) = true := by decide +kernel
set_option maxRecDepth 100000 in
theorem ab_ok_122_1 : ab_c122_1.all (ab_enB 10 cX11_readTrust false (some .boolean)) = true := by decide +kernel
set_option maxRecDepth 100000 in
theorem ab_ok_122_2 : ab_c122_2.all (ab_enB 10 cX11_readTrust false (some .boolean)) = true := by decide +kernel
theorem ab_ok_122 : ab_c122.all (ab_enB 10 cX11_readTrust false (some .boolean)) = true := ab_all_app ab_ok_122_0 (ab_all_app ab_ok_122_1 (ab_ok_122_2))
set_option maxRecDepth 100000 in
theorem ab_ok_123_0 : ab_c123_0.all (ab_enB 10 cX11_readOther false (some .boolean)) = true := by decide +kernel
set_option maxRecDepth 100000 in
theorem ab_ok_123_1 : ab_c123_1.all (ab_enB 10 cX11_readOther false (some .boolean)) = true := by decide +kernel
theorem ab_ok_123 : ab_c123.all (ab_enB 10 cX11_readOther false (some .boolean)) = true := ab_all_app ab_ok_123_0 (ab_ok_123_1)
end
section
set_option maxRecDepth 100000 in
theorem ab_ok_124_0 : ab_c124_0.all (ab_enB 10 cX11_readTown false (some .boolean)) = true := by decide +kernel
set_option maxRecDepth 100000 in
theorem ab_ok_124_1 : ab_c124_1.all (ab_enB 10 cX11_readTown false (some .boolean)) = true := by decide +kernel
set_option maxRecDepth 100000 in
theorem ab_ok_124_2 : ab_c124_2.all (ab_enB 10 cX11_readTown false (some .boolean)) = true := by decide +kernel
set_option maxRecDepth 100000 in
theorem ab_ok_124_3 : ab_c124_3.all (ab_enB 10 cX11_readTown false (some .boolean)) = true := by decide +kernel
set_option maxRecDepth 100000 in
theorem ab_ok_124_4 : ab_c124_4.all (ab_enB 10 cX11_readTown false (some .boolean)) = true := by decide +kernel
set_option maxRecDepth 100000 in
theorem ab_ok_124_5 : ab_c124_5.all (ab_enB 10 cX11_readTown false (some .boolean)) = true := by decide +kernel
theorem ab_ok_124 : ab_c124.all (ab_enB 10 cX11_readTown false (some .boolean)) = true := ab_all_app ab_ok_124_0 (ab_all_app ab_ok_124_1 (ab_all_app ab_ok_124_2 (ab_all_app ab_ok_124_3 (ab_all_app ab_ok_124_4 (ab_ok_124_5)))))
set_option maxRecDepth 100000 in
theorem ab_ok_125_0 : ab_c125_0.all (ab_enB 10 cX11_findFars false (none)) = true := by decide +kernel
set_option maxRecDepth 100000 in
theorem ab_ok_125_1 : ab_c125_1.all (ab_enB 10 cX11_findFars false (none)) = true := by decide +kernel
set_option maxRecDepth 100000 in
theorem ab_ok_125_2 : ab_c125_2.all (ab_enB 10 cX11_findFars false (none)) = true := by decide +kernel
set_option maxRecDepth 100000 in
theorem ab_ok_125_3 : ab_c125_3.all (ab_enB 10 cX11_findFars false (none)) = true := by decide +kernel
theorem ab_ok_125 : ab_c125.all (ab_enB 10 cX11_findFars false (none)) = true := ab_all_app ab_ok_125_0 (ab_all_app ab_ok_125_1 (ab_all_app ab_ok_125_2 (ab_ok_125_3)))
set_option maxRecDepth 100000 in
theorem ab_ok_126_0 : ab_c126_0.all (ab_enB 10 cX11_town false (some .int)) = true := by decide +kernel
set_option maxRecDepth 100000 in
theorem ab_ok_126_1 : ab_c126_1.all (ab_enB 10 cX11_town false (some .int)) = true := by decide +kernel
set_option maxRecDepth 100000 in
theorem ab_ok_126_2 : ab_c126_2.all (ab_enB 10 cX11_town false (some .int)) = true := by decide +kernel
set_option maxRecDepth 100000 in
theorem ab_ok_126_3 : ab_c126_3.all (ab_enB 10 cX11_town false (some .int)) = true := by decide +kernel
set_option maxRecDepth 100000 in
theorem ab_ok_126_4 : ab_c126_4.all (ab_enB 10 cX11_town false (some .int)) = true := by decide +kernel
set_option maxRecDepth 100000 in
theorem ab_ok_126_5 : ab_c126_5.all (ab_enB 10 cX11_town false (some .int)) = true := by decide +kernel
theorem ab_ok_126 : ab_c126.all (ab_enB 10 cX11_town false (some .int)) = true := ab_all_app ab_ok_126_0 (ab_all_app ab_ok_126_1 (ab_all_app ab_ok_126_2 (ab_all_app ab_ok_126_3 (ab_all_app ab_ok_126_4 (ab_ok_126_5)))))
set_option maxRecDepth 100000 in
theorem ab_ok_127 : ab_c127.all (ab_enB 10 cX11_fault false (some .int)) = true := by decide +kernel
set_option maxRecDepth 100000 in
theorem ab_ok_128_0 : ab_c128_0.all (ab_enB 10 cX11_howOf false (some .int)) = true := by decide +kernel
set_option maxRecDepth 100000 in
theorem ab_ok_128_1 : ab_c128_1.all (ab_enB 10 cX11_howOf false (some .int)) = true := by decide +kernel
theorem ab_ok_128 : ab_c128.all (ab_enB 10 cX11_howOf false (some .int)) = true := ab_all_app ab_ok_128_0 (ab_ok_128_1)
set_option maxRecDepth 100000 in
theorem ab_ok_129 : ab_c129.all (ab_enB 10 cX11_deedsThatAre false (some .int)) = true := by decide +kernel
set_option maxRecDepth 100000 in
theorem ab_ok_130 : ab_c130.all (ab_enB 10 cX11_worthOf false (some .int)) = true := by decide +kernel
set_option maxRecDepth 100000 in
theorem ab_ok_131_0 : ab_c131_0.all (ab_enB 10 cX11_told false (some .int)) = true := by decide +kernel
set_option maxRecDepth 100000 in
theorem ab_ok_131_1 : ab_c131_1.all (ab_enB 10 cX11_told false (some .int)) = true := by decide +kernel
theorem ab_ok_131 : ab_c131.all (ab_enB 10 cX11_told false (some .int)) = true := ab_all_app ab_ok_131_0 (ab_ok_131_1)
set_option maxRecDepth 100000 in
theorem ab_ok_132 : ab_c132.all (ab_enB 10 cX11_farOf false (some .int)) = true := by decide +kernel
set_option maxRecDepth 100000 in
theorem ab_ok_133 : ab_c133.all (ab_enB 10 cX11_far false (some .int)) = true := by decide +kernel
set_option maxRecDepth 100000 in
theorem ab_ok_134 : ab_c134.all (ab_enB 10 cX11_person false (some .int)) = true := by decide +kernel
set_option maxRecDepth 100000 in
theorem ab_ok_135_0 : ab_c135_0.all (ab_enB 10 cX11_deed false (some .int)) = true := by decide +kernel
set_option maxRecDepth 100000 in
theorem ab_ok_135_1 : ab_c135_1.all (ab_enB 10 cX11_deed false (some .int)) = true := by decide +kernel
theorem ab_ok_135 : ab_c135.all (ab_enB 10 cX11_deed false (some .int)) = true := ab_all_app ab_ok_135_0 (ab_ok_135_1)
set_option maxRecDepth 100000 in
theorem ab_ok_136 : ab_c136.all (ab_enB 10 cX11_areTwo false (some .boolean)) = true := by decide +kernel
set_option maxRecDepth 100000 in
theorem ab_ok_137 : ab_c137.all (ab_enB 10 cX11_trust false (some .int)) = true := by decide +kernel
set_option maxRecDepth 100000 in
theorem ab_ok_138 : ab_c138.all (ab_enB 10 cX11_lets false (some .int)) = true := by decide +kernel
set_option maxRecDepth 100000 in
theorem ab_ok_139 : ab_c139.all (ab_enB 10 cX11_placeOf false (some .int)) = true := by decide +kernel
set_option maxRecDepth 100000 in
theorem ab_ok_140_0 : ab_c140_0.all (ab_enB 10 cX11_lend false (some .int)) = true := by decide +kernel
set_option maxRecDepth 100000 in
theorem ab_ok_140_1 : ab_c140_1.all (ab_enB 10 cX11_lend false (some .int)) = true := by decide +kernel
theorem ab_ok_140 : ab_c140.all (ab_enB 10 cX11_lend false (some .int)) = true := ab_all_app ab_ok_140_0 (ab_ok_140_1)
set_option maxRecDepth 100000 in
theorem ab_ok_141 : ab_c141.all (ab_enB 10 cX11_walkTo false (none)) = true := by decide +kernel
set_option maxRecDepth 100000 in
theorem ab_ok_142 : ab_c142.all (ab_enB 10 cX11_doNow false (none)) = true := by decide +kernel
set_option maxRecDepth 100000 in
theorem ab_ok_143_0 : ab_c143_0.all (ab_enB 10 cX11_act false (some .int)) = true := by decide +kernel
set_option maxRecDepth 100000 in
theorem ab_ok_143_1 : ab_c143_1.all (ab_enB 10 cX11_act false (some .int)) = true := by decide +kernel
theorem ab_ok_143 : ab_c143.all (ab_enB 10 cX11_act false (some .int)) = true := ab_all_app ab_ok_143_0 (ab_ok_143_1)
set_option maxRecDepth 100000 in
theorem ab_ok_144 : ab_c144.all (ab_enB 10 cX11_drop false (some .int)) = true := by decide +kernel
set_option maxRecDepth 100000 in
theorem ab_ok_145 : ab_c145.all (ab_enB 10 cX11_pass false (some .int)) = true := by decide +kernel
set_option maxRecDepth 100000 in
theorem ab_ok_146 : ab_c146.all (ab_enB 10 cX11_draw false (some .int)) = true := by decide +kernel
set_option maxRecDepth 100000 in
theorem ab_ok_147_0 : ab_c147_0.all (ab_enB 10 cX11_drift false (some .int)) = true := by decide +kernel
set_option maxRecDepth 100000 in
theorem ab_ok_147_1 : ab_c147_1.all (ab_enB 10 cX11_drift false (some .int)) = true := by decide +kernel
set_option maxRecDepth 100000 in
theorem ab_ok_147_2 : ab_c147_2.all (ab_enB 10 cX11_drift false (some .int)) = true := by decide +kernel
set_option maxRecDepth 100000 in
theorem ab_ok_147_3 : ab_c147_3.all (ab_enB 10 cX11_drift false (some .int)) = true := by decide +kernel
theorem ab_ok_147 : ab_c147.all (ab_enB 10 cX11_drift false (some .int)) = true := ab_all_app ab_ok_147_0 (ab_all_app ab_ok_147_1 (ab_all_app ab_ok_147_2 (ab_ok_147_3)))
set_option maxRecDepth 100000 in
theorem ab_ok_148_0 : ab_c148_0.all (ab_enB 10 cX11_endBehind false (some .int)) = true := by decide +kernel
set_option maxRecDepth 100000 in
theorem ab_ok_148_1 : ab_c148_1.all (ab_enB 10 cX11_endBehind false (some .int)) = true := by decide +kernel
theorem ab_ok_148 : ab_c148.all (ab_enB 10 cX11_endBehind false (some .int)) = true := ab_all_app ab_ok_148_0 (ab_ok_148_1)
set_option maxRecDepth 100000 in
theorem ab_ok_149_0 : ab_c149_0.all (ab_enB 10 cX11_findEnds false (none)) = true := by decide +kernel
set_option maxRecDepth 100000 in
theorem ab_ok_149_1 : ab_c149_1.all (ab_enB 10 cX11_findEnds false (none)) = true := by decide +kernel
set_option maxRecDepth 100000 in
theorem ab_ok_149_2 : ab_c149_2.all (ab_enB 10 cX11_findEnds false (none)) = true := by decide +kernel
set_option maxRecDepth 100000 in
theorem ab_ok_149_3 : ab_c149_3.all (ab_enB 10 cX11_findEnds false (none)) = true := by decide +kernel
theorem ab_ok_149 : ab_c149.all (ab_enB 10 cX11_findEnds false (none)) = true := ab_all_app ab_ok_149_0 (ab_all_app ab_ok_149_1 (ab_all_app ab_ok_149_2 (ab_ok_149_3)))
set_option maxRecDepth 100000 in
theorem ab_ok_150_0 : ab_c150_0.all (ab_enB 10 cX11_endOf false (some .int)) = true := by decide +kernel
set_option maxRecDepth 100000 in
theorem ab_ok_150_1 : ab_c150_1.all (ab_enB 10 cX11_endOf false (some .int)) = true := by decide +kernel
theorem ab_ok_150 : ab_c150.all (ab_enB 10 cX11_endOf false (some .int)) = true := ab_all_app ab_ok_150_0 (ab_ok_150_1)
set_option maxRecDepth 100000 in
theorem ab_ok_151_0 : ab_c151_0.all (ab_enB 10 cX11_isRow false (some .boolean)) = true := by decide +kernel
set_option maxRecDepth 100000 in
theorem ab_ok_151_1 : ab_c151_1.all (ab_enB 10 cX11_isRow false (some .boolean)) = true := by decide +kernel
set_option maxRecDepth 100000 in
theorem ab_ok_151_2 : ab_c151_2.all (ab_enB 10 cX11_isRow false (some .boolean)) = true := by decide +kernel
theorem ab_ok_151 : ab_c151.all (ab_enB 10 cX11_isRow false (some .boolean)) = true := ab_all_app ab_ok_151_0 (ab_all_app ab_ok_151_1 (ab_ok_151_2))
set_option maxRecDepth 100000 in
theorem ab_ok_152_0 : ab_c152_0.all (ab_enB 10 cX11_firstRow false (some .int)) = true := by decide +kernel
set_option maxRecDepth 100000 in
theorem ab_ok_152_1 : ab_c152_1.all (ab_enB 10 cX11_firstRow false (some .int)) = true := by decide +kernel
set_option maxRecDepth 100000 in
theorem ab_ok_152_2 : ab_c152_2.all (ab_enB 10 cX11_firstRow false (some .int)) = true := by decide +kernel
theorem ab_ok_152 : ab_c152.all (ab_enB 10 cX11_firstRow false (some .int)) = true := ab_all_app ab_ok_152_0 (ab_all_app ab_ok_152_1 (ab_ok_152_2))
set_option maxRecDepth 100000 in
theorem ab_ok_153_0 : ab_c153_0.all (ab_enB 10 cX11_digits false (some .int)) = true := by decide +kernel
set_option maxRecDepth 100000 in
theorem ab_ok_153_1 : ab_c153_1.all (ab_enB 10 cX11_digits false (some .int)) = true := by decide +kernel
theorem ab_ok_153 : ab_c153.all (ab_enB 10 cX11_digits false (some .int)) = true := ab_all_app ab_ok_153_0 (ab_ok_153_1)
end
section
set_option maxRecDepth 100000 in
theorem ab_ok_154_0 : ab_c154_0.all (ab_enB 10 cX11_isAhead false (some .boolean)) = true := by decide +kernel
set_option maxRecDepth 100000 in
theorem ab_ok_154_1 : ab_c154_1.all (ab_enB 10 cX11_isAhead false (some .boolean)) = true := by decide +kernel
theorem ab_ok_154 : ab_c154.all (ab_enB 10 cX11_isAhead false (some .boolean)) = true := ab_all_app ab_ok_154_0 (ab_ok_154_1)
set_option maxRecDepth 100000 in
theorem ab_ok_155_0 : ab_c155_0.all (ab_enB 10 cX11_round false (some .int)) = true := by decide +kernel
set_option maxRecDepth 100000 in
theorem ab_ok_155_1 : ab_c155_1.all (ab_enB 10 cX11_round false (some .int)) = true := by decide +kernel
set_option maxRecDepth 100000 in
theorem ab_ok_155_2 : ab_c155_2.all (ab_enB 10 cX11_round false (some .int)) = true := by decide +kernel
set_option maxRecDepth 100000 in
theorem ab_ok_155_3 : ab_c155_3.all (ab_enB 10 cX11_round false (some .int)) = true := by decide +kernel
theorem ab_ok_155 : ab_c155.all (ab_enB 10 cX11_round false (some .int)) = true := ab_all_app ab_ok_155_0 (ab_all_app ab_ok_155_1 (ab_all_app ab_ok_155_2 (ab_ok_155_3)))
set_option maxRecDepth 100000 in
theorem ab_ok_156_0 : ab_c156_0.all (ab_enB 10 cX11_two false (some .int)) = true := by decide +kernel
set_option maxRecDepth 100000 in
theorem ab_ok_156_1 : ab_c156_1.all (ab_enB 10 cX11_two false (some .int)) = true := by decide +kernel
set_option maxRecDepth 100000 in
theorem ab_ok_156_2 : ab_c156_2.all (ab_enB 10 cX11_two false (some .int)) = true := by decide +kernel
set_option maxRecDepth 100000 in
theorem ab_ok_156_3 : ab_c156_3.all (ab_enB 10 cX11_two false (some .int)) = true := by decide +kernel
theorem ab_ok_156 : ab_c156.all (ab_enB 10 cX11_two false (some .int)) = true := ab_all_app ab_ok_156_0 (ab_all_app ab_ok_156_1 (ab_all_app ab_ok_156_2 (ab_ok_156_3)))
set_option maxRecDepth 100000 in
theorem ab_ok_157_0 : ab_c157_0.all (ab_enB 10 cX11_costOf false (some .int)) = true := by decide +kernel
set_option maxRecDepth 100000 in
theorem ab_ok_157_1 : ab_c157_1.all (ab_enB 10 cX11_costOf false (some .int)) = true := by decide +kernel
theorem ab_ok_157 : ab_c157.all (ab_enB 10 cX11_costOf false (some .int)) = true := ab_all_app ab_ok_157_0 (ab_ok_157_1)
set_option maxRecDepth 100000 in
theorem ab_ok_158_0 : ab_c158_0.all (ab_enB 10 cX11_reword false (some .int)) = true := by decide +kernel
set_option maxRecDepth 100000 in
theorem ab_ok_158_1 : ab_c158_1.all (ab_enB 10 cX11_reword false (some .int)) = true := by decide +kernel
set_option maxRecDepth 100000 in
theorem ab_ok_158_2 : ab_c158_2.all (ab_enB 10 cX11_reword false (some .int)) = true := by decide +kernel
theorem ab_ok_158 : ab_c158.all (ab_enB 10 cX11_reword false (some .int)) = true := ab_all_app ab_ok_158_0 (ab_all_app ab_ok_158_1 (ab_ok_158_2))
set_option maxRecDepth 100000 in
theorem ab_ok_159_0 : ab_c159_0.all (ab_enB 10 cX11_chain false (some .int)) = true := by decide +kernel
set_option maxRecDepth 100000 in
theorem ab_ok_159_1 : ab_c159_1.all (ab_enB 10 cX11_chain false (some .int)) = true := by decide +kernel
set_option maxRecDepth 100000 in
theorem ab_ok_159_2 : ab_c159_2.all (ab_enB 10 cX11_chain false (some .int)) = true := by decide +kernel
theorem ab_ok_159 : ab_c159.all (ab_enB 10 cX11_chain false (some .int)) = true := ab_all_app ab_ok_159_0 (ab_all_app ab_ok_159_1 (ab_ok_159_2))
set_option maxRecDepth 100000 in
theorem ab_ok_160_0 : ab_c160_0.all (ab_enB 10 cX11_oddsOf false (some .int)) = true := by decide +kernel
set_option maxRecDepth 100000 in
theorem ab_ok_160_1 : ab_c160_1.all (ab_enB 10 cX11_oddsOf false (some .int)) = true := by decide +kernel
set_option maxRecDepth 100000 in
theorem ab_ok_160_2 : ab_c160_2.all (ab_enB 10 cX11_oddsOf false (some .int)) = true := by decide +kernel
theorem ab_ok_160 : ab_c160.all (ab_enB 10 cX11_oddsOf false (some .int)) = true := ab_all_app ab_ok_160_0 (ab_all_app ab_ok_160_1 (ab_ok_160_2))
set_option maxRecDepth 100000 in
theorem ab_ok_161_0 : ab_c161_0.all (ab_enB 10 cX11_lost false (some .int)) = true := by decide +kernel
set_option maxRecDepth 100000 in
theorem ab_ok_161_1 : ab_c161_1.all (ab_enB 10 cX11_lost false (some .int)) = true := by decide +kernel
theorem ab_ok_161 : ab_c161.all (ab_enB 10 cX11_lost false (some .int)) = true := ab_all_app ab_ok_161_0 (ab_ok_161_1)
set_option maxRecDepth 100000 in
theorem ab_ok_162 : ab_c162.all (ab_enB 10 cX11_bidOf false (some .int)) = true := by decide +kernel
set_option maxRecDepth 100000 in
theorem ab_ok_163_0 : ab_c163_0.all (ab_enB 10 cX11_sold false (some .int)) = true := by decide +kernel
set_option maxRecDepth 100000 in
theorem ab_ok_163_1 : ab_c163_1.all (ab_enB 10 cX11_sold false (some .int)) = true := by decide +kernel
set_option maxRecDepth 100000 in
theorem ab_ok_163_2 : ab_c163_2.all (ab_enB 10 cX11_sold false (some .int)) = true := by decide +kernel
set_option maxRecDepth 100000 in
theorem ab_ok_163_3 : ab_c163_3.all (ab_enB 10 cX11_sold false (some .int)) = true := by decide +kernel
theorem ab_ok_163 : ab_c163.all (ab_enB 10 cX11_sold false (some .int)) = true := ab_all_app ab_ok_163_0 (ab_all_app ab_ok_163_1 (ab_all_app ab_ok_163_2 (ab_ok_163_3)))
set_option maxRecDepth 100000 in
theorem ab_ok_164 : ab_c164.all (ab_enB 10 cX11_leads false (some .boolean)) = true := by decide +kernel
set_option maxRecDepth 100000 in
theorem ab_ok_165_0 : ab_c165_0.all (ab_enB 10 cX11_escapesFrom false (some .int)) = true := by decide +kernel
set_option maxRecDepth 100000 in
theorem ab_ok_165_1 : ab_c165_1.all (ab_enB 10 cX11_escapesFrom false (some .int)) = true := by decide +kernel
set_option maxRecDepth 100000 in
theorem ab_ok_165_2 : ab_c165_2.all (ab_enB 10 cX11_escapesFrom false (some .int)) = true := by decide +kernel
theorem ab_ok_165 : ab_c165.all (ab_enB 10 cX11_escapesFrom false (some .int)) = true := ab_all_app ab_ok_165_0 (ab_all_app ab_ok_165_1 (ab_ok_165_2))
set_option maxRecDepth 100000 in
theorem ab_ok_166_0 : ab_c166_0.all (ab_enB 10 cX11_catchesFrom false (some .int)) = true := by decide +kernel
set_option maxRecDepth 100000 in
theorem ab_ok_166_1 : ab_c166_1.all (ab_enB 10 cX11_catchesFrom false (some .int)) = true := by decide +kernel
set_option maxRecDepth 100000 in
theorem ab_ok_166_2 : ab_c166_2.all (ab_enB 10 cX11_catchesFrom false (some .int)) = true := by decide +kernel
theorem ab_ok_166 : ab_c166.all (ab_enB 10 cX11_catchesFrom false (some .int)) = true := ab_all_app ab_ok_166_0 (ab_all_app ab_ok_166_1 (ab_ok_166_2))
set_option maxRecDepth 100000 in
theorem ab_ok_167_0 : ab_c167_0.all (ab_enB 10 cX11_findThief false (none)) = true := by decide +kernel
set_option maxRecDepth 100000 in
theorem ab_ok_167_1 : ab_c167_1.all (ab_enB 10 cX11_findThief false (none)) = true := by decide +kernel
set_option maxRecDepth 100000 in
theorem ab_ok_167_2 : ab_c167_2.all (ab_enB 10 cX11_findThief false (none)) = true := by decide +kernel
set_option maxRecDepth 100000 in
theorem ab_ok_167_3 : ab_c167_3.all (ab_enB 10 cX11_findThief false (none)) = true := by decide +kernel
theorem ab_ok_167 : ab_c167.all (ab_enB 10 cX11_findThief false (none)) = true := ab_all_app ab_ok_167_0 (ab_all_app ab_ok_167_1 (ab_all_app ab_ok_167_2 (ab_ok_167_3)))
set_option maxRecDepth 100000 in
theorem ab_ok_168_0 : ab_c168_0.all (ab_enB 10 cX11_thief false (some .int)) = true := by decide +kernel
set_option maxRecDepth 100000 in
theorem ab_ok_168_1 : ab_c168_1.all (ab_enB 10 cX11_thief false (some .int)) = true := by decide +kernel
set_option maxRecDepth 100000 in
theorem ab_ok_168_2 : ab_c168_2.all (ab_enB 10 cX11_thief false (some .int)) = true := by decide +kernel
theorem ab_ok_168 : ab_c168.all (ab_enB 10 cX11_thief false (some .int)) = true := ab_all_app ab_ok_168_0 (ab_all_app ab_ok_168_1 (ab_ok_168_2))
set_option maxRecDepth 100000 in
theorem ab_ok_169 : ab_c169.all (ab_enB 10 cX11_deedsOf false (some .int)) = true := by decide +kernel
set_option maxRecDepth 100000 in
theorem ab_ok_170_0 : ab_c170_0.all (ab_enB 10 cX11_voteOf false (some .int)) = true := by decide +kernel
set_option maxRecDepth 100000 in
theorem ab_ok_170_1 : ab_c170_1.all (ab_enB 10 cX11_voteOf false (some .int)) = true := by decide +kernel
theorem ab_ok_170 : ab_c170.all (ab_enB 10 cX11_voteOf false (some .int)) = true := ab_all_app ab_ok_170_0 (ab_ok_170_1)
set_option maxRecDepth 100000 in
theorem ab_ok_171 : ab_c171.all (ab_enB 10 cX11_votesFor false (some .int)) = true := by decide +kernel
set_option maxRecDepth 100000 in
theorem ab_ok_172_0 : ab_c172_0.all (ab_enB 10 cX11_vote false (some .int)) = true := by decide +kernel
set_option maxRecDepth 100000 in
theorem ab_ok_172_1 : ab_c172_1.all (ab_enB 10 cX11_vote false (some .int)) = true := by decide +kernel
theorem ab_ok_172 : ab_c172.all (ab_enB 10 cX11_vote false (some .int)) = true := ab_all_app ab_ok_172_0 (ab_ok_172_1)
set_option maxRecDepth 100000 in
theorem ab_ok_173_0 : ab_c173_0.all (ab_enB 10 cX11_bestWord false (some .int)) = true := by decide +kernel
set_option maxRecDepth 100000 in
theorem ab_ok_173_1 : ab_c173_1.all (ab_enB 10 cX11_bestWord false (some .int)) = true := by decide +kernel
theorem ab_ok_173 : ab_c173.all (ab_enB 10 cX11_bestWord false (some .int)) = true := ab_all_app ab_ok_173_0 (ab_ok_173_1)
set_option maxRecDepth 100000 in
theorem ab_ok_174_0 : ab_c174_0.all (ab_enB 10 cX11_tell false (some .int)) = true := by decide +kernel
set_option maxRecDepth 100000 in
theorem ab_ok_174_1 : ab_c174_1.all (ab_enB 10 cX11_tell false (some .int)) = true := by decide +kernel
theorem ab_ok_174 : ab_c174.all (ab_enB 10 cX11_tell false (some .int)) = true := ab_all_app ab_ok_174_0 (ab_ok_174_1)
set_option maxRecDepth 100000 in
theorem ab_ok_175_0 : ab_c175_0.all (ab_enB 10 cX11_isDay false (some .boolean)) = true := by decide +kernel
set_option maxRecDepth 100000 in
theorem ab_ok_175_1 : ab_c175_1.all (ab_enB 10 cX11_isDay false (some .boolean)) = true := by decide +kernel
set_option maxRecDepth 100000 in
theorem ab_ok_175_2 : ab_c175_2.all (ab_enB 10 cX11_isDay false (some .boolean)) = true := by decide +kernel
set_option maxRecDepth 100000 in
theorem ab_ok_175_3 : ab_c175_3.all (ab_enB 10 cX11_isDay false (some .boolean)) = true := by decide +kernel
theorem ab_ok_175 : ab_c175.all (ab_enB 10 cX11_isDay false (some .boolean)) = true := ab_all_app ab_ok_175_0 (ab_all_app ab_ok_175_1 (ab_all_app ab_ok_175_2 (ab_ok_175_3)))
end
section
set_option maxRecDepth 100000 in
theorem ab_ok_176_0 : ab_c176_0.all (ab_enB 10 cX11_findDays false (some .int)) = true := by decide +kernel
set_option maxRecDepth 100000 in
theorem ab_ok_176_1 : ab_c176_1.all (ab_enB 10 cX11_findDays false (some .int)) = true := by decide +kernel
set_option maxRecDepth 100000 in
theorem ab_ok_176_2 : ab_c176_2.all (ab_enB 10 cX11_findDays false (some .int)) = true := by decide +kernel
theorem ab_ok_176 : ab_c176.all (ab_enB 10 cX11_findDays false (some .int)) = true := ab_all_app ab_ok_176_0 (ab_all_app ab_ok_176_1 (ab_ok_176_2))
set_option maxRecDepth 100000 in
theorem ab_ok_177 : ab_c177.all (ab_enB 10 cX11_days false (some .int)) = true := by decide +kernel
set_option maxRecDepth 100000 in
theorem ab_ok_178 : ab_c178.all (ab_enB 10 cX11_where false (some .int)) = true := by decide +kernel
set_option maxRecDepth 100000 in
theorem ab_ok_179_0 : ab_c179_0.all (ab_enB 10 cX11_write false (some .int)) = true := by decide +kernel
set_option maxRecDepth 100000 in
theorem ab_ok_179_1 : ab_c179_1.all (ab_enB 10 cX11_write false (some .int)) = true := by decide +kernel
theorem ab_ok_179 : ab_c179.all (ab_enB 10 cX11_write false (some .int)) = true := ab_all_app ab_ok_179_0 (ab_ok_179_1)
set_option maxRecDepth 100000 in
theorem ab_ok_180_0 : ab_c180_0.all (ab_enB 10 cX11_judge false (some .int)) = true := by decide +kernel
set_option maxRecDepth 100000 in
theorem ab_ok_180_1 : ab_c180_1.all (ab_enB 10 cX11_judge false (some .int)) = true := by decide +kernel
theorem ab_ok_180 : ab_c180.all (ab_enB 10 cX11_judge false (some .int)) = true := ab_all_app ab_ok_180_0 (ab_ok_180_1)
set_option maxRecDepth 100000 in
theorem ab_ok_181 : ab_c181.all (ab_enB 10 cX11_tear false (some .int)) = true := by decide +kernel
set_option maxRecDepth 100000 in
theorem ab_ok_182 : ab_c182.all (ab_enB 10 cX11_seed false (some .int)) = true := by decide +kernel
set_option maxRecDepth 100000 in
theorem ab_ok_183_0 : ab_c183_0.all (ab_enB 10 cX11_keep false (some .int)) = true := by decide +kernel
set_option maxRecDepth 100000 in
theorem ab_ok_183_1 : ab_c183_1.all (ab_enB 10 cX11_keep false (some .int)) = true := by decide +kernel
theorem ab_ok_183 : ab_c183.all (ab_enB 10 cX11_keep false (some .int)) = true := ab_all_app ab_ok_183_0 (ab_ok_183_1)
set_option maxRecDepth 100000 in
theorem ab_ok_184_0 : ab_c184_0.all (ab_enB 10 cX11_goBack false (some .int)) = true := by decide +kernel
set_option maxRecDepth 100000 in
theorem ab_ok_184_1 : ab_c184_1.all (ab_enB 10 cX11_goBack false (some .int)) = true := by decide +kernel
theorem ab_ok_184 : ab_c184.all (ab_enB 10 cX11_goBack false (some .int)) = true := ab_all_app ab_ok_184_0 (ab_ok_184_1)
set_option maxRecDepth 100000 in
theorem ab_ok_185 : ab_c185.all (ab_enB 14 cJ0_length_8abf5 false (some .int)) = true := by decide +kernel
set_option maxRecDepth 100000 in
theorem ab_ok_186 : ab_c186.all (ab_enB 14 cJ0_indexOf_0f7a4 false (some .int)) = true := by decide +kernel
set_option maxRecDepth 100000 in
theorem ab_ok_187 : ab_c187.all (ab_enB 14 cJ0_indexOf_7cf53 false (some .int)) = true := by decide +kernel
set_option maxRecDepth 100000 in
theorem ab_ok_188 : ab_c188.all (ab_enB 14 cJ0_coder_7d493 false (some .byte)) = true := by decide +kernel
set_option maxRecDepth 100000 in
theorem ab_ok_189 : ab_c189.all (ab_enB 14 cJ0_isLatin1_aae02 false (some .boolean)) = true := by decide +kernel
set_option maxRecDepth 100000 in
theorem ab_ok_190 : ab_c190.all (ab_enB 15 cJ1_canEncode_9a6ad false (some .boolean)) = true := by decide +kernel
set_option maxRecDepth 100000 in
theorem ab_ok_191 : ab_c191.all (ab_enB 15 cJ1_indexOf_4cfef false (some .int)) = true := by decide +kernel
set_option maxRecDepth 100000 in
theorem ab_ok_192 : ab_c192.all (ab_enB 15 cJ1_indexOfChar_4cfef false (some .int)) = true := by decide +kernel
set_option maxRecDepth 100000 in
theorem ab_ok_193 : ab_c193.all (ab_enB 16 cJ7_fill_53178 false (none)) = true := by decide +kernel
set_option maxRecDepth 100000 in
theorem ab_ok_194_0 : ab_c194_0.all (ab_enB 12 cL_law false (some .boolean)) = true := by decide +kernel
set_option maxRecDepth 100000 in
theorem ab_ok_194_1 : ab_c194_1.all (ab_enB 12 cL_law false (some .boolean)) = true := by decide +kernel
set_option maxRecDepth 100000 in
theorem ab_ok_194_2 : ab_c194_2.all (ab_enB 12 cL_law false (some .boolean)) = true := by decide +kernel
set_option maxRecDepth 100000 in
theorem ab_ok_194_3 : ab_c194_3.all (ab_enB 12 cL_law false (some .boolean)) = true := by decide +kernel
set_option maxRecDepth 100000 in
theorem ab_ok_194_4 : ab_c194_4.all (ab_enB 12 cL_law false (some .boolean)) = true := by decide +kernel
set_option maxRecDepth 100000 in
theorem ab_ok_194_5 : ab_c194_5.all (ab_enB 12 cL_law false (some .boolean)) = true := by decide +kernel
set_option maxRecDepth 100000 in
theorem ab_ok_194_6 : ab_c194_6.all (ab_enB 12 cL_law false (some .boolean)) = true := by decide +kernel
set_option maxRecDepth 100000 in
theorem ab_ok_194_7 : ab_c194_7.all (ab_enB 12 cL_law false (some .boolean)) = true := by decide +kernel
set_option maxRecDepth 100000 in
theorem ab_ok_194_8 : ab_c194_8.all (ab_enB 12 cL_law false (some .boolean)) = true := by decide +kernel
set_option maxRecDepth 100000 in
theorem ab_ok_194_9 : ab_c194_9.all (ab_enB 12 cL_law false (some .boolean)) = true := by decide +kernel
set_option maxRecDepth 100000 in
theorem ab_ok_194_10 : ab_c194_10.all (ab_enB 12 cL_law false (some .boolean)) = true := by decide +kernel
set_option maxRecDepth 100000 in
theorem ab_ok_194_11 : ab_c194_11.all (ab_enB 12 cL_law false (some .boolean)) = true := by decide +kernel
set_option maxRecDepth 100000 in
theorem ab_ok_194_12 : ab_c194_12.all (ab_enB 12 cL_law false (some .boolean)) = true := by decide +kernel
set_option maxRecDepth 100000 in
theorem ab_ok_194_13 : ab_c194_13.all (ab_enB 12 cL_law false (some .boolean)) = true := by decide +kernel
set_option maxRecDepth 100000 in
theorem ab_ok_194_14 : ab_c194_14.all (ab_enB 12 cL_law false (some .boolean)) = true := by decide +kernel
set_option maxRecDepth 100000 in
theorem ab_ok_194_15 : ab_c194_15.all (ab_enB 12 cL_law false (some .boolean)) = true := by decide +kernel
set_option maxRecDepth 100000 in
theorem ab_ok_194_16 : ab_c194_16.all (ab_enB 12 cL_law false (some .boolean)) = true := by decide +kernel
set_option maxRecDepth 100000 in
theorem ab_ok_194_17 : ab_c194_17.all (ab_enB 12 cL_law false (some .boolean)) = true := by decide +kernel
set_option maxRecDepth 100000 in
theorem ab_ok_194_18 : ab_c194_18.all (ab_enB 12 cL_law false (some .boolean)) = true := by decide +kernel
set_option maxRecDepth 100000 in
theorem ab_ok_194_19 : ab_c194_19.all (ab_enB 12 cL_law false (some .boolean)) = true := by decide +kernel
set_option maxRecDepth 100000 in
theorem ab_ok_194_20 : ab_c194_20.all (ab_enB 12 cL_law false (some .boolean)) = true := by decide +kernel
theorem ab_ok_194 : ab_c194.all (ab_enB 12 cL_law false (some .boolean)) = true := ab_all_app ab_ok_194_0 (ab_all_app ab_ok_194_1 (ab_all_app ab_ok_194_2 (ab_all_app ab_ok_194_3 (ab_all_app ab_ok_194_4 (ab_all_app ab_ok_194_5 (ab_all_app ab_ok_194_6 (ab_all_app ab_ok_194_7 (ab_all_app ab_ok_194_8 (ab_all_app ab_ok_194_9 (ab_all_app ab_ok_194_10 (ab_all_app ab_ok_194_11 (ab_all_app ab_ok_194_12 (ab_all_app ab_ok_194_13 (ab_all_app ab_ok_194_14 (ab_all_app ab_ok_194_15 (ab_all_app ab_ok_194_16 (ab_all_app ab_ok_194_17 (ab_all_app ab_ok_194_18 (ab_all_app ab_ok_194_19 (ab_ok_194_20))))))))))))))))))))
end
section
/-! CALLS AND RETURNS; the abstract run is the machine's -/
def ab_rm (d mc ms : Nat) : Room := { frames := d + 2, cells := mc, slots := ms, locals := 200 * (d + 1) }
def ab_Pre (D : va_G) (I : ab_I4) (b0 : Nat) (sa : Nat → Nat) (L : Nat) (xs : Nat → Int32) (as : List ab_V) (M : ab_M) : Array Value → State → Prop := va_Pc (as.map (ab_cv b0 sa)) (fun U => U.heap.size = b0 + ab_nc M ∧ va_P D vwCl (ab_ws I b0 (ab_nc M) M) U.heap ∧ va_K D vwCl (ab_tys I) U ∧ ab_G b0 sa L xs U)
def ab_BB (D : va_G) (I : ab_I4) (b0 : Nat) (L : Nat) (xs : Nat → Int32) (r : Option ab_V) (M : ab_M) (_ : Unit) (t : State) : Prop := va_P D vwCl (ab_ws I b0 (ab_nc M) M) t.heap ∧ ab_mok L xs M ∧ ∀ v, r = some v → ab_vk v
def ab_Post (D : va_G) (I : ab_I4) (b0 : Nat) (sa : Nat → Nat) (L : Nat) (xs : Nat → Int32) (r : Option ab_V) (M : ab_M) : Array Value → State → Outcome → State → Prop := match r with
  | some v => va_Qi (fun z (_ : Unit) => Value.int z = ab_cv b0 sa v) (ab_BB D I b0 L xs r M) (ab_A b0)
  | none => va_Qv (fun (_ : Unit) => True) (ab_BB D I b0 L xs r M) (ab_A b0)
theorem ab_G_move {b0 : Nat} {sa : Nat → Nat} {L : Nat} {xs : Nat → Int32} {s U : State} (hW : s.WarmedH U.vm) (hz : s.heap.size ≤ U.heap.size) (hk : ∀ q, q < s.heap.size → ¬ ab_A b0 q → U.heap[q]? = s.heap[q]?) (h : ab_G b0 sa L xs s) : ab_G b0 sa L xs U := by
  obtain ⟨⟨x1, x2, x3⟩, ⟨t1, t2, t3⟩, ⟨z1, z2, z3, z4⟩, ⟨r1, r2⟩, nw, ov⟩ := h
  have ha := hW.alike
  refine ⟨⟨(x1.moved ha).kept (hk _ x2 (Nat.not_le.mpr x3)), Nat.lt_of_lt_of_le x2 hz, x3⟩, ⟨(t1.moved ha).kept hk, (t2.moved ha).kept hk, (t3.moved ha).kept hk⟩, ⟨(z1.moved ha).kept hk, (z2.moved ha).kept hk, (z3.moved ha).kept hk, (z4.moved ha).kept hk⟩, ⟨r1.warm hW, (r2.moved ha).kept hk⟩, fun w hw => ?_, over_moved ha ov⟩
  have hn := nw w hw
  unfold ab_nwd at hw
  simp only [List.mem_cons, List.not_mem_nil, or_false] at hw
  rcases hw with rfl | rfl | rfl | rfl | rfl | rfl | rfl | rfl | rfl | rfl | rfl
  · exact hn.warmD hW
  all_goals exact hn.warmM hW
theorem ab_blind {D : va_G} {I : ab_I4} {b0 : Nat} {sa : Nat → Nat} {L : Nat} {xs : Nat → Int32} {as : List ab_V} {M : ab_M} : FrameBlind (ab_Pre D I b0 sa L xs as M) := by
  intro a U g mk hq
  obtain ⟨h1, h2, h3, h4, h5⟩ := hq
  exact ⟨h1, h2, h3, va_K.moved (u := U) (U := U.calling g mk a) (Vm.Alike.refl U.vm) h4, ab_G_move (U := U.calling g mk a) (State.WarmedH.refl U) (Nat.le_refl _) (fun q _ _ => rfl) h5⟩
section MAIN
variable {p : Program} {l : Launch} {e : Env} {R : Room} {s : State} {m : MethodId} {args : Array Value} {below : List Frame} {meth : Method} {c : Code} {Q : State → Prop} {D : va_G} {I : ab_I4} {b0 : Nat} {sa : Nat → Nat} {L : Nat} {xs : Nat → Int32} {nL n0 s0 : Nat} {cc : ByteArray} {own : String} {pc : Nat} {ls : ab_L} {st : List ab_V} {M : ab_M}
/-- what a call finds -/
theorem so_pre {as : List ab_V} {H : Heap} {locs : List Loc} (hG : ab_G b0 sa L xs s) (hK : va_K D vwCl (ab_tys I) s) (hP : va_P D vwCl (ab_ws I b0 (ab_nc M) M) H) (hS : va_S (ab_A b0) s.heap H locs) (hz : H.size = b0 + ab_nc M) : ∀ U : State, U.heap = H → s.WarmedH U.vm → ab_Pre D I b0 sa L xs as M (as.map (ab_cv b0 sa)).toArray U := by
  intro U hU hW
  refine ⟨rfl, by rw [hU]; exact hz, by rw [hU]; exact hP, va_K.moved hW.alike hK, ab_G_move hW (by rw [hU]; exact hS.1) (fun q h1 h2 => by rw [hU]; exact hS.2.1 q h1 h2) hG⟩
theorem so_after {z : Option ab_V × ab_M} {rest : List ab_V} {H : Heap} {locs : List Loc} {lc : Array Slot} {st0 : List Value} {a : Array Value} (hup : ab_up M z.2) (h0 : 0 ≤ M 999 0 ∧ 0 ≤ M 999 1) (h2 : ∀ v ∈ rest, ab_vk v) (h3 : lv_has lc nL (ab_as b0 sa 0 ls)) (h4 : ls.length = nL) (h5 : ∀ v, some v ∈ ls → ab_vk v) (hS : va_S (ab_A b0) s.heap H locs) (hn : n0 ≤ ab_nc M) (hs : s0 ≤ (M 999 1).toNat)
    (hr : va_Run p l e R s m args below meth c H locs (ab_nc M - n0) ((M 999 1).toNat - s0) (ab_nc z.2 - ab_nc M) ((z.2 999 1).toNat - (M 999 1).toNat) (F0 m pc lc st0) (rest.map (ab_cv b0 sa)) (ab_Post D I b0 sa L xs z.1 z.2 a) (ab_A b0)) (kk : ab_K p l e R s m args below meth c Q D I b0 sa L xs nL n0 s0 (pc + 3) ls (z.1.toList ++ rest) z.2) : W p l e R s m args below meth c H locs (ab_nc M - n0) ((M 999 1).toNat - s0) Q (F0 m pc lc st0) := by
  obtain ⟨r, M'⟩ := z
  obtain ⟨u1, u2, u3, -⟩ := hup
  have u1 : M 999 0 ≤ M' 999 0 := u1
  have u2 : M 999 1 ≤ M' 999 1 := u2
  have hnc : ab_nc M ≤ ab_nc M' := by unfold ab_nc; omega
  have e1 : ab_nc M - n0 + (ab_nc M' - ab_nc M) = ab_nc M' - n0 := by omega
  have e2 : (M 999 1).toNat - s0 + ((M' 999 1).toNat - (M 999 1).toNat) = (M' 999 1).toNat - s0 := by omega
  have fin : ∀ (H1 : Heap) (locs1 : List Loc), ab_mok L xs M' → (∀ v, r = some v → ab_vk v) → va_P D vwCl (ab_ws I b0 (ab_nc M') M') H1 → va_S (ab_A b0) s.heap H1 locs1 → W p l e R s m args below meth c H1 locs1 (ab_nc M - n0 + (ab_nc M' - ab_nc M)) ((M 999 1).toNat - s0 + ((M' 999 1).toNat - (M 999 1).toNat)) Q (F0 m (pc + 3) lc ((r.toList ++ rest).map (ab_cv b0 sa))) := by
    intro H1 locs1 hm hv hP1 hS1
    rw [e1, e2]
    refine kk H1 locs1 lc ⟨hm, ?_, h3, h4, h5, hP1, hS1, by dsimp only; omega, by dsimp only; omega⟩
    intro v hv2
    rcases List.mem_append.mp hv2 with h | h
    · exact hv v (by simpa using h)
    · exact h2 v h
  cases r with
  | none =>
    refine va_callv (a := a) (post := fun (_ : Unit) => True) (B := ab_BB D I b0 L xs none M') (A1 := ab_A b0) hr hS (fun q _ h => h) (fun q h => h) (fun u t H1 locs1 ht _ _ hB _ _ hS1 => ?_)
    obtain ⟨b1, b2, b3⟩ := hB
    rw [ht] at b1
    exact fin H1 locs1 b2 b3 b1 hS1
  | some v =>
    refine va_calli (a := a) (post := fun z (_ : Unit) => Value.int z = ab_cv b0 sa v) (B := ab_BB D I b0 L xs (some v) M') (A1 := ab_A b0) hr hS (fun q _ h => h) (fun q h => h) (fun z u t H1 locs1 ht _ hz hB _ _ hS1 => ?_)
    obtain ⟨b1, b2, b3⟩ := hB
    rw [ht] at b1
    have := fin H1 locs1 b2 b3 b1 hS1
    have e3 : ((some v).toList ++ rest).map (ab_cv b0 sa) = .int z :: rest.map (ab_cv b0 sa) := by
      show ab_cv b0 sa v :: _ = _
      rw [hz]
      rfl
    rw [e3] at this
    exact this
theorem ab_lk {q : ab_CL} (h : q ∈ ab_clt) : ab_lkc q = true := List.all_eq_true.mp ab_clt0 q h
theorem ab_codem {k : Nat} (h : k < 194) : Cond.code (ab_y k) (ab_b k) (ab_mx k) (ab_rv k) ∈ ab_tb := by
  have hc := ab_mcs k h
  unfold ab_mc at hc
  simp only [Bool.and_eq_true, decide_eq_true_eq] at hc
  have hlen : ab_rcs.length = 194 := by decide +kernel
  have hin : ab_rec k ∈ ab_rcs := by
    unfold ab_rec
    rw [List.getD_eq_getElem?_getD, List.getElem?_eq_getElem (by omega)]
    exact List.getElem_mem _
  have := ab_rcm _ hin
  rw [hc.1.1.1.1.1] at this
  exact this
theorem ab_mcf {k : Nat} (h : k < 194) : plainName (ab_y k).cls = true ∧ (ab_y k).cls ≠ "java/lang/invoke/MethodHandle" ∧ (ab_y k).cls ≠ "java/lang/invoke/VarHandle" ∧ ab_ows.getD (ab_oi' k) "" = (ab_y k).cls ∧ ab_mx k ≤ 100 := by
  have hc := ab_mcs k h
  unfold ab_mc at hc
  simp only [Bool.and_eq_true, decide_eq_true_eq, Bool.not_eq_true', decide_eq_false_iff_not] at hc
  exact ⟨hc.1.1.1.1.2, hc.1.1.1.2, hc.1.1.2, hc.1.2, hc.2⟩
abbrev ab_MetOf (l : Launch) (D : va_G) (I : ab_I4) (b0 : Nat) (sa : Nat → Nat) (L : Nat) (xs : Nat → Int32) (d k : Nat) (as : List ab_V) (M : ab_M) (z : Option ab_V × ab_M) : Prop := Met l (ab_y k) (.code (ab_y k) (ab_b k) (ab_mx k) (ab_rv k) :: ab_tb) (ab_rm d (ab_nc z.2 - ab_nc M) ((z.2 999 1).toNat - (M 999 1).toNat)) (ab_Pre D I b0 sa L xs as M) (ab_Post D I b0 sa L xs z.1 z.2) (ab_nc z.2 - ab_nc M) ((z.2 999 1).toNat - (M 999 1).toNat) (ab_A b0)
theorem iv_args {en : ab_E} {q : Nat × (List ab_V × List ab_V)} (h : ab_args en st M = some q) : st = q.2.1.reverse ++ q.2.2 ∧ q.2.1.length = en.2.2.2.toNat ∧ (q.2.2.map ab_cat).sum ≤ 8 ∧ (ab_sl q.2.1).length ≤ ab_mx q.1 ∧
    ((ab_isS en.1 = true ∧ q.1 = en.2.2.1) ∨ (ab_isS en.1 = false ∧ ∃ r t, q.2.1 = .inr (.inr r) :: t ∧
      ((en.2.2.1 = 300 ∧ q.1 = ab_meet (ab_kd r).1 ∧ r < ab_nc M ∧ (ab_kd r).1 < 11 ∧ ab_tg 50 (ab_kd r).1) ∨ (en.2.2.1 ≠ 300 ∧ 1000 ≤ en.2.2.1 ∧ q.1 = en.2.2.1 % 1000 ∧ r < ab_nc M ∧ (ab_kd r).1 < 11 ∧ (ab_kd r).1 + 1 = en.2.2.1 / 1000) ∨ (en.2.2.1 ≠ 300 ∧ ¬ 1000 ≤ en.2.2.1 ∧ q.1 = en.2.2.1 ∧ ab_rc M en.2.2.1 r)))) := by
  have base : ∀ (a : List ab_V), a = (st.take en.2.2.2.toNat).reverse → ¬ (st.length < en.2.2.2.toNat ∨ 8 < ((st.drop en.2.2.2.toNat).map ab_cat).sum) → st = a.reverse ++ st.drop en.2.2.2.toNat ∧ a.length = en.2.2.2.toNat ∧ ((st.drop en.2.2.2.toNat).map ab_cat).sum ≤ 8 := by
    intro a ha hc
    subst ha
    refine ⟨by rw [List.reverse_reverse, List.take_append_drop], ?_, by omega⟩
    rw [List.length_reverse, List.length_take]
    omega
  unfold ab_args at h
  split at h
  · cases h
  next hc =>
    split at h
    next hs =>
      split at h
      next hl =>
        cases h
        obtain ⟨b1, b2, b3⟩ := base _ rfl hc
        exact ⟨b1, b2, b3, hl, Or.inl ⟨hs, rfl⟩⟩
      next => cases h
    next hs =>
      have hs : ab_isS en.1 = false := by simpa using hs
      split at h
      next r t hrt =>
        obtain ⟨b1, b2, b3⟩ := base _ hrt.symm hc
        split at h
        next h3 =>
          split at h
          next hq => cases h; exact ⟨b1, b2, b3, hq.2.2.2, Or.inr ⟨hs, r, t, rfl, Or.inl ⟨h3, rfl, hq.1, hq.2.1, hq.2.2.1⟩⟩⟩
          next => cases h
        next h3 =>
          split at h
          next h4 =>
            split at h
            next hq => cases h; exact ⟨b1, b2, b3, hq.2.2.2, Or.inr ⟨hs, r, t, rfl, Or.inr (Or.inl ⟨h3, h4, rfl, hq.1, hq.2.1, hq.2.2.1⟩)⟩⟩
            next => cases h
          next h4 =>
            split at h
            next hq => cases h; exact ⟨b1, b2, b3, hq.2, Or.inr ⟨hs, r, t, rfl, Or.inr (Or.inr ⟨h3, h4, rfl, hq.1⟩)⟩⟩
            next => cases h
      next => cases h
theorem ab_pni {d : String} {n : Nat} (h : ab_pn d n = true) : (parseMethodDescriptor d).map (fun d => d.parameters.length) = some n := of_decide_eq_true h
theorem ab_pnl {d : String} {n : Nat} (h : ab_pn d n = true) : ∀ sig, parseMethodDescriptor d = some sig → n = sig.parameters.length := by
  intro sig hs
  have := ab_pni h
  rw [hs] at this
  exact (Option.some.inj this).symm
theorem ab_payw {y : MethodName} {b : ByteArray} {n : Nat} {r : Option FieldType} (hts : ∀ w ∈ ab_tb, w.before args s = true) (h : Cond.code y b n r ∈ ab_tb) : ∀ w ∈ (Cond.code y b n r :: ab_tb), ∀ (a' : Array Value) (U : State), s.WarmedH U.vm → w.before a' U = true := pay_in hts (ab_good h)
theorem ab_recvc {r : Nat} {H : Heap} {rr : vw_C} (hK : va_K D vwCl (ab_tys I) s) (hP : va_P D vwCl (ab_ws I b0 (ab_nc M) M) H) (h1 : r < ab_nc M) (h2 : (ab_kd r).1 < 11) (hr : vwCl[(ab_kd r).1]? = some rr) : ∃ cellB : Cell, H[b0 + r]? = some cellB ∧ cellB.vm.isStatics = false ∧ s.vm.findClass rr.1 = some cellB.cls :=
  va_recv hK hP hr (q0 := r) (fs := ab_fs b0 M r) (by rw [ab_ws_get h1, ab_ce_obj h2])
theorem ab_cn_of {t : Nat} {rr : vw_C} (hr : vwCl[t]? = some rr) : ab_cn t = rr.1 := by
  unfold ab_cn
  rw [hr]
theorem so_call {en : ab_E} {q : Nat × (List ab_V × List ab_V)} {z : Option ab_V × ab_M} {oid d : Nat} (C : ab_cx p s m args c D I b0 sa L xs nL n0 cc own) (ho : own = ab_ows.getD oid "") (hcok : ab_cok oid cc pc en) (hargs : ab_args en st M = some q)
    (hmet : ab_mok L xs M → (∀ v ∈ q.2.1, ab_vk v) → (ab_sl q.2.1).length ≤ ab_mx q.1 → q.1 < 194 → ab_MetOf l D I b0 sa L xs d q.1 q.2.1 M z) (hup : ab_up M z.2) (hRd : d + 3 ≤ R.frames ∧ 200 * (d + 2) ≤ R.locals) (hrm : ab_nc z.2 - n0 ≤ R.cells ∧ (z.2 999 1).toNat - s0 ≤ R.slots) (kk : ab_K p l e R s m args below meth c Q D I b0 sa L xs nL n0 s0 (pc + 3) ls (z.1.toList ++ q.2.2) z.2) : ab_K p l e R s m args below meth c Q D I b0 sa L xs nL n0 s0 pc ls st M := by
  obtain ⟨hx, hb, hml, hown, hts, hK, hG, hsz⟩ := C
  obtain ⟨w, hw, hw1, hw2, hw3, hop, hd⟩ := hcok
  obtain ⟨b1, b2, b3, b4, b5⟩ := iv_args hargs
  obtain ⟨k, as, rest⟩ := q
  dsimp only at b1 b2 b3 b4 b5 hmet kk
  have hlk := ab_lk hw
  intro H locs lc h
  obtain ⟨h1, h2, h3, h4, h5, hP, hS, h8, h9⟩ := h
  have hn9 := ab_n995 h1
  refine ab_sz hsz h8 hP hS (fun hz => ?_)
  have h2a : ∀ v ∈ as, ab_vk v := fun v hv => h2 v (by rw [b1]; exact List.mem_append_left _ (List.mem_reverse.mpr hv))
  have h2r : ∀ v ∈ rest, ab_vk v := fun v hv => h2 v (by rw [b1]; exact List.mem_append_right _ hv)
  have hst : st.map (ab_cv b0 sa) = (as.map (ab_cv b0 sa)).reverse ++ rest.map (ab_cv b0 sa) := by
    rw [b1, List.map_append, List.map_reverse]
  have hcat : ((rest.map (ab_cv b0 sa)).map fun v => v.category).sum ≤ 8 := by
    have : ((rest.map (ab_cv b0 sa)).map fun v => v.category) = rest.map ab_cat := by
      rw [List.map_map]
      apply List.map_congr_left
      intro v _
      exact ab_cat_cv b0 sa v
    rw [this]
    exact b3
  have hfc : ab_nc M - n0 + (ab_nc z.2 - ab_nc M) ≤ R.cells ∧ (M 999 1).toNat - s0 + ((z.2 999 1).toNat - (M 999 1).toNat) ≤ R.slots := by
    have u1 := hup.1
    have u2 := hup.2.1
    clear b5
    have : ab_nc M ≤ ab_nc z.2 := by unfold ab_nc; omega
    exact ⟨by omega, by omega⟩
  have hpre := so_pre (as := as) hG hK hP hS hz
  have CF : CallFix p m c cc nL s args ab_tb own := ⟨hx, hb, hml, hown, hts⟩
  have hroom : ∀ k' : Nat, k' < 194 → (ab_rm d (ab_nc z.2 - ab_nc M) ((z.2 999 1).toNat - (M 999 1).toNat)).frames + 1 ≤ R.frames ∧ 8 + (ab_mx k' + 11) + (ab_rm d (ab_nc z.2 - ab_nc M) ((z.2 999 1).toNat - (M 999 1).toNat)).locals ≤ R.locals := by
    intro k' hk'
    have := (ab_mcf hk').2.2.2.2
    show d + 2 + 1 ≤ _ ∧ 8 + (_ + 11) + 200 * (d + 1) ≤ _
    exact ⟨by omega, by omega⟩
  have fin : ∀ {a : Array Value} , va_Run p l e R s m args below meth c H locs (ab_nc M - n0) ((M 999 1).toNat - s0) (ab_nc z.2 - ab_nc M) ((z.2 999 1).toNat - (M 999 1).toNat) (F0 m pc lc (st.map (ab_cv b0 sa))) (rest.map (ab_cv b0 sa)) (ab_Post D I b0 sa L xs z.1 z.2 a) (ab_A b0) → W p l e R s m args below meth c H locs (ab_nc M - n0) ((M 999 1).toNat - s0) Q (F0 m pc lc (st.map (ab_cv b0 sa))) :=
    fun hr => so_after hup ⟨h1.2.1, h1.2.2.2.1⟩ h2r h3 h4 h5 hS h8 h9 hr kk
  unfold ab_lkc at hlk
  dsimp only at hlk
  rw [hw1, ← ho] at hlk
  rcases hop with ⟨hop, hi⟩ | ⟨hop, hi⟩ | ⟨hop, hi⟩
  · rw [if_pos hop] at hlk
    simp only [Bool.and_eq_true, decide_eq_true_eq] at hlk
    obtain ⟨⟨⟨⟨l0, l1⟩, l2⟩, l3⟩, l4⟩ := hlk
    have hk : k = w.2.2.2.1 := by
      rcases b5 with ⟨-, b5⟩ | ⟨b5, -⟩
      · rw [b5, hw2]
      · rw [hi] at b5; cases b5
    subst hk
    have hM := hmet h1 h2a b4 l0
    obtain ⟨-, f1, f2, -, -⟩ := ab_mcf l0
    have hcb := callB_of (R := R) (s := s) (args := args) (own := own) (index := w.2.2.1) (ws' := ab_tb) (rm := ab_rm d (ab_nc z.2 - ab_nc M) ((z.2 999 1).toNat - (M 999 1).toNat)) w.2.2.2.2.1 hts (ab_good (ab_codem l0)) rfl rfl rfl (hts _ (ab_ix_mem l3)) (hts _ (ab_ix_mem l1)) ⟨f1, f2, ab_pni l4⟩ (hroom _ l0)
    refine fin (va_runS CF hM ⟨hcb, hts _ (ab_ix_mem l2)⟩ ⟨ab_blind, hpre⟩ rfl ?_ h3.1 hst (lv_room hcat) (by rw [hi] at hd; exact hd) hfc)
    rw [List.length_map, b2]
    clear b5
    omega
  · have h12 : w.1 = 1 ∨ w.1 = 2 := hop
    obtain ⟨r, t, hat, hk0⟩ : ∃ r t, as = .inr (.inr r) :: t ∧ (en.2.2.1 = 300 ∨ 1000 ≤ en.2.2.1 ∨ k = en.2.2.1) := by
      rcases b5 with ⟨b5, -⟩ | ⟨-, r, t, hat, hq⟩
      · rw [hi] at b5; cases b5
      · refine ⟨r, t, hat, ?_⟩
        rcases hq with ⟨hq, -⟩ | ⟨-, hq, -⟩ | ⟨-, -, hq, -⟩
        · exact Or.inl hq
        · exact Or.inr (Or.inl hq)
        · exact Or.inr (Or.inr hq)
    have core : w.2.2.2.1 < 194 → (k = w.2.2.2.1 → 0 < w.2.2.2.2.1 → (parseMethodDescriptor (ab_y w.2.2.2.1).desc).map (fun d => d.parameters.length) = some (w.2.2.2.2.1 - 1) → W p l e R s m args below meth c H locs (ab_nc M - n0) ((M 999 1).toNat - s0) Q (F0 m pc lc (st.map (ab_cv b0 sa)))) → 0 < w.2.2.2.2.1 → ab_pn (ab_y w.2.2.2.1).desc (w.2.2.2.2.1 - 1) = true → W p l e R s m args below meth c H locs (ab_nc M - n0) ((M 999 1).toNat - s0) Q (F0 m pc lc (st.map (ab_cv b0 sa))) := by
      intro l0 hh hpos hpn
      refine hh ?_ hpos (ab_pni hpn)
      rcases hk0 with hk0 | hk0 | hk0
      · omega
      · omega
      · rw [hk0, hw2]
    have hstr : st.map (ab_cv b0 sa) = (t.map (ab_cv b0 sa)).reverse ++ .ref (ab_ad b0 sa r) :: rest.map (ab_cv b0 sa) := by
      rw [hst, hat, List.map_cons, List.reverse_cons, List.append_assoc]
      rfl
    have hlen : (t.map (ab_cv b0 sa)).length = w.2.2.2.2.1 - 1 := by
      rw [List.length_map]
      rw [hat, List.length_cons] at b2
      omega
    have hpre2 : ∀ U : State, U.heap = H → s.WarmedH U.vm → ab_Pre D I b0 sa L xs as M (Value.ref (ab_ad b0 sa r) :: t.map (ab_cv b0 sa)).toArray U := by
      intro U hU hW
      have := hpre U hU hW
      rw [hat] at this ⊢
      exact this
    rcases h12 with h12 | h12
    · rw [if_neg (by omega), if_pos h12] at hlk
      simp only [Bool.and_eq_true, decide_eq_true_eq] at hlk
      obtain ⟨⟨⟨⟨⟨⟨⟨l0, l1⟩, l2⟩, l3⟩, l4⟩, l5⟩, l6⟩, l7⟩ := hlk
      refine core l0 (fun hk hpos hpn => ?_) l6 l7
      subst hk
      have hM := hmet h1 h2a b4 l0
      obtain ⟨-, f1, f2, -, -⟩ := ab_mcf l0
      have hcm := ab_codem l0
      unfold ab_MetOf at hM
      rw [l5] at hM hcm
      have hcw := cwI (R := R) (s := s) (args := args) (own := own) (index := w.2.2.1) (ws' := ab_tb) (rm := ab_rm d (ab_nc z.2 - ab_nc M) ((z.2 999 1).toNat - (M 999 1).toNat)) (w.2.2.2.2.1 - 1) hts (ab_good hcm) rfl rfl rfl (hts _ (ab_ix_mem l3)) (hts _ (ab_ix_mem l1)) (hts _ (ab_ix_mem l2)) l4 ⟨f1, f2, hpn⟩ (hroom _ l0)
      exact fin (va_runI CF hM hcw ⟨ab_blind, hpre2⟩ rfl hlen h3.1 hstr (lv_room hcat) (by rw [hi] at hd; exact hd) hfc)
    · rw [if_neg (by omega), if_neg (by omega), if_pos h12] at hlk
      simp only [Bool.and_eq_true, decide_eq_true_eq] at hlk
      obtain ⟨⟨⟨⟨⟨⟨⟨l0, l1⟩, l2⟩, l3⟩, l4⟩, l5⟩, l6⟩, l7⟩ := hlk
      refine core l0 (fun hk hpos hpn => ?_) l6 l7
      subst hk
      have hM := hmet h1 h2a b4 l0
      obtain ⟨-, f1, f2, -, -⟩ := ab_mcf l0
      have hcm := ab_codem l0
      unfold ab_MetOf at hM
      rw [l5] at hM hcm
      obtain ⟨x, hxm, hxe⟩ := List.any_eq_true.mp l1
      have hxe := of_decide_eq_true hxe
      have hnw := hG.2.2.2.2.1 x hxm
      rw [hxe] at hnw
      have hcn := va_cnB (R := R) (args := args) (ws' := ab_tb) (rm := ab_rm d (ab_nc z.2 - ab_nc M) ((z.2 999 1).toNat - (M 999 1).toNat)) (w.2.2.2.2.1 - 1) hts (ab_good hcm) rfl rfl rfl hnw (hts _ (ab_ix_mem l3)) ⟨f1, f2, hpn⟩ (hroom _ l0)
      exact fin (va_runIN CF hM ⟨hcn, l4, hts _ (ab_ix_mem l2)⟩ ⟨ab_blind, hpre2⟩ rfl hlen h3.1 hstr (lv_room hcat) (by rw [hi] at hd; exact hd) hfc)
  · obtain ⟨r, t, hat, hk0⟩ : ∃ r t, as = .inr (.inr r) :: t ∧ ((en.2.2.1 = 300 ∧ k = ab_meet (ab_kd r).1 ∧ r < ab_nc M ∧ (ab_kd r).1 < 11 ∧ ab_tg 50 (ab_kd r).1) ∨ (en.2.2.1 ≠ 300 ∧ 1000 ≤ en.2.2.1 ∧ k = en.2.2.1 % 1000 ∧ r < ab_nc M ∧ (ab_kd r).1 < 11 ∧ (ab_kd r).1 + 1 = en.2.2.1 / 1000) ∨ (en.2.2.1 ≠ 300 ∧ ¬ 1000 ≤ en.2.2.1 ∧ k = en.2.2.1 ∧ ab_rc M en.2.2.1 r)) := by
      rcases b5 with ⟨b5, -⟩ | ⟨-, r, t, hat, hq⟩
      · rw [hi] at b5; cases b5
      · exact ⟨r, t, hat, hq⟩
    have hstr : st.map (ab_cv b0 sa) = (t.map (ab_cv b0 sa)).reverse ++ .ref (ab_ad b0 sa r) :: rest.map (ab_cv b0 sa) := by
      rw [hst, hat, List.map_cons, List.reverse_cons, List.append_assoc]
      rfl
    have hlen : 0 < w.2.2.2.2.1 → (t.map (ab_cv b0 sa)).length = w.2.2.2.2.1 - 1 := by
      intro _
      rw [List.length_map]
      rw [hat, List.length_cons] at b2
      omega
    have hpre2 : ∀ U : State, U.heap = H → s.WarmedH U.vm → ab_Pre D I b0 sa L xs as M (Value.ref (ab_ad b0 sa r) :: t.map (ab_cv b0 sa)).toArray U := by
      intro U hU hW
      have := hpre U hU hW
      rw [hat] at this ⊢
      exact this
    have had : r < ab_nc M → ab_ad b0 sa r = b0 + r := by
      intro hr
      unfold ab_ad
      rw [if_pos (by omega)]
    rcases hop with hop | hop | hop
    · rw [if_neg (by omega), if_neg (by omega), if_neg (by omega), if_pos hop] at hlk
      simp only [Bool.and_eq_true, Bool.or_eq_true, decide_eq_true_eq] at hlk
      obtain ⟨⟨⟨⟨⟨⟨⟨l0, l1⟩, l2⟩, l3⟩, l4⟩, l5⟩, l6⟩, l7⟩ := hlk
      rcases hk0 with ⟨hk0, -⟩ | ⟨-, hk0, -⟩ | ⟨-, -, hk, hrc⟩
      · omega
      · omega
      have hk : k = w.2.2.2.1 := by rw [hk, hw2]
      subst hk
      rw [← hw2] at hrc
      have hM := hmet h1 h2a b4 l0
      obtain ⟨-, f1, f2, -, -⟩ := ab_mcf l0
      have hcb := callB_of (R := R) (s := s) (args := args) (own := own) (index := w.2.2.1) (ws' := ab_tb) (rm := ab_rm d (ab_nc z.2 - ab_nc M) ((z.2 999 1).toNat - (M 999 1).toNat)) (w.2.2.2.2.1 - 1) hts (ab_good (ab_codem l0)) rfl rfl rfl (hts _ (ab_ix_mem l4)) (hts _ (ab_ix_mem l1)) ⟨f1, f2, ab_pni l6⟩ (hroom _ l0)
      have hcell : ∃ cellB : Cell, H[ab_ad b0 sa r]? = some cellB ∧ cellB.vm.isStatics = false ∧ s.vm.findClass (ab_y w.2.2.2.1).cls = some cellB.cls := by
        rcases hrc with ⟨c1, c2, c3⟩ | ⟨rfl, c3⟩
        · rw [had c1]
          obtain ⟨rr, hr, -⟩ := ab_kdN c2
          have hcl : rr.1 = (ab_y w.2.2.2.1).cls := by
            rcases l7 with ⟨l7, l8⟩ | ⟨l7, -⟩
            · have : (ab_kd r).1 = ab_rt w.2.2.2.1 := by
                rcases c3 with c3 | ⟨c3, -⟩ <;> omega
              rw [← ab_cn_of hr, this, l8]
            · rcases c3 with c3 | ⟨c3, -⟩ <;> omega
          rw [← hcl]
          exact ab_recvc hK hP c1 c2 hr
        · rcases l7 with ⟨l7, -⟩ | ⟨-, l7⟩
          · omega
          · rw [l7]
            exact vk_recv (i := 0) hG.2.2.2.1.2 (by decide) hS
      exact fin (va_runV CF hM ⟨hcb, hts _ (ab_ix_mem l2), hts _ (ab_ix_mem l3)⟩ ⟨ab_blind, hcell, hpre2⟩ rfl (hlen l5) h3.1 hstr (lv_room hcat) (by rw [hi] at hd; exact hd) hfc)
    · rw [if_neg (by omega), if_neg (by omega), if_neg (by omega), if_neg (by omega), if_pos hop] at hlk
      simp only [Bool.and_eq_true, Bool.or_eq_true, decide_eq_true_eq] at hlk
      obtain ⟨⟨⟨⟨⟨⟨⟨⟨⟨l0, l1⟩, l2⟩, l3⟩, l4⟩, l5⟩, l6⟩, l7⟩, l8⟩, l9⟩ := hlk
      rcases hk0 with ⟨hk0, -⟩ | ⟨-, hk0, hk, c1, c2, c3⟩ | ⟨-, hk0, -⟩
      · omega
      · rw [← hw2] at hk c3
        subst hk
        have hM := hmet h1 h2a b4 l0
        obtain ⟨-, f1, f2, -, -⟩ := ab_mcf l0
        obtain ⟨rr, hr, -⟩ := ab_kdN c2
        have hC : ab_cn (w.2.2.2.1 / 1000 - 1) = rr.1 := by
          rw [show w.2.2.2.1 / 1000 - 1 = (ab_kd r).1 by omega]
          exact ab_cn_of hr
        have hcu : va_CU R s args own (ab_cn (w.2.2.2.1 / 1000 - 1)) (ab_y (w.2.2.2.1 % 1000)).cls w.2.2.1 ⟨ab_cn (w.2.2.2.1 / 1000 - 1), (ab_y (w.2.2.2.1 % 1000)).name, (ab_y (w.2.2.2.1 % 1000)).desc⟩ (ab_y (w.2.2.2.1 % 1000)) (ab_b (w.2.2.2.1 % 1000)) (ab_mx (w.2.2.2.1 % 1000)) (ab_rv (w.2.2.2.1 % 1000)) (.code (ab_y (w.2.2.2.1 % 1000)) (ab_b (w.2.2.2.1 % 1000)) (ab_mx (w.2.2.2.1 % 1000)) (ab_rv (w.2.2.2.1 % 1000)) :: ab_tb) (ab_rm d (ab_nc z.2 - ab_nc M) ((z.2 999 1).toNat - (M 999 1).toNat)) (ab_nc z.2 - ab_nc M) ((z.2 999 1).toNat - (M 999 1).toNat) (w.2.2.2.2.1 - 1) :=
          ⟨⟨rfl, rfl, (hroom _ l0).1, (hroom _ l0).2, ab_payw hts (ab_codem l0), List.mem_cons_self⟩, hts _ (ab_codem l0), hts _ (ab_ix_mem l7), ⟨f1, f2⟩, ab_pnl l9, hts _ (ab_ix_mem l3), hts _ (ab_ix_mem l4), va_Decl.of (hts _ (ab_ix_mem l6)) (hts _ (ab_codem l0)), hts _ (ab_ix_mem l5), hts _ (ab_ix_mem l6)⟩
        refine fin (va_runU CF hM hcu ⟨ab_blind, ?_, hpre2⟩ rfl (hlen l8) h3.1 hstr (lv_room hcat) (by rw [hi] at hd; exact hd) hfc)
        rw [had c1, hC]
        exact ab_recvc hK hP c1 c2 hr
      · omega
    · rw [if_neg (by omega), if_neg (by omega), if_neg (by omega), if_neg (by omega), if_neg (by omega), if_pos hop] at hlk
      simp only [Bool.and_eq_true, decide_eq_true_eq] at hlk
      obtain ⟨⟨⟨⟨⟨l0, l1⟩, l2⟩, l3⟩, l4⟩, l5⟩ := hlk
      rcases hk0 with ⟨hk0, hk, c1, c2, c3⟩ | ⟨hk0, -⟩ | ⟨hk0, -⟩
      · obtain ⟨rr, hr, -⟩ := ab_kdN c2
        have h35 : (ab_kd r).1 = 0 ∨ (ab_kd r).1 = 3 ∨ (ab_kd r).1 = 5 := by
          rcases c3 with c3 | ⟨-, c3⟩
          · omega
          · exact c3
        have hall : ∃ j : Nat, k < 194 ∧ ab_ix (w.2.2.2.2.2.getD j 0) (.selects (ab_cn (ab_kd r).1) ab_xm (ab_y k)) = true ∧ ab_ix (w.2.2.2.2.2.getD (j + 1) 0) (.instanceMethod (ab_y k)) = true ∧ ab_ix (w.2.2.2.2.2.getD (j + 2) 0) (.initialized (ab_y k).cls) = true := by
          have key : ∀ z : Nat × Nat, z ∈ [(0, 2), (3, 5), (5, 8)] → (ab_kd r).1 = z.1 → ∃ j : Nat, k < 194 ∧ ab_ix (w.2.2.2.2.2.getD j 0) (.selects (ab_cn (ab_kd r).1) ab_xm (ab_y k)) = true ∧ ab_ix (w.2.2.2.2.2.getD (j + 1) 0) (.instanceMethod (ab_y k)) = true ∧ ab_ix (w.2.2.2.2.2.getD (j + 2) 0) (.initialized (ab_y k).cls) = true := by
            intro z hz hzz
            have := List.all_eq_true.mp l5 z hz
            simp only [Bool.and_eq_true, decide_eq_true_eq] at this
            obtain ⟨⟨⟨a1, a2⟩, a3⟩, a4⟩ := this
            rw [← hzz] at a1 a2 a3 a4
            rw [← hk] at a1 a2 a3 a4
            exact ⟨z.2, a1, a2, a3, a4⟩
          rcases h35 with h | h | h
          · exact key (0, 2) (by simp) h
          · exact key (3, 5) (by simp) h
          · exact key (5, 8) (by simp) h
        obtain ⟨j, m0, m1, m2, m3⟩ := hall
        have hM := hmet h1 h2a b4 m0
        have hcu : va_CU R s args own (ab_cn (ab_kd r).1) ab_xm.cls w.2.2.1 ab_xm (ab_y k) (ab_b k) (ab_mx k) (ab_rv k) (.code (ab_y k) (ab_b k) (ab_mx k) (ab_rv k) :: ab_tb) (ab_rm d (ab_nc z.2 - ab_nc M) ((z.2 999 1).toNat - (M 999 1).toNat)) (ab_nc z.2 - ab_nc M) ((z.2 999 1).toNat - (M 999 1).toNat) (w.2.2.2.2.1 - 1) :=
          ⟨⟨rfl, rfl, (hroom _ m0).1, (hroom _ m0).2, ab_payw hts (ab_codem m0), List.mem_cons_self⟩, hts _ (ab_codem m0), hts _ (ab_ix_mem m3), ⟨by decide, by decide⟩, ab_pnl l4, hts _ (ab_ix_mem l1), hts _ (ab_ix_mem l2), va_Decl.abs (hG.2.2.2.2.1 _ List.mem_cons_self), hts _ (ab_ix_mem m1), hts _ (ab_ix_mem m2)⟩
        refine fin (va_runU CF hM hcu ⟨ab_blind, ?_, hpre2⟩ rfl (hlen l3) h3.1 hstr (lv_room hcat) (by rw [hi] at hd; exact hd) hfc)
        rw [had c1, ab_cn_of hr]
        exact ab_recvc hK hP c1 c2 hr
      · omega
      · omega
end MAIN
end
section
def ab_inl : List Nat := [1, 0, 0, 1, 0, 0, 0, 1, 0, 0, 0, 0, 1, 0, 0, 0, 0, 0, 1, 0, 0, 1, 0, 0, 1, 0, 0, 0, 0, 0, 0, 0, 0, 0, 0, 0, 0, 1, 0, 0, 0, 1, 0, 0, 0, 0, 0, 0, 0, 1, 0, 0, 0, 0, 0, 0, 0, 0, 0, 0, 0, 0, 0, 0, 1, 0, 0, 0, 0, 0, 0, 0, 0, 0, 0, 0, 0, 0, 0, 0, 0, 0, 0, 0, 0, 0, 0, 0, 0, 0, 0, 0, 0, 0, 0, 0, 0, 0, 0, 0, 0, 0, 0, 0, 0, 0, 1, 0, 0, 0, 0, 0, 0, 0, 0, 0, 0, 0, 0, 0, 0, 0, 0, 0, 0, 0, 0, 0, 0, 0, 0, 0, 0, 0, 0, 0, 0, 0, 0, 0, 0, 0, 0, 0, 0, 0, 0, 0, 0, 0, 0, 0, 0, 0, 0, 0, 0, 0, 0, 0, 0, 0, 0, 0, 0, 0, 0, 0, 0, 0, 0, 0, 0, 0, 0, 0, 0, 0, 0, 0, 0, 0, 0, 0, 0, 0, 0, 0, 0, 0, 0, 0, 0, 0, 0]
def ab_ini (m : Nat) : Bool := match ab_inl.getD m 0 with
  | 0 => false
  | _ => true
set_option maxRecDepth 100000 in
theorem ab_ini0 : (List.range 195).all (fun m => !ab_ini m || decide ((ab_y m).name = "<init>")) = true := by decide +kernel
theorem ab_inin {m : Nat} (hm : m < 195) (h : ab_ini m = true) : (ab_y m).name = "<init>" := by
  have h1 := List.all_eq_true.mp ab_ini0 m (List.mem_range.mpr hm)
  rw [h] at h1
  simpa using h1
def ab_okP (m : Nat) : Prop := (ab_cds.getD m []).all (ab_enB (ab_oi' m) (ab_b m) (ab_ini m) (ab_rv m)) = true
set_option maxRecDepth 100000 in
theorem ab_okg_0 (m : Nat) (h1 : 0 ≤ m) (h2 : m < 13) : ab_okP m := by
  have hc : m = 0 ∨ m = 1 ∨ m = 2 ∨ m = 3 ∨ m = 4 ∨ m = 5 ∨ m = 6 ∨ m = 7 ∨ m = 8 ∨ m = 9 ∨ m = 10 ∨ m = 11 ∨ m = 12 := by omega
  rcases hc with rfl | rfl | rfl | rfl | rfl | rfl | rfl | rfl | rfl | rfl | rfl | rfl | rfl
  · exact ab_ok_0
  · exact ab_ok_1
  · exact ab_ok_2
  · exact ab_ok_3
  · exact ab_ok_4
  · exact ab_ok_5
  · exact ab_ok_6
  · exact ab_ok_7
  · exact ab_ok_8
  · exact ab_ok_9
  · exact ab_ok_10
  · exact ab_ok_11
  · exact ab_ok_12
set_option maxRecDepth 100000 in
theorem ab_okg_1 (m : Nat) (h1 : 13 ≤ m) (h2 : m < 26) : ab_okP m := by
  have hc : m = 13 ∨ m = 14 ∨ m = 15 ∨ m = 16 ∨ m = 17 ∨ m = 18 ∨ m = 19 ∨ m = 20 ∨ m = 21 ∨ m = 22 ∨ m = 23 ∨ m = 24 ∨ m = 25 := by omega
  rcases hc with rfl | rfl | rfl | rfl | rfl | rfl | rfl | rfl | rfl | rfl | rfl | rfl | rfl
  · exact ab_ok_13
  · exact ab_ok_14
  · exact ab_ok_15
  · exact ab_ok_16
  · exact ab_ok_17
  · exact ab_ok_18
  · exact ab_ok_19
  · exact ab_ok_20
  · exact ab_ok_21
  · exact ab_ok_22
  · exact ab_ok_23
  · exact ab_ok_24
  · exact ab_ok_25
set_option maxRecDepth 100000 in
theorem ab_okg_2 (m : Nat) (h1 : 26 ≤ m) (h2 : m < 39) : ab_okP m := by
  have hc : m = 26 ∨ m = 27 ∨ m = 28 ∨ m = 29 ∨ m = 30 ∨ m = 31 ∨ m = 32 ∨ m = 33 ∨ m = 34 ∨ m = 35 ∨ m = 36 ∨ m = 37 ∨ m = 38 := by omega
  rcases hc with rfl | rfl | rfl | rfl | rfl | rfl | rfl | rfl | rfl | rfl | rfl | rfl | rfl
  · exact ab_ok_26
  · exact ab_ok_27
  · exact ab_ok_28
  · exact ab_ok_29
  · exact ab_ok_30
  · exact ab_ok_31
  · exact ab_ok_32
  · exact ab_ok_33
  · exact ab_ok_34
  · exact ab_ok_35
  · exact ab_ok_36
  · exact ab_ok_37
  · exact ab_ok_38
set_option maxRecDepth 100000 in
theorem ab_okg_3 (m : Nat) (h1 : 39 ≤ m) (h2 : m < 52) : ab_okP m := by
  have hc : m = 39 ∨ m = 40 ∨ m = 41 ∨ m = 42 ∨ m = 43 ∨ m = 44 ∨ m = 45 ∨ m = 46 ∨ m = 47 ∨ m = 48 ∨ m = 49 ∨ m = 50 ∨ m = 51 := by omega
  rcases hc with rfl | rfl | rfl | rfl | rfl | rfl | rfl | rfl | rfl | rfl | rfl | rfl | rfl
  · exact ab_ok_39
  · exact ab_ok_40
  · exact ab_ok_41
  · exact ab_ok_42
  · exact ab_ok_43
  · exact ab_ok_44
  · exact ab_ok_45
  · exact ab_ok_46
  · exact ab_ok_47
  · exact ab_ok_48
  · exact ab_ok_49
  · exact ab_ok_50
  · exact ab_ok_51
set_option maxRecDepth 100000 in
theorem ab_okg_4 (m : Nat) (h1 : 52 ≤ m) (h2 : m < 65) : ab_okP m := by
  have hc : m = 52 ∨ m = 53 ∨ m = 54 ∨ m = 55 ∨ m = 56 ∨ m = 57 ∨ m = 58 ∨ m = 59 ∨ m = 60 ∨ m = 61 ∨ m = 62 ∨ m = 63 ∨ m = 64 := by omega
  rcases hc with rfl | rfl | rfl | rfl | rfl | rfl | rfl | rfl | rfl | rfl | rfl | rfl | rfl
  · exact ab_ok_52
  · exact ab_ok_53
  · exact ab_ok_54
  · exact ab_ok_55
  · exact ab_ok_56
  · exact ab_ok_57
  · exact ab_ok_58
  · exact ab_ok_59
  · exact ab_ok_60
  · exact ab_ok_61
  · exact ab_ok_62
  · exact ab_ok_63
  · exact ab_ok_64
set_option maxRecDepth 100000 in
theorem ab_okg_5 (m : Nat) (h1 : 65 ≤ m) (h2 : m < 78) : ab_okP m := by
  have hc : m = 65 ∨ m = 66 ∨ m = 67 ∨ m = 68 ∨ m = 69 ∨ m = 70 ∨ m = 71 ∨ m = 72 ∨ m = 73 ∨ m = 74 ∨ m = 75 ∨ m = 76 ∨ m = 77 := by omega
  rcases hc with rfl | rfl | rfl | rfl | rfl | rfl | rfl | rfl | rfl | rfl | rfl | rfl | rfl
  · exact ab_ok_65
  · exact ab_ok_66
  · exact ab_ok_67
  · exact ab_ok_68
  · exact ab_ok_69
  · exact ab_ok_70
  · exact ab_ok_71
  · exact ab_ok_72
  · exact ab_ok_73
  · exact ab_ok_74
  · exact ab_ok_75
  · exact ab_ok_76
  · exact ab_ok_77
set_option maxRecDepth 100000 in
theorem ab_okg_6 (m : Nat) (h1 : 78 ≤ m) (h2 : m < 91) : ab_okP m := by
  have hc : m = 78 ∨ m = 79 ∨ m = 80 ∨ m = 81 ∨ m = 82 ∨ m = 83 ∨ m = 84 ∨ m = 85 ∨ m = 86 ∨ m = 87 ∨ m = 88 ∨ m = 89 ∨ m = 90 := by omega
  rcases hc with rfl | rfl | rfl | rfl | rfl | rfl | rfl | rfl | rfl | rfl | rfl | rfl | rfl
  · exact ab_ok_78
  · exact ab_ok_79
  · exact ab_ok_80
  · exact ab_ok_81
  · exact ab_ok_82
  · exact ab_ok_83
  · exact ab_ok_84
  · exact ab_ok_85
  · exact ab_ok_86
  · exact ab_ok_87
  · exact ab_ok_88
  · exact ab_ok_89
  · exact ab_ok_90
set_option maxRecDepth 100000 in
theorem ab_okg_7 (m : Nat) (h1 : 91 ≤ m) (h2 : m < 104) : ab_okP m := by
  have hc : m = 91 ∨ m = 92 ∨ m = 93 ∨ m = 94 ∨ m = 95 ∨ m = 96 ∨ m = 97 ∨ m = 98 ∨ m = 99 ∨ m = 100 ∨ m = 101 ∨ m = 102 ∨ m = 103 := by omega
  rcases hc with rfl | rfl | rfl | rfl | rfl | rfl | rfl | rfl | rfl | rfl | rfl | rfl | rfl
  · exact ab_ok_91
  · exact ab_ok_92
  · exact ab_ok_93
  · exact ab_ok_94
  · exact ab_ok_95
  · exact ab_ok_96
  · exact ab_ok_97
  · exact ab_ok_98
  · exact ab_ok_99
  · exact ab_ok_100
  · exact ab_ok_101
  · exact ab_ok_102
  · exact ab_ok_103
set_option maxRecDepth 100000 in
theorem ab_okg_8 (m : Nat) (h1 : 104 ≤ m) (h2 : m < 117) : ab_okP m := by
  have hc : m = 104 ∨ m = 105 ∨ m = 106 ∨ m = 107 ∨ m = 108 ∨ m = 109 ∨ m = 110 ∨ m = 111 ∨ m = 112 ∨ m = 113 ∨ m = 114 ∨ m = 115 ∨ m = 116 := by omega
  rcases hc with rfl | rfl | rfl | rfl | rfl | rfl | rfl | rfl | rfl | rfl | rfl | rfl | rfl
  · exact ab_ok_104
  · exact ab_ok_105
  · exact ab_ok_106
  · exact ab_ok_107
  · exact ab_ok_108
  · exact ab_ok_109
  · exact ab_ok_110
  · exact ab_ok_111
  · exact ab_ok_112
  · exact ab_ok_113
  · exact ab_ok_114
  · exact ab_ok_115
  · exact ab_ok_116
set_option maxRecDepth 100000 in
theorem ab_okg_9 (m : Nat) (h1 : 117 ≤ m) (h2 : m < 130) : ab_okP m := by
  have hc : m = 117 ∨ m = 118 ∨ m = 119 ∨ m = 120 ∨ m = 121 ∨ m = 122 ∨ m = 123 ∨ m = 124 ∨ m = 125 ∨ m = 126 ∨ m = 127 ∨ m = 128 ∨ m = 129 := by omega
  rcases hc with rfl | rfl | rfl | rfl | rfl | rfl | rfl | rfl | rfl | rfl | rfl | rfl | rfl
  · exact ab_ok_117
  · exact ab_ok_118
  · exact ab_ok_119
  · exact ab_ok_120
  · exact ab_ok_121
  · exact ab_ok_122
  · exact ab_ok_123
  · exact ab_ok_124
  · exact ab_ok_125
  · exact ab_ok_126
  · exact ab_ok_127
  · exact ab_ok_128
  · exact ab_ok_129
set_option maxRecDepth 100000 in
theorem ab_okg_10 (m : Nat) (h1 : 130 ≤ m) (h2 : m < 143) : ab_okP m := by
  have hc : m = 130 ∨ m = 131 ∨ m = 132 ∨ m = 133 ∨ m = 134 ∨ m = 135 ∨ m = 136 ∨ m = 137 ∨ m = 138 ∨ m = 139 ∨ m = 140 ∨ m = 141 ∨ m = 142 := by omega
  rcases hc with rfl | rfl | rfl | rfl | rfl | rfl | rfl | rfl | rfl | rfl | rfl | rfl | rfl
  · exact ab_ok_130
  · exact ab_ok_131
  · exact ab_ok_132
  · exact ab_ok_133
  · exact ab_ok_134
  · exact ab_ok_135
  · exact ab_ok_136
  · exact ab_ok_137
  · exact ab_ok_138
  · exact ab_ok_139
  · exact ab_ok_140
  · exact ab_ok_141
  · exact ab_ok_142
set_option maxRecDepth 100000 in
theorem ab_okg_11 (m : Nat) (h1 : 143 ≤ m) (h2 : m < 156) : ab_okP m := by
  have hc : m = 143 ∨ m = 144 ∨ m = 145 ∨ m = 146 ∨ m = 147 ∨ m = 148 ∨ m = 149 ∨ m = 150 ∨ m = 151 ∨ m = 152 ∨ m = 153 ∨ m = 154 ∨ m = 155 := by omega
  rcases hc with rfl | rfl | rfl | rfl | rfl | rfl | rfl | rfl | rfl | rfl | rfl | rfl | rfl
  · exact ab_ok_143
  · exact ab_ok_144
  · exact ab_ok_145
  · exact ab_ok_146
  · exact ab_ok_147
  · exact ab_ok_148
  · exact ab_ok_149
  · exact ab_ok_150
  · exact ab_ok_151
  · exact ab_ok_152
  · exact ab_ok_153
  · exact ab_ok_154
  · exact ab_ok_155
set_option maxRecDepth 100000 in
theorem ab_okg_12 (m : Nat) (h1 : 156 ≤ m) (h2 : m < 169) : ab_okP m := by
  have hc : m = 156 ∨ m = 157 ∨ m = 158 ∨ m = 159 ∨ m = 160 ∨ m = 161 ∨ m = 162 ∨ m = 163 ∨ m = 164 ∨ m = 165 ∨ m = 166 ∨ m = 167 ∨ m = 168 := by omega
  rcases hc with rfl | rfl | rfl | rfl | rfl | rfl | rfl | rfl | rfl | rfl | rfl | rfl | rfl
  · exact ab_ok_156
  · exact ab_ok_157
  · exact ab_ok_158
  · exact ab_ok_159
  · exact ab_ok_160
  · exact ab_ok_161
  · exact ab_ok_162
  · exact ab_ok_163
  · exact ab_ok_164
  · exact ab_ok_165
  · exact ab_ok_166
  · exact ab_ok_167
  · exact ab_ok_168
set_option maxRecDepth 100000 in
theorem ab_okg_13 (m : Nat) (h1 : 169 ≤ m) (h2 : m < 182) : ab_okP m := by
  have hc : m = 169 ∨ m = 170 ∨ m = 171 ∨ m = 172 ∨ m = 173 ∨ m = 174 ∨ m = 175 ∨ m = 176 ∨ m = 177 ∨ m = 178 ∨ m = 179 ∨ m = 180 ∨ m = 181 := by omega
  rcases hc with rfl | rfl | rfl | rfl | rfl | rfl | rfl | rfl | rfl | rfl | rfl | rfl | rfl
  · exact ab_ok_169
  · exact ab_ok_170
  · exact ab_ok_171
  · exact ab_ok_172
  · exact ab_ok_173
  · exact ab_ok_174
  · exact ab_ok_175
  · exact ab_ok_176
  · exact ab_ok_177
  · exact ab_ok_178
  · exact ab_ok_179
  · exact ab_ok_180
  · exact ab_ok_181
set_option maxRecDepth 100000 in
theorem ab_okg_14 (m : Nat) (h1 : 182 ≤ m) (h2 : m < 195) : ab_okP m := by
  have hc : m = 182 ∨ m = 183 ∨ m = 184 ∨ m = 185 ∨ m = 186 ∨ m = 187 ∨ m = 188 ∨ m = 189 ∨ m = 190 ∨ m = 191 ∨ m = 192 ∨ m = 193 ∨ m = 194 := by omega
  rcases hc with rfl | rfl | rfl | rfl | rfl | rfl | rfl | rfl | rfl | rfl | rfl | rfl | rfl
  · exact ab_ok_182
  · exact ab_ok_183
  · exact ab_ok_184
  · exact ab_ok_185
  · exact ab_ok_186
  · exact ab_ok_187
  · exact ab_ok_188
  · exact ab_ok_189
  · exact ab_ok_190
  · exact ab_ok_191
  · exact ab_ok_192
  · exact ab_ok_193
  · exact ab_ok_194
theorem ab_okall (m : Nat) (hm : m < 195) : ab_okP m := by
  by_cases h0 : m < 13
  · exact ab_okg_0 m (by omega) h0
  by_cases h1 : m < 26
  · exact ab_okg_1 m (by omega) h1
  by_cases h2 : m < 39
  · exact ab_okg_2 m (by omega) h2
  by_cases h3 : m < 52
  · exact ab_okg_3 m (by omega) h3
  by_cases h4 : m < 65
  · exact ab_okg_4 m (by omega) h4
  by_cases h5 : m < 78
  · exact ab_okg_5 m (by omega) h5
  by_cases h6 : m < 91
  · exact ab_okg_6 m (by omega) h6
  by_cases h7 : m < 104
  · exact ab_okg_7 m (by omega) h7
  by_cases h8 : m < 117
  · exact ab_okg_8 m (by omega) h8
  by_cases h9 : m < 130
  · exact ab_okg_9 m (by omega) h9
  by_cases h10 : m < 143
  · exact ab_okg_10 m (by omega) h10
  by_cases h11 : m < 156
  · exact ab_okg_11 m (by omega) h11
  by_cases h12 : m < 169
  · exact ab_okg_12 m (by omega) h12
  by_cases h13 : m < 182
  · exact ab_okg_13 m (by omega) h13
  by_cases h14 : m < 195
  · exact ab_okg_14 m (by omega) h14
  omega
theorem ab_fd_mem : ∀ (l : List (Nat × ab_E)) (pc : Nat) (en : ab_E), ab_fd l pc = some en → (pc, en) ∈ l
  | [], _, _, h => by cases h
  | (q, x) :: t, pc, en, h => by
    unfold ab_fd at h
    split at h
    next hq => cases h; rw [hq]; exact List.mem_cons_self
    next => exact List.mem_cons_of_mem _ (ab_fd_mem t pc en h)
theorem ab_aten {m pc : Nat} {en : ab_E} (hm : m < 195) (h : ab_at m pc = some en) : ab_enB (ab_oi' m) (ab_b m) (ab_ini m) (ab_rv m) (pc, en) = true := List.all_eq_true.mp (ab_okall m hm) _ (ab_fd_mem _ _ _ h)
end
section
section NA2W
variable {E : CtlPost} {e : Env} {d : Bool} {acts : List Action}
theorem mn_new {s : State} {cA comp : ClassId} {k : Class} {ty : FieldType} {n : Nat} {v : Value} {Q : Addr → Pre} (hk : s.vm.classes[cA]? = some k) (hkind : k.kind = .array comp ty) (h1 : n ≤ e.platform.arrayLengthLimit) (h2 : n * componentBytes ty ≤ e.platform.maxHeapBytes) (hcells : s.heap.size < e.platform.maxCells) (hslots : s.slotsUsed + n ≤ e.platform.maxSlots) (hfit : fits ty v = true) (hq : ∀ acts', Q s.heap.size d acts' (s.pushCell { cls := cA, slots := Array.replicate n v, vm := .none })) : wp (Jvm.newArray cA n v) Q E e d acts s := by
  have hfit' : ∀ i w, (Array.replicate n v)[i]? = some w → s.fitsSlot cA .none i w = true := by
    intro i w hw
    simp only [Array.getElem?_replicate] at hw
    split at hw
    · cases hw; simp [State.fitsSlot, State.slotType?, hk, hkind, hfit]
    · cases hw
  have a1 : ¬ n > e.platform.arrayLengthLimit := by omega
  have a2 : ¬ n * componentBytes ty > e.platform.maxHeapBytes := by omega
  have a3 : ¬ n > e.platform.maxSlots := by omega
  simp only [Jvm.newArray, Jvm.arrayFits, wp_bind', W.ask, W.ite, a1, a2, a3, if_false, W.theClass, hk, hkind, Option.some.injEq, exists_eq_left', wp_pure', W.alloc, Array.size_replicate]
  exact ⟨hcells, hslots, hfit', hq _⟩
/-- the outer row, when i of its n places are told -/
def mn_C (cA : ClassId) (n h i : Nat) : Cell := arrV cA n (fun j => if j < i then .ref (h + 1 + j) else .null)
def mn_R (cI : ClassId) (b : Nat) : Cell := { cls := cI, slots := Array.replicate b (.int 0), vm := .none }
def mn_S (s : State) (cA cI : ClassId) (n b : Nat) : Nat → State
  | 0 => s.pushCell { cls := cA, slots := Array.replicate n .null, vm := .none }
  | i + 1 => ((mn_S s cA cI n b i).pushCell (mn_R cI b)).setCell s.heap.size (mn_C cA n s.heap.size (i + 1))
theorem mn_C0 (cA : ClassId) (n h : Nat) : ({ cls := cA, slots := Array.replicate n .null, vm := .none } : Cell) = mn_C cA n h 0 := by
  rw [arrV_new]
  unfold mn_C
  congr 1
theorem mn_Cs (cA : ClassId) (n h i : Nat) : (mn_C cA n h i).setSlot i (.ref (h + 1 + i)) = mn_C cA n h (i + 1) := by
  unfold mn_C
  rw [arrV_store]
  congr 1
  funext j
  unfold updV
  by_cases hj : j = i
  · subst hj; rw [if_pos rfl, if_pos (by omega)]
  · rw [if_neg hj]
    dsimp only
    by_cases hl : j < i
    · rw [if_pos hl, if_pos (by omega)]
    · rw [if_neg hl, if_neg (by omega)]
theorem mn_facts (s : State) (cA cI : ClassId) (n b : Nat) : ∀ i, (mn_S s cA cI n b i).heap.size = s.heap.size + 1 + i ∧ (mn_S s cA cI n b i).heap[s.heap.size]? = some (mn_C cA n s.heap.size i) ∧ (∀ j, j < i → (mn_S s cA cI n b i).heap[s.heap.size + 1 + j]? = some (mn_R cI b)) ∧ (∀ q, q < s.heap.size → (mn_S s cA cI n b i).heap[q]? = s.heap[q]?) ∧ (mn_S s cA cI n b i).slotsUsed = s.slotsUsed + n + i * b ∧ (mn_S s cA cI n b i).vm = s.vm := by
  intro i
  induction i with
  | zero =>
    refine ⟨?_, ?_, fun j hj => by omega, fun q hq => ?_, ?_, rfl⟩
    · show (s.heap.push _).size = _; simp
    · show (s.heap.push _)[s.heap.size]? = _
      rw [← mn_C0]; simp
    · show (s.heap.push _)[q]? = _
      rw [Array.getElem?_push, if_neg (by omega)]
    · show s.slotsUsed + (Array.replicate n Value.null).size = _
      simp
  | succ i ih =>
    obtain ⟨h1, h2, h3, h4, h5, h6⟩ := ih
    refine ⟨?_, ?_, fun j hj => ?_, fun q hq => ?_, ?_, h6⟩
    · show (((mn_S s cA cI n b i).heap.push _).setIfInBounds _ _).size = _
      simp [h1]; omega
    · show (((mn_S s cA cI n b i).heap.push _).setIfInBounds _ _)[_]? = _
      rw [Array.getElem?_setIfInBounds_self_of_lt (by simp [h1]; omega)]
    · show (((mn_S s cA cI n b i).heap.push _).setIfInBounds _ _)[_]? = _
      rw [Array.getElem?_setIfInBounds_ne (by omega), Array.getElem?_push]
      by_cases hji : j = i
      · subst hji; rw [if_pos (by omega)]
      · rw [if_neg (by omega)]; exact h3 j (by omega)
    · show (((mn_S s cA cI n b i).heap.push _).setIfInBounds _ _)[_]? = _
      rw [Array.getElem?_setIfInBounds_ne (by omega), Array.getElem?_push, if_neg (by omega)]
      exact h4 q hq
    · show (mn_S s cA cI n b i).slotsUsed + (mn_R cI b).slots.size = _
      rw [h5]
      show _ + (Array.replicate b (Value.int 0)).size = _
      simp [Nat.succ_mul]; omega
theorem mn_top (s : State) (f : JFrame) (cA cI : ClassId) (n b : Nat) : ∀ i, mn_S (s.setTop f) cA cI n b i = (mn_S s cA cI n b i).setTop f := by
  intro i
  induction i with
  | zero => rfl
  | succ i ih =>
    show ((mn_S (s.setTop f) cA cI n b i).pushCell _).setCell _ _ = _
    rw [ih]
    rfl
theorem mn_make {s : State} {cA cI c0 : ClassId} {kA kI : Class} {n b : Nat} {Q : Addr → Pre} (hkA : s.vm.classes[cA]? = some kA) (hA : kA.kind = .array cI (.array .int)) (hkI : s.vm.classes[cI]? = some kI) (hI : kI.kind = .array c0 .int) (hn : n < 10) (hb : b < 10) (h1 : 10 ≤ e.platform.arrayLengthLimit) (h2 : 100 ≤ e.platform.maxHeapBytes) (hcells : s.heap.size + 1 + n ≤ e.platform.maxCells) (hslots : s.slotsUsed + n + n * b ≤ e.platform.maxSlots)
    (hq : ∀ d' acts', Q s.heap.size d' acts' (mn_S s cA cI n b n)) : wp (multianewarray.make cA [nI n, nI b]) Q E e d acts s := by
  have nn : ∀ z : Nat, z < 10 → ¬ nI z < 0 := fun z hz => nI_pos (by omega)
  have nc : ∀ z : Nat, z < 10 → (nI z).toNatClampNeg = z := fun z hz => nI_clamp (by omega)
  rw [multianewarray.make]
  simp only [wp_bind', W.ite, nn n hn, if_false, wp_pure', W.theClass, hkA, Option.some.injEq, exists_eq_left', hA, nc n hn]
  have hf : List.find? (fun x => decide (x < 0)) [nI b] = none := by simp [nn b hb]
  refine mn_new hkA hA (by omega) (by show n * 4 ≤ _; omega) (by omega) (by omega) rfl (fun acts' => ?_)
  simp only [hf, ite_self, wp_bind', wp_pure', Std.Legacy.Range.forIn_eq_forIn_range']
  have hsz : ([:n] : Std.Legacy.Range).size = n := by simp [Std.Legacy.Range.size]
  have key : ∀ (Q' : PUnit → Pre), (∀ d' acts', Q' PUnit.unit d' acts' (mn_S s cA cI n b n)) → ∀ (l : List Nat) (i : Nat), l = List.range' i (n - i) → i ≤ n → ∀ (d : Bool) (acts : List Action) (f : Nat → PUnit → Sem (ForInStep PUnit)), (∀ j u, f j u = (do let z ← multianewarray.make cI [nI b]; Jvm.writeLoc s.heap.size j (.ref z); Pure.pure (ForInStep.yield PUnit.unit))) → wp (forIn l PUnit.unit f) Q' E e d acts (mn_S s cA cI n b i) := by
    intro Q' hq' l
    induction l with
    | nil =>
      intro i hl hi d acts f hf
      have : n - i = 0 := by
        have := congrArg List.length hl
        simpa using this.symm
      have : i = n := by omega
      subst this
      simp only [List.forIn_nil, wp_pure']
      exact hq' _ _
    | cons x t ih =>
      intro i hl hi d acts f hf
      have hlt : i < n := by
        have := congrArg List.length hl
        simp at this
        omega
      obtain ⟨w, hw⟩ : ∃ w, n - i = w + 1 := ⟨n - i - 1, by omega⟩
      rw [hw, List.range'_succ] at hl
      obtain ⟨rfl, ht⟩ := List.cons.inj hl
      obtain ⟨g1, g2, g3, g4, g5, g6⟩ := mn_facts s cA cI n b x
      simp only [List.forIn_cons, hf, wp_bind']
      rw [multianewarray.make]
      have hib : x * b + b ≤ n * b := by
        have : (x + 1) * b ≤ n * b := Nat.mul_le_mul_right b hlt
        rw [Nat.succ_mul] at this
        exact this
      simp only [wp_bind', W.ite, nn b hb, if_false, wp_pure', W.theClass, g6, hkI, Option.some.injEq, exists_eq_left', hI, nc b hb]
      refine mn_new (by rw [g6]; exact hkI) hI (by omega) (by show b * 4 ≤ _; omega) (by omega) (by omega) rfl (fun acts' => ?_)
      simp only [wp_bind', W.writeLoc, wp_pure']
      refine ⟨mn_C cA n s.heap.size x, ?_, (fun q => by cases q), ?_, ?_, ?_⟩
      · show ((mn_S s cA cI n b x).heap.push _)[s.heap.size]? = _
        rw [Array.getElem?_push, if_neg (by omega)]
        exact g2
      · show x < (arrV _ _ _).slots.size
        rw [arrV_size]; exact hlt
      · show State.fitsSlot _ cA .none x _ = true
        simp [State.fitsSlot, State.slotType?, State.pushCell, g6, hkA, hA, fits]
      · have hstep : ((mn_S s cA cI n b x).pushCell { cls := cI, slots := Array.replicate b (defaultValue .int), vm := .none }).setCell s.heap.size ((mn_C cA n s.heap.size x).setSlot x (.ref (mn_S s cA cI n b x).heap.size)) = mn_S s cA cI n b (x + 1) := by
          rw [g1, mn_Cs]
          rfl
        rw [hstep]
        exact ih (x + 1) (by rw [ht]; congr 1; omega) (by omega) _ _ f hf
  simp only [Std.Legacy.Range.size, Nat.sub_zero, Nat.add_sub_cancel, Nat.div_one]
  exact key _ (fun d' acts' => by simp only [wp_pure']; exact hq _ _) (List.range' 0 n) 0 (by simp) (by omega) d acts' _ (fun j u => rfl)
theorem mn_wp {s : State} {f : JFrame} {index : Nat} {cA cI c0 : ClassId} {kA kI : Class} {n b : Nat} {rest : List Value} {Q : Unit → Pre} (hs : s.topJava?.isSome) (hr : s.vm.classReady f.method.cls index cA) (hkA : s.vm.classes[cA]? = some kA) (hA : kA.kind = .array cI (.array .int)) (hkI : s.vm.classes[cI]? = some kI) (hI : kI.kind = .array c0 .int) (hstack : f.stack = .int (nI b) :: .int (nI n) :: rest) (hn : n < 10) (hb : b < 10) (h1 : 10 ≤ e.platform.arrayLengthLimit) (h2 : 100 ≤ e.platform.maxHeapBytes) (hcells : s.heap.size + 1 + n ≤ e.platform.maxCells) (hslots : s.slotsUsed + n + n * b ≤ e.platform.maxSlots)
    (hq : ∀ d' acts', Q () d' acts' ((mn_S s cA cI n b n).setTop { f with stack := .ref s.heap.size :: rest })) : wp (multianewarray.sem index 2) Q E e d acts (s.setTop f) := by
  have hpop := fun (Q' : List Value → Pre) => Op.popN_top (Q := Q') (E := E) (e := e) (d := d) (acts := acts) (s := s) (f := f) hs (args := [.int (nI n), .int (nI b)]) (rest := rest) hstack
  simp only [multianewarray.sem, wp_bind', W.resolveClassAt_ready (State.method?_setTop f hs) hr]
  refine (hpop _).mpr ?_
  simp only [List.mapM_cons, List.mapM_nil, wp_bind', wp_pure']
  refine mn_make (s := s.setTop { f with stack := rest }) hkA hA hkI hI hn hb h1 h2 hcells hslots (fun d' acts' => ?_)
  have ht : (mn_S s cA cI n b n).topJava?.isSome := by
    have : ∀ i, (mn_S s cA cI n b i).topJava? = s.topJava? := by
      intro i
      induction i with
      | zero => rfl
      | succ i ih => exact ih
    rw [this]; exact hs
  simp only [wp_bind', W.mark, W.pushRef, mn_top, State.topJava?_setTop' _ ht, Option.some.injEq, exists_eq_left', State.setTop_setTop]
  exact hq _ _
end NA2W
section NA2
variable {p : Program} {l : Launch} {e : Env} {R : Room} {s : State} {m : MethodId} {args : Array Value} {below : List Frame} {meth : Method} {c : Code} {Q : State → Prop} {D : va_G} {I : ab_I4} {b0 : Nat} {sa : Nat → Nat} {L : Nat} {xs : Nat → Int32} {nL n0 s0 : Nat} {cc : ByteArray} {own : String} {pc : Nat} {ls : ab_L} {st : List ab_V} {M : ab_M}
theorem mn_arr {cA : ClassId} {n : Nat} {f g : Nat → Value} (h : ∀ j, j < n → f j = g j) : arrV cA n f = arrV cA n g := by
  unfold arrV
  congr 2
  funext j
  exact h j.val j.isLt
theorem so_na2 {i : Nat} {u : ab_St} (C : ab_cx p s m args c D I b0 sa L xs nL n0 cc own) (hd : decode cc pc = .ok (.multianewarray i 2, 4)) (hlk : Cond.classLink own i "[[I" ∈ ab_tb) (hu : ab_na2 pc ls st M = some u) (hrm : ab_nc u.2.2.2 - n0 ≤ R.cells ∧ (u.2.2.2 999 1).toNat - s0 ≤ R.slots) (kk : ab_K p l e R s m args below meth c Q D I b0 sa L xs nL n0 s0 u.1 u.2.1 u.2.2.1 u.2.2.2) : ab_K p l e R s m args below meth c Q D I b0 sa L xs nL n0 s0 pc ls st M := by
  obtain ⟨hx, hb, hml, hown, hts, hK, hG, hsz⟩ := C
  unfold ab_na2 at hu
  split at hu
  next b n r =>
    split at hu
    next hc =>
      cases hu
      obtain ⟨c1, c2, c3, c4, c5, c6, c7, c8⟩ := hc
      obtain ⟨n, rfl⟩ := Int.eq_ofNat_of_zero_le c4
      obtain ⟨b, rfl⟩ := Int.eq_ofNat_of_zero_le c6
      have c5 : n < 10 := by omega
      have c7 : b < 10 := by omega
      simp only [Int.toNat_natCast] at c3 c8 kk hrm
      have c8 : ∀ j, j < n → ab_kd (ab_nc M + 1 + j) = (20, b) := fun j hj => of_decide_eq_true (List.all_eq_true.mp c8 j (List.mem_range.mpr hj))
      intro H locs lc h
      obtain ⟨h1, h2, h3, h4, h5, hP, hS, h8, h9⟩ := h
      obtain ⟨-, h2⟩ := List.forall_mem_cons.mp h2
      obtain ⟨-, h2⟩ := List.forall_mem_cons.mp h2
      have hnc : ab_nc M < 900 := by unfold ab_nc; omega
      have h04 := h1.2.2.2.1
      have e9 : ∀ y, ab_mk2 M n b 999 y = if y = 0 then M 999 0 + 1 + n else if y = 1 then M 999 1 + n + n * b else M 999 y := by
        intro y
        unfold ab_mk2
        rw [if_neg (by omega), if_neg (by omega), if_pos rfl]
      have en : ab_nc (ab_mk2 M n b) = ab_nc M + 1 + n := by
        show (ab_mk2 M n b 999 0).toNat = (M 999 0).toNat + 1 + n
        rw [e9, if_pos rfl]; omega
      have enb : ((n : Int) * (b : Int)) = ((n * b : Nat) : Int) := by rw [Int.natCast_mul]
      have es : (ab_mk2 M n b 999 1).toNat = (M 999 1).toNat + n + n * b := by
        rw [e9, if_neg (by decide), if_pos rfl, enb]; omega
      have elt : ∀ k, k < ab_nc M → ab_mk2 M n b k = M k := by
        intro k hk
        funext y
        unfold ab_mk2
        rw [if_neg (by omega), if_neg (by omega), if_neg (by omega)]
      have hmok : ab_mok L xs (ab_mk2 M n b) := by
        obtain ⟨m1, m2, m3, m4, m5, m6, m7⟩ := h1
        refine ⟨fun k j hk => ?_, by rw [e9, if_pos rfl]; omega, by rw [e9, if_pos rfl]; omega, by rw [e9, if_neg (by decide), if_pos rfl, enb]; omega, by rw [e9, if_neg (by decide), if_neg (by decide)]; exact m5, m6, fun j hj => ?_⟩
        · unfold ab_mk2
          split
          · split
            · exact ⟨by omega, by omega⟩
            · decide
          · split
            · decide
            · exact m1 k j hk
        · unfold ab_mk2
          rw [if_neg (by omega), if_neg (by omega), if_neg (by decide)]
          exact m7 j hj
      rw [en, es] at hrm
      refine ab_sz hsz h8 hP hS (fun hz => ?_)
      intro T hT X
      obtain ⟨comp, cA', kA, hcomp, -, hkA, hkindA, hnameA⟩ := arrayOverA_spec hG.2.2.2.2.2
      have hcA : cA' = I.2.2.2 := Option.some.inj (hnameA.symm.trans (hK.2 3 _ rfl).2)
      have hcI : comp = I.1 := Option.some.inj (hcomp.symm.trans (hK.2 0 _ rfl).2)
      subst hcA; subst hcI
      obtain ⟨-, kI, hkI, cz, hkindI⟩ := (hK.2 0 _ rfl).1 0 (fun _ => .null)
      have hpl : e.platform.magicAccessors = ({} : Platform).magicAccessors := by rw [X.admits.platform]
      obtain ⟨cc', hfcc, hcl⟩ := Cond.classLink_spec hown (hts _ hlk) e.platform hpl
      cases hnameA.symm.trans hfcc
      obtain ⟨hg₁, hwarm₁, hready₁⟩ := State.classEntry (e := e) X.warmed hcl
      generalize T.vm.noted m.cls i (.cls I.2.2.2) = vm₁ at hg₁ hwarm₁ hready₁
      have hal : s.vm.Alike vm₁ := hwarm₁.alike
      obtain ⟨kA₁, hkA₁, heA⟩ := hal.2.2 _ _ hkA
      obtain ⟨kI₁, hkI₁, heI⟩ := hal.2.2 _ _ hkI
      have hkindA₁ : kA₁.kind = .array I.1 (.array .int) := by rw [heA]; exact hkindA
      have hkindI₁ : kI₁.kind = .array cz .int := by rw [heI]; exact hkindI
      have X₁ := X.noted hwarm₁
      have hTz : (T.setVm vm₁).heap.size = b0 + ab_nc M := by show T.heap.size = _; rw [hT]; exact hz
      obtain ⟨hr1, hr2⟩ := X₁.roomAbove (a := 1 + n) (b := n + n * b) (by omega) (by omega)
      have XS : ∀ j, ∃ L1 : List Loc, (∀ q ∈ L1, q.base = b0 + ab_nc M) ∧ Stand p l e R s m args below meth c (mn_S (T.setVm vm₁) I.2.2.2 I.1 n b j) (locs ++ L1) (ab_nc M - n0 + 1 + j) ((M 999 1).toNat - s0 + n + j * b) := by
        intro j
        induction j with
        | zero =>
          refine ⟨[], (fun q hq => absurd hq List.not_mem_nil), ?_⟩
          have := X₁.pushed { cls := I.2.2.2, slots := Array.replicate n .null, vm := .none }
          show Stand p l e R s m args below meth c ((T.setVm vm₁).pushCell { cls := I.2.2.2, slots := Array.replicate n .null, vm := .none }) _ _ _
          simpa using this
        | succ j ih =>
          obtain ⟨L1, hL1, XJ⟩ := ih
          obtain ⟨g1, g2, g3, g4, g5, g6⟩ := mn_facts (T.setVm vm₁) I.2.2.2 I.1 n b j
          have X2 := XJ.pushed (mn_R I.1 b)
          have hcell : ((mn_S (T.setVm vm₁) I.2.2.2 I.1 n b j).pushCell (mn_R I.1 b)).heap[(T.setVm vm₁).heap.size]? = some (mn_C I.2.2.2 n (T.setVm vm₁).heap.size j) := by
            show ((mn_S (T.setVm vm₁) I.2.2.2 I.1 n b j).heap.push _)[_]? = _
            rw [Array.getElem?_push, if_neg (by omega)]
            exact g2
          have X3 := X2.stored hcell j (.ref ((T.setVm vm₁).heap.size + 1 + j))
          rw [mn_Cs] at X3
          refine ⟨L1 ++ [⟨(T.setVm vm₁).heap.size, j⟩], fun q hq => ?_, ?_⟩
          · rcases List.mem_append.mp hq with hq | hq
            · exact hL1 q hq
            · rw [List.mem_singleton.mp hq]; exact hTz
          · have e1 : (mn_R I.1 b).slots.size = b := by show (Array.replicate b _).size = b; simp
            rw [e1] at X3
            rw [← List.append_assoc, Nat.succ_mul, show ab_nc M - n0 + 1 + (j + 1) = ab_nc M - n0 + 1 + j + 1 by omega, show (M 999 1).toNat - s0 + n + (j * b + b) = (M 999 1).toNat - s0 + n + j * b + b by omega]
            exact X3
      obtain ⟨L1, hL1, XN⟩ := XS n
      obtain ⟨g1, g2, g3, g4, g5, g6⟩ := mn_facts (T.setVm vm₁) I.2.2.2 I.1 n b n
      rw [hTz] at g1 g2 g3
      have g4' : ∀ q, q < b0 + ab_nc M → (mn_S (T.setVm vm₁) I.2.2.2 I.1 n b n).heap[q]? = H[q]? := by
        intro q hq
        rw [g4 q (by rw [hTz]; exact hq)]
        show T.heap[q]? = _
        rw [hT]
      have hP' : va_P D vwCl (ab_ws I b0 (ab_nc (ab_mk2 M n b)) (ab_mk2 M n b)) (mn_S (T.setVm vm₁) I.2.2.2 I.1 n b n).heap := by
        intro k q hk
        obtain ⟨hk, rfl⟩ := ab_ws_at hk
        rw [en] at hk
        by_cases hlt : k < ab_nc M
        · rw [ab_ce_eq (elt k hlt)]
          exact (hP k _ (ab_ws_get hlt)).kept (g4' _ (by dsimp only; omega))
        · by_cases heq : k = ab_nc M
          · subst heq
            unfold ab_ce
            rw [c3]
            rw [if_neg (by dsimp only; decide), if_neg (by dsimp only; decide), if_neg (by dsimp only; decide), if_pos rfl]
            show _ = some (vp_cell _ _)
            rw [g2, vp_cell_q]
            congr 1
            refine mn_arr (fun j hj => ?_)
            rw [if_pos hj]
            have : ab_mk2 M n b (ab_nc M) j = ((ab_nc M + 1 + j : Nat) : Int) := by
              unfold ab_mk2
              rw [if_pos rfl, if_pos hj]
            unfold ab_gr
            rw [this, if_neg (by omega)]
            show Value.ref (b0 + ab_nc M + 1 + j) = Value.ref (b0 + ((ab_nc M + 1 + j : Nat) : Int).toNat)
            rw [Int.toNat_natCast, show b0 + ab_nc M + 1 + j = b0 + (ab_nc M + 1 + j) by omega]
          · obtain ⟨j, rfl⟩ : ∃ j, k = ab_nc M + 1 + j := ⟨k - ab_nc M - 1, by omega⟩
            have hj : j < n := by omega
            unfold ab_ce
            rw [c8 j hj]
            rw [if_pos rfl]
            show _ = some (vp_cell _ _)
            rw [show b0 + (ab_nc M + 1 + j) = b0 + ab_nc M + 1 + j by omega, g3 j hj, vp_cell_i]
            congr 1
            unfold mn_R
            rw [arrV_new]
            refine mn_arr (fun w hw => ?_)
            unfold ab_is
            have : ab_mk2 M n b (ab_nc M + 1 + j) w = 0 := by
              unfold ab_mk2
              rw [if_neg (by omega), if_pos ⟨by omega, by omega⟩]
            rw [this]
            rfl
      have kf := kk (mn_S (T.setVm vm₁) I.2.2.2 I.1 n b n).heap (locs ++ L1) lc ⟨hmok, List.forall_mem_cons.mpr ⟨trivial, h2⟩, h3, h4, h5, hP', ⟨by have := hS.1; omega, fun q q1 q2 => (g4' q (by have := hS.1; omega)).trans (hS.2.1 q q1 q2), fun q hq => ?_⟩, by omega, by omega⟩
      · rw [en, es] at kf
        have eA : ab_nc M + 1 + n - n0 = ab_nc M - n0 + 1 + n := by omega
        have eB : (M 999 1).toNat + n + n * b - s0 = (M 999 1).toNat - s0 + n + n * b := by omega
        rw [eA, eB, List.map_cons, ab_adk (by omega)] at kf
        obtain ⟨t, a1, b1⟩ := kf _ rfl XN
        refine ⟨t, ?_, b1⟩
        have hst : (F0 m pc lc (List.map (ab_cv b0 sa) (.inl (b : Int) :: .inl (n : Int) :: r))).stack = .int (nI b) :: .int (nI n) :: r.map (ab_cv b0 sa) := by
          show Value.int (Int32.ofInt (b : Int)) :: Value.int (Int32.ofInt (n : Int)) :: _ = _
          rw [Int32.ofInt_eq_ofNat, Int32.ofInt_eq_ofNat]
          rfl
        refine Steps.instr (c := c) (f := F0 m pc lc (List.map (ab_cv b0 sa) (.inl (b : Int) :: .inl (n : Int) :: r))) X.here ?_
        rw [show decode c.code (F0 m pc lc (List.map (ab_cv b0 sa) (.inl (b : Int) :: .inl (n : Int) :: r))).pc = .ok (.multianewarray i 2, 4) by rw [hb]; exact hd]
        dsimp only
        rw [hx]
        show wp (multianewarray.sem i 2) _ _ e false [] (T.setTop _)
        have hcold : ∀ (Q' : Unit → Pre) (E' : CtlPost), wp (multianewarray.sem i 2) Q' E' e false [] (T.setTop (F0 m pc lc (List.map (ab_cv b0 sa) (.inl (b : Int) :: .inl (n : Int) :: r)))) ↔ wp (multianewarray.sem i 2) Q' E' e false [] ((T.setVm vm₁).setTop (F0 m pc lc (List.map (ab_cv b0 sa) (.inl (b : Int) :: .inl (n : Int) :: r)))) := by
          intro Q' E'
          simp only [multianewarray.sem, wp_bind']
          exact W.resolveClassAt_transfer (s := T.setTop _) (State.method?_setTop _ X.here.top) hg₁ hready₁
        rw [hcold]
        refine mn_wp (s := T.setVm vm₁) X.here.top hready₁ hkA₁ hkindA₁ hkI₁ hkindI₁ hst c5 c7 (by rw [Launch.admits_arrayLengthLimit X.admits]; omega) (by rw [Launch.admits_maxHeapBytes X.admits]; omega) (by omega) (by omega) (fun d' acts' => ?_)
        intro acts
        rw [afterInstr_ok, hTz]
        exact a1
      · rcases List.mem_append.mp hq with hq | hq
        · exact hS.2.2 q hq
        · show b0 ≤ _
          rw [hL1 q hq]; omega
    next => cases hu
  next => cases hu
end NA2
end
section
section RUN
variable {p : Program} {l : Launch} {e : Env} {R : Room} {s : State} {m : MethodId} {args : Array Value} {below : List Frame} {meth : Method} {c : Code} {Q : State → Prop} {D : va_G} {I : ab_I4} {b0 : Nat} {sa : Nat → Nat} {L : Nat} {xs : Nat → Int32} {nL n0 s0 : Nat} {cc : ByteArray} {own : String} {pc : Nat} {ls : ab_L} {st : List ab_V} {M : ab_M}
theorem so_ret {en : ab_E} {z : Option ab_V × ab_M} {rv : Option FieldType} (C : ab_cx p s m args c D I b0 sa L xs nL n0 cc own) (hrv : meth.sig.returnType = rv) (hlocks : meth.locks = false) (hrok : ab_rok rv cc pc en) (hz : ab_ret en st M = some z) : ab_K p l e R s m args below meth c (MQ below (ab_Post D I b0 sa L xs z.1 z.2) args s (ab_nc z.2 - n0) ((z.2 999 1).toNat - s0) (ab_A b0)) D I b0 sa L xs nL n0 s0 pc ls st M := by
  obtain ⟨hx, hb, hml, hown, hts, hK, hG, hsz⟩ := C
  intro H locs lc h
  obtain ⟨h1, h2, h3, h4, h5, hP, hS, h8, h9⟩ := h
  have hF : ∀ t : State, t.heap = H → va_F (ab_A b0) s t := fun t ht => ⟨by rw [ht]; exact hS.1, fun q q1 q2 => by rw [ht]; exact hS.2.1 q q1 q2⟩
  unfold ab_ret at hz
  split at hz
  · split at hz
    next hk =>
      cases hz
      rcases hrok with ⟨-, h0, hd⟩ | ⟨h0, -⟩
      · exact W.vret hx hb (hrv.trans h0) (fun t ht _ => ⟨⟨(), rfl, trivial, by rw [ab_BB, ht]; exact ⟨hP, h1, fun v hv => by cases hv⟩⟩, hF t ht⟩) hS.2.2 hd hlocks
      · omega
    next => cases hz
  next v =>
    split at hz
    next hk =>
      cases hz
      have hv : ab_rg v := h2 _ List.mem_cons_self
      rcases hrok with ⟨h0, -⟩ | ⟨-, hd, hc⟩
      · omega
      · have key : ∃ ty, rv = some ty ∧ narrow ty (.int (Int32.ofInt v)) = .int (Int32.ofInt v) := by
          rcases hc with ⟨c1, c2⟩ | ⟨c1, c2⟩ | ⟨c1, c2⟩
          · exact ⟨_, c2, rfl⟩
          · refine ⟨_, c2, ?_⟩
            rcases hk.2 with hk | ⟨-, hk⟩ | ⟨hk, -⟩
            · omega
            · rcases hk with rfl | rfl <;> rfl
            · omega
          · refine ⟨_, c2, ?_⟩
            rcases hk.2 with hk | ⟨hk, -⟩ | ⟨-, k1, k2⟩
            · omega
            · omega
            · show Value.int (Int32.ofInt v).toInt8.toInt32 = _
              rw [ab_i2b k1 k2]
        obtain ⟨ty, e1, e2⟩ := key
        exact W.zret hx hb (hrv.trans e1) e2 (fun t ht _ => ⟨⟨Int32.ofInt v, (), rfl, rfl, by rw [ab_BB, ht]; exact ⟨hP, h1, fun w hw => by cases hw; exact hv⟩⟩, hF t ht⟩) hS.2.2 hd hlocks
    next => cases hz
  · cases hz
/-- callee's contracts, for runs of fewer than N steps -/
def ab_HM (l : Launch) (D : va_G) (I : ab_I4) (b0 : Nat) (sa : Nat → Nat) (L : Nat) (xs : Nat → Int32) (N : Nat) : Prop := ∀ n, n < N → ∀ (d k : Nat) (as : List ab_V) (M : ab_M) (z : Option ab_V × ab_M), k < 194 → ab_run n d k 0 (ab_ent as (ab_mx k)) [] M = some z → ab_mok L xs M → (∀ v ∈ as, ab_vk v) → (ab_sl as).length ≤ ab_mx k → ab_MetOf l D I b0 sa L xs d k as M z
theorem so_run {mm d N : Nat} {z : Option ab_V × ab_M} (hmm : mm < 194 + 1) (C : ab_cx p s m args c D I b0 sa L xs nL n0 (ab_b mm) (ab_ows.getD (ab_oi' mm) "")) (hname : ab_ini mm = true → meth.name = "<init>") (HM : ab_HM l D I b0 sa L xs N) (hR : d + 2 ≤ R.frames ∧ 200 * (d + 1) ≤ R.locals) (hrm : ab_nc z.2 - n0 ≤ R.cells ∧ (z.2 999 1).toNat - s0 ≤ R.slots)
    (hret : ∀ (pc : Nat) (ls : ab_L) (st : List ab_V) (M : ab_M) (en : ab_E), ab_at mm pc = some en → en.2.1 = 2 → ab_ret en st M = some z → ab_K p l e R s m args below meth c Q D I b0 sa L xs nL n0 s0 pc ls st M) :
    ∀ n, n ≤ N → ∀ (pc : Nat) (ls : ab_L) (st : List ab_V) (M : ab_M), M 999 0 ≤ 995 → ab_run n d mm pc ls st M = some z → ab_K p l e R s m args below meth c Q D I b0 sa L xs nL n0 s0 pc ls st M := by
  intro n
  induction n with
  | zero => intro _ pc ls st M _ hr; cases hr
  | succ n ih =>
    intro hn pc ls st M h9 hr
    have room : ∀ M1 : ab_M, ab_up M1 z.2 → ab_nc M1 - n0 ≤ R.cells ∧ (M1 999 1).toNat - s0 ≤ R.slots := by
      intro M1 hu
      have u1 := hu.1
      have u2 := hu.2.1
      have : ab_nc M1 ≤ ab_nc z.2 := by unfold ab_nc; omega
      exact ⟨by omega, by omega⟩
    rw [ab_run] at hr
    split at hr
    · cases hr
    next en hat =>
      have hen := ab_aten hmm hat
      split at hr
      next hk0 =>
        split at hr
        · cases hr
        next u hu =>
          have h1 := ab_up_st1 h9 hu
          have h2 := ab_up_run _ _ _ _ _ _ _ _ h1.2.2.1 hr
          have hen : ab_en0 (ab_oi' mm) (ab_b mm) (ab_ini mm) pc en = true := by
            unfold ab_enB at hen
            dsimp only at hen
            rw [hk0] at hen
            exact hen
          have kk := ih (by omega) _ _ _ _ h1.2.2.1 hr
          exact so_st1 C ⟨by omega, by omega⟩ (ab_en0_ok hname hen) hu (room _ h2) (fun i hd hlk hu2 => so_na2 C hd hlk hu2 (room _ h2) kk) kk
      next hk1 =>
        split at hr
        · cases hr
        next d' =>
          split at hr
          · cases hr
          next q hq =>
            split at hr
            · cases hr
            next w hw =>
              have h1 := ab_up_run _ _ _ _ _ _ _ _ h9 hw
              have h2 := ab_up_run _ _ _ _ _ _ _ _ h1.2.2.1 hr
              have hen : ab_en1 (ab_oi' mm) (ab_b mm) pc en = true := by
                unfold ab_enB at hen
                dsimp only at hen
                rw [hk1] at hen
                exact hen
              have kk := ih (by omega) _ _ _ _ h1.2.2.1 hr
              exact so_call C rfl (ab_en1_ok hen) hq (fun hm hv hl hk => HM n (by omega) d' _ _ _ _ hk hw hm hv hl) h1 ⟨by omega, by omega⟩ (room _ h2) kk
      next hk2 => exact hret pc ls st M en hat hk2 hr
      · cases hr
theorem ab_sl_lg (b0 : Nat) (sa : Nat → Nat) : ∀ as : List ab_V, (lg_sl (as.map (ab_cv b0 sa))).length = (ab_sl as).length
  | [] => rfl
  | .inl x :: t => by
    show ([Slot.val _] ++ lg_sl (t.map (ab_cv b0 sa))).length = (some (.inl x) :: ab_sl t).length
    rw [List.length_append, ab_sl_lg b0 sa t]
    exact Nat.add_comm 1 _
  | .inr (.inl x) :: t => by
    show ([Slot.val _, Slot.second] ++ lg_sl (t.map (ab_cv b0 sa))).length = (some (.inr (.inl x)) :: none :: ab_sl t).length
    rw [List.length_append, ab_sl_lg b0 sa t]
    exact Nat.add_comm 2 _
  | .inr (.inr x) :: t => by
    show ([Slot.val _] ++ lg_sl (t.map (ab_cv b0 sa))).length = (some (.inr (.inr x)) :: ab_sl t).length
    rw [List.length_append, ab_sl_lg b0 sa t]
    exact Nat.add_comm 1 _
theorem ab_as_args (b0 : Nat) (sa : Nat → Nat) : ∀ (as : List ab_V) (i : Nat) (q : Nat × Value), q ∈ ab_as b0 sa i (ab_sl as) → q ∈ lv_args i (as.map (ab_cv b0 sa))
  | [], i, q, h => by cases h
  | .inl x :: t, i, q, h => by
    simp only [ab_sl, ab_as, List.mem_cons] at h
    simp only [List.map_cons, lv_args, List.mem_cons]
    rcases h with h | h
    · exact Or.inl h
    · right
      exact ab_as_args b0 sa t _ q h
  | .inr (.inl x) :: t, i, q, h => by
    simp only [ab_sl, ab_as, List.mem_cons] at h
    simp only [List.map_cons, lv_args, List.mem_cons]
    rcases h with h | h
    · exact Or.inl h
    · right
      exact ab_as_args b0 sa t _ q h
  | .inr (.inr x) :: t, i, q, h => by
    simp only [ab_sl, ab_as, List.mem_cons] at h
    simp only [List.map_cons, lv_args, List.mem_cons]
    rcases h with h | h
    · exact Or.inl h
    · right
      exact ab_as_args b0 sa t _ q h
theorem ab_as_app (b0 : Nat) (sa : Nat → Nat) (a : ab_L) (n i : Nat) (q : Nat × Value) (h : q ∈ ab_as b0 sa i (a ++ List.replicate n none)) : q ∈ ab_as b0 sa i a := by
  obtain ⟨j, v, hj, rfl⟩ := (ab_as_mem b0 sa _ i q).mp h
  by_cases hl : j < a.length
  · rw [List.getElem?_append_left hl] at hj
    exact (ab_as_mem b0 sa _ i _).mpr ⟨j, v, hj, rfl⟩
  · rw [List.getElem?_append_right (by omega), List.getElem?_replicate] at hj
    split at hj <;> cases hj
theorem ab_sl_mem {v : ab_V} : ∀ {as : List ab_V}, some v ∈ ab_sl as → v ∈ as
  | [], h => by cases h
  | .inl x :: t, h => by
    simp only [ab_sl, List.mem_cons] at h
    rcases h with h | h
    · rw [Option.some.inj h]; exact List.mem_cons_self
    · exact List.mem_cons_of_mem _ (ab_sl_mem h)
  | .inr (.inl x) :: t, h => by
    simp only [ab_sl, List.mem_cons] at h
    rcases h with h | h | h
    · rw [Option.some.inj h]; exact List.mem_cons_self
    · cases h
    · exact List.mem_cons_of_mem _ (ab_sl_mem h)
  | .inr (.inr x) :: t, h => by
    simp only [ab_sl, List.mem_cons] at h
    rcases h with h | h
    · rw [Option.some.inj h]; exact List.mem_cons_self
    · exact List.mem_cons_of_mem _ (ab_sl_mem h)
theorem so_met (l : Launch) (D : va_G) (I : ab_I4) (b0 : Nat) (sa : Nat → Nat) (L : Nat) (xs : Nat → Int32) : ∀ N, ab_HM l D I b0 sa L xs N := by
  intro N
  induction N with
  | zero => intro n hn; omega
  | succ N ihN =>
    intro n hn d k as M z hk hr hm hv hl
    have h9 : M 999 0 ≤ 995 := hm.2.2.1
    have hcode := ab_codem hk
    obtain ⟨f0, f1, f2, f3, f4⟩ := ab_mcf hk
    have hup := ab_up_run _ _ _ _ _ _ _ _ h9 hr
    refine Met.ofW (cc := ab_b k) (maxL := ab_mx k) (ret := ab_rv k) f0 rfl ?_
    intro p e s m args below meth c s₁ B hml hv2
    obtain ⟨rfl, hsz, hP, hK, hG⟩ := hv2
    have hts0 := atoms_spec (ws := .code (ab_y k) (ab_b k) (ab_mx k) (ab_rv k) :: ab_tb) B.pre
    have hown : s.vm.findClass (ab_y k).cls = some m.cls := findClass_of_methodNamed B.named
    have hin : meth.name = (ab_y k).name := (name_of_methodNamed B.named B.method).1
    have C : ab_cx p s m (as.map (ab_cv b0 sa)).toArray c D I b0 sa L xs (ab_mx k) (ab_nc M) (ab_b k) (ab_ows.getD (ab_oi' k) "") := ⟨B.exec, B.bytes, hml, by rw [f3]; exact hown, fun w hw => hts0 w (List.mem_cons_of_mem _ hw), hK, hG, hsz⟩
    have hkk := so_run (R := (headSpec (.code (ab_y k) (ab_b k) (ab_mx k) (ab_rv k) :: ab_tb) (ab_rm d (ab_nc z.2 - ab_nc M) ((z.2 999 1).toNat - (M 999 1).toNat))).room) (mm := k) (d := d) (N := N) (z := z) (n0 := ab_nc M) (s0 := (M 999 1).toNat) (l := l) (e := e) (below := below) (meth := meth) (Q := MQ below (ab_Post D I b0 sa L xs z.1 z.2) (as.map (ab_cv b0 sa)).toArray s (ab_nc z.2 - ab_nc M) ((z.2 999 1).toNat - (M 999 1).toNat) (ab_A b0)) (by omega) C (fun hi => by rw [hin]; exact ab_inin (by omega) hi) ihN ⟨Nat.le_refl _, Nat.le_refl _⟩ ⟨Nat.le_refl _, Nat.le_refl _⟩
      (fun pc ls st M1 en hat hk2 hz => by
        have hen := ab_aten (by omega : k < 194 + 1) hat
        have hen : ab_en2 (ab_rv k) (ab_b k) pc en = true := by
          unfold ab_enB at hen
          dsimp only at hen
          rw [hk2] at hen
          exact hen
        exact so_ret C B.returns B.notSynchronized (ab_en2_ok hen) hz)
      n (by omega) 0 (ab_ent as (ab_mx k)) [] M h9 hr
    have hlen : (lg_sl (as.map (ab_cv b0 sa))).length ≤ ab_mx k := by rw [ab_sl_lg]; exact hl
    have hle := lv_entry (as.map (ab_cv b0 sa)) (n := ab_mx k) hlen
    have hel : (ab_ent as (ab_mx k)).length = ab_mx k := by
      unfold ab_ent
      rw [List.length_append, List.length_replicate]
      omega
    have := hkk s.heap [] _ ⟨hm, fun v h => absurd h List.not_mem_nil, ab_lvm hle (fun q hq => ab_as_args b0 sa as 0 q (ab_as_app b0 sa _ _ 0 q hq)), hel, fun v hv3 => ?_, hP, va_S.rf, Nat.le_refl _, Nat.le_refl _⟩
    · rw [Nat.sub_self, Nat.sub_self] at this
      rw [lg_entry_eq]
      exact this
    · unfold ab_ent at hv3
      rcases List.mem_append.mp hv3 with h | h
      · exact hv v (ab_sl_mem h)
      · have := List.eq_of_mem_replicate h
        cases this
end RUN
end
section
def R_law : String := "LoneAdjectiveLaw"
def lw_P (b : Addr) (xs : List Int32) (args : Array Value) (s : State) : Prop := args = #[.ref b] ∧ s.IntsAt b xs ∧ xs.length ≤ 320 ∧ (Jvm.Cond.and given_1 narrow_1).before args s = true
def lw_Q (_ : Array Value) (s : State) (o : Outcome) (t : State) : Prop := o = .returned (some (.int 1)) ∧ Framed s o t [] 600000 7302250
def lw_Z (below : List Frame) (a : Array Value) (s : State) : State → Prop := fun t => ∃ o, t.status = .running ∧ Ended t below o ∧ lw_Q a s o t
/-- the law's own end, with 1 on the stack, nothing written that was there before, its room as the claim has it -/
theorem lw_ret {p : Program} {l : Launch} {e : Env} {s : State} {m : MethodId} {below : List Frame} {meth : Method} {c : Code} {b : Nat} (hx : p.tables.exec = Jvm.exec) (hb : c.code = code) (hr : meth.sig.returnType = ret) (hlocks : meth.locks = false) {pc : Nat} {H : Heap} {ls : Array Slot} (hdg : decode code pc = .ok (.ireturn, 1)) : W p l e room_1 s m #[Value.ref b] below meth c H [] 600000 7302250 (lw_Z below #[Value.ref b] s) (F0 m pc ls [.int 1]) := by
  intro T hT X
  obtain ⟨fs, hret, hrun, hended, hW, hframe⟩ := X.leave (v := some (.int 1)) (hlocks := hlocks) (fun h => by rw [hr] at h; cases h)
  have hmeth' : T.vm.method? m = some meth := X.method'
  refine ⟨T.setFrames fs, ?_, .returned (some (.int 1)), hrun, hended, rfl, ⟨_, rfl⟩, hW, hframe⟩
  jvm_step X.here [X.here.top, hx, hb, hdg, hmeth', hr, ret, narrow_b1]
  (try refine ⟨rfl, ?_⟩); (try refine ⟨rfl, ?_⟩)
  first | (intro acts; rw [hret _ acts rfl rfl rfl]) | rw [hret _ _ rfl rfl rfl]
  exact Steps.refl _
/-- what holds at the law's entry: the machine, the code, the tables' words (any of lw_tbl by 'hts w (by decide +kernel)'), the script of L ints xs at the cell b, what the Statement gives of the start (any of its parts by flat_of_before) -/
def lw_At (p : Program) (s : State) (m : MethodId) (meth : Method) (c : Code) (b L : Nat) (xs : Nat → Int32) : Prop :=
  p.tables.exec = Jvm.exec ∧ c.code = code ∧ meth.sig.returnType = ret ∧ c.maxLocals = 4 ∧ s.vm.findClass R_law = some m.cls ∧ (∀ w ∈ lw_tbl, w.before #[Value.ref b] s = true) ∧ va_X b L xs s s.heap ∧ b < s.heap.size ∧ meth.locks = false ∧ (Jvm.Cond.and given_1 narrow_1).before #[Value.ref b] s = true
end
section
/-! THE CLAIM OUT OF AN ABSTRACT RUN OF THE LAW -/
def ab_M0 (L : Nat) (xs : Nat → Int32) : ab_M := fun a b => if a = 999 then (if b = 2 then (L : Int) else 0) else if a = 1000 then (if b < L then (xs b).toInt else 0) else 0
theorem ab_inst : ∀ (t : Nat) (r : vw_C), vwCl[t]? = some r → Cond.instantiable r.1 r.2.2 ∈ ab_tb
  | 0, r, h => by cases h; exact ab_ix_mem (i := 279) (by decide +kernel)
  | 1, r, h => by cases h; exact ab_ix_mem (i := 361) (by decide +kernel)
  | 2, r, h => by cases h; exact ab_ix_mem (i := 376) (by decide +kernel)
  | 3, r, h => by cases h; exact ab_ix_mem (i := 331) (by decide +kernel)
  | 4, r, h => by cases h; exact ab_ix_mem (i := 262) (by decide +kernel)
  | 5, r, h => by cases h; exact ab_ix_mem (i := 317) (by decide +kernel)
  | 6, r, h => by cases h; exact ab_ix_mem (i := 97) (by decide +kernel)
  | 7, r, h => by cases h; exact ab_ix_mem (i := 230) (by decide +kernel)
  | 8, r, h => by cases h; exact ab_ix_mem (i := 126) (by decide +kernel)
  | 9, r, h => by cases h; exact ab_ix_mem (i := 89) (by decide +kernel)
  | 10, r, h => by cases h; exact ab_ix_mem (i := 950) (by decide +kernel)
  | n + 11, r, h => by simp [vwCl] at h
set_option maxRecDepth 100000 in
set_option maxHeartbeats 4000000 in
theorem ab_start {p : Program} {e : Env} {s : State} {m : MethodId} {below : List Frame} {meth : Method} {c : Code} (l : Launch) {b L : Nat} {xs : Nat → Int32} (hL : L ≤ 320) (C0 : lw_At p s m meth c b L xs) {n : Nat} {M' : ab_M} (hrun : ab_run n 30 194 0 (ab_ent [.inr (.inr 1000)] 4) [] (ab_M0 L xs) = some (some (.inl 1), M')) (hsl : (M' 999 1).toNat ≤ 7302250) : W p l e room_1 s m #[Value.ref b] below meth c s.heap [] 0 0 (lw_Z below #[Value.ref b] s) (entryFrame m ([Value.ref b] : List Value).toArray 4) := by
  obtain ⟨hx, hb, hr, hml, hown, hts, hX, hbl, hlocks, hgv⟩ := id C0
  have hs := flat_of_before _ hgv
  have hA : ∀ a : Nat, a < s.heap.size → ¬ ab_A s.heap.size a := fun a h q => absurd q (Nat.not_le.mpr h)
  have htb : ∀ w ∈ ab_tb, w.before #[Value.ref b] s = true := fun w hw => hts w (List.mem_filter.mp hw).1
  obtain ⟨cI, kI, compI, hcI, hkI, hkindI⟩ := Cond.arrayClass_spec (type := .int) (hts _ (List.mem_of_getElem? (i := 124) (by decide +kernel)))
  obtain ⟨cZ, kZ, compZ, hcZ, hkZ, hkindZ⟩ := Cond.arrayClass_spec (type := .boolean) (hts _ (List.mem_of_getElem? (i := 329) (by decide +kernel)))
  obtain ⟨cC, kC, compC, hcC, hkC, hkindC⟩ := Cond.arrayClass_spec (type := .char) (hts _ (List.mem_of_getElem? (i := 123) (by decide +kernel)))
  have hov : (Cond.arrayOver (.array .int)).before #[Value.ref b] s = true := (hts _ (List.mem_of_getElem? (i := 132) (by decide +kernel)))
  obtain ⟨compA, cA, kA, hcompA, -, hkA, hkindA, hnameA⟩ := arrayOverA_spec hov
  have hov0 : (Cond.arrayOver (.array .int)).before #[] s = true := over_moved (Vm.Alike.refl s.vm) hov
  have hex : ∀ k : Nat, ∃ z : ClassId × (Nat → Nat), ∀ q : vw_C, vwCl[k]? = some q → u_Kn s q.1 q.2.1 q.2.2 z.1 z.2 := by
    intro k
    cases hk : vwCl[k]? with
    | none => exact ⟨(0, fun _ => 0), fun q hq => by cases hq⟩
    | some r =>
      obtain ⟨cC, iS, h⟩ := u_known (C := r.1) (T := r.2.1) (N := r.2.2) htb (ab_clin k r hk) (htb _ (ab_inst k r hk))
      exact ⟨(cC, iS), fun q hq => by cases hq; exact h⟩
  obtain ⟨f, hf⟩ := Classical.axiomOfChoice hex
  have hK : va_K (fun k => (f k).1, fun k => (f k).2) vwCl (ab_tys (cI, cZ, cC, cA)) s := by
    refine ⟨fun k q hq => hf k q hq, fun k q hq => ?_⟩
    have hk : k < 4 := (List.getElem?_eq_some_iff.mp hq).1
    have hk4 : k = 0 ∨ k = 1 ∨ k = 2 ∨ k = 3 := by omega
    rcases hk4 with rfl | rfl | rfl | rfl
    · cases hq; exact ⟨fun n z => ⟨fun k h => (by cases h), kI, hkI, compI, hkindI⟩, hcI⟩
    · cases hq; exact ⟨fun n z => ⟨fun k h => (by cases h), kZ, hkZ, compZ, hkindZ⟩, hcZ⟩
    · cases hq; exact ⟨fun n z => ⟨fun k h => (by cases h), kC, hkC, compC, hkindC⟩, hcC⟩
    · cases hq; exact ⟨fun n z => ⟨fun k h => (by cases h), kA, hkA, compA, hkindA⟩, hnameA⟩
  obtain ⟨t1001, ht1001, hT1001⟩ := va_Tof (args := #[Value.ref b]) (s := s) (tm := (Term.static "LoneAdjective$Reader" "NUMBERS" "[I")) (ty := .int) (N := 7) (f := ab_si 1001) (A := ab_A s.heap.size) (by decide) (hs (.arrayOf (Term.static "LoneAdjective$Reader" "NUMBERS" "[I") .int) (by decide +kernel)) (va_eqt (z := 7) (hs (.eq (.length (Term.static "LoneAdjective$Reader" "NUMBERS" "[I")) (.int 7)) (by decide +kernel))) (fun j hj => by
    have hj : j = 0 ∨ j = 1 ∨ j = 2 ∨ j = 3 ∨ j = 4 ∨ j = 5 ∨ j = 6 := by omega
    rcases hj with rfl | rfl | rfl | rfl | rfl | rfl | rfl
    · exact va_eqt (z := 2) (hs (.eq (.elem (Term.static "LoneAdjective$Reader" "NUMBERS" "[I") (.int 0)) (.int 2)) (by decide +kernel))
    · exact va_eqt (z := 3) (hs (.eq (.elem (Term.static "LoneAdjective$Reader" "NUMBERS" "[I") (.int 1)) (.int 3)) (by decide +kernel))
    · exact va_eqt (z := 2) (hs (.eq (.elem (Term.static "LoneAdjective$Reader" "NUMBERS" "[I") (.int 2)) (.int 2)) (by decide +kernel))
    · exact va_eqt (z := 4) (hs (.eq (.elem (Term.static "LoneAdjective$Reader" "NUMBERS" "[I") (.int 3)) (.int 4)) (by decide +kernel))
    · exact va_eqt (z := 2) (hs (.eq (.elem (Term.static "LoneAdjective$Reader" "NUMBERS" "[I") (.int 4)) (.int 2)) (by decide +kernel))
    · exact va_eqt (z := 3) (hs (.eq (.elem (Term.static "LoneAdjective$Reader" "NUMBERS" "[I") (.int 5)) (.int 3)) (by decide +kernel))
    · exact va_eqt (z := 1) (hs (.eq (.elem (Term.static "LoneAdjective$Reader" "NUMBERS" "[I") (.int 6)) (.int 1)) (by decide +kernel))) hA
  have hZ1001 := va_Zof (A := ab_A s.heap.size) (hts _ (List.mem_of_getElem? (i := 557) (by decide +kernel))) (hts _ (List.mem_of_getElem? (i := 69) (by decide +kernel))) ht1001 hA
  obtain ⟨t1002, ht1002, hT1002⟩ := va_Tof (args := #[Value.ref b]) (s := s) (tm := (Term.static "LoneAdjective$Reader" "MOST" "[I")) (ty := .int) (N := 7) (f := ab_si 1002) (A := ab_A s.heap.size) (by decide) (hs (.arrayOf (Term.static "LoneAdjective$Reader" "MOST" "[I") .int) (by decide +kernel)) (va_eqt (z := 7) (hs (.eq (.length (Term.static "LoneAdjective$Reader" "MOST" "[I")) (.int 7)) (by decide +kernel))) (fun j hj => by
    have hj : j = 0 ∨ j = 1 ∨ j = 2 ∨ j = 3 ∨ j = 4 ∨ j = 5 ∨ j = 6 := by omega
    rcases hj with rfl | rfl | rfl | rfl | rfl | rfl | rfl
    · exact va_eqt (z := 1) (hs (.eq (.elem (Term.static "LoneAdjective$Reader" "MOST" "[I") (.int 0)) (.int 1)) (by decide +kernel))
    · exact va_eqt (z := 10) (hs (.eq (.elem (Term.static "LoneAdjective$Reader" "MOST" "[I") (.int 1)) (.int 10)) (by decide +kernel))
    · exact va_eqt (z := 6) (hs (.eq (.elem (Term.static "LoneAdjective$Reader" "MOST" "[I") (.int 2)) (.int 6)) (by decide +kernel))
    · exact va_eqt (z := 6) (hs (.eq (.elem (Term.static "LoneAdjective$Reader" "MOST" "[I") (.int 3)) (.int 6)) (by decide +kernel))
    · exact va_eqt (z := 250) (hs (.eq (.elem (Term.static "LoneAdjective$Reader" "MOST" "[I") (.int 4)) (.int 250)) (by decide +kernel))
    · exact va_eqt (z := 12) (hs (.eq (.elem (Term.static "LoneAdjective$Reader" "MOST" "[I") (.int 5)) (.int 12)) (by decide +kernel))
    · exact va_eqt (z := 4) (hs (.eq (.elem (Term.static "LoneAdjective$Reader" "MOST" "[I") (.int 6)) (.int 4)) (by decide +kernel))) hA
  have hZ1002 := va_Zof (A := ab_A s.heap.size) (hts _ (List.mem_of_getElem? (i := 555) (by decide +kernel))) (hts _ (List.mem_of_getElem? (i := 69) (by decide +kernel))) ht1002 hA
  obtain ⟨t1003, ht1003, hT1003⟩ := va_Tof (args := #[Value.ref b]) (s := s) (tm := (Term.static "LoneAdjective$Reader" "DEED_BOUNDS" "[I")) (ty := .int) (N := 4) (f := ab_si 1003) (A := ab_A s.heap.size) (by decide) (hs (.arrayOf (Term.static "LoneAdjective$Reader" "DEED_BOUNDS" "[I") .int) (by decide +kernel)) (va_eqt (z := 4) (hs (.eq (.length (Term.static "LoneAdjective$Reader" "DEED_BOUNDS" "[I")) (.int 4)) (by decide +kernel))) (fun j hj => by
    have hj : j = 0 ∨ j = 1 ∨ j = 2 ∨ j = 3 := by omega
    rcases hj with rfl | rfl | rfl | rfl
    · exact va_eqt (z := 0) (hs (.eq (.elem (Term.static "LoneAdjective$Reader" "DEED_BOUNDS" "[I") (.int 0)) (.int 0)) (by decide +kernel))
    · exact va_eqt (z := 30) (hs (.eq (.elem (Term.static "LoneAdjective$Reader" "DEED_BOUNDS" "[I") (.int 1)) (.int 30)) (by decide +kernel))
    · exact va_eqt (z := 999) (hs (.eq (.elem (Term.static "LoneAdjective$Reader" "DEED_BOUNDS" "[I") (.int 2)) (.int 999)) (by decide +kernel))
    · exact va_eqt (z := 99) (hs (.eq (.elem (Term.static "LoneAdjective$Reader" "DEED_BOUNDS" "[I") (.int 3)) (.int 99)) (by decide +kernel))) hA
  have hZ1003 := va_Zof (A := ab_A s.heap.size) (hts _ (List.mem_of_getElem? (i := 573) (by decide +kernel))) (hts _ (List.mem_of_getElem? (i := 69) (by decide +kernel))) ht1003 hA
  have hZC := va_Zof (A := ab_A s.heap.size) (hts _ (List.mem_of_getElem? (i := 481) (by decide +kernel))) (hts _ (List.mem_of_getElem? (i := 81) (by decide +kernel))) (va_eqt (z := 1) (hs (.eq (.static "java/lang/String" "COMPACT_STRINGS" "Z") (.int 1)) (by decide +kernel))) hA
  obtain ⟨adK, adV, hvS, hvE⟩ := vk_Sof (args := #[Value.ref b]) (s := s) (N := 1) (tm := fun _ => Term.string "LoneAdjective$Reader" 50) (len := [7]) (byt := [[116, 119, 112, 100, 114, 113, 111]]) (A := ab_A s.heap.size) (fun i hi => by rw [show i = 0 by omega]; decide) (fun i hi => hs _ (by decide +kernel)) (fun i hi => hs _ (by decide +kernel)) (fun i hi => hs _ (by decide +kernel))
    (fun i hi => by rw [show i = 0 by omega]; exact hs (.eq (.length (Term.field (Term.string "LoneAdjective$Reader" 50) "java/lang/String" "value" "[B")) (.int 7)) (by decide +kernel))
    (fun i hi j hj => by
      rw [show i = 0 by omega] at hj ⊢
      have hj : j < 7 := hj
      have hj : j = 0 ∨ j = 1 ∨ j = 2 ∨ j = 3 ∨ j = 4 ∨ j = 5 ∨ j = 6 := by omega
      rcases hj with rfl | rfl | rfl | rfl | rfl | rfl | rfl
      · exact hs (.eq (.elem (Term.field (Term.string "LoneAdjective$Reader" 50) "java/lang/String" "value" "[B") (.int 0)) (.int 116)) (by decide +kernel)
      · exact hs (.eq (.elem (Term.field (Term.string "LoneAdjective$Reader" 50) "java/lang/String" "value" "[B") (.int 1)) (.int 119)) (by decide +kernel)
      · exact hs (.eq (.elem (Term.field (Term.string "LoneAdjective$Reader" 50) "java/lang/String" "value" "[B") (.int 2)) (.int 112)) (by decide +kernel)
      · exact hs (.eq (.elem (Term.field (Term.string "LoneAdjective$Reader" 50) "java/lang/String" "value" "[B") (.int 3)) (.int 100)) (by decide +kernel)
      · exact hs (.eq (.elem (Term.field (Term.string "LoneAdjective$Reader" 50) "java/lang/String" "value" "[B") (.int 4)) (.int 114)) (by decide +kernel)
      · exact hs (.eq (.elem (Term.field (Term.string "LoneAdjective$Reader" 50) "java/lang/String" "value" "[B") (.int 5)) (.int 113)) (by decide +kernel)
      · exact hs (.eq (.elem (Term.field (Term.string "LoneAdjective$Reader" 50) "java/lang/String" "value" "[B") (.int 6)) (.int 111)) (by decide +kernel))
    (fun i j hi hj hij => by omega) hA
  have hvR : vk_R "LoneAdjective$Reader" 50 "twpdrqo" (adK 0) s := by
    have hsr : (Cond.stringRef "LoneAdjective$Reader" 50 "twpdrqo").before #[Value.ref b] s = true := (hts _ (List.mem_of_getElem? (i := 467) (by decide +kernel)))
    refine ⟨by simp only [Cond.before, Cond.holds, Cond.value] at hsr ⊢; exact hsr, ?_⟩
    have h1 := hvE 0 (by decide)
    rw [Term.string_eval_of_vm (args := #[Value.ref b]) (args' := #[]) (U := s) (V := s) rfl]
    exact h1
  have hG : ab_G s.heap.size (fun k => if k = 1000 then b else if k = 1001 then t1001 else if k = 1002 then t1002 else if k = 1003 then t1003 else if k = 1004 then adK 0 else adV 0) L xs s := by
    refine ⟨⟨hX, hbl, hbl⟩, ⟨hT1001, hT1002, hT1003⟩, ⟨hZ1001, hZ1002, hZ1003, hZC⟩, ⟨hvR, ?_⟩, ?_, hov0⟩
    · obtain ⟨v1, v2⟩ := hvS
      exact ⟨fun i hi => by rw [show i = 0 by omega]; exact v1 0 (by decide), fun i j hi hj _ => by omega⟩
    · unfold ab_nwd
      exact List.forall_mem_cons.mpr ⟨va_Nw.of rfl (hts _ (List.mem_of_getElem? (i := 740) (by decide +kernel))), List.forall_mem_cons.mpr ⟨va_Nw.of rfl (hts _ (List.mem_of_getElem? (i := 98) (by decide +kernel))), List.forall_mem_cons.mpr ⟨va_Nw.of rfl (hts _ (List.mem_of_getElem? (i := 263) (by decide +kernel))), List.forall_mem_cons.mpr ⟨va_Nw.of rfl (hts _ (List.mem_of_getElem? (i := 280) (by decide +kernel))), List.forall_mem_cons.mpr ⟨va_Nw.of rfl (hts _ (List.mem_of_getElem? (i := 283) (by decide +kernel))), List.forall_mem_cons.mpr ⟨va_Nw.of rfl (hts _ (List.mem_of_getElem? (i := 318) (by decide +kernel))), List.forall_mem_cons.mpr ⟨va_Nw.of rfl (hts _ (List.mem_of_getElem? (i := 321) (by decide +kernel))), List.forall_mem_cons.mpr ⟨va_Nw.of rfl (hts _ (List.mem_of_getElem? (i := 332) (by decide +kernel))), List.forall_mem_cons.mpr ⟨va_Nw.of rfl (hts _ (List.mem_of_getElem? (i := 335) (by decide +kernel))), List.forall_mem_cons.mpr ⟨va_Nw.of rfl (hts _ (List.mem_of_getElem? (i := 362) (by decide +kernel))), List.forall_mem_cons.mpr ⟨va_Nw.of rfl (hts _ (List.mem_of_getElem? (i := 377) (by decide +kernel))), fun _ h => absurd h List.not_mem_nil⟩⟩⟩⟩⟩⟩⟩⟩⟩⟩⟩
  generalize hsa : (fun k => if k = 1000 then b else if k = 1001 then t1001 else if k = 1002 then t1002 else if k = 1003 then t1003 else if k = 1004 then adK 0 else adV 0) = sa at hG
  have hsb : sa 1000 = b := by rw [← hsa]; rfl
  have hm : ab_mok L xs (ab_M0 L xs) := by
    refine ⟨fun k j hk => ?_, (by show (0 : Int) ≤ 0; decide), (by show (0 : Int) ≤ 995; decide), (by show (0 : Int) ≤ 0; decide), rfl, hL, fun j hj => ?_⟩
    · unfold ab_M0
      rw [if_neg hk]
      split
      · split
        · exact ab_rgz _
        · decide
      · decide
    · unfold ab_M0
      rw [if_neg (by decide), if_pos rfl, if_pos hj]
  have C : ab_cx p s m #[Value.ref b] c (fun k => (f k).1, fun k => (f k).2) (cI, cZ, cC, cA) s.heap.size sa L xs 4 0 (ab_b 194) (ab_ows.getD (ab_oi' 194) "") := ⟨hx, hb, hml, hown, htb, hK, hG, rfl⟩
  have h0 : ab_M0 L xs 999 0 ≤ 995 := by show (0 : Int) ≤ 995; decide
  have hup := ab_up_run _ _ _ _ _ _ _ _ h0 hrun
  have hkk := so_run (R := room_1) (mm := 194) (d := 30) (N := n) (z := (some (.inl 1), M')) (n0 := 0) (s0 := 0) (l := l) (e := e) (below := below) (meth := meth) (Q := lw_Z below #[Value.ref b] s) (by decide) C (fun hi => by cases hi) (so_met l _ _ _ _ _ _ n) ⟨by decide, by decide⟩ ⟨by have := hup.2.2.1; show ab_nc M' - 0 ≤ 600000; unfold ab_nc; dsimp only at this; omega, by show _ ≤ 7302250; dsimp only; omega⟩
    (fun pc ls st M1 en hat hk2 hz => by
      have hen := ab_aten (by decide : 194 < 195) hat
      have hen : ab_en2 (ab_rv 194) (ab_b 194) pc en = true := by
        unfold ab_enB at hen
        dsimp only at hen
        rw [hk2] at hen
        exact hen
      have hrok := ab_en2_ok hen
      intro H locs lc h
      obtain ⟨h1, h2, h3, h4, h5, hP, hS, h8, h9⟩ := h
      unfold ab_ret at hz
      split at hz
      · split at hz
        · cases hz
        · cases hz
      next v =>
        split at hz
        next hk =>
          cases hz
          rcases hrok with ⟨h0, -⟩ | ⟨-, hd, -⟩
          · omega
          · refine va_forget hS.2.2 (W.widen (k := 600000) (n := 7302250) (by have := ab_n995 h1; omega) (by omega) ?_)
            exact lw_ret hx hb hr hlocks hd
        next => cases hz
      · cases hz)
    n (Nat.le_refl _) 0 _ [] (ab_M0 L xs) h0 hrun
  have hle := lv_entry ([.ref b] : List Value) (n := 4) (Nat.le_of_ble_eq_true rfl)
  have := hkk s.heap [] _ ⟨hm, fun v h => absurd h List.not_mem_nil, ab_lvm hle (fun q hq => ?_), rfl, fun v hv => ?_, ?_, va_S.rf, Nat.le_refl _, Nat.zero_le _⟩
  · rw [lg_entry_eq]
    exact this
  · have := ab_as_args s.heap.size sa [.inr (.inr 1000)] 0 q (ab_as_app s.heap.size sa _ _ 0 q hq)
    have e1 : ([.inr (.inr 1000)] : List ab_V).map (ab_cv s.heap.size sa) = [.ref b] := by
      show [ab_cv s.heap.size sa (.inr (.inr 1000))] = _
      rw [ab_ads (by decide), hsb]
    rw [e1] at this
    exact this
  · have hv : some v ∈ ab_sl [.inr (.inr 1000)] ++ List.replicate 3 none := hv
    rcases List.mem_append.mp hv with h | h
    · have := ab_sl_mem h
      rw [List.mem_singleton.mp this]
      trivial
    · have := List.eq_of_mem_replicate h
      cases this
  · intro k q hq
    have : ab_nc (ab_M0 L xs) = 0 := rfl
    rw [this] at hq
    cases hq
end
section
/-! THE PURE SIDE: what must hold that an abstract run answers with Q -/
theorem ab_run_up : ∀ (n d m pc : Nat) (ls : ab_L) (st : List ab_V) (M : ab_M) (z : Option ab_V × ab_M), ab_run n d m pc ls st M = some z → ∀ n' d', n ≤ n' → d ≤ d' → ab_run n' d' m pc ls st M = some z := by
  intro n
  induction n with
  | zero => intro d m pc ls st M z h; cases h
  | succ n ih =>
    intro d m pc ls st M z h n' d' hn hd
    obtain ⟨k, rfl⟩ : ∃ k, n' = k + 1 := ⟨n' - 1, by omega⟩
    rw [ab_run] at h ⊢
    cases hat : ab_at m pc with
    | none => rw [hat] at h; cases h
    | some e =>
      rw [hat] at h
      dsimp only at h ⊢
      split at h
      next h0 =>
        cases hu : ab_st1 e pc ls st M with
        | none => rw [hu] at h; cases h
        | some u =>
          rw [hu] at h
          exact ih _ _ _ _ _ _ _ h k d' (by omega) hd
      next h1 =>
        cases d with
        | zero => cases h
        | succ d0 =>
          obtain ⟨j, rfl⟩ : ∃ j, d' = j + 1 := ⟨d' - 1, by omega⟩
          dsimp only at h ⊢
          cases hq : ab_args e st M with
          | none => rw [hq] at h; cases h
          | some q =>
            rw [hq] at h
            dsimp only at h ⊢
            cases hw : ab_run n d0 q.1 0 (ab_ent q.2.1 (ab_mx q.1)) [] M with
            | none => rw [hw] at h; cases h
            | some w =>
              rw [hw] at h
              rw [ih _ _ _ _ _ _ _ hw k j (by omega) (by omega)]
              exact ih _ _ _ _ _ _ _ h k (j + 1) (by omega) (by omega)
      next h2 =>
        exact h
      next => cases h
def ab_wp (d m pc : Nat) (ls : ab_L) (st : List ab_V) (M : ab_M) (Q : Option ab_V → ab_M → Prop) : Prop := ∃ n z, ab_run n d m pc ls st M = some z ∧ Q z.1 z.2
def ab_ev (d m : Nat) (as : List ab_V) (M : ab_M) (r : Option ab_V) (M' : ab_M) : Prop := ∃ n, ab_run n d m 0 (ab_ent as (ab_mx m)) [] M = some (r, M')
section WP
variable {d m pc : Nat} {ls : ab_L} {st : List ab_V} {M : ab_M} {Q : Option ab_V → ab_M → Prop}
theorem wp_st {e : ab_E} {u : ab_St} (hat : ab_at m pc = some e) (hk : e.2.1 = 0) (hu : ab_st1 e pc ls st M = some u) (h : ab_wp d m u.1 u.2.1 u.2.2.1 u.2.2.2 Q) : ab_wp d m pc ls st M Q := by
  obtain ⟨n, z, hr, hq⟩ := h
  refine ⟨n + 1, z, ?_, hq⟩
  rw [ab_run, hat]
  simp only [hk, hu]
  exact hr
theorem wp_ret {e : ab_E} {z : Option ab_V × ab_M} (hat : ab_at m pc = some e) (hk : e.2.1 = 2) (hz : ab_ret e st M = some z) (h : Q z.1 z.2) : ab_wp d m pc ls st M Q := by
  refine ⟨1, z, ?_, h⟩
  rw [ab_run, hat]
  simp only [hk]
  exact hz
theorem wp_call {e : ab_E} {q : Nat × (List ab_V × List ab_V)} {r : Option ab_V} {M1 : ab_M} (hat : ab_at m pc = some e) (hk : e.2.1 = 1) (hq : ab_args e st M = some q) (hev : ab_ev d q.1 q.2.1 M r M1) (h : ab_wp (d + 1) m (pc + 3) ls (r.toList ++ q.2.2) M1 Q) : ab_wp (d + 1) m pc ls st M Q := by
  obtain ⟨n1, h1⟩ := hev
  obtain ⟨n2, z, h2, hQ⟩ := h
  refine ⟨n1 + n2 + 1, z, ?_, hQ⟩
  rw [ab_run, hat]
  simp only [hk, hq]
  rw [ab_run_up _ _ _ _ _ _ _ _ h1 (n1 + n2) d (by omega) (Nat.le_refl _)]
  exact ab_run_up _ _ _ _ _ _ _ _ h2 (n1 + n2) (d + 1) (by omega) (Nat.le_refl _)
theorem wp_mono {Q' : Option ab_V → ab_M → Prop} (h : ab_wp d m pc ls st M Q) (hq : ∀ r M', Q r M' → Q' r M') : ab_wp d m pc ls st M Q' := by
  obtain ⟨n, z, hr, h⟩ := h
  exact ⟨n, z, hr, hq _ _ h⟩
theorem wp_up {d' : Nat} (h : ab_wp d m pc ls st M Q) (hd : d ≤ d') : ab_wp d' m pc ls st M Q := by
  obtain ⟨n, z, hr, h⟩ := h
  exact ⟨n, z, ab_run_up _ _ _ _ _ _ _ _ hr n d' (Nat.le_refl _) hd, h⟩
theorem ev_up {d' : Nat} {as : List ab_V} {r : Option ab_V} {M' : ab_M} (h : ab_ev d m as M r M') (hd : d ≤ d') : ab_ev d' m as M r M' := by
  obtain ⟨n, hr⟩ := h
  exact ⟨n, ab_run_up _ _ _ _ _ _ _ _ hr n d' (Nat.le_refl _) hd⟩
theorem ev_wp {as : List ab_V} {r : Option ab_V} {M' : ab_M} (h : ab_wp d m 0 (ab_ent as (ab_mx m)) [] M (fun r' M'' => r' = r ∧ M'' = M')) : ab_ev d m as M r M' := by
  obtain ⟨n, ⟨r', M''⟩, hr, rfl, rfl⟩ := h
  exact ⟨n, hr⟩
/-- a call whose answer is told by a condition -/
theorem wp_ev {as : List ab_V} (h : ab_wp d m 0 (ab_ent as (ab_mx m)) [] M Q) : ∃ r M', ab_ev d m as M r M' ∧ Q r M' := by
  obtain ⟨n, ⟨r', M''⟩, hr, hq⟩ := h
  exact ⟨r', M'', ⟨n, hr⟩, hq⟩
/-! rules that ask something -/
theorem w_iadd {k : Nat} {x a b : Int} (hat : ab_at m pc = some (.iadd, 0, k, x)) (hr : ab_rg (a + b)) (h : ab_wp d m (pc + 1) ls (.inl (a + b) :: st) M Q) : ab_wp d m pc ls (.inl b :: .inl a :: st) M Q :=
  wp_st hat rfl (u := (pc + 1, ls, .inl (a + b) :: st, M)) (by show ab_i2 (fun (x y : Int) => ab_ck (x + y)) pc ls (.inl b :: .inl a :: st) M = _; unfold ab_i2 ab_ck; dsimp only; rw [if_pos hr]) h
theorem w_isub {k : Nat} {x a b : Int} (hat : ab_at m pc = some (.isub, 0, k, x)) (hr : ab_rg (a - b)) (h : ab_wp d m (pc + 1) ls (.inl (a - b) :: st) M Q) : ab_wp d m pc ls (.inl b :: .inl a :: st) M Q :=
  wp_st hat rfl (u := (pc + 1, ls, .inl (a - b) :: st, M)) (by show ab_i2 (fun (x y : Int) => ab_ck (x - y)) pc ls (.inl b :: .inl a :: st) M = _; unfold ab_i2 ab_ck; dsimp only; rw [if_pos hr]) h
theorem w_imul {k : Nat} {x a b : Int} (hat : ab_at m pc = some (.imul, 0, k, x)) (hr : ab_rg (a * b)) (h : ab_wp d m (pc + 1) ls (.inl (a * b) :: st) M Q) : ab_wp d m pc ls (.inl b :: .inl a :: st) M Q :=
  wp_st hat rfl (u := (pc + 1, ls, .inl (a * b) :: st, M)) (by show ab_i2 (fun (x y : Int) => ab_ck (x * y)) pc ls (.inl b :: .inl a :: st) M = _; unfold ab_i2 ab_ck; dsimp only; rw [if_pos hr]) h
theorem w_idiv {k : Nat} {x a b : Int} (hat : ab_at m pc = some (.idiv, 0, k, x)) (hb : b ≠ 0) (hr : ab_rg (a.tdiv b)) (h : ab_wp d m (pc + 1) ls (.inl (a.tdiv b) :: st) M Q) : ab_wp d m pc ls (.inl b :: .inl a :: st) M Q :=
  wp_st hat rfl (u := (pc + 1, ls, .inl (a.tdiv b) :: st, M)) (by show ab_i2 ab_div pc ls (.inl b :: .inl a :: st) M = _; unfold ab_i2 ab_div ab_ck; dsimp only; rw [if_neg hb, if_pos hr]) h
theorem w_irem {k : Nat} {x a b : Int} (hat : ab_at m pc = some (.irem, 0, k, x)) (hb : b ≠ 0) (hr : ab_rg (a.tdiv b)) (h : ab_wp d m (pc + 1) ls (.inl (a.tmod b) :: st) M Q) : ab_wp d m pc ls (.inl b :: .inl a :: st) M Q := by
  refine wp_st hat rfl (u := (pc + 1, ls, .inl (a.tmod b) :: st, M)) ?_ h
  show ab_i2 ab_rem pc ls (.inl b :: .inl a :: st) M = _
  unfold ab_i2 ab_rem
  dsimp only
  rw [if_neg (by intro q; rcases q with q | q; exact hb q; exact q hr)]
  have : a - a.tdiv b * b = a.tmod b := by
    have := Int.tmod_add_mul_tdiv a b
    rw [Int.mul_comm] at this
    omega
  rw [this]
theorem w_iinc {k n : Nat} {x c a : Int} (hat : ab_at m pc = some (.iinc n c, 0, k, x)) (hg : ls.getD n none = some (.inl a)) (hr : ab_rg (a + c)) (h : ab_wp d m (pc + 3) (ls.set n (some (.inl (a + c)))) st M Q) : ab_wp d m pc ls st M Q :=
  wp_st hat rfl (u := (pc + 3, ls.set n (some (.inl (a + c))), st, M)) (by show ab_iinc n c pc ls st M = _; unfold ab_iinc; rw [hg]; dsimp only; rw [if_pos hr]) h
theorem w_ladd {k : Nat} {x a b : Int} (hat : ab_at m pc = some (.ladd, 0, k, x)) (hr : ab_rl (a + b)) (h : ab_wp d m (pc + 1) ls (.inr (.inl (a + b)) :: st) M Q) : ab_wp d m pc ls (.inr (.inl b) :: .inr (.inl a) :: st) M Q :=
  wp_st hat rfl (u := (pc + 1, ls, .inr (.inl (a + b)) :: st, M)) (by show ab_l2 (fun (x y : Int) => ab_cl (x + y)) pc ls (.inr (.inl b) :: .inr (.inl a) :: st) M = _; unfold ab_l2 ab_cl; dsimp only; rw [if_pos hr]) h
theorem w_lmul {k : Nat} {x a b : Int} (hat : ab_at m pc = some (.lmul, 0, k, x)) (hr : ab_rl (a * b)) (h : ab_wp d m (pc + 1) ls (.inr (.inl (a * b)) :: st) M Q) : ab_wp d m pc ls (.inr (.inl b) :: .inr (.inl a) :: st) M Q :=
  wp_st hat rfl (u := (pc + 1, ls, .inr (.inl (a * b)) :: st, M)) (by show ab_l2 (fun (x y : Int) => ab_cl (x * y)) pc ls (.inr (.inl b) :: .inr (.inl a) :: st) M = _; unfold ab_l2 ab_cl; dsimp only; rw [if_pos hr]) h
theorem w_ldiv {k : Nat} {x a b : Int} (hat : ab_at m pc = some (.ldiv, 0, k, x)) (hb : b ≠ 0) (hr : ab_rl (a.tdiv b)) (h : ab_wp d m (pc + 1) ls (.inr (.inl (a.tdiv b)) :: st) M Q) : ab_wp d m pc ls (.inr (.inl b) :: .inr (.inl a) :: st) M Q :=
  wp_st hat rfl (u := (pc + 1, ls, .inr (.inl (a.tdiv b)) :: st, M)) (by show ab_l2 (fun (x y : Int) => if y = 0 then none else ab_cl (x.tdiv y)) pc ls (.inr (.inl b) :: .inr (.inl a) :: st) M = _; unfold ab_l2 ab_cl; dsimp only; rw [if_neg hb, if_pos hr]) h
theorem w_l2i {k : Nat} {x a : Int} (hat : ab_at m pc = some (.l2i, 0, k, x)) (hr : ab_rg a) (h : ab_wp d m (pc + 1) ls (.inl a :: st) M Q) : ab_wp d m pc ls (.inr (.inl a) :: st) M Q :=
  wp_st hat rfl (u := (pc + 1, ls, .inl a :: st, M)) (by show ab_cnv 1 pc ls (.inr (.inl a) :: st) M = _; unfold ab_cnv; dsimp only; rw [if_pos ⟨rfl, hr⟩]) h
theorem w_i2c {k : Nat} {x a : Int} (hat : ab_at m pc = some (.i2c, 0, k, x)) (hr : 0 ≤ a ∧ a < 65536) (h : ab_wp d m (pc + 1) ls (.inl a :: st) M Q) : ab_wp d m pc ls (.inl a :: st) M Q :=
  wp_st hat rfl (u := (pc + 1, ls, .inl a :: st, M)) (by show ab_cnv 2 pc ls (.inl a :: st) M = _; unfold ab_cnv; dsimp only; rw [if_neg (by decide), if_pos rfl, if_pos hr]) h
theorem w_i2b {k : Nat} {x a : Int} (hat : ab_at m pc = some (.i2b, 0, k, x)) (hr : -128 ≤ a ∧ a < 128) (h : ab_wp d m (pc + 1) ls (.inl a :: st) M Q) : ab_wp d m pc ls (.inl a :: st) M Q :=
  wp_st hat rfl (u := (pc + 1, ls, .inl a :: st, M)) (by show ab_cnv 3 pc ls (.inl a :: st) M = _; unfold ab_cnv; dsimp only; rw [if_neg (by decide), if_neg (by decide), if_pos rfl, if_pos hr]) h
theorem w_if1 {k : Nat} {x a : Int} {c : Jvm.ClassFile.Cond} {off : Int} (hat : ab_at m pc = some (.ifCond c off, 0, k, x)) (ht : ab_cmp c a 0 = true → ab_wp d m k ls st M Q) (hf : ab_cmp c a 0 = false → ab_wp d m (pc + 3) ls st M Q) : ab_wp d m pc ls (.inl a :: st) M Q := by
  cases hc : ab_cmp c a 0 with
  | true => exact wp_st hat rfl (u := (k, ls, st, M)) (by show ab_br1 c k pc ls (.inl a :: st) M = _; unfold ab_br1; dsimp only; rw [if_pos hc]) (ht hc)
  | false => exact wp_st hat rfl (u := (pc + 3, ls, st, M)) (by show ab_br1 c k pc ls (.inl a :: st) M = _; unfold ab_br1; dsimp only; rw [if_neg (by rw [hc]; decide)]) (hf hc)
theorem w_if2 {k : Nat} {x a b : Int} {c : Jvm.ClassFile.Cond} {off : Int} (hat : ab_at m pc = some (.if_icmp c off, 0, k, x)) (ht : ab_cmp c a b = true → ab_wp d m k ls st M Q) (hf : ab_cmp c a b = false → ab_wp d m (pc + 3) ls st M Q) : ab_wp d m pc ls (.inl b :: .inl a :: st) M Q := by
  cases hc : ab_cmp c a b with
  | true => exact wp_st hat rfl (u := (k, ls, st, M)) (by show ab_br2 c k pc ls (.inl b :: .inl a :: st) M = _; unfold ab_br2; dsimp only; rw [if_pos hc]) (ht hc)
  | false => exact wp_st hat rfl (u := (pc + 3, ls, st, M)) (by show ab_br2 c k pc ls (.inl b :: .inl a :: st) M = _; unfold ab_br2; dsimp only; rw [if_neg (by rw [hc]; decide)]) (hf hc)
/-! cells: after the constructors there are 132 -/
def ab_obB (k f : Nat) (x : Int) : Bool := decide (k < 132 ∧ (ab_kd k).1 < 11 ∧ ab_tg x (ab_kd k).1 ∧ f < (ab_kd k).2)
def ab_arB (t k n : Nat) : Bool := decide (k < 132 ∧ ab_kd k = (t, n))
theorem ab_nc132 (hN : M 999 0 = 132) : ab_nc M = 132 := by unfold ab_nc; rw [hN]; rfl
theorem ab_obi {k f : Nat} {x : Int} (hN : M 999 0 = 132) (h : ab_obB k f x = true) : ab_ob M k f x := by
  have := of_decide_eq_true h
  exact ⟨by rw [ab_nc132 hN]; exact this.1, this.2⟩
theorem w_getI {f : Nat} {x : Int} {i k : Nat} (hat : ab_at m pc = some (.getfield i, 0, f, x)) (hN : M 999 0 = 132) (hx : x ≠ 30) (ho : ab_obB k f x = true) (ht : ab_fty (ab_kd k).1 f ≠ 2) (h : ab_wp d m (pc + 3) ls (.inl (M k f) :: st) M Q) : ab_wp d m pc ls (.inr (.inr k) :: st) M Q :=
  wp_st hat rfl (u := (pc + 3, ls, .inl (M k f) :: st, M)) (by show ab_get f x pc ls (.inr (.inr k) :: st) M = _; unfold ab_get; dsimp only; rw [if_neg hx, if_pos (ab_obi hN ho), if_neg ht]) h
theorem w_getR {f : Nat} {x : Int} {i k j : Nat} (hat : ab_at m pc = some (.getfield i, 0, f, x)) (hN : M 999 0 = 132) (hx : x ≠ 30) (ho : ab_obB k f x = true) (ht : ab_fty (ab_kd k).1 f = 2) (hj : M k f = (j : Int)) (hj2 : j < 1000) (h : ab_wp d m (pc + 3) ls (.inr (.inr j) :: st) M Q) : ab_wp d m pc ls (.inr (.inr k) :: st) M Q := by
  refine wp_st hat rfl (u := (pc + 3, ls, .inr (.inr j) :: st, M)) ?_ h
  show ab_get f x pc ls (.inr (.inr k) :: st) M = _
  unfold ab_get
  dsimp only
  rw [if_neg hx, if_pos (ab_obi hN ho), if_pos ht, if_pos (by rw [hj]; omega), hj]
  rfl
theorem w_putI {f : Nat} {x v : Int} {i k : Nat} (hat : ab_at m pc = some (.putfield i, 0, f, x)) (hN : M 999 0 = 132) (ho : ab_obB k f x = true) (ht : ab_fty (ab_kd k).1 f = 0) (h : ab_wp d m (pc + 3) ls st (ab_w M k f v) Q) : ab_wp d m pc ls (.inl v :: .inr (.inr k) :: st) M Q :=
  wp_st hat rfl (u := (pc + 3, ls, st, ab_w M k f v)) (by show ab_put f x pc ls (.inl v :: .inr (.inr k) :: st) M = _; unfold ab_put; dsimp only; rw [if_pos ⟨ab_obi hN ho, Or.inl ht⟩]) h
theorem w_putB {f : Nat} {x v : Int} {i k : Nat} (hat : ab_at m pc = some (.putfield i, 0, f, x)) (hN : M 999 0 = 132) (ho : ab_obB k f x = true) (ht : ab_fty (ab_kd k).1 f = 1) (hv : v = 0 ∨ v = 1) (h : ab_wp d m (pc + 3) ls st (ab_w M k f v) Q) : ab_wp d m pc ls (.inl v :: .inr (.inr k) :: st) M Q :=
  wp_st hat rfl (u := (pc + 3, ls, st, ab_w M k f v)) (by show ab_put f x pc ls (.inl v :: .inr (.inr k) :: st) M = _; unfold ab_put; dsimp only; rw [if_pos ⟨ab_obi hN ho, Or.inr ⟨ht, hv⟩⟩]) h
theorem w_putR {f : Nat} {x : Int} {i k j : Nat} (hat : ab_at m pc = some (.putfield i, 0, f, x)) (hN : M 999 0 = 132) (ho : ab_obB k f x = true) (ht : ab_fty (ab_kd k).1 f = 2) (hj : j < 132) (h : ab_wp d m (pc + 3) ls st (ab_w M k f j) Q) : ab_wp d m pc ls (.inr (.inr j) :: .inr (.inr k) :: st) M Q :=
  wp_st hat rfl (u := (pc + 3, ls, st, ab_w M k f j)) (by show ab_put f x pc ls (.inr (.inr j) :: .inr (.inr k) :: st) M = _; unfold ab_put; dsimp only; rw [if_pos ⟨ab_obi hN ho, ht, by rw [ab_nc132 hN]; exact hj⟩]) h
theorem ab_ari {t k n : Nat} {i : Int} (hN : M 999 0 = 132) (ha : ab_arB t k n = true) (h0 : 0 ≤ i) (h1 : i < n) : ab_ar M t k i := by
  obtain ⟨a1, a2⟩ := of_decide_eq_true ha
  refine ⟨by rw [ab_nc132 hN]; exact a1, by rw [a2], h0, by rw [a2]; exact h1⟩
/-- a place of a row of numbers -/
theorem w_ald {o : Instr} {k0 t k n : Nat} {x i : Int} (hat : ab_at m pc = some (o, 0, k0, x)) (ho : (t = 20 ∧ o = .iaload) ∨ (t = 21 ∧ o = .baload) ∨ (t = 22 ∧ o = .caload)) (hN : M 999 0 = 132) (ha : ab_arB t k n = true) (h0 : 0 ≤ i ∧ i < n) (h : ab_wp d m (pc + 1) ls (.inl (M k i.toNat) :: st) M Q) : ab_wp d m pc ls (.inl i :: .inr (.inr k) :: st) M Q := by
  have hk : k < 132 := (of_decide_eq_true ha).1
  have key : ab_ald t pc ls (.inl i :: .inr (.inr k) :: st) M = some (pc + 1, ls, .inl (M k i.toNat) :: st, M) := by
    unfold ab_ald
    dsimp only
    rw [if_pos (by omega), if_pos (ab_ari hN ha h0.1 h0.2), if_neg (by omega)]
  rcases ho with ⟨rfl, rfl⟩ | ⟨rfl, rfl⟩ | ⟨rfl, rfl⟩ <;> exact wp_st hat rfl (u := (pc + 1, ls, .inl (M k i.toNat) :: st, M)) key h
theorem w_aald {k0 k n j : Nat} {x i : Int} (hat : ab_at m pc = some (.aaload, 0, k0, x)) (hN : M 999 0 = 132) (ha : ab_arB 24 k n = true) (h0 : 0 ≤ i ∧ i < n) (hj : M k i.toNat = (j : Int)) (hj2 : j < 1000) (h : ab_wp d m (pc + 1) ls (.inr (.inr j) :: st) M Q) : ab_wp d m pc ls (.inl i :: .inr (.inr k) :: st) M Q := by
  have hk : k < 132 := (of_decide_eq_true ha).1
  refine wp_st hat rfl (u := (pc + 1, ls, .inr (.inr j) :: st, M)) ?_ h
  show ab_ald 24 pc ls (.inl i :: .inr (.inr k) :: st) M = _
  unfold ab_ald
  dsimp only
  rw [if_pos (by omega), if_pos (ab_ari hN ha h0.1 h0.2), if_pos rfl, if_pos (by rw [hj]; omega), hj]
  rfl
theorem w_sld {k0 k : Nat} {x i : Int} (hat : ab_at m pc = some (.iaload, 0, k0, x)) (hk : 1001 ≤ k ∧ k < 1004) (h0 : 0 ≤ i ∧ i < (ab_stt k).length) (h : ab_wp d m (pc + 1) ls (.inl ((ab_stt k).getD i.toNat 0) :: st) M Q) : ab_wp d m pc ls (.inl i :: .inr (.inr k) :: st) M Q := by
  refine wp_st hat rfl (u := (pc + 1, ls, .inl ((ab_stt k).getD i.toNat 0) :: st, M)) ?_ h
  show ab_ald 20 pc ls (.inl i :: .inr (.inr k) :: st) M = _
  unfold ab_ald
  dsimp only
  rw [if_neg (by omega), if_neg (by omega), if_pos ⟨Or.inl ⟨rfl, hk.2⟩, h0⟩]
theorem w_bld {k0 : Nat} {x i : Int} (hat : ab_at m pc = some (.baload, 0, k0, x)) (h0 : 0 ≤ i ∧ i < 7) (h : ab_wp d m (pc + 1) ls (.inl ((ab_stt 1005).getD i.toNat 0) :: st) M Q) : ab_wp d m pc ls (.inl i :: .inr (.inr 1005) :: st) M Q := by
  refine wp_st hat rfl (u := (pc + 1, ls, .inl ((ab_stt 1005).getD i.toNat 0) :: st, M)) ?_ h
  show ab_ald 21 pc ls (.inl i :: .inr (.inr 1005) :: st) M = _
  unfold ab_ald
  dsimp only
  rw [if_neg (by omega), if_neg (by omega), if_pos ⟨Or.inr ⟨rfl, rfl⟩, h0⟩]
theorem w_xld {k0 : Nat} {x i : Int} (hat : ab_at m pc = some (.iaload, 0, k0, x)) (h0 : 0 ≤ i ∧ i < M 999 2) (h : ab_wp d m (pc + 1) ls (.inl (M 1000 i.toNat) :: st) M Q) : ab_wp d m pc ls (.inl i :: .inr (.inr 1000) :: st) M Q := by
  refine wp_st hat rfl (u := (pc + 1, ls, .inl (M 1000 i.toNat) :: st, M)) ?_ h
  show ab_ald 20 pc ls (.inl i :: .inr (.inr 1000) :: st) M = _
  unfold ab_ald
  dsimp only
  rw [if_neg (by omega), if_pos rfl, if_pos ⟨rfl, h0⟩]
theorem w_ast {o : Instr} {k0 t k n : Nat} {x i v : Int} (hat : ab_at m pc = some (o, 0, k0, x)) (ho : (t = 20 ∧ o = .iastore) ∨ (t = 21 ∧ o = .bastore) ∨ (t = 22 ∧ o = .castore)) (hN : M 999 0 = 132) (ha : ab_arB t k n = true) (h0 : 0 ≤ i ∧ i < n) (hz : t = 21 → v = 0 ∨ v = 1) (hc : t = 22 → 0 ≤ v ∧ v < 65536) (h : ab_wp d m (pc + 1) ls st (ab_w M k i.toNat v) Q) : ab_wp d m pc ls (.inl v :: .inl i :: .inr (.inr k) :: st) M Q := by
  have key : ab_ast t pc ls (.inl v :: .inl i :: .inr (.inr k) :: st) M = some (pc + 1, ls, st, ab_w M k i.toNat v) := by
    unfold ab_ast
    dsimp only
    rw [if_pos ⟨ab_ari hN ha h0.1 h0.2, hz, hc⟩]
  rcases ho with ⟨rfl, rfl⟩ | ⟨rfl, rfl⟩ | ⟨rfl, rfl⟩ <;> exact wp_st hat rfl (u := (pc + 1, ls, st, ab_w M k i.toNat v)) key h
theorem w_len {k0 t k n : Nat} {x : Int} (hat : ab_at m pc = some (.arraylength, 0, k0, x)) (hN : M 999 0 = 132) (ha : ab_arB t k n = true) (ht : 20 ≤ t ∧ t < 25) (h : ab_wp d m (pc + 1) ls (.inl n :: st) M Q) : ab_wp d m pc ls (.inr (.inr k) :: st) M Q := by
  obtain ⟨a1, a2⟩ := of_decide_eq_true ha
  refine wp_st hat rfl (u := (pc + 1, ls, .inl n :: st, M)) ?_ h
  show ab_len pc ls (.inr (.inr k) :: st) M = _
  unfold ab_len
  dsimp only
  rw [if_pos (by omega), if_pos ⟨by rw [ab_nc132 hN]; exact a1, by rw [a2]; exact ht⟩, a2]
theorem w_cpy {i s0 d0 : Nat} {x n dp sp : Int} {n1 n2 : Nat} (hat : ab_at m pc = some (.invokestatic i, 0, 901, x)) (hN : M 999 0 = 132) (h1 : ab_arB 20 s0 n1 = true) (h2 : ab_arB 20 d0 n2 = true) (h3 : 0 ≤ n ∧ 0 ≤ sp ∧ 0 ≤ dp ∧ sp + n ≤ n1 ∧ dp + n ≤ n2) (h4 : (st.map ab_cat).sum ≤ 8) (h : ab_wp d m (pc + 3) ls st (ab_cpm M s0 d0 sp.toNat dp.toNat n.toNat) Q) : ab_wp d m pc ls (.inl n :: .inl dp :: .inr (.inr d0) :: .inl sp :: .inr (.inr s0) :: st) M Q := by
  obtain ⟨a1, a2⟩ := of_decide_eq_true h1
  obtain ⟨c1, c2⟩ := of_decide_eq_true h2
  refine wp_st hat rfl (u := (pc + 3, ls, st, ab_cpm M s0 d0 sp.toNat dp.toNat n.toNat)) ?_ h
  show ab_cpy pc ls (.inl n :: .inl dp :: .inr (.inr d0) :: .inl sp :: .inr (.inr s0) :: st) M = _
  unfold ab_cpy
  dsimp only
  rw [if_pos ⟨by rw [ab_nc132 hN]; exact a1, by rw [ab_nc132 hN]; exact c1, by rw [a2], by rw [c2], h3.1, h3.2.1, h3.2.2.1, by rw [a2]; exact h3.2.2.2.1, by rw [c2]; exact h3.2.2.2.2, h4⟩]
def ab_argsN (e : ab_E) (st : List ab_V) : Option (Nat × (List ab_V × List ab_V)) := ab_args e st (fun a b => if a = 999 ∧ b = 0 then 132 else 0)
theorem ab_argsN_eq {e : ab_E} (hN : M 999 0 = 132) : ab_args e st M = ab_argsN e st := by
  have h : ab_nc M = ab_nc (fun a b => if a = 999 ∧ b = 0 then 132 else 0) := by rw [ab_nc132 hN]; rfl
  unfold ab_argsN ab_args ab_rc
  rw [h]
theorem w_call {e : ab_E} {q : Nat × (List ab_V × List ab_V)} {r : Option ab_V} {M1 : ab_M} (hat : ab_at m pc = some e) (hk : e.2.1 = 1) (hN : M 999 0 = 132) (hq : ab_argsN e st = some q) (hev : ab_ev d q.1 q.2.1 M r M1) (h : ab_wp (d + 1) m (pc + 3) ls (r.toList ++ q.2.2) M1 Q) : ab_wp (d + 1) m pc ls st M Q :=
  wp_call hat hk (by rw [ab_argsN_eq hN]; exact hq) hev h
end WP
end
section
/-! what never changes in the cells -/
def pu_rvs0 : List (List Int) := [[1, -1, -1, -1, 69, 71, 73, 75, 78, 82, 86, 90, 95, 98, 101, 102], [-1, -1, -1, 2, 3, 4], [], [], [], [-1, -1, -1, -1, -1, 6, 14, 22, 23, 24, 25, 26, 27, 28, 29, 36], [7, 8, 9, 10, 11, 12, 13], [], [], [], [], [], [], [], [15, 16, 17, 18, 19, 20, 21], [], [], [], [], [], [], []]
def pu_rvs1 : List (List Int) := [[], [], [], [], [], [], [], [30, 31, 32, 33, 34, 35], [], [], [], [], [], [], [], [-1, -1, -1, -1, -1, 38, 46, 54, 55, 56, 57, 58, 59, 60, 61, 68], [39, 40, 41, 42, 43, 44, 45], [], [], [], [], []]
def pu_rvs2 : List (List Int) := [[], [], [47, 48, 49, 50, 51, 52, 53], [], [], [], [], [], [], [], [], [], [], [], [], [], [], [62, 63, 64, 65, 66, 67], [], [], [], []]
def pu_rvs3 : List (List Int) := [[], [], [], [-1, -1, -1, -1, -1, 70], [], [-1, -1, -1, -1, -1, 72], [], [-1, -1, -1, -1, -1, 74], [], [-1, 76, 77], [], [], [79, 80, -1, -1, -1, 81], [], [], [], [83, 84, 85], [], [], [], [87, 88, 89], []]
def pu_rvs4 : List (List Int) := [[], [], [91, 92, -1, -1, -1, -1, 93, 94], [], [], [], [], [96, 97], [], [], [99, 100], [], [], [], [], [104, -1, -1, -1, -1, 105, 106, 107, 108, -1, 109, -1, 110, 111, -1, 112, 113, -1, 114, -1, -1, -1, -1, -1, -1, -1, -1, 115, -1, 116, -1, 117, -1, 118, -1, 119, -1, 120, 121, 122, 123, 124, 125, 126, 127, 128, 129, -1, 130, 131], [], [], [], [], [], []]
def pu_rvs5 : List (List Int) := [[], [], [], [], [], [], [], [], [], [], [], [], [], [], [], [], [], [], [], [], [], []]
def pu_rvs : List (List Int) := (List.append pu_rvs0 (List.append pu_rvs1 (List.append pu_rvs2 (List.append pu_rvs3 (List.append pu_rvs4 pu_rvs5)))))
def pu_rv (k f : Nat) : Int := (pu_rvs.getD k []).getD f (-1)
def pu_T (t : Nat) : Prop := t = 5 ∨ t = 37
def pu_S (s : Nat) : Prop := s = 69 ∨ s = 71 ∨ s = 73
def pu_D (s : Nat) : Prop := s = 82 ∨ s = 86
def pu_G (s : Nat) : Prop := s = 78 ∨ s = 82 ∨ s = 86 ∨ s = 90
theorem fT {P : Nat → Prop} {u : Nat} (h : pu_T u) (a : P 5) (b : P 37) : P u := by rcases h with h | h <;> (subst h; assumption)
theorem fS {P : Nat → Prop} {u : Nat} (h : pu_S u) (a : P 69) (b : P 71) (c : P 73) : P u := by rcases h with h | h | h <;> (subst h; assumption)
theorem fD {P : Nat → Prop} {u : Nat} (h : pu_D u) (a : P 82) (b : P 86) : P u := by rcases h with h | h <;> (subst h; assumption)
theorem fG {P : Nat → Prop} {u : Nat} (h : pu_G u) (a : P 78) (b : P 82) (c : P 86) (d : P 90) : P u := by rcases h with h | h | h | h <;> (subst h; assumption)
/-- t: the town that is -/
def pu_str (t : Nat) (M : ab_M) : Prop := M 999 0 = 132 ∧ (∀ k f, 0 ≤ pu_rv k f → M k f = pu_rv k f) ∧ pu_T t ∧ M 0 2 = (t : Int) ∧ M 0 3 = ((42 - t : Nat) : Int)
def pu_nr (k f : Nat) : Bool := decide (pu_rv k f < 0 ∧ k < 132 ∧ ¬ (k = 0 ∧ (f = 2 ∨ f = 3)))
def pu_na (k : Nat) : Bool := decide (pu_rvs.getD k [] = [] ∧ k < 132 ∧ k ≠ 0)
theorem str_w {t : Nat} {M : ab_M} {k f : Nat} {v : Int} (h : pu_str t M) (hk : pu_nr k f = true) : pu_str t (ab_w M k f v) := by
  obtain ⟨h0, h1, h2, h3, h4⟩ := h
  obtain ⟨q1, q2, q3⟩ := of_decide_eq_true hk
  refine ⟨?_, ?_, h2, ?_, ?_⟩
  · unfold ab_w; rw [if_neg (by omega)]; exact h0
  · intro a b hab
    unfold ab_w
    rw [if_neg (by rintro ⟨rfl, rfl⟩; omega)]
    exact h1 a b hab
  · unfold ab_w; rw [if_neg (by intro c; apply q3; omega)]; exact h3
  · unfold ab_w; rw [if_neg (by intro c; apply q3; omega)]; exact h4
theorem na_nr {k : Nat} (h : pu_na k = true) (f : Nat) : pu_nr k f = true := by
  obtain ⟨q1, q2, q3⟩ := of_decide_eq_true h
  apply decide_eq_true
  refine ⟨?_, q2, fun c => q3 c.1⟩
  unfold pu_rv
  rw [q1]
  show (-1 : Int) < 0
  decide
theorem str_a {t : Nat} {M : ab_M} {k f : Nat} {v : Int} (h : pu_str t M) (hk : pu_na k = true) : pu_str t (ab_w M k f v) := str_w h (na_nr hk f)
theorem str_c {t : Nat} {M : ab_M} {s k a b n : Nat} (h : pu_str t M) (hk : pu_na k = true) : pu_str t (ab_cpm M s k a b n) := by
  obtain ⟨h0, h1, h2, h3, h4⟩ := h
  obtain ⟨q1, q2, q3⟩ := of_decide_eq_true hk
  refine ⟨?_, ?_, h2, ?_, ?_⟩
  · unfold ab_cpm; rw [if_neg (by omega)]; exact h0
  · intro x y hab
    unfold ab_cpm
    rw [if_neg ?_]
    · exact h1 x y hab
    · rintro ⟨rfl, _⟩
      have := of_decide_eq_true (na_nr hk y)
      omega
  · unfold ab_cpm; rw [if_neg (by intro c; exact q3 c.1.symm)]; exact h3
  · unfold ab_cpm; rw [if_neg (by intro c; exact q3 c.1.symm)]; exact h4
theorem str_r {t : Nat} {M : ab_M} (h : pu_str t M) (k f : Nat) (j : Nat) (hj : pu_rv k f = (j : Int)) : M k f = (j : Int) := by
  rw [h.2.1 k f (by rw [hj]; omega), hj]
/-- rows of grids -/
theorem row_ar {b n w : Nat} {a : Int} (h : ∀ x, x < n → ab_arB 20 (b + x) w = true) (ha : 0 ≤ a ∧ a < n) : ab_arB 20 (b + a.toNat) w = true := h _ (by omega)
theorem row_na {b n : Nat} {a : Int} (h : ∀ x, x < n → pu_na (b + x) = true) (ha : 0 ≤ a ∧ a < n) : pu_na (b + a.toNat) = true := h _ (by omega)
theorem row_rf {t : Nat} {M : ab_M} {b n : Nat} {a : Int} (hS : pu_str t M) (h : ∀ x, x < n → pu_rv b x = ((b + 1 + x : Nat) : Int)) (ha : 0 ≤ a ∧ a < n) : M b a.toNat = ((b + 1 + a.toNat : Nat) : Int) := by
  rw [hS.2.1 b a.toNat (by rw [h _ (by omega)]; omega), h _ (by omega)]
theorem row_lt {b n : Nat} {a : Int} (hb : b + n < 900) (ha : 0 ≤ a ∧ a < n) : b + 1 + a.toNat < 1000 := by omega
def pu_bI (k f : Nat) (x : Int) : Bool := ab_obB k f x && decide (x ≠ 30) && decide (ab_fty (ab_kd k).1 f ≠ 2)
def pu_bJ (c : Nat) (k f : Nat) (x : Int) : Bool := ab_obB k f x && decide (x ≠ 30) && decide (ab_fty (ab_kd k).1 f = c)
noncomputable def pu_sts : Nat → Nat → ab_St → Option ab_St
  | 0, _, u => some u
  | n + 1, m, u => match ab_at m u.1 with
    | some e => if e.2.1 = 0 then (match ab_st1 e u.1 u.2.1 u.2.2.1 u.2.2.2 with
      | some v => pu_sts n m v
      | none => none) else none
    | none => none
section G
variable {d m pc : Nat} {ls : ab_L} {st : List ab_V} {M : ab_M} {Q : Option ab_V → ab_M → Prop} {t : Nat}
theorem wp_sts' : ∀ (n : Nat) (v u : ab_St), pu_sts n m v = some u → ab_wp d m u.1 u.2.1 u.2.2.1 u.2.2.2 Q → ab_wp d m v.1 v.2.1 v.2.2.1 v.2.2.2 Q
  | 0, v, u, h, k => by cases h; exact k
  | n + 1, v, u, h, k => by
    rw [pu_sts] at h
    cases hat : ab_at m v.1 with
    | none => rw [hat] at h; cases h
    | some e =>
      rw [hat] at h
      dsimp only at h
      split at h
      next h0 =>
        cases hs : ab_st1 e v.1 v.2.1 v.2.2.1 v.2.2.2 with
        | none => rw [hs] at h; cases h
        | some w =>
          rw [hs] at h
          exact wp_st hat h0 hs (wp_sts' n w u h k)
      next => cases h
theorem wp_sts (n : Nat) {u : ab_St} (h : pu_sts n m (pc, ls, st, M) = some u) (k : ab_wp d m u.1 u.2.1 u.2.2.1 u.2.2.2 Q) : ab_wp d m pc ls st M Q := wp_sts' n (pc, ls, st, M) u h k
theorem g_getI {f : Nat} {x : Int} {i k : Nat} (hat : ab_at m pc = some (.getfield i, 0, f, x)) (hS : pu_str t M) (hb : pu_bI k f x = true) (h : ab_wp d m (pc + 3) ls (.inl (M k f) :: st) M Q) : ab_wp d m pc ls (.inr (.inr k) :: st) M Q := by
  unfold pu_bI at hb
  simp only [Bool.and_eq_true, decide_eq_true_eq] at hb
  exact w_getI hat hS.1 hb.1.2 hb.1.1 hb.2 h
theorem g_getR {f : Nat} {x : Int} {i k j : Nat} (hat : ab_at m pc = some (.getfield i, 0, f, x)) (hS : pu_str t M) (hb : pu_bJ 2 k f x = true) (hj : M k f = (j : Int)) (hj2 : j < 1000) (h : ab_wp d m (pc + 3) ls (.inr (.inr j) :: st) M Q) : ab_wp d m pc ls (.inr (.inr k) :: st) M Q := by
  unfold pu_bJ at hb
  simp only [Bool.and_eq_true, decide_eq_true_eq] at hb
  exact w_getR hat hS.1 hb.1.2 hb.1.1 hb.2 hj hj2 h
theorem g_putI {f : Nat} {x v : Int} {i k : Nat} (hat : ab_at m pc = some (.putfield i, 0, f, x)) (hS : pu_str t M) (hb : pu_bJ 0 k f x = true) (h : ab_wp d m (pc + 3) ls st (ab_w M k f v) Q) : ab_wp d m pc ls (.inl v :: .inr (.inr k) :: st) M Q := by
  unfold pu_bJ at hb
  simp only [Bool.and_eq_true, decide_eq_true_eq] at hb
  exact w_putI hat hS.1 hb.1.1 hb.2 h
theorem g_putB {f : Nat} {x v : Int} {i k : Nat} (hat : ab_at m pc = some (.putfield i, 0, f, x)) (hS : pu_str t M) (hb : pu_bJ 1 k f x = true) (hv : v = 0 ∨ v = 1) (h : ab_wp d m (pc + 3) ls st (ab_w M k f v) Q) : ab_wp d m pc ls (.inl v :: .inr (.inr k) :: st) M Q := by
  unfold pu_bJ at hb
  simp only [Bool.and_eq_true, decide_eq_true_eq] at hb
  exact w_putB hat hS.1 hb.1.1 hb.2 hv h
theorem g_iald {k0 k n : Nat} {x i : Int} (hat : ab_at m pc = some (.iaload, 0, k0, x)) (hS : pu_str t M) (ha : ab_arB 20 k n = true) (h0 : 0 ≤ i ∧ i < n) (h : ab_wp d m (pc + 1) ls (.inl (M k i.toNat) :: st) M Q) : ab_wp d m pc ls (.inl i :: .inr (.inr k) :: st) M Q := w_ald hat (Or.inl ⟨rfl, rfl⟩) hS.1 ha h0 h
theorem g_bald {k0 k n : Nat} {x i : Int} (hat : ab_at m pc = some (.baload, 0, k0, x)) (hS : pu_str t M) (ha : ab_arB 21 k n = true) (h0 : 0 ≤ i ∧ i < n) (h : ab_wp d m (pc + 1) ls (.inl (M k i.toNat) :: st) M Q) : ab_wp d m pc ls (.inl i :: .inr (.inr k) :: st) M Q := w_ald hat (Or.inr (Or.inl ⟨rfl, rfl⟩)) hS.1 ha h0 h
theorem g_cald {k0 k n : Nat} {x i : Int} (hat : ab_at m pc = some (.caload, 0, k0, x)) (hS : pu_str t M) (ha : ab_arB 22 k n = true) (h0 : 0 ≤ i ∧ i < n) (h : ab_wp d m (pc + 1) ls (.inl (M k i.toNat) :: st) M Q) : ab_wp d m pc ls (.inl i :: .inr (.inr k) :: st) M Q := w_ald hat (Or.inr (Or.inr ⟨rfl, rfl⟩)) hS.1 ha h0 h
theorem g_aald {k0 k n j : Nat} {x i : Int} (hat : ab_at m pc = some (.aaload, 0, k0, x)) (hS : pu_str t M) (ha : ab_arB 24 k n = true) (h0 : 0 ≤ i ∧ i < n) (hj : M k i.toNat = (j : Int)) (hj2 : j < 1000) (h : ab_wp d m (pc + 1) ls (.inr (.inr j) :: st) M Q) : ab_wp d m pc ls (.inl i :: .inr (.inr k) :: st) M Q := w_aald hat hS.1 ha h0 hj hj2 h
theorem g_iast {k0 k n : Nat} {x i v : Int} (hat : ab_at m pc = some (.iastore, 0, k0, x)) (hS : pu_str t M) (ha : ab_arB 20 k n = true) (h0 : 0 ≤ i ∧ i < n) (h : ab_wp d m (pc + 1) ls st (ab_w M k i.toNat v) Q) : ab_wp d m pc ls (.inl v :: .inl i :: .inr (.inr k) :: st) M Q := w_ast hat (Or.inl ⟨rfl, rfl⟩) hS.1 ha h0 (by intro q; omega) (by intro q; omega) h
theorem g_bast {k0 k n : Nat} {x i v : Int} (hat : ab_at m pc = some (.bastore, 0, k0, x)) (hS : pu_str t M) (ha : ab_arB 21 k n = true) (h0 : 0 ≤ i ∧ i < n) (hv : v = 0 ∨ v = 1) (h : ab_wp d m (pc + 1) ls st (ab_w M k i.toNat v) Q) : ab_wp d m pc ls (.inl v :: .inl i :: .inr (.inr k) :: st) M Q := w_ast hat (Or.inr (Or.inl ⟨rfl, rfl⟩)) hS.1 ha h0 (fun _ => hv) (by intro q; omega) h
theorem g_cast {k0 k n : Nat} {x i v : Int} (hat : ab_at m pc = some (.castore, 0, k0, x)) (hS : pu_str t M) (ha : ab_arB 22 k n = true) (h0 : 0 ≤ i ∧ i < n) (hv : 0 ≤ v ∧ v < 65536) (h : ab_wp d m (pc + 1) ls st (ab_w M k i.toNat v) Q) : ab_wp d m pc ls (.inl v :: .inl i :: .inr (.inr k) :: st) M Q := w_ast hat (Or.inr (Or.inr ⟨rfl, rfl⟩)) hS.1 ha h0 (by intro q; omega) (fun _ => hv) h
theorem g_call {e : ab_E} {q : Nat × (List ab_V × List ab_V)} {r : Option ab_V} {M1 : ab_M} (hat : ab_at m pc = some e) (hk : e.2.1 = 1) (hS : pu_str t M) (hd : 1 ≤ d) (hq : ab_argsN e st = some q) (hev : ab_ev (d - 1) q.1 q.2.1 M r M1) (h : ab_wp d m (pc + 3) ls (r.toList ++ q.2.2) M1 Q) : ab_wp d m pc ls st M Q := by
  obtain ⟨j, rfl⟩ : ∃ j, d = j + 1 := ⟨d - 1, by omega⟩
  exact w_call hat hk hS.1 hq hev h
theorem c2_lt {k : Nat} {x a b : Int} {off : Int} (hat : ab_at m pc = some (.if_icmp .lt off, 0, k, x)) (ht : a < b → ab_wp d m k ls st M Q) (hf : b ≤ a → ab_wp d m (pc + 3) ls st M Q) : ab_wp d m pc ls (.inl b :: .inl a :: st) M Q :=
  w_if2 hat (fun q => ht (of_decide_eq_true q)) (fun q => hf (by have := of_decide_eq_false q; omega))
theorem c1_lt {k : Nat} {x a : Int} {off : Int} (hat : ab_at m pc = some (.ifCond .lt off, 0, k, x)) (ht : a < 0 → ab_wp d m k ls st M Q) (hf : 0 ≤ a → ab_wp d m (pc + 3) ls st M Q) : ab_wp d m pc ls (.inl a :: st) M Q :=
  w_if1 hat (fun q => ht (of_decide_eq_true q)) (fun q => hf (by have := of_decide_eq_false q; omega))
theorem c2_ge {k : Nat} {x a b : Int} {off : Int} (hat : ab_at m pc = some (.if_icmp .ge off, 0, k, x)) (ht : b ≤ a → ab_wp d m k ls st M Q) (hf : a < b → ab_wp d m (pc + 3) ls st M Q) : ab_wp d m pc ls (.inl b :: .inl a :: st) M Q :=
  w_if2 hat (fun q => ht (of_decide_eq_true q)) (fun q => hf (by have := of_decide_eq_false q; omega))
theorem c1_ge {k : Nat} {x a : Int} {off : Int} (hat : ab_at m pc = some (.ifCond .ge off, 0, k, x)) (ht : 0 ≤ a → ab_wp d m k ls st M Q) (hf : a < 0 → ab_wp d m (pc + 3) ls st M Q) : ab_wp d m pc ls (.inl a :: st) M Q :=
  w_if1 hat (fun q => ht (of_decide_eq_true q)) (fun q => hf (by have := of_decide_eq_false q; omega))
theorem c2_gt {k : Nat} {x a b : Int} {off : Int} (hat : ab_at m pc = some (.if_icmp .gt off, 0, k, x)) (ht : b < a → ab_wp d m k ls st M Q) (hf : a ≤ b → ab_wp d m (pc + 3) ls st M Q) : ab_wp d m pc ls (.inl b :: .inl a :: st) M Q :=
  w_if2 hat (fun q => ht (of_decide_eq_true q)) (fun q => hf (by have := of_decide_eq_false q; omega))
theorem c1_gt {k : Nat} {x a : Int} {off : Int} (hat : ab_at m pc = some (.ifCond .gt off, 0, k, x)) (ht : 0 < a → ab_wp d m k ls st M Q) (hf : a ≤ 0 → ab_wp d m (pc + 3) ls st M Q) : ab_wp d m pc ls (.inl a :: st) M Q :=
  w_if1 hat (fun q => ht (of_decide_eq_true q)) (fun q => hf (by have := of_decide_eq_false q; omega))
theorem c2_le {k : Nat} {x a b : Int} {off : Int} (hat : ab_at m pc = some (.if_icmp .le off, 0, k, x)) (ht : a ≤ b → ab_wp d m k ls st M Q) (hf : b < a → ab_wp d m (pc + 3) ls st M Q) : ab_wp d m pc ls (.inl b :: .inl a :: st) M Q :=
  w_if2 hat (fun q => ht (of_decide_eq_true q)) (fun q => hf (by have := of_decide_eq_false q; omega))
theorem c1_le {k : Nat} {x a : Int} {off : Int} (hat : ab_at m pc = some (.ifCond .le off, 0, k, x)) (ht : a ≤ 0 → ab_wp d m k ls st M Q) (hf : 0 < a → ab_wp d m (pc + 3) ls st M Q) : ab_wp d m pc ls (.inl a :: st) M Q :=
  w_if1 hat (fun q => ht (of_decide_eq_true q)) (fun q => hf (by have := of_decide_eq_false q; omega))
theorem c2_eq {k : Nat} {x a b : Int} {off : Int} (hat : ab_at m pc = some (.if_icmp .eq off, 0, k, x)) (ht : a = b → ab_wp d m k ls st M Q) (hf : a ≠ b → ab_wp d m (pc + 3) ls st M Q) : ab_wp d m pc ls (.inl b :: .inl a :: st) M Q :=
  w_if2 hat (fun q => ht (of_decide_eq_true q)) (fun q => hf (by have := of_decide_eq_false q; omega))
theorem c1_eq {k : Nat} {x a : Int} {off : Int} (hat : ab_at m pc = some (.ifCond .eq off, 0, k, x)) (ht : a = 0 → ab_wp d m k ls st M Q) (hf : a ≠ 0 → ab_wp d m (pc + 3) ls st M Q) : ab_wp d m pc ls (.inl a :: st) M Q :=
  w_if1 hat (fun q => ht (of_decide_eq_true q)) (fun q => hf (by have := of_decide_eq_false q; omega))
theorem c2_ne {k : Nat} {x a b : Int} {off : Int} (hat : ab_at m pc = some (.if_icmp .ne off, 0, k, x)) (ht : a ≠ b → ab_wp d m k ls st M Q) (hf : a = b → ab_wp d m (pc + 3) ls st M Q) : ab_wp d m pc ls (.inl b :: .inl a :: st) M Q :=
  w_if2 hat (fun q => ht (of_decide_eq_true q)) (fun q => hf (by have := of_decide_eq_false q; omega))
theorem c1_ne {k : Nat} {x a : Int} {off : Int} (hat : ab_at m pc = some (.ifCond .ne off, 0, k, x)) (ht : a ≠ 0 → ab_wp d m k ls st M Q) (hf : a = 0 → ab_wp d m (pc + 3) ls st M Q) : ab_wp d m pc ls (.inl a :: st) M Q :=
  w_if1 hat (fun q => ht (of_decide_eq_true q)) (fun q => hf (by have := of_decide_eq_false q; omega))
def pu_swB (pc : Nat) (lo hi : Int) (offs : Array Int) (tg : List (Int × Nat)) : Bool := decide ((tg.length : Int) = hi - lo + 1) && decide (offs.toList.map (fun o => (pc : Int) + o) = tg.map (fun p => ((p.2 : Nat) : Int))) && decide (tg.map (fun p => p.1) = (List.range tg.length).map (fun (i : Nat) => lo + (i : Int)))
def pu_swA (x : Int) (P : Nat → Prop) : List (Int × Nat) → Prop
  | [] => True
  | p :: r => (x = p.1 → P p.2) ∧ pu_swA x P r
theorem pu_swA_get (x : Int) (P : Nat → Prop) : ∀ (l : List (Int × Nat)) (i : Nat) (p : Int × Nat), pu_swA x P l → l[i]? = some p → x = p.1 → P p.2
  | [], i, p, _, h, _ => by simp at h
  | a :: r, 0, p, h, hg, hx => by
    simp at hg
    subst hg
    exact h.1 hx
  | a :: r, i + 1, p, h, hg, hx => pu_swA_get x P r i p h.2 (by simpa using hg) hx
theorem w_sw {dflt lo hi : Int} {offs : Array Int} {k : Nat} {x0 x : Int} {tg : List (Int × Nat)} (hat : ab_at m pc = some (.tableswitch dflt lo hi offs, 0, k, x0)) (hB : pu_swB pc lo hi offs tg = true) (hd : x < lo ∨ hi < x → ab_wp d m k ls st M Q) (hc : pu_swA x (fun p => ab_wp d m p ls st M Q) tg) : ab_wp d m pc ls (.inl x :: st) M Q := by
  by_cases ho : x < lo ∨ hi < x
  · exact wp_st hat rfl (u := (k, ls, st, M)) (by show ab_sw pc k lo hi offs ls (.inl x :: st) M = _; unfold ab_sw; dsimp only; rw [if_pos ho]) (hd ho)
  · unfold pu_swB at hB
    simp only [Bool.and_eq_true, decide_eq_true_eq] at hB
    obtain ⟨⟨b1, b2⟩, b3⟩ := hB
    have hi' : (x - lo).toNat < tg.length := by omega
    have hp : tg[(x - lo).toNat]? = some (tg[(x - lo).toNat]'hi') := List.getElem?_eq_getElem hi'
    have e3 := congrArg (fun l => l[(x - lo).toNat]?) b3
    have e2 := congrArg (fun l => l[(x - lo).toNat]?) b2
    simp only [List.getElem?_map, hp, Option.map_some] at e3 e2
    rw [List.getElem?_range hi'] at e3
    simp only [Option.map_some, Option.some.injEq] at e3
    cases ho2 : offs.toList[(x - lo).toNat]? with
    | none => rw [ho2] at e2; cases e2
    | some off =>
      rw [ho2] at e2
      simp only [Option.map_some, Option.some.injEq] at e2
      have h4 := pu_swA_get x _ tg _ _ hc hp (by rw [e3]; omega)
      refine wp_st hat rfl (u := ((tg[(x - lo).toNat]'hi').2, ls, st, M)) ?_ h4
      show ab_sw pc k lo hi offs ls (.inl x :: st) M = _
      unfold ab_sw
      dsimp only
      rw [if_neg ho, ← Array.getElem?_toList, ho2]
      dsimp only
      rw [e2, if_pos (by omega)]
      rfl
end G
end

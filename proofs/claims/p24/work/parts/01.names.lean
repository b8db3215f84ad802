/-- a private method of a class that the tables say can be made, by its rows of tables_1 -/
def lw_okq (q : MethodName × Nat) : Prop := (q.1.cls ≠ "java/lang/invoke/MethodHandle" ∧ q.1.cls ≠ "java/lang/invoke/VarHandle") ∧ Cond.instantiable q.1.cls q.2 ∈ tables_1 ∧ Cond.privateMethod q.1 ∈ tables_1 ∧ Cond.instanceMethod q.1 ∈ tables_1
theorem lw_p0 : lw_okq (⟨"MapleLines$Tubes", "settleVacuum", "()V"⟩, 9) := ⟨⟨by decide +kernel, by decide +kernel⟩, List.mem_of_getElem? (i := 29) (by decide +kernel), List.mem_of_getElem? (i := 428) (by decide +kernel), List.mem_of_getElem? (i := 429) (by decide +kernel)⟩
theorem lw_p1 : lw_okq (⟨"MapleLines$Tubes", "suspectBy", "(I)I"⟩, 9) := ⟨⟨by decide +kernel, by decide +kernel⟩, List.mem_of_getElem? (i := 29) (by decide +kernel), List.mem_of_getElem? (i := 467) (by decide +kernel), List.mem_of_getElem? (i := 468) (by decide +kernel)⟩
theorem lw_p2 : lw_okq (⟨"MapleLines$Tubes", "readingAhead", "(I)I"⟩, 9) := ⟨⟨by decide +kernel, by decide +kernel⟩, List.mem_of_getElem? (i := 29) (by decide +kernel), List.mem_of_getElem? (i := 471) (by decide +kernel), List.mem_of_getElem? (i := 472) (by decide +kernel)⟩
theorem lw_p3 : lw_okq (⟨"MapleLines", "gatherSap", "(I)I"⟩, 14) := ⟨⟨by decide +kernel, by decide +kernel⟩, List.mem_of_getElem? (i := 21) (by decide +kernel), List.mem_of_getElem? (i := 507) (by decide +kernel), List.mem_of_getElem? (i := 508) (by decide +kernel)⟩
theorem lw_p4 : lw_okq (⟨"MapleLines$Grove", "hasHole", "(I)Z"⟩, 8) := ⟨⟨by decide +kernel, by decide +kernel⟩, List.mem_of_getElem? (i := 66) (by decide +kernel), List.mem_of_getElem? (i := 515) (by decide +kernel), List.mem_of_getElem? (i := 516) (by decide +kernel)⟩
theorem lw_p5 : lw_okq (⟨"MapleLines", "gatherFrom", "(II)I"⟩, 14) := ⟨⟨by decide +kernel, by decide +kernel⟩, List.mem_of_getElem? (i := 21) (by decide +kernel), List.mem_of_getElem? (i := 523) (by decide +kernel), List.mem_of_getElem? (i := 524) (by decide +kernel)⟩
theorem lw_p6 : lw_okq (⟨"MapleLines$Past", "inLowestTerms", "(II)I"⟩, 2) := ⟨⟨by decide +kernel, by decide +kernel⟩, List.mem_of_getElem? (i := 121) (by decide +kernel), List.mem_of_getElem? (i := 599) (by decide +kernel), List.mem_of_getElem? (i := 600) (by decide +kernel)⟩
theorem lw_p7 : lw_okq (⟨"MapleLines", "passMinute", "()V"⟩, 14) := ⟨⟨by decide +kernel, by decide +kernel⟩, List.mem_of_getElem? (i := 21) (by decide +kernel), List.mem_of_getElem? (i := 640) (by decide +kernel), List.mem_of_getElem? (i := 641) (by decide +kernel)⟩
theorem lw_p8 : lw_okq (⟨"MapleLines", "gatherPanFacts", "()V"⟩, 14) := ⟨⟨by decide +kernel, by decide +kernel⟩, List.mem_of_getElem? (i := 21) (by decide +kernel), List.mem_of_getElem? (i := 644) (by decide +kernel), List.mem_of_getElem? (i := 645) (by decide +kernel)⟩
theorem lw_p9 : lw_okq (⟨"MapleLines$RuleBook", "allHold", "(I[I)Z"⟩, 7) := ⟨⟨by decide +kernel, by decide +kernel⟩, List.mem_of_getElem? (i := 274) (by decide +kernel), List.mem_of_getElem? (i := 657) (by decide +kernel), List.mem_of_getElem? (i := 658) (by decide +kernel)⟩
theorem lw_p10 : lw_okq (⟨"MapleLines$RuleBook", "has", "(I)Z"⟩, 7) := ⟨⟨by decide +kernel, by decide +kernel⟩, List.mem_of_getElem? (i := 274) (by decide +kernel), List.mem_of_getElem? (i := 668) (by decide +kernel), List.mem_of_getElem? (i := 669) (by decide +kernel)⟩
theorem lw_p11 : lw_okq (⟨"MapleLines", "drawBatch", "()Z"⟩, 14) := ⟨⟨by decide +kernel, by decide +kernel⟩, List.mem_of_getElem? (i := 21) (by decide +kernel), List.mem_of_getElem? (i := 672) (by decide +kernel), List.mem_of_getElem? (i := 673) (by decide +kernel)⟩
theorem lw_p12 : lw_okq (⟨"MapleLines", "gradeOf", "(I)I"⟩, 14) := ⟨⟨by decide +kernel, by decide +kernel⟩, List.mem_of_getElem? (i := 21) (by decide +kernel), List.mem_of_getElem? (i := 722) (by decide +kernel), List.mem_of_getElem? (i := 723) (by decide +kernel)⟩
theorem lw_p13 : lw_okq (⟨"MapleLines", "gradeByLook", "(II)I"⟩, 14) := ⟨⟨by decide +kernel, by decide +kernel⟩, List.mem_of_getElem? (i := 21) (by decide +kernel), List.mem_of_getElem? (i := 730) (by decide +kernel), List.mem_of_getElem? (i := 731) (by decide +kernel)⟩
theorem lw_p14 : lw_okq (⟨"MapleLines", "sellAllOf", "(I)I"⟩, 14) := ⟨⟨by decide +kernel, by decide +kernel⟩, List.mem_of_getElem? (i := 21) (by decide +kernel), List.mem_of_getElem? (i := 759) (by decide +kernel), List.mem_of_getElem? (i := 760) (by decide +kernel)⟩
theorem lw_p15 : lw_okq (⟨"MapleLines$Cooperative", "greatestRemainder", "()I"⟩, 3) := ⟨⟨by decide +kernel, by decide +kernel⟩, List.mem_of_getElem? (i := 214) (by decide +kernel), List.mem_of_getElem? (i := 776) (by decide +kernel), List.mem_of_getElem? (i := 777) (by decide +kernel)⟩
def lw_privs_1 : List (MethodName × Nat) := [(⟨"MapleLines$Tubes", "settleVacuum", "()V"⟩, 9), (⟨"MapleLines$Tubes", "suspectBy", "(I)I"⟩, 9), (⟨"MapleLines$Tubes", "readingAhead", "(I)I"⟩, 9), (⟨"MapleLines", "gatherSap", "(I)I"⟩, 14), (⟨"MapleLines$Grove", "hasHole", "(I)Z"⟩, 8), (⟨"MapleLines", "gatherFrom", "(II)I"⟩, 14), (⟨"MapleLines$Past", "inLowestTerms", "(II)I"⟩, 2), (⟨"MapleLines", "passMinute", "()V"⟩, 14), (⟨"MapleLines", "gatherPanFacts", "()V"⟩, 14), (⟨"MapleLines$RuleBook", "allHold", "(I[I)Z"⟩, 7), (⟨"MapleLines$RuleBook", "has", "(I)Z"⟩, 7), (⟨"MapleLines", "drawBatch", "()Z"⟩, 14), (⟨"MapleLines", "gradeOf", "(I)I"⟩, 14), (⟨"MapleLines", "gradeByLook", "(II)I"⟩, 14), (⟨"MapleLines", "sellAllOf", "(I)I"⟩, 14), (⟨"MapleLines$Cooperative", "greatestRemainder", "()I"⟩, 3)]
theorem lw_r1 : ∀ q ∈ lw_privs_1, lw_okq q := List.forall_mem_cons.mpr ⟨lw_p0, List.forall_mem_cons.mpr ⟨lw_p1, List.forall_mem_cons.mpr ⟨lw_p2, List.forall_mem_cons.mpr ⟨lw_p3, List.forall_mem_cons.mpr ⟨lw_p4, List.forall_mem_cons.mpr ⟨lw_p5, List.forall_mem_cons.mpr ⟨lw_p6, List.forall_mem_cons.mpr ⟨lw_p7, List.forall_mem_cons.mpr ⟨lw_p8, List.forall_mem_cons.mpr ⟨lw_p9, List.forall_mem_cons.mpr ⟨lw_p10, List.forall_mem_cons.mpr ⟨lw_p11, List.forall_mem_cons.mpr ⟨lw_p12, List.forall_mem_cons.mpr ⟨lw_p13, List.forall_mem_cons.mpr ⟨lw_p14, List.forall_mem_cons.mpr ⟨lw_p15, fun _ h => absurd h List.not_mem_nil⟩⟩⟩⟩⟩⟩⟩⟩⟩⟩⟩⟩⟩⟩⟩⟩
theorem lw_p16 : lw_okq (⟨"MapleLines$Tape", "beginsToken", "(I)Z"⟩, 6) := ⟨⟨by decide +kernel, by decide +kernel⟩, List.mem_of_getElem? (i := 231) (by decide +kernel), List.mem_of_getElem? (i := 815) (by decide +kernel), List.mem_of_getElem? (i := 816) (by decide +kernel)⟩
theorem lw_p17 : lw_okq (⟨"MapleLines$Tape", "kindAt", "(I)I"⟩, 6) := ⟨⟨by decide +kernel, by decide +kernel⟩, List.mem_of_getElem? (i := 231) (by decide +kernel), List.mem_of_getElem? (i := 819) (by decide +kernel), List.mem_of_getElem? (i := 820) (by decide +kernel)⟩
theorem lw_p18 : lw_okq (⟨"MapleLines$Tape", "codeAt", "(I)I"⟩, 6) := ⟨⟨by decide +kernel, by decide +kernel⟩, List.mem_of_getElem? (i := 231) (by decide +kernel), List.mem_of_getElem? (i := 823) (by decide +kernel), List.mem_of_getElem? (i := 824) (by decide +kernel)⟩
theorem lw_p19 : lw_okq (⟨"MapleLines$Tape", "codeOfWord", "(I)I"⟩, 6) := ⟨⟨by decide +kernel, by decide +kernel⟩, List.mem_of_getElem? (i := 231) (by decide +kernel), List.mem_of_getElem? (i := 827) (by decide +kernel), List.mem_of_getElem? (i := 828) (by decide +kernel)⟩
theorem lw_p20 : lw_okq (⟨"MapleLines$Tape", "isSpeltAt", "(ILjava/lang/String;)Z"⟩, 6) := ⟨⟨by decide +kernel, by decide +kernel⟩, List.mem_of_getElem? (i := 231) (by decide +kernel), List.mem_of_getElem? (i := 847) (by decide +kernel), List.mem_of_getElem? (i := 848) (by decide +kernel)⟩
theorem lw_p21 : lw_okq (⟨"MapleLines$Tape", "codeOfNumber", "(I)I"⟩, 6) := ⟨⟨by decide +kernel, by decide +kernel⟩, List.mem_of_getElem? (i := 231) (by decide +kernel), List.mem_of_getElem? (i := 899) (by decide +kernel), List.mem_of_getElem? (i := 900) (by decide +kernel)⟩
theorem lw_p22 : lw_okq (⟨"MapleLines$Tape", "codeOfSign", "(I)I"⟩, 6) := ⟨⟨by decide +kernel, by decide +kernel⟩, List.mem_of_getElem? (i := 231) (by decide +kernel), List.mem_of_getElem? (i := 903) (by decide +kernel), List.mem_of_getElem? (i := 904) (by decide +kernel)⟩
theorem lw_p23 : lw_okq (⟨"MapleLines$RuleReader", "readStatement", "(LMapleLines$RuleBook;)Z"⟩, 3) := ⟨⟨by decide +kernel, by decide +kernel⟩, List.mem_of_getElem? (i := 258) (by decide +kernel), List.mem_of_getElem? (i := 916) (by decide +kernel), List.mem_of_getElem? (i := 917) (by decide +kernel)⟩
theorem lw_p24 : lw_okq (⟨"MapleLines$RuleReader", "take", "(I)Z"⟩, 3) := ⟨⟨by decide +kernel, by decide +kernel⟩, List.mem_of_getElem? (i := 258) (by decide +kernel), List.mem_of_getElem? (i := 920) (by decide +kernel), List.mem_of_getElem? (i := 921) (by decide +kernel)⟩
theorem lw_p25 : lw_okq (⟨"MapleLines$RuleReader", "readDeedNumber", "(IILMapleLines$RuleBook;)Z"⟩, 3) := ⟨⟨by decide +kernel, by decide +kernel⟩, List.mem_of_getElem? (i := 258) (by decide +kernel), List.mem_of_getElem? (i := 928) (by decide +kernel), List.mem_of_getElem? (i := 929) (by decide +kernel)⟩
theorem lw_p26 : lw_okq (⟨"MapleLines$RuleReader", "takeNumber", "(I)Z"⟩, 3) := ⟨⟨by decide +kernel, by decide +kernel⟩, List.mem_of_getElem? (i := 258) (by decide +kernel), List.mem_of_getElem? (i := 932) (by decide +kernel), List.mem_of_getElem? (i := 933) (by decide +kernel)⟩
theorem lw_p27 : lw_okq (⟨"MapleLines$RuleReader", "readTests", "(LMapleLines$RuleBook;)Z"⟩, 3) := ⟨⟨by decide +kernel, by decide +kernel⟩, List.mem_of_getElem? (i := 258) (by decide +kernel), List.mem_of_getElem? (i := 941) (by decide +kernel), List.mem_of_getElem? (i := 942) (by decide +kernel)⟩
theorem lw_p28 : lw_okq (⟨"MapleLines$RuleReader", "readTest", "(LMapleLines$RuleBook;)Z"⟩, 3) := ⟨⟨by decide +kernel, by decide +kernel⟩, List.mem_of_getElem? (i := 258) (by decide +kernel), List.mem_of_getElem? (i := 945) (by decide +kernel), List.mem_of_getElem? (i := 946) (by decide +kernel)⟩
theorem lw_p29 : lw_okq (⟨"MapleLines$RuleReader", "readDeed", "(LMapleLines$RuleBook;)Z"⟩, 3) := ⟨⟨by decide +kernel, by decide +kernel⟩, List.mem_of_getElem? (i := 258) (by decide +kernel), List.mem_of_getElem? (i := 953) (by decide +kernel), List.mem_of_getElem? (i := 954) (by decide +kernel)⟩
theorem lw_p30 : lw_okq (⟨"MapleLinesModel", "isNode", "(I)Z"⟩, 66) := ⟨⟨by decide +kernel, by decide +kernel⟩, List.mem_of_getElem? (i := 982) (by decide +kernel), List.mem_of_getElem? (i := 1198) (by decide +kernel), List.mem_of_getElem? (i := 1199) (by decide +kernel)⟩
theorem lw_p31 : lw_okq (⟨"MapleLinesModel", "runs", "(I)Z"⟩, 66) := ⟨⟨by decide +kernel, by decide +kernel⟩, List.mem_of_getElem? (i := 982) (by decide +kernel), List.mem_of_getElem? (i := 1214) (by decide +kernel), List.mem_of_getElem? (i := 1215) (by decide +kernel)⟩
def lw_privs_2 : List (MethodName × Nat) := [(⟨"MapleLines$Tape", "beginsToken", "(I)Z"⟩, 6), (⟨"MapleLines$Tape", "kindAt", "(I)I"⟩, 6), (⟨"MapleLines$Tape", "codeAt", "(I)I"⟩, 6), (⟨"MapleLines$Tape", "codeOfWord", "(I)I"⟩, 6), (⟨"MapleLines$Tape", "isSpeltAt", "(ILjava/lang/String;)Z"⟩, 6), (⟨"MapleLines$Tape", "codeOfNumber", "(I)I"⟩, 6), (⟨"MapleLines$Tape", "codeOfSign", "(I)I"⟩, 6), (⟨"MapleLines$RuleReader", "readStatement", "(LMapleLines$RuleBook;)Z"⟩, 3), (⟨"MapleLines$RuleReader", "take", "(I)Z"⟩, 3), (⟨"MapleLines$RuleReader", "readDeedNumber", "(IILMapleLines$RuleBook;)Z"⟩, 3), (⟨"MapleLines$RuleReader", "takeNumber", "(I)Z"⟩, 3), (⟨"MapleLines$RuleReader", "readTests", "(LMapleLines$RuleBook;)Z"⟩, 3), (⟨"MapleLines$RuleReader", "readTest", "(LMapleLines$RuleBook;)Z"⟩, 3), (⟨"MapleLines$RuleReader", "readDeed", "(LMapleLines$RuleBook;)Z"⟩, 3), (⟨"MapleLinesModel", "isNode", "(I)Z"⟩, 66), (⟨"MapleLinesModel", "runs", "(I)Z"⟩, 66)]
theorem lw_r2 : ∀ q ∈ lw_privs_2, lw_okq q := List.forall_mem_cons.mpr ⟨lw_p16, List.forall_mem_cons.mpr ⟨lw_p17, List.forall_mem_cons.mpr ⟨lw_p18, List.forall_mem_cons.mpr ⟨lw_p19, List.forall_mem_cons.mpr ⟨lw_p20, List.forall_mem_cons.mpr ⟨lw_p21, List.forall_mem_cons.mpr ⟨lw_p22, List.forall_mem_cons.mpr ⟨lw_p23, List.forall_mem_cons.mpr ⟨lw_p24, List.forall_mem_cons.mpr ⟨lw_p25, List.forall_mem_cons.mpr ⟨lw_p26, List.forall_mem_cons.mpr ⟨lw_p27, List.forall_mem_cons.mpr ⟨lw_p28, List.forall_mem_cons.mpr ⟨lw_p29, List.forall_mem_cons.mpr ⟨lw_p30, List.forall_mem_cons.mpr ⟨lw_p31, fun _ h => absurd h List.not_mem_nil⟩⟩⟩⟩⟩⟩⟩⟩⟩⟩⟩⟩⟩⟩⟩⟩
theorem lw_p32 : lw_okq (⟨"MapleLinesModel", "vacuumAt", "(I)I"⟩, 66) := ⟨⟨by decide +kernel, by decide +kernel⟩, List.mem_of_getElem? (i := 982) (by decide +kernel), List.mem_of_getElem? (i := 1221) (by decide +kernel), List.mem_of_getElem? (i := 1222) (by decide +kernel)⟩
theorem lw_p33 : lw_okq (⟨"MapleLinesModel", "suspect", "(I)I"⟩, 66) := ⟨⟨by decide +kernel, by decide +kernel⟩, List.mem_of_getElem? (i := 982) (by decide +kernel), List.mem_of_getElem? (i := 1226) (by decide +kernel), List.mem_of_getElem? (i := 1227) (by decide +kernel)⟩
theorem lw_p34 : lw_okq (⟨"MapleLinesModel", "isTree", "(I)Z"⟩, 66) := ⟨⟨by decide +kernel, by decide +kernel⟩, List.mem_of_getElem? (i := 982) (by decide +kernel), List.mem_of_getElem? (i := 1238) (by decide +kernel), List.mem_of_getElem? (i := 1239) (by decide +kernel)⟩
theorem lw_p35 : lw_okq (⟨"MapleLinesModel", "holesOf", "(II)I"⟩, 66) := ⟨⟨by decide +kernel, by decide +kernel⟩, List.mem_of_getElem? (i := 982) (by decide +kernel), List.mem_of_getElem? (i := 1242) (by decide +kernel), List.mem_of_getElem? (i := 1243) (by decide +kernel)⟩
theorem lw_p36 : lw_okq (⟨"MapleLinesModel", "mayHave", "(I)I"⟩, 66) := ⟨⟨by decide +kernel, by decide +kernel⟩, List.mem_of_getElem? (i := 982) (by decide +kernel), List.mem_of_getElem? (i := 1246) (by decide +kernel), List.mem_of_getElem? (i := 1247) (by decide +kernel)⟩
theorem lw_p37 : lw_okq (⟨"MapleLinesModel", "emptyPan", "()V"⟩, 66) := ⟨⟨by decide +kernel, by decide +kernel⟩, List.mem_of_getElem? (i := 982) (by decide +kernel), List.mem_of_getElem? (i := 1270) (by decide +kernel), List.mem_of_getElem? (i := 1271) (by decide +kernel)⟩
theorem lw_p38 : lw_okq (⟨"MapleLinesModel", "minute", "()V"⟩, 66) := ⟨⟨by decide +kernel, by decide +kernel⟩, List.mem_of_getElem? (i := 982) (by decide +kernel), List.mem_of_getElem? (i := 1299) (by decide +kernel), List.mem_of_getElem? (i := 1300) (by decide +kernel)⟩
theorem lw_p39 : lw_okq (⟨"MapleLinesModel", "firstRule", "(ZII)I"⟩, 66) := ⟨⟨by decide +kernel, by decide +kernel⟩, List.mem_of_getElem? (i := 982) (by decide +kernel), List.mem_of_getElem? (i := 1303) (by decide +kernel), List.mem_of_getElem? (i := 1304) (by decide +kernel)⟩
theorem lw_p40 : lw_okq (⟨"MapleLinesModel", "strength", "()I"⟩, 66) := ⟨⟨by decide +kernel, by decide +kernel⟩, List.mem_of_getElem? (i := 982) (by decide +kernel), List.mem_of_getElem? (i := 1307) (by decide +kernel), List.mem_of_getElem? (i := 1308) (by decide +kernel)⟩
theorem lw_p41 : lw_okq (⟨"MapleLinesModel", "isBatch", "(I)Z"⟩, 66) := ⟨⟨by decide +kernel, by decide +kernel⟩, List.mem_of_getElem? (i := 982) (by decide +kernel), List.mem_of_getElem? (i := 1320) (by decide +kernel), List.mem_of_getElem? (i := 1321) (by decide +kernel)⟩
theorem lw_p42 : lw_okq (⟨"MapleLinesModel", "gradeOf", "(I)I"⟩, 66) := ⟨⟨by decide +kernel, by decide +kernel⟩, List.mem_of_getElem? (i := 982) (by decide +kernel), List.mem_of_getElem? (i := 1328) (by decide +kernel), List.mem_of_getElem? (i := 1329) (by decide +kernel)⟩
theorem lw_p43 : lw_okq (⟨"MapleLinesModel", "gradeBy", "(II)I"⟩, 66) := ⟨⟨by decide +kernel, by decide +kernel⟩, List.mem_of_getElem? (i := 982) (by decide +kernel), List.mem_of_getElem? (i := 1332) (by decide +kernel), List.mem_of_getElem? (i := 1333) (by decide +kernel)⟩
theorem lw_p44 : lw_okq (⟨"MapleLinesModel", "four", "(I)V"⟩, 66) := ⟨⟨by decide +kernel, by decide +kernel⟩, List.mem_of_getElem? (i := 982) (by decide +kernel), List.mem_of_getElem? (i := 1348) (by decide +kernel), List.mem_of_getElem? (i := 1349) (by decide +kernel)⟩
theorem lw_p45 : lw_okq (⟨"MapleLinesModel", "blanks", "()V"⟩, 66) := ⟨⟨by decide +kernel, by decide +kernel⟩, List.mem_of_getElem? (i := 982) (by decide +kernel), List.mem_of_getElem? (i := 1356) (by decide +kernel), List.mem_of_getElem? (i := 1357) (by decide +kernel)⟩
theorem lw_p46 : lw_okq (⟨"MapleLinesModel", "statement", "()Z"⟩, 66) := ⟨⟨by decide +kernel, by decide +kernel⟩, List.mem_of_getElem? (i := 982) (by decide +kernel), List.mem_of_getElem? (i := 1360) (by decide +kernel), List.mem_of_getElem? (i := 1361) (by decide +kernel)⟩
theorem lw_p47 : lw_okq (⟨"MapleLinesModel", "takes", "(J)Z"⟩, 66) := ⟨⟨by decide +kernel, by decide +kernel⟩, List.mem_of_getElem? (i := 982) (by decide +kernel), List.mem_of_getElem? (i := 1365) (by decide +kernel), List.mem_of_getElem? (i := 1366) (by decide +kernel)⟩
def lw_privs_3 : List (MethodName × Nat) := [(⟨"MapleLinesModel", "vacuumAt", "(I)I"⟩, 66), (⟨"MapleLinesModel", "suspect", "(I)I"⟩, 66), (⟨"MapleLinesModel", "isTree", "(I)Z"⟩, 66), (⟨"MapleLinesModel", "holesOf", "(II)I"⟩, 66), (⟨"MapleLinesModel", "mayHave", "(I)I"⟩, 66), (⟨"MapleLinesModel", "emptyPan", "()V"⟩, 66), (⟨"MapleLinesModel", "minute", "()V"⟩, 66), (⟨"MapleLinesModel", "firstRule", "(ZII)I"⟩, 66), (⟨"MapleLinesModel", "strength", "()I"⟩, 66), (⟨"MapleLinesModel", "isBatch", "(I)Z"⟩, 66), (⟨"MapleLinesModel", "gradeOf", "(I)I"⟩, 66), (⟨"MapleLinesModel", "gradeBy", "(II)I"⟩, 66), (⟨"MapleLinesModel", "four", "(I)V"⟩, 66), (⟨"MapleLinesModel", "blanks", "()V"⟩, 66), (⟨"MapleLinesModel", "statement", "()Z"⟩, 66), (⟨"MapleLinesModel", "takes", "(J)Z"⟩, 66)]
theorem lw_r3 : ∀ q ∈ lw_privs_3, lw_okq q := List.forall_mem_cons.mpr ⟨lw_p32, List.forall_mem_cons.mpr ⟨lw_p33, List.forall_mem_cons.mpr ⟨lw_p34, List.forall_mem_cons.mpr ⟨lw_p35, List.forall_mem_cons.mpr ⟨lw_p36, List.forall_mem_cons.mpr ⟨lw_p37, List.forall_mem_cons.mpr ⟨lw_p38, List.forall_mem_cons.mpr ⟨lw_p39, List.forall_mem_cons.mpr ⟨lw_p40, List.forall_mem_cons.mpr ⟨lw_p41, List.forall_mem_cons.mpr ⟨lw_p42, List.forall_mem_cons.mpr ⟨lw_p43, List.forall_mem_cons.mpr ⟨lw_p44, List.forall_mem_cons.mpr ⟨lw_p45, List.forall_mem_cons.mpr ⟨lw_p46, List.forall_mem_cons.mpr ⟨lw_p47, fun _ h => absurd h List.not_mem_nil⟩⟩⟩⟩⟩⟩⟩⟩⟩⟩⟩⟩⟩⟩⟩⟩
theorem lw_p48 : lw_okq (⟨"MapleLinesModel", "word", "()J"⟩, 66) := ⟨⟨by decide +kernel, by decide +kernel⟩, List.mem_of_getElem? (i := 982) (by decide +kernel), List.mem_of_getElem? (i := 1369) (by decide +kernel), List.mem_of_getElem? (i := 1370) (by decide +kernel)⟩
theorem lw_p49 : lw_okq (⟨"MapleLinesModel", "takesNumber", "(I)Z"⟩, 66) := ⟨⟨by decide +kernel, by decide +kernel⟩, List.mem_of_getElem? (i := 982) (by decide +kernel), List.mem_of_getElem? (i := 1375) (by decide +kernel), List.mem_of_getElem? (i := 1376) (by decide +kernel)⟩
theorem lw_p50 : lw_okq (⟨"MapleLinesModel", "test", "(I)Z"⟩, 66) := ⟨⟨by decide +kernel, by decide +kernel⟩, List.mem_of_getElem? (i := 982) (by decide +kernel), List.mem_of_getElem? (i := 1380) (by decide +kernel), List.mem_of_getElem? (i := 1381) (by decide +kernel)⟩
def lw_privs_4 : List (MethodName × Nat) := [(⟨"MapleLinesModel", "word", "()J"⟩, 66), (⟨"MapleLinesModel", "takesNumber", "(I)Z"⟩, 66), (⟨"MapleLinesModel", "test", "(I)Z"⟩, 66)]
theorem lw_r4 : ∀ q ∈ lw_privs_4, lw_okq q := List.forall_mem_cons.mpr ⟨lw_p48, List.forall_mem_cons.mpr ⟨lw_p49, List.forall_mem_cons.mpr ⟨lw_p50, fun _ h => absurd h List.not_mem_nil⟩⟩⟩
def lw_privs : List (MethodName × Nat) := lw_privs_1 ++ (lw_privs_2 ++ (lw_privs_3 ++ (lw_privs_4)))
def lw_tbl : List Cond := k2_sels lw_privs ++ tables_1
theorem lw_privs_ok : ∀ q ∈ lw_privs, lw_okq q := by
  show ∀ q ∈ lw_privs_1 ++ (lw_privs_2 ++ (lw_privs_3 ++ (lw_privs_4))), lw_okq q
  exact List.forall_mem_append.mpr ⟨lw_r1, List.forall_mem_append.mpr ⟨lw_r2, List.forall_mem_append.mpr ⟨lw_r3, lw_r4⟩⟩⟩

/-- the words of the tables that ride along with every method -/
def bg : List Cond := lw_tbl.filter goodWord
theorem bg_lw : ∀ w ∈ bg, w ∈ lw_tbl := fun _ h => (List.mem_filter.mp h).1
theorem bg_good : ∀ w ∈ bg, (w.onTables && w.keeps) = true ∨ ∃ ty, w = .arrayClass ty := fun _ h => good_of_word (List.mem_filter.mp h).2
theorem tb {w : Cond} (i : Nat) (h : tables_1[i]? = some w) (hg : goodWord w = true) : w ∈ bg := List.mem_filter.mpr ⟨List.mem_append_right _ (List.mem_of_getElem? h), hg⟩
theorem tbs {ws : List Cond} (ps : List Nat) (h : ws = ps.filterMap (fun i => tables_1[i]?)) (hg : ws.all goodWord = true) : ∀ w ∈ ws, w ∈ bg := by
  intro w hw
  have h1 := List.all_eq_true.mp hg w hw
  rw [h] at hw
  obtain ⟨i, -, hi⟩ := List.mem_filterMap.mp hw
  exact tb i hi h1
theorem sl {q : MethodName × Nat} (j : Nat) (h : lw_privs[j]? = some q) (hg : goodWord (Cond.selects q.1.cls q.1 q.1) = true) : Cond.selects q.1.cls q.1 q.1 ∈ bg := List.mem_filter.mpr ⟨List.mem_append_left _ (List.mem_map.mpr ⟨q, List.mem_of_getElem? h, rfl⟩), hg⟩
theorem gd_c {y : MethodName} {b : ByteArray} {n : Nat} {ret : Option FieldType} (h : Cond.code y b n ret ∈ bg) : GoodIn bg (Cond.code y b n ret :: bg) := by
  intro w hw
  rcases List.mem_cons.mp hw with rfl | hw
  · exact ⟨h, bg_good _ h⟩
  · exact ⟨hw, bg_good _ hw⟩
def RL : String := "MapleLinesLaw"
def RJ3 : String := "jdk/internal/util/Preconditions"
def RJ2 : String := "java/lang/StringUTF16"
def RJ1 : String := "java/lang/StringLatin1"
def RJ0 : String := "java/lang/String"
def RJ9 : String := "java/lang/Math"
def RX0 : String := "MapleLines$Cellar"
def TX0 : u_T := fun k => match k with
  | 0 => ("MapleLines$Cellar", "parts", "[I", true)
  | 1 => ("MapleLines$Cellar", "strength", "[I", true)
  | 2 => ("MapleLines$Cellar", "drawnOn", "[I", true)
  | 3 => ("MapleLines$Cellar", "drawnIn", "[I", true)
  | 4 => ("MapleLines$Cellar", "sold", "[Z", true)
  | 5 => ("MapleLines$Cellar", "looks", "[[I", true)
  | _ => ("MapleLines$Cellar", "size", "I", false)
def tyX0 : Nat → FieldType := fun k => match k with
  | 0 => .array .int
  | 1 => .array .int
  | 2 => .array .int
  | 3 => .array .int
  | 4 => .array .boolean
  | 5 => .array (.array .int)
  | _ => .int
theorem nmX0 : ∀ a, a < 7 → ∀ b, b < 7 → a ≠ b → (TX0 a).2.1 ≠ (TX0 b).2.1 := by decide +kernel
theorem tyX0_ok : ∀ k, k < 7 → parseFieldDescriptor (TX0 k).2.2.1 = some (tyX0 k) := by decide +kernel
theorem pnX0 : plainName RX0 = true := by decide +kernel
set_option maxRecDepth 20000 in
theorem iX0 : ∀ w ∈ u_ws RX0 TX0 7, w ∈ bg := tbs [198, 200, 202, 204, 206, 208, 210] (by decide +kernel) (by decide +kernel)
theorem dvX0 : ∀ j, j < 7 → defaultValue (tyX0 j) = vp_V [.null, .null, .null, .null, .null, .null, .int 0] j := by
  intro j hj
  match j, hj with
  | 0, _ => rfl
  | 1, _ => rfl
  | 2, _ => rfl
  | 3, _ => rfl
  | 4, _ => rfl
  | 5, _ => rfl
  | 6, _ => rfl
  | k + 7, h => exact absurd h (by omega)
def RX1 : String := "MapleLines$Cooperative"
def TX1 : u_T := fun k => match k with
  | 0 => ("MapleLines$Cooperative", "came", "[I", true)
  | 1 => ("MapleLines$Cooperative", "coins", "[I", true)
  | _ => ("MapleLines$Cooperative", "remainder", "[J", true)
def tyX1 : Nat → FieldType := fun k => match k with
  | 0 => .array .int
  | 1 => .array .int
  | _ => .array .long
theorem nmX1 : ∀ a, a < 3 → ∀ b, b < 3 → a ≠ b → (TX1 a).2.1 ≠ (TX1 b).2.1 := by decide +kernel
theorem tyX1_ok : ∀ k, k < 3 → parseFieldDescriptor (TX1 k).2.2.1 = some (tyX1 k) := by decide +kernel
theorem pnX1 : plainName RX1 = true := by decide +kernel
set_option maxRecDepth 20000 in
theorem iX1 : ∀ w ∈ u_ws RX1 TX1 3, w ∈ bg := tbs [222, 224, 226] (by decide +kernel) (by decide +kernel)
theorem dvX1 : ∀ j, j < 3 → defaultValue (tyX1 j) = vp_V [.null, .null, .null] j := by
  intro j hj
  match j, hj with
  | 0, _ => rfl
  | 1, _ => rfl
  | 2, _ => rfl
  | k + 3, h => exact absurd h (by omega)
def RX2 : String := "MapleLines$Grove"
def TX2 : u_T := fun k => match k with
  | 0 => ("MapleLines$Grove", "node", "[I", true)
  | 1 => ("MapleLines$Grove", "girth", "[I", true)
  | 2 => ("MapleLines$Grove", "gave", "[I", true)
  | 3 => ("MapleLines$Grove", "holeTree", "[I", true)
  | 4 => ("MapleLines$Grove", "holeAngle", "[I", true)
  | 5 => ("MapleLines$Grove", "holeYear", "[I", true)
  | 6 => ("MapleLines$Grove", "trees", "I", false)
  | _ => ("MapleLines$Grove", "holes", "I", false)
def tyX2 : Nat → FieldType := fun k => match k with
  | 0 => .array .int
  | 1 => .array .int
  | 2 => .array .int
  | 3 => .array .int
  | 4 => .array .int
  | 5 => .array .int
  | 6 => .int
  | _ => .int
theorem nmX2 : ∀ a, a < 8 → ∀ b, b < 8 → a ≠ b → (TX2 a).2.1 ≠ (TX2 b).2.1 := by decide +kernel
theorem tyX2_ok : ∀ k, k < 8 → parseFieldDescriptor (TX2 k).2.2.1 = some (tyX2 k) := by decide +kernel
theorem pnX2 : plainName RX2 = true := by decide +kernel
set_option maxRecDepth 20000 in
theorem iX2 : ∀ w ∈ u_ws RX2 TX2 8, w ∈ bg := tbs [81, 83, 85, 87, 89, 91, 93, 95] (by decide +kernel) (by decide +kernel)
theorem dvX2 : ∀ j, j < 8 → defaultValue (tyX2 j) = vp_V [.null, .null, .null, .null, .null, .null, .int 0, .int 0] j := by
  intro j hj
  match j, hj with
  | 0, _ => rfl
  | 1, _ => rfl
  | 2, _ => rfl
  | 3, _ => rfl
  | 4, _ => rfl
  | 5, _ => rfl
  | 6, _ => rfl
  | 7, _ => rfl
  | k + 8, h => exact absurd h (by omega)
def RX3 : String := "MapleLines$Pan"
def TX3 : u_T := fun k => match k with
  | 0 => ("MapleLines$Pan", "sugar", "J", false)
  | 1 => ("MapleLines$Pan", "parts", "I", false)
  | 2 => ("MapleLines$Pan", "heat", "I", false)
  | 3 => ("MapleLines$Pan", "minutes", "I", false)
  | _ => ("MapleLines$Pan", "wood", "I", false)
def tyX3 : Nat → FieldType := fun k => match k with
  | 0 => .long
  | 1 => .int
  | 2 => .int
  | 3 => .int
  | _ => .int
theorem nmX3 : ∀ a, a < 5 → ∀ b, b < 5 → a ≠ b → (TX3 a).2.1 ≠ (TX3 b).2.1 := by decide +kernel
theorem tyX3_ok : ∀ k, k < 5 → parseFieldDescriptor (TX3 k).2.2.1 = some (tyX3 k) := by decide +kernel
theorem pnX3 : plainName RX3 = true := by decide +kernel
set_option maxRecDepth 20000 in
theorem iX3 : ∀ w ∈ u_ws RX3 TX3 5, w ∈ bg := tbs [171, 173, 175, 177, 179] (by decide +kernel) (by decide +kernel)
theorem dvX3 : ∀ j, j < 5 → defaultValue (tyX3 j) = vp_V [.long 0, .int 0, .int 0, .int 0, .int 0] j := by
  intro j hj
  match j, hj with
  | 0, _ => rfl
  | 1, _ => rfl
  | 2, _ => rfl
  | 3, _ => rfl
  | 4, _ => rfl
  | k + 5, h => exact absurd h (by omega)
def RX4 : String := "MapleLines$Past"
def TX4 : u_T := fun k => match k with
  | 0 => ("MapleLines$Past", "given", "[I", true)
  | _ => ("MapleLines$Past", "days", "[I", true)
def tyX4 : Nat → FieldType := fun k => match k with
  | 0 => .array .int
  | _ => .array .int
theorem nmX4 : ∀ a, a < 2 → ∀ b, b < 2 → a ≠ b → (TX4 a).2.1 ≠ (TX4 b).2.1 := by decide +kernel
theorem tyX4_ok : ∀ k, k < 2 → parseFieldDescriptor (TX4 k).2.2.1 = some (tyX4 k) := by decide +kernel
theorem pnX4 : plainName RX4 = true := by decide +kernel
set_option maxRecDepth 20000 in
theorem iX4 : ∀ w ∈ u_ws RX4 TX4 2, w ∈ bg := tbs [128, 130] (by decide +kernel) (by decide +kernel)
theorem dvX4 : ∀ j, j < 2 → defaultValue (tyX4 j) = vp_V [.null, .null] j := by
  intro j hj
  match j, hj with
  | 0, _ => rfl
  | 1, _ => rfl
  | k + 2, h => exact absurd h (by omega)
def RX5 : String := "MapleLines$RuleBook"
def TX5 : u_T := fun k => match k with
  | 0 => ("MapleLines$RuleBook", "deed", "[I", true)
  | 1 => ("MapleLines$RuleBook", "value", "[I", true)
  | 2 => ("MapleLines$RuleBook", "tests", "[I", true)
  | 3 => ("MapleLines$RuleBook", "thing", "[I", true)
  | 4 => ("MapleLines$RuleBook", "sign", "[I", true)
  | 5 => ("MapleLines$RuleBook", "number", "[I", true)
  | _ => ("MapleLines$RuleBook", "size", "I", false)
def tyX5 : Nat → FieldType := fun k => match k with
  | 0 => .array .int
  | 1 => .array .int
  | 2 => .array .int
  | 3 => .array .int
  | 4 => .array .int
  | 5 => .array .int
  | _ => .int
theorem nmX5 : ∀ a, a < 7 → ∀ b, b < 7 → a ≠ b → (TX5 a).2.1 ≠ (TX5 b).2.1 := by decide +kernel
theorem tyX5_ok : ∀ k, k < 7 → parseFieldDescriptor (TX5 k).2.2.1 = some (tyX5 k) := by decide +kernel
theorem pnX5 : plainName RX5 = true := by decide +kernel
set_option maxRecDepth 20000 in
theorem iX5 : ∀ w ∈ u_ws RX5 TX5 7, w ∈ bg := tbs [287, 289, 291, 293, 295, 297, 299] (by decide +kernel) (by decide +kernel)
theorem dvX5 : ∀ j, j < 7 → defaultValue (tyX5 j) = vp_V [.null, .null, .null, .null, .null, .null, .int 0] j := by
  intro j hj
  match j, hj with
  | 0, _ => rfl
  | 1, _ => rfl
  | 2, _ => rfl
  | 3, _ => rfl
  | 4, _ => rfl
  | 5, _ => rfl
  | 6, _ => rfl
  | k + 7, h => exact absurd h (by omega)
def RX6 : String := "MapleLines$RuleReader"
def TX6 : u_T := fun k => match k with
  | 0 => ("MapleLines$RuleReader", "tape", "LMapleLines$Tape;", true)
  | 1 => ("MapleLines$RuleReader", "present", "I", false)
  | _ => ("MapleLines$RuleReader", "number", "I", false)
def tyX6 : Nat → FieldType := fun k => match k with
  | 0 => .object "MapleLines$Tape"
  | 1 => .int
  | _ => .int
theorem nmX6 : ∀ a, a < 3 → ∀ b, b < 3 → a ≠ b → (TX6 a).2.1 ≠ (TX6 b).2.1 := by decide +kernel
theorem tyX6_ok : ∀ k, k < 3 → parseFieldDescriptor (TX6 k).2.2.1 = some (tyX6 k) := by decide +kernel
theorem pnX6 : plainName RX6 = true := by decide +kernel
set_option maxRecDepth 20000 in
theorem iX6 : ∀ w ∈ u_ws RX6 TX6 3, w ∈ bg := tbs [266, 268, 270] (by decide +kernel) (by decide +kernel)
theorem dvX6 : ∀ j, j < 3 → defaultValue (tyX6 j) = vp_V [.null, .int 0, .int 0] j := by
  intro j hj
  match j, hj with
  | 0, _ => rfl
  | 1, _ => rfl
  | 2, _ => rfl
  | k + 3, h => exact absurd h (by omega)
def RX7 : String := "MapleLines$Season"
def TX7 : u_T := fun k => match k with
  | 0 => ("MapleLines$Season", "year", "I", false)
  | 1 => ("MapleLines$Season", "day", "I", false)
  | 2 => ("MapleLines$Season", "daysWithoutFrost", "I", false)
  | _ => ("MapleLines$Season", "dry", "Z", false)
def tyX7 : Nat → FieldType := fun k => match k with
  | 0 => .int
  | 1 => .int
  | 2 => .int
  | _ => .boolean
theorem nmX7 : ∀ a, a < 4 → ∀ b, b < 4 → a ≠ b → (TX7 a).2.1 ≠ (TX7 b).2.1 := by decide +kernel
theorem tyX7_ok : ∀ k, k < 4 → parseFieldDescriptor (TX7 k).2.2.1 = some (tyX7 k) := by decide +kernel
theorem pnX7 : plainName RX7 = true := by decide +kernel
set_option maxRecDepth 20000 in
theorem iX7 : ∀ w ∈ u_ws RX7 TX7 4, w ∈ bg := tbs [111, 113, 115, 117] (by decide +kernel) (by decide +kernel)
theorem dvX7 : ∀ j, j < 4 → defaultValue (tyX7 j) = vp_V [.int 0, .int 0, .int 0, .int 0] j := by
  intro j hj
  match j, hj with
  | 0, _ => rfl
  | 1, _ => rfl
  | 2, _ => rfl
  | 3, _ => rfl
  | k + 4, h => exact absurd h (by omega)
def RX8 : String := "MapleLines$Tank"
def TX8 : u_T := fun k => match k with
  | 0 => ("MapleLines$Tank", "parts", "I", false)
  | 1 => ("MapleLines$Tank", "spilt", "I", false)
  | 2 => ("MapleLines$Tank", "left", "I", false)
  | _ => ("MapleLines$Tank", "came", "I", false)
def tyX8 : Nat → FieldType := fun k => match k with
  | 0 => .int
  | 1 => .int
  | 2 => .int
  | _ => .int
theorem nmX8 : ∀ a, a < 4 → ∀ b, b < 4 → a ≠ b → (TX8 a).2.1 ≠ (TX8 b).2.1 := by decide +kernel
theorem tyX8_ok : ∀ k, k < 4 → parseFieldDescriptor (TX8 k).2.2.1 = some (tyX8 k) := by decide +kernel
theorem pnX8 : plainName RX8 = true := by decide +kernel
set_option maxRecDepth 20000 in
theorem iX8 : ∀ w ∈ u_ws RX8 TX8 4, w ∈ bg := tbs [147, 149, 151, 153] (by decide +kernel) (by decide +kernel)
theorem dvX8 : ∀ j, j < 4 → defaultValue (tyX8 j) = vp_V [.int 0, .int 0, .int 0, .int 0] j := by
  intro j hj
  match j, hj with
  | 0, _ => rfl
  | 1, _ => rfl
  | 2, _ => rfl
  | 3, _ => rfl
  | k + 4, h => exact absurd h (by omega)
def RX9 : String := "MapleLines$Tape"
def TX9 : u_T := fun k => match k with
  | 0 => ("MapleLines$Tape", "bytes", "[B", true)
  | 1 => ("MapleLines$Tape", "tokenStart", "[I", true)
  | 2 => ("MapleLines$Tape", "tokenCode", "[I", true)
  | 3 => ("MapleLines$Tape", "size", "I", false)
  | 4 => ("MapleLines$Tape", "tokens", "I", false)
  | _ => ("MapleLines$Tape", "textLength", "I", false)
def tyX9 : Nat → FieldType := fun k => match k with
  | 0 => .array .byte
  | 1 => .array .int
  | 2 => .array .int
  | 3 => .int
  | 4 => .int
  | _ => .int
theorem nmX9 : ∀ a, a < 6 → ∀ b, b < 6 → a ≠ b → (TX9 a).2.1 ≠ (TX9 b).2.1 := by decide +kernel
theorem tyX9_ok : ∀ k, k < 6 → parseFieldDescriptor (TX9 k).2.2.1 = some (tyX9 k) := by decide +kernel
theorem pnX9 : plainName RX9 = true := by decide +kernel
set_option maxRecDepth 20000 in
theorem iX9 : ∀ w ∈ u_ws RX9 TX9 6, w ∈ bg := tbs [243, 245, 247, 249, 251, 253] (by decide +kernel) (by decide +kernel)
theorem dvX9 : ∀ j, j < 6 → defaultValue (tyX9 j) = vp_V [.null, .null, .null, .int 0, .int 0, .int 0] j := by
  intro j hj
  match j, hj with
  | 0, _ => rfl
  | 1, _ => rfl
  | 2, _ => rfl
  | 3, _ => rfl
  | 4, _ => rfl
  | 5, _ => rfl
  | k + 6, h => exact absurd h (by omega)
def RX10 : String := "MapleLines$Tubes"
def TX10 : u_T := fun k => match k with
  | 0 => ("MapleLines$Tubes", "to", "[I", true)
  | 1 => ("MapleLines$Tubes", "height", "[I", true)
  | 2 => ("MapleLines$Tubes", "member", "[I", true)
  | 3 => ("MapleLines$Tubes", "lengthHome", "[I", true)
  | 4 => ("MapleLines$Tubes", "runs", "[Z", true)
  | 5 => ("MapleLines$Tubes", "leak", "[I", true)
  | 6 => ("MapleLines$Tubes", "vacuum", "[I", true)
  | 7 => ("MapleLines$Tubes", "reading", "[I", true)
  | _ => ("MapleLines$Tubes", "size", "I", false)
def tyX10 : Nat → FieldType := fun k => match k with
  | 0 => .array .int
  | 1 => .array .int
  | 2 => .array .int
  | 3 => .array .int
  | 4 => .array .boolean
  | 5 => .array .int
  | 6 => .array .int
  | 7 => .array .int
  | _ => .int
theorem nmX10 : ∀ a, a < 9 → ∀ b, b < 9 → a ≠ b → (TX10 a).2.1 ≠ (TX10 b).2.1 := by decide +kernel
theorem tyX10_ok : ∀ k, k < 9 → parseFieldDescriptor (TX10 k).2.2.1 = some (tyX10 k) := by decide +kernel
theorem pnX10 : plainName RX10 = true := by decide +kernel
set_option maxRecDepth 20000 in
theorem iX10 : ∀ w ∈ u_ws RX10 TX10 9, w ∈ bg := tbs [44, 46, 48, 50, 52, 54, 56, 58, 60] (by decide +kernel) (by decide +kernel)
theorem dvX10 : ∀ j, j < 9 → defaultValue (tyX10 j) = vp_V [.null, .null, .null, .null, .null, .null, .null, .null, .int 0] j := by
  intro j hj
  match j, hj with
  | 0, _ => rfl
  | 1, _ => rfl
  | 2, _ => rfl
  | 3, _ => rfl
  | 4, _ => rfl
  | 5, _ => rfl
  | 6, _ => rfl
  | 7, _ => rfl
  | 8, _ => rfl
  | k + 9, h => exact absurd h (by omega)
def RX11 : String := "MapleLines"
def TX11 : u_T := fun k => match k with
  | 0 => ("MapleLines", "tubes", "LMapleLines$Tubes;", true)
  | 1 => ("MapleLines", "grove", "LMapleLines$Grove;", true)
  | 2 => ("MapleLines", "season", "LMapleLines$Season;", true)
  | 3 => ("MapleLines", "past", "LMapleLines$Past;", true)
  | 4 => ("MapleLines", "tank", "LMapleLines$Tank;", true)
  | 5 => ("MapleLines", "pan", "LMapleLines$Pan;", true)
  | 6 => ("MapleLines", "cellar", "LMapleLines$Cellar;", true)
  | 7 => ("MapleLines", "cooperative", "LMapleLines$Cooperative;", true)
  | 8 => ("MapleLines", "tape", "LMapleLines$Tape;", true)
  | 9 => ("MapleLines", "reader", "LMapleLines$RuleReader;", true)
  | 10 => ("MapleLines", "facts", "[I", true)
  | 11 => ("MapleLines", "book", "LMapleLines$RuleBook;", false)
  | 12 => ("MapleLines", "spareBook", "LMapleLines$RuleBook;", false)
  | _ => ("MapleLines", "faultPlace", "I", false)
def tyX11 : Nat → FieldType := fun k => match k with
  | 0 => .object "MapleLines$Tubes"
  | 1 => .object "MapleLines$Grove"
  | 2 => .object "MapleLines$Season"
  | 3 => .object "MapleLines$Past"
  | 4 => .object "MapleLines$Tank"
  | 5 => .object "MapleLines$Pan"
  | 6 => .object "MapleLines$Cellar"
  | 7 => .object "MapleLines$Cooperative"
  | 8 => .object "MapleLines$Tape"
  | 9 => .object "MapleLines$RuleReader"
  | 10 => .array .int
  | 11 => .object "MapleLines$RuleBook"
  | 12 => .object "MapleLines$RuleBook"
  | _ => .int
theorem nmX11 : ∀ a, a < 14 → ∀ b, b < 14 → a ≠ b → (TX11 a).2.1 ≠ (TX11 b).2.1 := by decide +kernel
theorem tyX11_ok : ∀ k, k < 14 → parseFieldDescriptor (TX11 k).2.2.1 = some (tyX11 k) := by decide +kernel
theorem pnX11 : plainName RX11 = true := by decide +kernel
set_option maxRecDepth 20000 in
theorem iX11 : ∀ w ∈ u_ws RX11 TX11 14, w ∈ bg := tbs [316, 318, 320, 322, 324, 326, 328, 330, 332, 334, 336, 338, 340, 342] (by decide +kernel) (by decide +kernel)
theorem dvX11 : ∀ j, j < 14 → defaultValue (tyX11 j) = vp_V [.null, .null, .null, .null, .null, .null, .null, .null, .null, .null, .null, .null, .null, .int 0] j := by
  intro j hj
  match j, hj with
  | 0, _ => rfl
  | 1, _ => rfl
  | 2, _ => rfl
  | 3, _ => rfl
  | 4, _ => rfl
  | 5, _ => rfl
  | 6, _ => rfl
  | 7, _ => rfl
  | 8, _ => rfl
  | 9, _ => rfl
  | 10, _ => rfl
  | 11, _ => rfl
  | 12, _ => rfl
  | 13, _ => rfl
  | k + 14, h => exact absurd h (by omega)
def RX12 : String := "MapleLinesModel"
def TX12 : u_T := fun k => match k with
  | 0 => ("MapleLinesModel", "year", "I", false)
  | 1 => ("MapleLinesModel", "day", "I", false)
  | 2 => ("MapleLinesModel", "nodes", "I", false)
  | 3 => ("MapleLinesModel", "trees", "I", false)
  | 4 => ("MapleLinesModel", "holes", "I", false)
  | 5 => ("MapleLinesModel", "vacuum", "I", false)
  | 6 => ("MapleLinesModel", "tank", "I", false)
  | 7 => ("MapleLinesModel", "spilt", "I", false)
  | 8 => ("MapleLinesModel", "left", "I", false)
  | 9 => ("MapleLinesModel", "came", "I", false)
  | 10 => ("MapleLinesModel", "thawDays", "I", false)
  | 11 => ("MapleLinesModel", "isDry", "Z", false)
  | 12 => ("MapleLinesModel", "to", "[I", true)
  | 13 => ("MapleLinesModel", "length", "[I", true)
  | 14 => ("MapleLinesModel", "height", "[I", true)
  | 15 => ("MapleLinesModel", "member", "[I", true)
  | 16 => ("MapleLinesModel", "leaks", "[I", true)
  | 17 => ("MapleLinesModel", "reading", "[I", true)
  | 18 => ("MapleLinesModel", "treeNode", "[I", true)
  | 19 => ("MapleLinesModel", "girth", "[I", true)
  | 20 => ("MapleLinesModel", "gave", "[I", true)
  | 21 => ("MapleLinesModel", "holeTree", "[I", true)
  | 22 => ("MapleLinesModel", "holeAngle", "[I", true)
  | 23 => ("MapleLinesModel", "holeYear", "[I", true)
  | 24 => ("MapleLinesModel", "cameOf", "[I", true)
  | 25 => ("MapleLinesModel", "coinsOf", "[I", true)
  | 26 => ("MapleLinesModel", "sums", "[I", true)
  | 27 => ("MapleLinesModel", "many", "[I", true)
  | 28 => ("MapleLinesModel", "parts", "I", false)
  | 29 => ("MapleLinesModel", "heat", "I", false)
  | 30 => ("MapleLinesModel", "minutes", "I", false)
  | 31 => ("MapleLinesModel", "wood", "I", false)
  | 32 => ("MapleLinesModel", "batches", "I", false)
  | 33 => ("MapleLinesModel", "sugar", "J", false)
  | 34 => ("MapleLinesModel", "isBurnt", "Z", false)
  | 35 => ("MapleLinesModel", "batchParts", "[I", true)
  | 36 => ("MapleLinesModel", "batchStrength", "[I", true)
  | 37 => ("MapleLinesModel", "batchDay", "[I", true)
  | 38 => ("MapleLinesModel", "batchYear", "[I", true)
  | 39 => ("MapleLinesModel", "looks", "[I", true)
  | 40 => ("MapleLinesModel", "isSold", "[Z", true)
  | 41 => ("MapleLinesModel", "hasMore", "[Z", true)
  | 42 => ("MapleLinesModel", "tape", "[B", true)
  | 43 => ("MapleLinesModel", "text", "[B", true)
  | 44 => ("MapleLinesModel", "taped", "I", false)
  | 45 => ("MapleLinesModel", "size", "I", false)
  | 46 => ("MapleLinesModel", "at", "I", false)
  | 47 => ("MapleLinesModel", "fault", "I", false)
  | 48 => ("MapleLinesModel", "rules", "I", false)
  | 49 => ("MapleLinesModel", "newRules", "I", false)
  | 50 => ("MapleLinesModel", "isPan", "[Z", true)
  | 51 => ("MapleLinesModel", "newPan", "[Z", true)
  | 52 => ("MapleLinesModel", "gives", "[I", true)
  | 53 => ("MapleLinesModel", "grades", "[I", true)
  | 54 => ("MapleLinesModel", "testMany", "[I", true)
  | 55 => ("MapleLinesModel", "testName", "[I", true)
  | 56 => ("MapleLinesModel", "testSign", "[I", true)
  | 57 => ("MapleLinesModel", "testNumber", "[I", true)
  | 58 => ("MapleLinesModel", "newGives", "[I", true)
  | 59 => ("MapleLinesModel", "newGrades", "[I", true)
  | 60 => ("MapleLinesModel", "newMany", "[I", true)
  | 61 => ("MapleLinesModel", "newName", "[I", true)
  | 62 => ("MapleLinesModel", "newSign", "[I", true)
  | 63 => ("MapleLinesModel", "newNumber", "[I", true)
  | 64 => ("MapleLinesModel", "wordEnd", "I", false)
  | _ => ("MapleLinesModel", "number", "I", false)
def tyX12 : Nat → FieldType := fun k => match k with
  | 0 => .int
  | 1 => .int
  | 2 => .int
  | 3 => .int
  | 4 => .int
  | 5 => .int
  | 6 => .int
  | 7 => .int
  | 8 => .int
  | 9 => .int
  | 10 => .int
  | 11 => .boolean
  | 12 => .array .int
  | 13 => .array .int
  | 14 => .array .int
  | 15 => .array .int
  | 16 => .array .int
  | 17 => .array .int
  | 18 => .array .int
  | 19 => .array .int
  | 20 => .array .int
  | 21 => .array .int
  | 22 => .array .int
  | 23 => .array .int
  | 24 => .array .int
  | 25 => .array .int
  | 26 => .array .int
  | 27 => .array .int
  | 28 => .int
  | 29 => .int
  | 30 => .int
  | 31 => .int
  | 32 => .int
  | 33 => .long
  | 34 => .boolean
  | 35 => .array .int
  | 36 => .array .int
  | 37 => .array .int
  | 38 => .array .int
  | 39 => .array .int
  | 40 => .array .boolean
  | 41 => .array .boolean
  | 42 => .array .byte
  | 43 => .array .byte
  | 44 => .int
  | 45 => .int
  | 46 => .int
  | 47 => .int
  | 48 => .int
  | 49 => .int
  | 50 => .array .boolean
  | 51 => .array .boolean
  | 52 => .array .int
  | 53 => .array .int
  | 54 => .array .int
  | 55 => .array .int
  | 56 => .array .int
  | 57 => .array .int
  | 58 => .array .int
  | 59 => .array .int
  | 60 => .array .int
  | 61 => .array .int
  | 62 => .array .int
  | 63 => .array .int
  | 64 => .int
  | _ => .int
theorem nmX12 : ∀ a, a < 66 → ∀ b, b < 66 → a ≠ b → (TX12 a).2.1 ≠ (TX12 b).2.1 := by decide +kernel
theorem tyX12_ok : ∀ k, k < 66 → parseFieldDescriptor (TX12 k).2.2.1 = some (tyX12 k) := by decide +kernel
theorem pnX12 : plainName RX12 = true := by decide +kernel
set_option maxRecDepth 20000 in
theorem iX12 : ∀ w ∈ u_ws RX12 TX12 66, w ∈ bg := tbs [1053, 1055, 1057, 1059, 1061, 1063, 1065, 1067, 1069, 1071, 1073, 1075, 1077, 1079, 1081, 1083, 1085, 1087, 1089, 1091, 1093, 1095, 1097, 1099, 1101, 1103, 1105, 1107, 1109, 1111, 1113, 1115, 1117, 1119, 1121, 1123, 1125, 1127, 1129, 1131, 1133, 1135, 1137, 1139, 1141, 1143, 1145, 1147, 1149, 1151, 1153, 1155, 1157, 1159, 1161, 1163, 1165, 1167, 1169, 1171, 1173, 1175, 1177, 1179, 1181, 1183] (by decide +kernel) (by decide +kernel)
theorem dvX12 : ∀ j, j < 66 → defaultValue (tyX12 j) = vp_V [.int 0, .int 0, .int 0, .int 0, .int 0, .int 0, .int 0, .int 0, .int 0, .int 0, .int 0, .int 0, .null, .null, .null, .null, .null, .null, .null, .null, .null, .null, .null, .null, .null, .null, .null, .null, .int 0, .int 0, .int 0, .int 0, .int 0, .long 0, .int 0, .null, .null, .null, .null, .null, .null, .null, .null, .null, .int 0, .int 0, .int 0, .int 0, .int 0, .int 0, .null, .null, .null, .null, .null, .null, .null, .null, .null, .null, .null, .null, .null, .null, .int 0, .int 0] j := by
  intro j hj
  match j, hj with
  | 0, _ => rfl
  | 1, _ => rfl
  | 2, _ => rfl
  | 3, _ => rfl
  | 4, _ => rfl
  | 5, _ => rfl
  | 6, _ => rfl
  | 7, _ => rfl
  | 8, _ => rfl
  | 9, _ => rfl
  | 10, _ => rfl
  | 11, _ => rfl
  | 12, _ => rfl
  | 13, _ => rfl
  | 14, _ => rfl
  | 15, _ => rfl
  | 16, _ => rfl
  | 17, _ => rfl
  | 18, _ => rfl
  | 19, _ => rfl
  | 20, _ => rfl
  | 21, _ => rfl
  | 22, _ => rfl
  | 23, _ => rfl
  | 24, _ => rfl
  | 25, _ => rfl
  | 26, _ => rfl
  | 27, _ => rfl
  | 28, _ => rfl
  | 29, _ => rfl
  | 30, _ => rfl
  | 31, _ => rfl
  | 32, _ => rfl
  | 33, _ => rfl
  | 34, _ => rfl
  | 35, _ => rfl
  | 36, _ => rfl
  | 37, _ => rfl
  | 38, _ => rfl
  | 39, _ => rfl
  | 40, _ => rfl
  | 41, _ => rfl
  | 42, _ => rfl
  | 43, _ => rfl
  | 44, _ => rfl
  | 45, _ => rfl
  | 46, _ => rfl
  | 47, _ => rfl
  | 48, _ => rfl
  | 49, _ => rfl
  | 50, _ => rfl
  | 51, _ => rfl
  | 52, _ => rfl
  | 53, _ => rfl
  | 54, _ => rfl
  | 55, _ => rfl
  | 56, _ => rfl
  | 57, _ => rfl
  | 58, _ => rfl
  | 59, _ => rfl
  | 60, _ => rfl
  | 61, _ => rfl
  | 62, _ => rfl
  | 63, _ => rfl
  | 64, _ => rfl
  | 65, _ => rfl
  | k + 66, h => exact absurd h (by omega)
def RJ7 : String := "java/util/Arrays"
theorem pnJ7 : plainName RJ7 = true := by decide +kernel
abbrev cJ0_charAt_5068e : ByteArray := prog_16_method_56_code
def yJ0_charAt_5068e : MethodName := ⟨RJ0, "charAt", "(I)C"⟩
theorem hdJ0_charAt_5068e : yJ0_charAt_5068e.cls ≠ "java/lang/invoke/MethodHandle" ∧ yJ0_charAt_5068e.cls ≠ "java/lang/invoke/VarHandle" ∧ (parseMethodDescriptor yJ0_charAt_5068e.desc).map (fun d => d.parameters.length) = some 1 := by decide +kernel
abbrev cJ0_checkIndex_df160 : ByteArray := prog_16_method_155_code
def yJ0_checkIndex_df160 : MethodName := ⟨RJ0, "checkIndex", "(II)V"⟩
theorem hdJ0_checkIndex_df160 : yJ0_checkIndex_df160.cls ≠ "java/lang/invoke/MethodHandle" ∧ yJ0_checkIndex_df160.cls ≠ "java/lang/invoke/VarHandle" ∧ (parseMethodDescriptor yJ0_checkIndex_df160.desc).map (fun d => d.parameters.length) = some 2 := by decide +kernel
abbrev cJ0_coder_7d493 : ByteArray := prog_16_method_152_code
def yJ0_coder_7d493 : MethodName := ⟨RJ0, "coder", "()B"⟩
theorem hdJ0_coder_7d493 : yJ0_coder_7d493.cls ≠ "java/lang/invoke/MethodHandle" ∧ yJ0_coder_7d493.cls ≠ "java/lang/invoke/VarHandle" ∧ (parseMethodDescriptor yJ0_coder_7d493.desc).map (fun d => d.parameters.length) = some 0 := by decide +kernel
abbrev cJ0_isLatin1_aae02 : ByteArray := prog_16_method_154_code
def yJ0_isLatin1_aae02 : MethodName := ⟨RJ0, "isLatin1", "()Z"⟩
theorem hdJ0_isLatin1_aae02 : yJ0_isLatin1_aae02.cls ≠ "java/lang/invoke/MethodHandle" ∧ yJ0_isLatin1_aae02.cls ≠ "java/lang/invoke/VarHandle" ∧ (parseMethodDescriptor yJ0_isLatin1_aae02.desc).map (fun d => d.parameters.length) = some 0 := by decide +kernel
abbrev cJ0_length_8abf5 : ByteArray := prog_16_method_54_code
def yJ0_length_8abf5 : MethodName := ⟨RJ0, "length", "()I"⟩
theorem hdJ0_length_8abf5 : yJ0_length_8abf5.cls ≠ "java/lang/invoke/MethodHandle" ∧ yJ0_length_8abf5.cls ≠ "java/lang/invoke/VarHandle" ∧ (parseMethodDescriptor yJ0_length_8abf5.desc).map (fun d => d.parameters.length) = some 0 := by decide +kernel
abbrev cJ1_charAt_3b067 : ByteArray := prog_17_method_2_code
def yJ1_charAt_3b067 : MethodName := ⟨RJ1, "charAt", "([BI)C"⟩
theorem hdJ1_charAt_3b067 : yJ1_charAt_3b067.cls ≠ "java/lang/invoke/MethodHandle" ∧ yJ1_charAt_3b067.cls ≠ "java/lang/invoke/VarHandle" ∧ (parseMethodDescriptor yJ1_charAt_3b067.desc).map (fun d => d.parameters.length) = some 2 := by decide +kernel
abbrev cJ2_charAt_3b067 : ByteArray := prog_18_method_83_code
def yJ2_charAt_3b067 : MethodName := ⟨RJ2, "charAt", "([BI)C"⟩
theorem hdJ2_charAt_3b067 : yJ2_charAt_3b067.cls ≠ "java/lang/invoke/MethodHandle" ∧ yJ2_charAt_3b067.cls ≠ "java/lang/invoke/VarHandle" ∧ (parseMethodDescriptor yJ2_charAt_3b067.desc).map (fun d => d.parameters.length) = some 2 := by decide +kernel
abbrev cJ2_checkIndex_2214a : ByteArray := prog_18_method_91_code
def yJ2_checkIndex_2214a : MethodName := ⟨RJ2, "checkIndex", "(I[B)V"⟩
theorem hdJ2_checkIndex_2214a : yJ2_checkIndex_2214a.cls ≠ "java/lang/invoke/MethodHandle" ∧ yJ2_checkIndex_2214a.cls ≠ "java/lang/invoke/VarHandle" ∧ (parseMethodDescriptor yJ2_checkIndex_2214a.desc).map (fun d => d.parameters.length) = some 2 := by decide +kernel
abbrev cJ2_getChar_3b067 : ByteArray := prog_18_method_5_code
def yJ2_getChar_3b067 : MethodName := ⟨RJ2, "getChar", "([BI)C"⟩
theorem hdJ2_getChar_3b067 : yJ2_getChar_3b067.cls ≠ "java/lang/invoke/MethodHandle" ∧ yJ2_getChar_3b067.cls ≠ "java/lang/invoke/VarHandle" ∧ (parseMethodDescriptor yJ2_getChar_3b067.desc).map (fun d => d.parameters.length) = some 2 := by decide +kernel
abbrev cJ2_length_9d52b : ByteArray := prog_18_method_6_code
def yJ2_length_9d52b : MethodName := ⟨RJ2, "length", "([B)I"⟩
theorem hdJ2_length_9d52b : yJ2_length_9d52b.cls ≠ "java/lang/invoke/MethodHandle" ∧ yJ2_length_9d52b.cls ≠ "java/lang/invoke/VarHandle" ∧ (parseMethodDescriptor yJ2_length_9d52b.desc).map (fun d => d.parameters.length) = some 1 := by decide +kernel
abbrev cJ3_checkIndex_8e157 : ByteArray := prog_20_method_11_code
def yJ3_checkIndex_8e157 : MethodName := ⟨RJ3, "checkIndex", "(IILjava/util/function/BiFunction;)I"⟩
theorem hdJ3_checkIndex_8e157 : yJ3_checkIndex_8e157.cls ≠ "java/lang/invoke/MethodHandle" ∧ yJ3_checkIndex_8e157.cls ≠ "java/lang/invoke/VarHandle" ∧ (parseMethodDescriptor yJ3_checkIndex_8e157.desc).map (fun d => d.parameters.length) = some 3 := by decide +kernel
abbrev cJ7_fill_53178 : ByteArray := prog_19_method_103_code
def yJ7_fill_53178 : MethodName := ⟨RJ7, "fill", "([II)V"⟩
theorem hdJ7_fill_53178 : yJ7_fill_53178.cls ≠ "java/lang/invoke/MethodHandle" ∧ yJ7_fill_53178.cls ≠ "java/lang/invoke/VarHandle" ∧ (parseMethodDescriptor yJ7_fill_53178.desc).map (fun d => d.parameters.length) = some 2 := by decide +kernel
abbrev cJ9_abs_0f7a4 : ByteArray := prog_15_method_59_code
def yJ9_abs_0f7a4 : MethodName := ⟨RJ9, "abs", "(I)I"⟩
theorem hdJ9_abs_0f7a4 : yJ9_abs_0f7a4.cls ≠ "java/lang/invoke/MethodHandle" ∧ yJ9_abs_0f7a4.cls ≠ "java/lang/invoke/VarHandle" ∧ (parseMethodDescriptor yJ9_abs_0f7a4.desc).map (fun d => d.parameters.length) = some 1 := by decide +kernel
abbrev cJ9_max_7cf53 : ByteArray := prog_15_method_65_code
def yJ9_max_7cf53 : MethodName := ⟨RJ9, "max", "(II)I"⟩
theorem hdJ9_max_7cf53 : yJ9_max_7cf53.cls ≠ "java/lang/invoke/MethodHandle" ∧ yJ9_max_7cf53.cls ≠ "java/lang/invoke/VarHandle" ∧ (parseMethodDescriptor yJ9_max_7cf53.desc).map (fun d => d.parameters.length) = some 2 := by decide +kernel
abbrev cJ9_min_7cf53 : ByteArray := prog_15_method_69_code
def yJ9_min_7cf53 : MethodName := ⟨RJ9, "min", "(II)I"⟩
theorem hdJ9_min_7cf53 : yJ9_min_7cf53.cls ≠ "java/lang/invoke/MethodHandle" ∧ yJ9_min_7cf53.cls ≠ "java/lang/invoke/VarHandle" ∧ (parseMethodDescriptor yJ9_min_7cf53.desc).map (fun d => d.parameters.length) = some 2 := by decide +kernel
abbrev cX0_add : ByteArray := prog_2_method_3_code
def yX0_add : MethodName := ⟨RX0, "add", "(IIII)Z"⟩
theorem hdX0_add : yX0_add.cls ≠ "java/lang/invoke/MethodHandle" ∧ yX0_add.cls ≠ "java/lang/invoke/VarHandle" ∧ (parseMethodDescriptor yX0_add.desc).map (fun d => d.parameters.length) = some 4 := by decide +kernel
abbrev cX0_dayOf : ByteArray := prog_2_method_8_code
def yX0_dayOf : MethodName := ⟨RX0, "dayOf", "(I)I"⟩
theorem hdX0_dayOf : yX0_dayOf.cls ≠ "java/lang/invoke/MethodHandle" ∧ yX0_dayOf.cls ≠ "java/lang/invoke/VarHandle" ∧ (parseMethodDescriptor yX0_dayOf.desc).map (fun d => d.parameters.length) = some 1 := by decide +kernel
abbrev cX0_has : ByteArray := prog_2_method_2_code
def yX0_has : MethodName := ⟨RX0, "has", "(I)Z"⟩
theorem hdX0_has : yX0_has.cls ≠ "java/lang/invoke/MethodHandle" ∧ yX0_has.cls ≠ "java/lang/invoke/VarHandle" ∧ (parseMethodDescriptor yX0_has.desc).map (fun d => d.parameters.length) = some 1 := by decide +kernel
abbrev cX0_init : ByteArray := prog_2_method_1_code
def yX0_init : MethodName := ⟨RX0, "<init>", "()V"⟩
theorem hdX0_init : yX0_init.cls ≠ "java/lang/invoke/MethodHandle" ∧ yX0_init.cls ≠ "java/lang/invoke/VarHandle" ∧ (parseMethodDescriptor yX0_init.desc).map (fun d => d.parameters.length) = some 0 := by decide +kernel
abbrev cX0_isSold : ByteArray := prog_2_method_9_code
def yX0_isSold : MethodName := ⟨RX0, "isSold", "(I)Z"⟩
theorem hdX0_isSold : yX0_isSold.cls ≠ "java/lang/invoke/MethodHandle" ∧ yX0_isSold.cls ≠ "java/lang/invoke/VarHandle" ∧ (parseMethodDescriptor yX0_isSold.desc).map (fun d => d.parameters.length) = some 1 := by decide +kernel
abbrev cX0_lookAt : ByteArray := prog_2_method_5_code
def yX0_lookAt : MethodName := ⟨RX0, "lookAt", "(II)I"⟩
theorem hdX0_lookAt : yX0_lookAt.cls ≠ "java/lang/invoke/MethodHandle" ∧ yX0_lookAt.cls ≠ "java/lang/invoke/VarHandle" ∧ (parseMethodDescriptor yX0_lookAt.desc).map (fun d => d.parameters.length) = some 2 := by decide +kernel
abbrev cX0_markSold : ByteArray := prog_2_method_10_code
def yX0_markSold : MethodName := ⟨RX0, "markSold", "(I)V"⟩
theorem hdX0_markSold : yX0_markSold.cls ≠ "java/lang/invoke/MethodHandle" ∧ yX0_markSold.cls ≠ "java/lang/invoke/VarHandle" ∧ (parseMethodDescriptor yX0_markSold.desc).map (fun d => d.parameters.length) = some 1 := by decide +kernel
abbrev cX0_partsOf : ByteArray := prog_2_method_6_code
def yX0_partsOf : MethodName := ⟨RX0, "partsOf", "(I)I"⟩
theorem hdX0_partsOf : yX0_partsOf.cls ≠ "java/lang/invoke/MethodHandle" ∧ yX0_partsOf.cls ≠ "java/lang/invoke/VarHandle" ∧ (parseMethodDescriptor yX0_partsOf.desc).map (fun d => d.parameters.length) = some 1 := by decide +kernel
abbrev cX0_strengthOf : ByteArray := prog_2_method_7_code
def yX0_strengthOf : MethodName := ⟨RX0, "strengthOf", "(I)I"⟩
theorem hdX0_strengthOf : yX0_strengthOf.cls ≠ "java/lang/invoke/MethodHandle" ∧ yX0_strengthOf.cls ≠ "java/lang/invoke/VarHandle" ∧ (parseMethodDescriptor yX0_strengthOf.desc).map (fun d => d.parameters.length) = some 1 := by decide +kernel
abbrev cX0_takeLook : ByteArray := prog_2_method_4_code
def yX0_takeLook : MethodName := ⟨RX0, "takeLook", "(III)Z"⟩
theorem hdX0_takeLook : yX0_takeLook.cls ≠ "java/lang/invoke/MethodHandle" ∧ yX0_takeLook.cls ≠ "java/lang/invoke/VarHandle" ∧ (parseMethodDescriptor yX0_takeLook.desc).map (fun d => d.parameters.length) = some 3 := by decide +kernel
abbrev cX0_tell : ByteArray := prog_2_method_11_code
def yX0_tell : MethodName := ⟨RX0, "tell", "(II)I"⟩
theorem hdX0_tell : yX0_tell.cls ≠ "java/lang/invoke/MethodHandle" ∧ yX0_tell.cls ≠ "java/lang/invoke/VarHandle" ∧ (parseMethodDescriptor yX0_tell.desc).map (fun d => d.parameters.length) = some 2 := by decide +kernel
abbrev cX10_add : ByteArray := prog_12_method_4_code
def yX10_add : MethodName := ⟨RX10, "add", "(IIII)I"⟩
theorem hdX10_add : yX10_add.cls ≠ "java/lang/invoke/MethodHandle" ∧ yX10_add.cls ≠ "java/lang/invoke/VarHandle" ∧ (parseMethodDescriptor yX10_add.desc).map (fun d => d.parameters.length) = some 4 := by decide +kernel
abbrev cX10_has : ByteArray := prog_12_method_2_code
def yX10_has : MethodName := ⟨RX10, "has", "(I)Z"⟩
theorem hdX10_has : yX10_has.cls ≠ "java/lang/invoke/MethodHandle" ∧ yX10_has.cls ≠ "java/lang/invoke/VarHandle" ∧ (parseMethodDescriptor yX10_has.desc).map (fun d => d.parameters.length) = some 1 := by decide +kernel
abbrev cX10_hasTube : ByteArray := prog_12_method_3_code
def yX10_hasTube : MethodName := ⟨RX10, "hasTube", "(I)Z"⟩
theorem hdX10_hasTube : yX10_hasTube.cls ≠ "java/lang/invoke/MethodHandle" ∧ yX10_hasTube.cls ≠ "java/lang/invoke/VarHandle" ∧ (parseMethodDescriptor yX10_hasTube.desc).map (fun d => d.parameters.length) = some 1 := by decide +kernel
abbrev cX10_init : ByteArray := prog_12_method_1_code
def yX10_init : MethodName := ⟨RX10, "<init>", "()V"⟩
theorem hdX10_init : yX10_init.cls ≠ "java/lang/invoke/MethodHandle" ∧ yX10_init.cls ≠ "java/lang/invoke/VarHandle" ∧ (parseMethodDescriptor yX10_init.desc).map (fun d => d.parameters.length) = some 0 := by decide +kernel
abbrev cX10_memberAt : ByteArray := prog_12_method_11_code
def yX10_memberAt : MethodName := ⟨RX10, "memberAt", "(I)I"⟩
theorem hdX10_memberAt : yX10_memberAt.cls ≠ "java/lang/invoke/MethodHandle" ∧ yX10_memberAt.cls ≠ "java/lang/invoke/VarHandle" ∧ (parseMethodDescriptor yX10_memberAt.desc).map (fun d => d.parameters.length) = some 1 := by decide +kernel
abbrev cX10_readingAhead : ByteArray := prog_12_method_14_code
def yX10_readingAhead : MethodName := ⟨RX10, "readingAhead", "(I)I"⟩
theorem hdX10_readingAhead : yX10_readingAhead.cls ≠ "java/lang/invoke/MethodHandle" ∧ yX10_readingAhead.cls ≠ "java/lang/invoke/VarHandle" ∧ (parseMethodDescriptor yX10_readingAhead.desc).map (fun d => d.parameters.length) = some 1 := by decide +kernel
abbrev cX10_runsHome : ByteArray := prog_12_method_10_code
def yX10_runsHome : MethodName := ⟨RX10, "runsHome", "(I)Z"⟩
theorem hdX10_runsHome : yX10_runsHome.cls ≠ "java/lang/invoke/MethodHandle" ∧ yX10_runsHome.cls ≠ "java/lang/invoke/VarHandle" ∧ (parseMethodDescriptor yX10_runsHome.desc).map (fun d => d.parameters.length) = some 1 := by decide +kernel
abbrev cX10_setHouseVacuum : ByteArray := prog_12_method_6_code
def yX10_setHouseVacuum : MethodName := ⟨RX10, "setHouseVacuum", "(I)V"⟩
theorem hdX10_setHouseVacuum : yX10_setHouseVacuum.cls ≠ "java/lang/invoke/MethodHandle" ∧ yX10_setHouseVacuum.cls ≠ "java/lang/invoke/VarHandle" ∧ (parseMethodDescriptor yX10_setHouseVacuum.desc).map (fun d => d.parameters.length) = some 1 := by decide +kernel
abbrev cX10_setLeak : ByteArray := prog_12_method_5_code
def yX10_setLeak : MethodName := ⟨RX10, "setLeak", "(II)V"⟩
theorem hdX10_setLeak : yX10_setLeak.cls ≠ "java/lang/invoke/MethodHandle" ∧ yX10_setLeak.cls ≠ "java/lang/invoke/VarHandle" ∧ (parseMethodDescriptor yX10_setLeak.desc).map (fun d => d.parameters.length) = some 2 := by decide +kernel
abbrev cX10_setReading : ByteArray := prog_12_method_8_code
def yX10_setReading : MethodName := ⟨RX10, "setReading", "(II)V"⟩
theorem hdX10_setReading : yX10_setReading.cls ≠ "java/lang/invoke/MethodHandle" ∧ yX10_setReading.cls ≠ "java/lang/invoke/VarHandle" ∧ (parseMethodDescriptor yX10_setReading.desc).map (fun d => d.parameters.length) = some 2 := by decide +kernel
abbrev cX10_settleVacuum : ByteArray := prog_12_method_7_code
def yX10_settleVacuum : MethodName := ⟨RX10, "settleVacuum", "()V"⟩
theorem hdX10_settleVacuum : yX10_settleVacuum.cls ≠ "java/lang/invoke/MethodHandle" ∧ yX10_settleVacuum.cls ≠ "java/lang/invoke/VarHandle" ∧ (parseMethodDescriptor yX10_settleVacuum.desc).map (fun d => d.parameters.length) = some 0 := by decide +kernel
abbrev cX10_suspectBy : ByteArray := prog_12_method_13_code
def yX10_suspectBy : MethodName := ⟨RX10, "suspectBy", "(I)I"⟩
theorem hdX10_suspectBy : yX10_suspectBy.cls ≠ "java/lang/invoke/MethodHandle" ∧ yX10_suspectBy.cls ≠ "java/lang/invoke/VarHandle" ∧ (parseMethodDescriptor yX10_suspectBy.desc).map (fun d => d.parameters.length) = some 1 := by decide +kernel
abbrev cX10_tell : ByteArray := prog_12_method_12_code
def yX10_tell : MethodName := ⟨RX10, "tell", "(II)I"⟩
theorem hdX10_tell : yX10_tell.cls ≠ "java/lang/invoke/MethodHandle" ∧ yX10_tell.cls ≠ "java/lang/invoke/VarHandle" ∧ (parseMethodDescriptor yX10_tell.desc).map (fun d => d.parameters.length) = some 2 := by decide +kernel
abbrev cX10_vacuumAt : ByteArray := prog_12_method_9_code
def yX10_vacuumAt : MethodName := ⟨RX10, "vacuumAt", "(I)I"⟩
theorem hdX10_vacuumAt : yX10_vacuumAt.cls ≠ "java/lang/invoke/MethodHandle" ∧ yX10_vacuumAt.cls ≠ "java/lang/invoke/VarHandle" ∧ (parseMethodDescriptor yX10_vacuumAt.desc).map (fun d => d.parameters.length) = some 1 := by decide +kernel
abbrev cX11_batch : ByteArray := prog_1_method_19_code
def yX11_batch : MethodName := ⟨RX11, "batch", "(II)I"⟩
theorem hdX11_batch : yX11_batch.cls ≠ "java/lang/invoke/MethodHandle" ∧ yX11_batch.cls ≠ "java/lang/invoke/VarHandle" ∧ (parseMethodDescriptor yX11_batch.desc).map (fun d => d.parameters.length) = some 2 := by decide +kernel
abbrev cX11_boil : ByteArray := prog_1_method_16_code
def yX11_boil : MethodName := ⟨RX11, "boil", "(I)I"⟩
theorem hdX11_boil : yX11_boil.cls ≠ "java/lang/invoke/MethodHandle" ∧ yX11_boil.cls ≠ "java/lang/invoke/VarHandle" ∧ (parseMethodDescriptor yX11_boil.desc).map (fun d => d.parameters.length) = some 1 := by decide +kernel
abbrev cX11_count : ByteArray := prog_1_method_25_code
def yX11_count : MethodName := ⟨RX11, "count", "(I)I"⟩
theorem hdX11_count : yX11_count.cls ≠ "java/lang/invoke/MethodHandle" ∧ yX11_count.cls ≠ "java/lang/invoke/VarHandle" ∧ (parseMethodDescriptor yX11_count.desc).map (fun d => d.parameters.length) = some 1 := by decide +kernel
abbrev cX11_day : ByteArray := prog_1_method_10_code
def yX11_day : MethodName := ⟨RX11, "day", "(II)I"⟩
theorem hdX11_day : yX11_day.cls ≠ "java/lang/invoke/MethodHandle" ∧ yX11_day.cls ≠ "java/lang/invoke/VarHandle" ∧ (parseMethodDescriptor yX11_day.desc).map (fun d => d.parameters.length) = some 2 := by decide +kernel
abbrev cX11_drawBatch : ByteArray := prog_1_method_34_code
def yX11_drawBatch : MethodName := ⟨RX11, "drawBatch", "()Z"⟩
theorem hdX11_drawBatch : yX11_drawBatch.cls ≠ "java/lang/invoke/MethodHandle" ∧ yX11_drawBatch.cls ≠ "java/lang/invoke/VarHandle" ∧ (parseMethodDescriptor yX11_drawBatch.desc).map (fun d => d.parameters.length) = some 0 := by decide +kernel
abbrev cX11_dump : ByteArray := prog_1_method_14_code
def yX11_dump : MethodName := ⟨RX11, "dump", "()I"⟩
theorem hdX11_dump : yX11_dump.cls ≠ "java/lang/invoke/MethodHandle" ∧ yX11_dump.cls ≠ "java/lang/invoke/VarHandle" ∧ (parseMethodDescriptor yX11_dump.desc).map (fun d => d.parameters.length) = some 0 := by decide +kernel
abbrev cX11_fault : ByteArray := prog_1_method_24_code
def yX11_fault : MethodName := ⟨RX11, "fault", "()I"⟩
theorem hdX11_fault : yX11_fault.cls ≠ "java/lang/invoke/MethodHandle" ∧ yX11_fault.cls ≠ "java/lang/invoke/VarHandle" ∧ (parseMethodDescriptor yX11_fault.desc).map (fun d => d.parameters.length) = some 0 := by decide +kernel
abbrev cX11_feed : ByteArray := prog_1_method_22_code
def yX11_feed : MethodName := ⟨RX11, "feed", "(IIIII)I"⟩
theorem hdX11_feed : yX11_feed.cls ≠ "java/lang/invoke/MethodHandle" ∧ yX11_feed.cls ≠ "java/lang/invoke/VarHandle" ∧ (parseMethodDescriptor yX11_feed.desc).map (fun d => d.parameters.length) = some 5 := by decide +kernel
abbrev cX11_foretold : ByteArray := prog_1_method_12_code
def yX11_foretold : MethodName := ⟨RX11, "foretold", "(III)I"⟩
theorem hdX11_foretold : yX11_foretold.cls ≠ "java/lang/invoke/MethodHandle" ∧ yX11_foretold.cls ≠ "java/lang/invoke/VarHandle" ∧ (parseMethodDescriptor yX11_foretold.desc).map (fun d => d.parameters.length) = some 3 := by decide +kernel
abbrev cX11_frostOf : ByteArray := prog_1_method_29_code
def yX11_frostOf : MethodName := ⟨RX11, "frostOf", "(I)I"⟩
theorem hdX11_frostOf : yX11_frostOf.cls ≠ "java/lang/invoke/MethodHandle" ∧ yX11_frostOf.cls ≠ "java/lang/invoke/VarHandle" ∧ (parseMethodDescriptor yX11_frostOf.desc).map (fun d => d.parameters.length) = some 1 := by decide +kernel
abbrev cX11_gatherFrom : ByteArray := prog_1_method_32_code
def yX11_gatherFrom : MethodName := ⟨RX11, "gatherFrom", "(II)I"⟩
theorem hdX11_gatherFrom : yX11_gatherFrom.cls ≠ "java/lang/invoke/MethodHandle" ∧ yX11_gatherFrom.cls ≠ "java/lang/invoke/VarHandle" ∧ (parseMethodDescriptor yX11_gatherFrom.desc).map (fun d => d.parameters.length) = some 2 := by decide +kernel
abbrev cX11_gatherPanFacts : ByteArray := prog_1_method_35_code
def yX11_gatherPanFacts : MethodName := ⟨RX11, "gatherPanFacts", "()V"⟩
theorem hdX11_gatherPanFacts : yX11_gatherPanFacts.cls ≠ "java/lang/invoke/MethodHandle" ∧ yX11_gatherPanFacts.cls ≠ "java/lang/invoke/VarHandle" ∧ (parseMethodDescriptor yX11_gatherPanFacts.desc).map (fun d => d.parameters.length) = some 0 := by decide +kernel
abbrev cX11_gatherSap : ByteArray := prog_1_method_31_code
def yX11_gatherSap : MethodName := ⟨RX11, "gatherSap", "(I)I"⟩
theorem hdX11_gatherSap : yX11_gatherSap.cls ≠ "java/lang/invoke/MethodHandle" ∧ yX11_gatherSap.cls ≠ "java/lang/invoke/VarHandle" ∧ (parseMethodDescriptor yX11_gatherSap.desc).map (fun d => d.parameters.length) = some 1 := by decide +kernel
abbrev cX11_gauge : ByteArray := prog_1_method_7_code
def yX11_gauge : MethodName := ⟨RX11, "gauge", "(II)Z"⟩
theorem hdX11_gauge : yX11_gauge.cls ≠ "java/lang/invoke/MethodHandle" ∧ yX11_gauge.cls ≠ "java/lang/invoke/VarHandle" ∧ (parseMethodDescriptor yX11_gauge.desc).map (fun d => d.parameters.length) = some 2 := by decide +kernel
abbrev cX11_gradeByLook : ByteArray := prog_1_method_37_code
def yX11_gradeByLook : MethodName := ⟨RX11, "gradeByLook", "(II)I"⟩
theorem hdX11_gradeByLook : yX11_gradeByLook.cls ≠ "java/lang/invoke/MethodHandle" ∧ yX11_gradeByLook.cls ≠ "java/lang/invoke/VarHandle" ∧ (parseMethodDescriptor yX11_gradeByLook.desc).map (fun d => d.parameters.length) = some 2 := by decide +kernel
abbrev cX11_gradeOf : ByteArray := prog_1_method_36_code
def yX11_gradeOf : MethodName := ⟨RX11, "gradeOf", "(I)I"⟩
theorem hdX11_gradeOf : yX11_gradeOf.cls ≠ "java/lang/invoke/MethodHandle" ∧ yX11_gradeOf.cls ≠ "java/lang/invoke/VarHandle" ∧ (parseMethodDescriptor yX11_gradeOf.desc).map (fun d => d.parameters.length) = some 1 := by decide +kernel
abbrev cX11_init : ByteArray := prog_1_method_1_code
def yX11_init : MethodName := ⟨RX11, "<init>", "()V"⟩
theorem hdX11_init : yX11_init.cls ≠ "java/lang/invoke/MethodHandle" ∧ yX11_init.cls ≠ "java/lang/invoke/VarHandle" ∧ (parseMethodDescriptor yX11_init.desc).map (fun d => d.parameters.length) = some 0 := by decide +kernel
abbrev cX11_isMember : ByteArray := prog_1_method_27_code
def yX11_isMember : MethodName := ⟨RX11, "isMember", "(I)Z"⟩
theorem hdX11_isMember : yX11_isMember.cls ≠ "java/lang/invoke/MethodHandle" ∧ yX11_isMember.cls ≠ "java/lang/invoke/VarHandle" ∧ (parseMethodDescriptor yX11_isMember.desc).map (fun d => d.parameters.length) = some 1 := by decide +kernel
abbrev cX11_isWeather : ByteArray := prog_1_method_28_code
def yX11_isWeather : MethodName := ⟨RX11, "isWeather", "(II)Z"⟩
theorem hdX11_isWeather : yX11_isWeather.cls ≠ "java/lang/invoke/MethodHandle" ∧ yX11_isWeather.cls ≠ "java/lang/invoke/VarHandle" ∧ (parseMethodDescriptor yX11_isWeather.desc).map (fun d => d.parameters.length) = some 2 := by decide +kernel
abbrev cX11_isWithin : ByteArray := prog_1_method_26_code
def yX11_isWithin : MethodName := ⟨RX11, "isWithin", "(III)Z"⟩
theorem hdX11_isWithin : yX11_isWithin.cls ≠ "java/lang/invoke/MethodHandle" ∧ yX11_isWithin.cls ≠ "java/lang/invoke/VarHandle" ∧ (parseMethodDescriptor yX11_isWithin.desc).map (fun d => d.parameters.length) = some 3 := by decide +kernel
abbrev cX11_leak : ByteArray := prog_1_method_5_code
def yX11_leak : MethodName := ⟨RX11, "leak", "(II)Z"⟩
theorem hdX11_leak : yX11_leak.cls ≠ "java/lang/invoke/MethodHandle" ∧ yX11_leak.cls ≠ "java/lang/invoke/VarHandle" ∧ (parseMethodDescriptor yX11_leak.desc).map (fun d => d.parameters.length) = some 2 := by decide +kernel
abbrev cX11_let : ByteArray := prog_1_method_13_code
def yX11_let : MethodName := ⟨RX11, "let", "(I)I"⟩
theorem hdX11_let : yX11_let.cls ≠ "java/lang/invoke/MethodHandle" ∧ yX11_let.cls ≠ "java/lang/invoke/VarHandle" ∧ (parseMethodDescriptor yX11_let.desc).map (fun d => d.parameters.length) = some 1 := by decide +kernel
abbrev cX11_look : ByteArray := prog_1_method_18_code
def yX11_look : MethodName := ⟨RX11, "look", "(III)Z"⟩
theorem hdX11_look : yX11_look.cls ≠ "java/lang/invoke/MethodHandle" ∧ yX11_look.cls ≠ "java/lang/invoke/VarHandle" ∧ (parseMethodDescriptor yX11_look.desc).map (fun d => d.parameters.length) = some 3 := by decide +kernel
abbrev cX11_member : ByteArray := prog_1_method_21_code
def yX11_member : MethodName := ⟨RX11, "member", "(II)I"⟩
theorem hdX11_member : yX11_member.cls ≠ "java/lang/invoke/MethodHandle" ∧ yX11_member.cls ≠ "java/lang/invoke/VarHandle" ∧ (parseMethodDescriptor yX11_member.desc).map (fun d => d.parameters.length) = some 2 := by decide +kernel
abbrev cX11_node : ByteArray := prog_1_method_2_code
def yX11_node : MethodName := ⟨RX11, "node", "(IIII)I"⟩
theorem hdX11_node : yX11_node.cls ≠ "java/lang/invoke/MethodHandle" ∧ yX11_node.cls ≠ "java/lang/invoke/VarHandle" ∧ (parseMethodDescriptor yX11_node.desc).map (fun d => d.parameters.length) = some 4 := by decide +kernel
abbrev cX11_nodeOf : ByteArray := prog_1_method_8_code
def yX11_nodeOf : MethodName := ⟨RX11, "nodeOf", "(II)I"⟩
theorem hdX11_nodeOf : yX11_nodeOf.cls ≠ "java/lang/invoke/MethodHandle" ∧ yX11_nodeOf.cls ≠ "java/lang/invoke/VarHandle" ∧ (parseMethodDescriptor yX11_nodeOf.desc).map (fun d => d.parameters.length) = some 2 := by decide +kernel
abbrev cX11_pan : ByteArray := prog_1_method_17_code
def yX11_pan : MethodName := ⟨RX11, "pan", "(I)I"⟩
theorem hdX11_pan : yX11_pan.cls ≠ "java/lang/invoke/MethodHandle" ∧ yX11_pan.cls ≠ "java/lang/invoke/VarHandle" ∧ (parseMethodDescriptor yX11_pan.desc).map (fun d => d.parameters.length) = some 1 := by decide +kernel
abbrev cX11_passMinute : ByteArray := prog_1_method_33_code
def yX11_passMinute : MethodName := ⟨RX11, "passMinute", "()V"⟩
theorem hdX11_passMinute : yX11_passMinute.cls ≠ "java/lang/invoke/MethodHandle" ∧ yX11_passMinute.cls ≠ "java/lang/invoke/VarHandle" ∧ (parseMethodDescriptor yX11_passMinute.desc).map (fun d => d.parameters.length) = some 0 := by decide +kernel
abbrev cX11_pump : ByteArray := prog_1_method_6_code
def yX11_pump : MethodName := ⟨RX11, "pump", "(I)Z"⟩
theorem hdX11_pump : yX11_pump.cls ≠ "java/lang/invoke/MethodHandle" ∧ yX11_pump.cls ≠ "java/lang/invoke/VarHandle" ∧ (parseMethodDescriptor yX11_pump.desc).map (fun d => d.parameters.length) = some 1 := by decide +kernel
abbrev cX11_rules : ByteArray := prog_1_method_23_code
def yX11_rules : MethodName := ⟨RX11, "rules", "(I)I"⟩
theorem hdX11_rules : yX11_rules.cls ≠ "java/lang/invoke/MethodHandle" ∧ yX11_rules.cls ≠ "java/lang/invoke/VarHandle" ∧ (parseMethodDescriptor yX11_rules.desc).map (fun d => d.parameters.length) = some 1 := by decide +kernel
abbrev cX11_sell : ByteArray := prog_1_method_20_code
def yX11_sell : MethodName := ⟨RX11, "sell", "(II)I"⟩
theorem hdX11_sell : yX11_sell.cls ≠ "java/lang/invoke/MethodHandle" ∧ yX11_sell.cls ≠ "java/lang/invoke/VarHandle" ∧ (parseMethodDescriptor yX11_sell.desc).map (fun d => d.parameters.length) = some 2 := by decide +kernel
abbrev cX11_sellAllOf : ByteArray := prog_1_method_38_code
def yX11_sellAllOf : MethodName := ⟨RX11, "sellAllOf", "(I)I"⟩
theorem hdX11_sellAllOf : yX11_sellAllOf.cls ≠ "java/lang/invoke/MethodHandle" ∧ yX11_sellAllOf.cls ≠ "java/lang/invoke/VarHandle" ∧ (parseMethodDescriptor yX11_sellAllOf.desc).map (fun d => d.parameters.length) = some 1 := by decide +kernel
abbrev cX11_tap : ByteArray := prog_1_method_4_code
def yX11_tap : MethodName := ⟨RX11, "tap", "(II)I"⟩
theorem hdX11_tap : yX11_tap.cls ≠ "java/lang/invoke/MethodHandle" ∧ yX11_tap.cls ≠ "java/lang/invoke/VarHandle" ∧ (parseMethodDescriptor yX11_tap.desc).map (fun d => d.parameters.length) = some 2 := by decide +kernel
abbrev cX11_thawOf : ByteArray := prog_1_method_30_code
def yX11_thawOf : MethodName := ⟨RX11, "thawOf", "(I)I"⟩
theorem hdX11_thawOf : yX11_thawOf.cls ≠ "java/lang/invoke/MethodHandle" ∧ yX11_thawOf.cls ≠ "java/lang/invoke/VarHandle" ∧ (parseMethodDescriptor yX11_thawOf.desc).map (fun d => d.parameters.length) = some 1 := by decide +kernel
abbrev cX11_tree : ByteArray := prog_1_method_3_code
def yX11_tree : MethodName := ⟨RX11, "tree", "(II)I"⟩
theorem hdX11_tree : yX11_tree.cls ≠ "java/lang/invoke/MethodHandle" ∧ yX11_tree.cls ≠ "java/lang/invoke/VarHandle" ∧ (parseMethodDescriptor yX11_tree.desc).map (fun d => d.parameters.length) = some 2 := by decide +kernel
abbrev cX11_treeOf : ByteArray := prog_1_method_9_code
def yX11_treeOf : MethodName := ⟨RX11, "treeOf", "(II)I"⟩
theorem hdX11_treeOf : yX11_treeOf.cls ≠ "java/lang/invoke/MethodHandle" ∧ yX11_treeOf.cls ≠ "java/lang/invoke/VarHandle" ∧ (parseMethodDescriptor yX11_treeOf.desc).map (fun d => d.parameters.length) = some 2 := by decide +kernel
abbrev cX11_wood : ByteArray := prog_1_method_15_code
def yX11_wood : MethodName := ⟨RX11, "wood", "(I)I"⟩
theorem hdX11_wood : yX11_wood.cls ≠ "java/lang/invoke/MethodHandle" ∧ yX11_wood.cls ≠ "java/lang/invoke/VarHandle" ∧ (parseMethodDescriptor yX11_wood.desc).map (fun d => d.parameters.length) = some 1 := by decide +kernel
abbrev cX11_year : ByteArray := prog_1_method_11_code
def yX11_year : MethodName := ⟨RX11, "year", "()I"⟩
theorem hdX11_year : yX11_year.cls ≠ "java/lang/invoke/MethodHandle" ∧ yX11_year.cls ≠ "java/lang/invoke/VarHandle" ∧ (parseMethodDescriptor yX11_year.desc).map (fun d => d.parameters.length) = some 0 := by decide +kernel
abbrev cX12_batch : ByteArray := prog_14_method_37_code
def yX12_batch : MethodName := ⟨RX12, "batch", "(II)I"⟩
theorem hdX12_batch : yX12_batch.cls ≠ "java/lang/invoke/MethodHandle" ∧ yX12_batch.cls ≠ "java/lang/invoke/VarHandle" ∧ (parseMethodDescriptor yX12_batch.desc).map (fun d => d.parameters.length) = some 2 := by decide +kernel
abbrev cX12_blanks : ByteArray := prog_14_method_42_code
def yX12_blanks : MethodName := ⟨RX12, "blanks", "()V"⟩
theorem hdX12_blanks : yX12_blanks.cls ≠ "java/lang/invoke/MethodHandle" ∧ yX12_blanks.cls ≠ "java/lang/invoke/VarHandle" ∧ (parseMethodDescriptor yX12_blanks.desc).map (fun d => d.parameters.length) = some 0 := by decide +kernel
abbrev cX12_boil : ByteArray := prog_14_method_30_code
def yX12_boil : MethodName := ⟨RX12, "boil", "(I)I"⟩
theorem hdX12_boil : yX12_boil.cls ≠ "java/lang/invoke/MethodHandle" ∧ yX12_boil.cls ≠ "java/lang/invoke/VarHandle" ∧ (parseMethodDescriptor yX12_boil.desc).map (fun d => d.parameters.length) = some 1 := by decide +kernel
abbrev cX12_common : ByteArray := prog_14_method_24_code
def yX12_common : MethodName := ⟨RX12, "common", "(II)I"⟩
theorem hdX12_common : yX12_common.cls ≠ "java/lang/invoke/MethodHandle" ∧ yX12_common.cls ≠ "java/lang/invoke/VarHandle" ∧ (parseMethodDescriptor yX12_common.desc).map (fun d => d.parameters.length) = some 2 := by decide +kernel
abbrev cX12_count : ByteArray := prog_14_method_51_code
def yX12_count : MethodName := ⟨RX12, "count", "(I)I"⟩
theorem hdX12_count : yX12_count.cls ≠ "java/lang/invoke/MethodHandle" ∧ yX12_count.cls ≠ "java/lang/invoke/VarHandle" ∧ (parseMethodDescriptor yX12_count.desc).map (fun d => d.parameters.length) = some 1 := by decide +kernel
abbrev cX12_day : ByteArray := prog_14_method_21_code
def yX12_day : MethodName := ⟨RX12, "day", "(II)I"⟩
theorem hdX12_day : yX12_day.cls ≠ "java/lang/invoke/MethodHandle" ∧ yX12_day.cls ≠ "java/lang/invoke/VarHandle" ∧ (parseMethodDescriptor yX12_day.desc).map (fun d => d.parameters.length) = some 2 := by decide +kernel
abbrev cX12_dump : ByteArray := prog_14_method_27_code
def yX12_dump : MethodName := ⟨RX12, "dump", "()I"⟩
theorem hdX12_dump : yX12_dump.cls ≠ "java/lang/invoke/MethodHandle" ∧ yX12_dump.cls ≠ "java/lang/invoke/VarHandle" ∧ (parseMethodDescriptor yX12_dump.desc).map (fun d => d.parameters.length) = some 0 := by decide +kernel
abbrev cX12_emptyPan : ByteArray := prog_14_method_22_code
def yX12_emptyPan : MethodName := ⟨RX12, "emptyPan", "()V"⟩
theorem hdX12_emptyPan : yX12_emptyPan.cls ≠ "java/lang/invoke/MethodHandle" ∧ yX12_emptyPan.cls ≠ "java/lang/invoke/VarHandle" ∧ (parseMethodDescriptor yX12_emptyPan.desc).map (fun d => d.parameters.length) = some 0 := by decide +kernel
abbrev cX12_fault : ByteArray := prog_14_method_49_code
def yX12_fault : MethodName := ⟨RX12, "fault", "()I"⟩
theorem hdX12_fault : yX12_fault.cls ≠ "java/lang/invoke/MethodHandle" ∧ yX12_fault.cls ≠ "java/lang/invoke/VarHandle" ∧ (parseMethodDescriptor yX12_fault.desc).map (fun d => d.parameters.length) = some 0 := by decide +kernel
abbrev cX12_feed : ByteArray := prog_14_method_40_code
def yX12_feed : MethodName := ⟨RX12, "feed", "(IIIII)I"⟩
theorem hdX12_feed : yX12_feed.cls ≠ "java/lang/invoke/MethodHandle" ∧ yX12_feed.cls ≠ "java/lang/invoke/VarHandle" ∧ (parseMethodDescriptor yX12_feed.desc).map (fun d => d.parameters.length) = some 5 := by decide +kernel
abbrev cX12_firstRule : ByteArray := prog_14_method_50_code
def yX12_firstRule : MethodName := ⟨RX12, "firstRule", "(ZII)I"⟩
theorem hdX12_firstRule : yX12_firstRule.cls ≠ "java/lang/invoke/MethodHandle" ∧ yX12_firstRule.cls ≠ "java/lang/invoke/VarHandle" ∧ (parseMethodDescriptor yX12_firstRule.desc).map (fun d => d.parameters.length) = some 3 := by decide +kernel
abbrev cX12_foretold : ByteArray := prog_14_method_25_code
def yX12_foretold : MethodName := ⟨RX12, "foretold", "(III)I"⟩
theorem hdX12_foretold : yX12_foretold.cls ≠ "java/lang/invoke/MethodHandle" ∧ yX12_foretold.cls ≠ "java/lang/invoke/VarHandle" ∧ (parseMethodDescriptor yX12_foretold.desc).map (fun d => d.parameters.length) = some 3 := by decide +kernel
abbrev cX12_four : ByteArray := prog_14_method_41_code
def yX12_four : MethodName := ⟨RX12, "four", "(I)V"⟩
theorem hdX12_four : yX12_four.cls ≠ "java/lang/invoke/MethodHandle" ∧ yX12_four.cls ≠ "java/lang/invoke/VarHandle" ∧ (parseMethodDescriptor yX12_four.desc).map (fun d => d.parameters.length) = some 1 := by decide +kernel
abbrev cX12_gauge : ByteArray := prog_14_method_11_code
def yX12_gauge : MethodName := ⟨RX12, "gauge", "(II)Z"⟩
theorem hdX12_gauge : yX12_gauge.cls ≠ "java/lang/invoke/MethodHandle" ∧ yX12_gauge.cls ≠ "java/lang/invoke/VarHandle" ∧ (parseMethodDescriptor yX12_gauge.desc).map (fun d => d.parameters.length) = some 2 := by decide +kernel
abbrev cX12_gradeBy : ByteArray := prog_14_method_35_code
def yX12_gradeBy : MethodName := ⟨RX12, "gradeBy", "(II)I"⟩
theorem hdX12_gradeBy : yX12_gradeBy.cls ≠ "java/lang/invoke/MethodHandle" ∧ yX12_gradeBy.cls ≠ "java/lang/invoke/VarHandle" ∧ (parseMethodDescriptor yX12_gradeBy.desc).map (fun d => d.parameters.length) = some 2 := by decide +kernel
abbrev cX12_gradeOf : ByteArray := prog_14_method_36_code
def yX12_gradeOf : MethodName := ⟨RX12, "gradeOf", "(I)I"⟩
theorem hdX12_gradeOf : yX12_gradeOf.cls ≠ "java/lang/invoke/MethodHandle" ∧ yX12_gradeOf.cls ≠ "java/lang/invoke/VarHandle" ∧ (parseMethodDescriptor yX12_gradeOf.desc).map (fun d => d.parameters.length) = some 1 := by decide +kernel
abbrev cX12_held : ByteArray := prog_14_method_20_code
def yX12_held : MethodName := ⟨RX12, "held", "(I)I"⟩
theorem hdX12_held : yX12_held.cls ≠ "java/lang/invoke/MethodHandle" ∧ yX12_held.cls ≠ "java/lang/invoke/VarHandle" ∧ (parseMethodDescriptor yX12_held.desc).map (fun d => d.parameters.length) = some 1 := by decide +kernel
abbrev cX12_holesOf : ByteArray := prog_14_method_16_code
def yX12_holesOf : MethodName := ⟨RX12, "holesOf", "(II)I"⟩
theorem hdX12_holesOf : yX12_holesOf.cls ≠ "java/lang/invoke/MethodHandle" ∧ yX12_holesOf.cls ≠ "java/lang/invoke/VarHandle" ∧ (parseMethodDescriptor yX12_holesOf.desc).map (fun d => d.parameters.length) = some 2 := by decide +kernel
abbrev cX12_init : ByteArray := prog_14_method_1_code
def yX12_init : MethodName := ⟨RX12, "<init>", "()V"⟩
theorem hdX12_init : yX12_init.cls ≠ "java/lang/invoke/MethodHandle" ∧ yX12_init.cls ≠ "java/lang/invoke/VarHandle" ∧ (parseMethodDescriptor yX12_init.desc).map (fun d => d.parameters.length) = some 0 := by decide +kernel
abbrev cX12_isBatch : ByteArray := prog_14_method_33_code
def yX12_isBatch : MethodName := ⟨RX12, "isBatch", "(I)Z"⟩
theorem hdX12_isBatch : yX12_isBatch.cls ≠ "java/lang/invoke/MethodHandle" ∧ yX12_isBatch.cls ≠ "java/lang/invoke/VarHandle" ∧ (parseMethodDescriptor yX12_isBatch.desc).map (fun d => d.parameters.length) = some 1 := by decide +kernel
abbrev cX12_isIn : ByteArray := prog_14_method_2_code
def yX12_isIn : MethodName := ⟨RX12, "isIn", "(III)Z"⟩
theorem hdX12_isIn : yX12_isIn.cls ≠ "java/lang/invoke/MethodHandle" ∧ yX12_isIn.cls ≠ "java/lang/invoke/VarHandle" ∧ (parseMethodDescriptor yX12_isIn.desc).map (fun d => d.parameters.length) = some 3 := by decide +kernel
abbrev cX12_isNode : ByteArray := prog_14_method_4_code
def yX12_isNode : MethodName := ⟨RX12, "isNode", "(I)Z"⟩
theorem hdX12_isNode : yX12_isNode.cls ≠ "java/lang/invoke/MethodHandle" ∧ yX12_isNode.cls ≠ "java/lang/invoke/VarHandle" ∧ (parseMethodDescriptor yX12_isNode.desc).map (fun d => d.parameters.length) = some 1 := by decide +kernel
abbrev cX12_isTree : ByteArray := prog_14_method_5_code
def yX12_isTree : MethodName := ⟨RX12, "isTree", "(I)Z"⟩
theorem hdX12_isTree : yX12_isTree.cls ≠ "java/lang/invoke/MethodHandle" ∧ yX12_isTree.cls ≠ "java/lang/invoke/VarHandle" ∧ (parseMethodDescriptor yX12_isTree.desc).map (fun d => d.parameters.length) = some 1 := by decide +kernel
abbrev cX12_isWeather : ByteArray := prog_14_method_19_code
def yX12_isWeather : MethodName := ⟨RX12, "isWeather", "(II)Z"⟩
theorem hdX12_isWeather : yX12_isWeather.cls ≠ "java/lang/invoke/MethodHandle" ∧ yX12_isWeather.cls ≠ "java/lang/invoke/VarHandle" ∧ (parseMethodDescriptor yX12_isWeather.desc).map (fun d => d.parameters.length) = some 2 := by decide +kernel
abbrev cX12_leak : ByteArray := prog_14_method_9_code
def yX12_leak : MethodName := ⟨RX12, "leak", "(II)Z"⟩
theorem hdX12_leak : yX12_leak.cls ≠ "java/lang/invoke/MethodHandle" ∧ yX12_leak.cls ≠ "java/lang/invoke/VarHandle" ∧ (parseMethodDescriptor yX12_leak.desc).map (fun d => d.parameters.length) = some 2 := by decide +kernel
abbrev cX12_let : ByteArray := prog_14_method_26_code
def yX12_let : MethodName := ⟨RX12, "let", "(I)I"⟩
theorem hdX12_let : yX12_let.cls ≠ "java/lang/invoke/MethodHandle" ∧ yX12_let.cls ≠ "java/lang/invoke/VarHandle" ∧ (parseMethodDescriptor yX12_let.desc).map (fun d => d.parameters.length) = some 1 := by decide +kernel
abbrev cX12_look : ByteArray := prog_14_method_34_code
def yX12_look : MethodName := ⟨RX12, "look", "(III)Z"⟩
theorem hdX12_look : yX12_look.cls ≠ "java/lang/invoke/MethodHandle" ∧ yX12_look.cls ≠ "java/lang/invoke/VarHandle" ∧ (parseMethodDescriptor yX12_look.desc).map (fun d => d.parameters.length) = some 3 := by decide +kernel
abbrev cX12_mayHave : ByteArray := prog_14_method_15_code
def yX12_mayHave : MethodName := ⟨RX12, "mayHave", "(I)I"⟩
theorem hdX12_mayHave : yX12_mayHave.cls ≠ "java/lang/invoke/MethodHandle" ∧ yX12_mayHave.cls ≠ "java/lang/invoke/VarHandle" ∧ (parseMethodDescriptor yX12_mayHave.desc).map (fun d => d.parameters.length) = some 1 := by decide +kernel
abbrev cX12_member : ByteArray := prog_14_method_39_code
def yX12_member : MethodName := ⟨RX12, "member", "(II)I"⟩
theorem hdX12_member : yX12_member.cls ≠ "java/lang/invoke/MethodHandle" ∧ yX12_member.cls ≠ "java/lang/invoke/VarHandle" ∧ (parseMethodDescriptor yX12_member.desc).map (fun d => d.parameters.length) = some 2 := by decide +kernel
abbrev cX12_minute : ByteArray := prog_14_method_31_code
def yX12_minute : MethodName := ⟨RX12, "minute", "()V"⟩
theorem hdX12_minute : yX12_minute.cls ≠ "java/lang/invoke/MethodHandle" ∧ yX12_minute.cls ≠ "java/lang/invoke/VarHandle" ∧ (parseMethodDescriptor yX12_minute.desc).map (fun d => d.parameters.length) = some 0 := by decide +kernel
abbrev cX12_node : ByteArray := prog_14_method_6_code
def yX12_node : MethodName := ⟨RX12, "node", "(IIII)I"⟩
theorem hdX12_node : yX12_node.cls ≠ "java/lang/invoke/MethodHandle" ∧ yX12_node.cls ≠ "java/lang/invoke/VarHandle" ∧ (parseMethodDescriptor yX12_node.desc).map (fun d => d.parameters.length) = some 4 := by decide +kernel
abbrev cX12_nodeOf : ByteArray := prog_14_method_13_code
def yX12_nodeOf : MethodName := ⟨RX12, "nodeOf", "(II)I"⟩
theorem hdX12_nodeOf : yX12_nodeOf.cls ≠ "java/lang/invoke/MethodHandle" ∧ yX12_nodeOf.cls ≠ "java/lang/invoke/VarHandle" ∧ (parseMethodDescriptor yX12_nodeOf.desc).map (fun d => d.parameters.length) = some 2 := by decide +kernel
abbrev cX12_one : ByteArray := prog_14_method_3_code
def yX12_one : MethodName := ⟨RX12, "one", "(Z)I"⟩
theorem hdX12_one : yX12_one.cls ≠ "java/lang/invoke/MethodHandle" ∧ yX12_one.cls ≠ "java/lang/invoke/VarHandle" ∧ (parseMethodDescriptor yX12_one.desc).map (fun d => d.parameters.length) = some 1 := by decide +kernel
abbrev cX12_pan : ByteArray := prog_14_method_32_code
def yX12_pan : MethodName := ⟨RX12, "pan", "(I)I"⟩
theorem hdX12_pan : yX12_pan.cls ≠ "java/lang/invoke/MethodHandle" ∧ yX12_pan.cls ≠ "java/lang/invoke/VarHandle" ∧ (parseMethodDescriptor yX12_pan.desc).map (fun d => d.parameters.length) = some 1 := by decide +kernel
abbrev cX12_pump : ByteArray := prog_14_method_10_code
def yX12_pump : MethodName := ⟨RX12, "pump", "(I)Z"⟩
theorem hdX12_pump : yX12_pump.cls ≠ "java/lang/invoke/MethodHandle" ∧ yX12_pump.cls ≠ "java/lang/invoke/VarHandle" ∧ (parseMethodDescriptor yX12_pump.desc).map (fun d => d.parameters.length) = some 1 := by decide +kernel
abbrev cX12_rules : ByteArray := prog_14_method_48_code
def yX12_rules : MethodName := ⟨RX12, "rules", "(I)I"⟩
theorem hdX12_rules : yX12_rules.cls ≠ "java/lang/invoke/MethodHandle" ∧ yX12_rules.cls ≠ "java/lang/invoke/VarHandle" ∧ (parseMethodDescriptor yX12_rules.desc).map (fun d => d.parameters.length) = some 1 := by decide +kernel
abbrev cX12_runs : ByteArray := prog_14_method_7_code
def yX12_runs : MethodName := ⟨RX12, "runs", "(I)Z"⟩
theorem hdX12_runs : yX12_runs.cls ≠ "java/lang/invoke/MethodHandle" ∧ yX12_runs.cls ≠ "java/lang/invoke/VarHandle" ∧ (parseMethodDescriptor yX12_runs.desc).map (fun d => d.parameters.length) = some 1 := by decide +kernel
abbrev cX12_sell : ByteArray := prog_14_method_38_code
def yX12_sell : MethodName := ⟨RX12, "sell", "(II)I"⟩
theorem hdX12_sell : yX12_sell.cls ≠ "java/lang/invoke/MethodHandle" ∧ yX12_sell.cls ≠ "java/lang/invoke/VarHandle" ∧ (parseMethodDescriptor yX12_sell.desc).map (fun d => d.parameters.length) = some 2 := by decide +kernel
abbrev cX12_statement : ByteArray := prog_14_method_47_code
def yX12_statement : MethodName := ⟨RX12, "statement", "()Z"⟩
theorem hdX12_statement : yX12_statement.cls ≠ "java/lang/invoke/MethodHandle" ∧ yX12_statement.cls ≠ "java/lang/invoke/VarHandle" ∧ (parseMethodDescriptor yX12_statement.desc).map (fun d => d.parameters.length) = some 0 := by decide +kernel
abbrev cX12_strength : ByteArray := prog_14_method_29_code
def yX12_strength : MethodName := ⟨RX12, "strength", "()I"⟩
theorem hdX12_strength : yX12_strength.cls ≠ "java/lang/invoke/MethodHandle" ∧ yX12_strength.cls ≠ "java/lang/invoke/VarHandle" ∧ (parseMethodDescriptor yX12_strength.desc).map (fun d => d.parameters.length) = some 0 := by decide +kernel
abbrev cX12_suspect : ByteArray := prog_14_method_12_code
def yX12_suspect : MethodName := ⟨RX12, "suspect", "(I)I"⟩
theorem hdX12_suspect : yX12_suspect.cls ≠ "java/lang/invoke/MethodHandle" ∧ yX12_suspect.cls ≠ "java/lang/invoke/VarHandle" ∧ (parseMethodDescriptor yX12_suspect.desc).map (fun d => d.parameters.length) = some 1 := by decide +kernel
abbrev cX12_takes : ByteArray := prog_14_method_44_code
def yX12_takes : MethodName := ⟨RX12, "takes", "(J)Z"⟩
theorem hdX12_takes : yX12_takes.cls ≠ "java/lang/invoke/MethodHandle" ∧ yX12_takes.cls ≠ "java/lang/invoke/VarHandle" ∧ (parseMethodDescriptor yX12_takes.desc).map (fun d => d.parameters.length) = some 1 := by decide +kernel
abbrev cX12_takesNumber : ByteArray := prog_14_method_45_code
def yX12_takesNumber : MethodName := ⟨RX12, "takesNumber", "(I)Z"⟩
theorem hdX12_takesNumber : yX12_takesNumber.cls ≠ "java/lang/invoke/MethodHandle" ∧ yX12_takesNumber.cls ≠ "java/lang/invoke/VarHandle" ∧ (parseMethodDescriptor yX12_takesNumber.desc).map (fun d => d.parameters.length) = some 1 := by decide +kernel
abbrev cX12_tap : ByteArray := prog_14_method_17_code
def yX12_tap : MethodName := ⟨RX12, "tap", "(II)I"⟩
theorem hdX12_tap : yX12_tap.cls ≠ "java/lang/invoke/MethodHandle" ∧ yX12_tap.cls ≠ "java/lang/invoke/VarHandle" ∧ (parseMethodDescriptor yX12_tap.desc).map (fun d => d.parameters.length) = some 2 := by decide +kernel
abbrev cX12_test : ByteArray := prog_14_method_46_code
def yX12_test : MethodName := ⟨RX12, "test", "(I)Z"⟩
theorem hdX12_test : yX12_test.cls ≠ "java/lang/invoke/MethodHandle" ∧ yX12_test.cls ≠ "java/lang/invoke/VarHandle" ∧ (parseMethodDescriptor yX12_test.desc).map (fun d => d.parameters.length) = some 1 := by decide +kernel
abbrev cX12_tree : ByteArray := prog_14_method_14_code
def yX12_tree : MethodName := ⟨RX12, "tree", "(II)I"⟩
theorem hdX12_tree : yX12_tree.cls ≠ "java/lang/invoke/MethodHandle" ∧ yX12_tree.cls ≠ "java/lang/invoke/VarHandle" ∧ (parseMethodDescriptor yX12_tree.desc).map (fun d => d.parameters.length) = some 2 := by decide +kernel
abbrev cX12_treeOf : ByteArray := prog_14_method_18_code
def yX12_treeOf : MethodName := ⟨RX12, "treeOf", "(II)I"⟩
theorem hdX12_treeOf : yX12_treeOf.cls ≠ "java/lang/invoke/MethodHandle" ∧ yX12_treeOf.cls ≠ "java/lang/invoke/VarHandle" ∧ (parseMethodDescriptor yX12_treeOf.desc).map (fun d => d.parameters.length) = some 2 := by decide +kernel
abbrev cX12_vacuumAt : ByteArray := prog_14_method_8_code
def yX12_vacuumAt : MethodName := ⟨RX12, "vacuumAt", "(I)I"⟩
theorem hdX12_vacuumAt : yX12_vacuumAt.cls ≠ "java/lang/invoke/MethodHandle" ∧ yX12_vacuumAt.cls ≠ "java/lang/invoke/VarHandle" ∧ (parseMethodDescriptor yX12_vacuumAt.desc).map (fun d => d.parameters.length) = some 1 := by decide +kernel
abbrev cX12_wood : ByteArray := prog_14_method_28_code
def yX12_wood : MethodName := ⟨RX12, "wood", "(I)I"⟩
theorem hdX12_wood : yX12_wood.cls ≠ "java/lang/invoke/MethodHandle" ∧ yX12_wood.cls ≠ "java/lang/invoke/VarHandle" ∧ (parseMethodDescriptor yX12_wood.desc).map (fun d => d.parameters.length) = some 1 := by decide +kernel
abbrev cX12_word : ByteArray := prog_14_method_43_code
def yX12_word : MethodName := ⟨RX12, "word", "()J"⟩
theorem hdX12_word : yX12_word.cls ≠ "java/lang/invoke/MethodHandle" ∧ yX12_word.cls ≠ "java/lang/invoke/VarHandle" ∧ (parseMethodDescriptor yX12_word.desc).map (fun d => d.parameters.length) = some 0 := by decide +kernel
abbrev cX12_year : ByteArray := prog_14_method_23_code
def yX12_year : MethodName := ⟨RX12, "year", "()I"⟩
theorem hdX12_year : yX12_year.cls ≠ "java/lang/invoke/MethodHandle" ∧ yX12_year.cls ≠ "java/lang/invoke/VarHandle" ∧ (parseMethodDescriptor yX12_year.desc).map (fun d => d.parameters.length) = some 0 := by decide +kernel
abbrev cX1_cameTogether : ByteArray := prog_3_method_4_code
def yX1_cameTogether : MethodName := ⟨RX1, "cameTogether", "()I"⟩
theorem hdX1_cameTogether : yX1_cameTogether.cls ≠ "java/lang/invoke/MethodHandle" ∧ yX1_cameTogether.cls ≠ "java/lang/invoke/VarHandle" ∧ (parseMethodDescriptor yX1_cameTogether.desc).map (fun d => d.parameters.length) = some 0 := by decide +kernel
abbrev cX1_credit : ByteArray := prog_3_method_2_code
def yX1_credit : MethodName := ⟨RX1, "credit", "(II)V"⟩
theorem hdX1_credit : yX1_credit.cls ≠ "java/lang/invoke/MethodHandle" ∧ yX1_credit.cls ≠ "java/lang/invoke/VarHandle" ∧ (parseMethodDescriptor yX1_credit.desc).map (fun d => d.parameters.length) = some 2 := by decide +kernel
abbrev cX1_forgetYear : ByteArray := prog_3_method_3_code
def yX1_forgetYear : MethodName := ⟨RX1, "forgetYear", "()V"⟩
theorem hdX1_forgetYear : yX1_forgetYear.cls ≠ "java/lang/invoke/MethodHandle" ∧ yX1_forgetYear.cls ≠ "java/lang/invoke/VarHandle" ∧ (parseMethodDescriptor yX1_forgetYear.desc).map (fun d => d.parameters.length) = some 0 := by decide +kernel
abbrev cX1_greatestRemainder : ByteArray := prog_3_method_6_code
def yX1_greatestRemainder : MethodName := ⟨RX1, "greatestRemainder", "()I"⟩
theorem hdX1_greatestRemainder : yX1_greatestRemainder.cls ≠ "java/lang/invoke/MethodHandle" ∧ yX1_greatestRemainder.cls ≠ "java/lang/invoke/VarHandle" ∧ (parseMethodDescriptor yX1_greatestRemainder.desc).map (fun d => d.parameters.length) = some 0 := by decide +kernel
abbrev cX1_init : ByteArray := prog_3_method_1_code
def yX1_init : MethodName := ⟨RX1, "<init>", "()V"⟩
theorem hdX1_init : yX1_init.cls ≠ "java/lang/invoke/MethodHandle" ∧ yX1_init.cls ≠ "java/lang/invoke/VarHandle" ∧ (parseMethodDescriptor yX1_init.desc).map (fun d => d.parameters.length) = some 0 := by decide +kernel
abbrev cX1_share : ByteArray := prog_3_method_5_code
def yX1_share : MethodName := ⟨RX1, "share", "(I)V"⟩
theorem hdX1_share : yX1_share.cls ≠ "java/lang/invoke/MethodHandle" ∧ yX1_share.cls ≠ "java/lang/invoke/VarHandle" ∧ (parseMethodDescriptor yX1_share.desc).map (fun d => d.parameters.length) = some 1 := by decide +kernel
abbrev cX1_tell : ByteArray := prog_3_method_7_code
def yX1_tell : MethodName := ⟨RX1, "tell", "(II)I"⟩
theorem hdX1_tell : yX1_tell.cls ≠ "java/lang/invoke/MethodHandle" ∧ yX1_tell.cls ≠ "java/lang/invoke/VarHandle" ∧ (parseMethodDescriptor yX1_tell.desc).map (fun d => d.parameters.length) = some 2 := by decide +kernel
abbrev cX2_add : ByteArray := prog_4_method_4_code
def yX2_add : MethodName := ⟨RX2, "add", "(II)I"⟩
theorem hdX2_add : yX2_add.cls ≠ "java/lang/invoke/MethodHandle" ∧ yX2_add.cls ≠ "java/lang/invoke/VarHandle" ∧ (parseMethodDescriptor yX2_add.desc).map (fun d => d.parameters.length) = some 2 := by decide +kernel
abbrev cX2_degreesApart : ByteArray := prog_4_method_15_code
def yX2_degreesApart : MethodName := ⟨RX2, "degreesApart", "(II)I"⟩
theorem hdX2_degreesApart : yX2_degreesApart.cls ≠ "java/lang/invoke/MethodHandle" ∧ yX2_degreesApart.cls ≠ "java/lang/invoke/VarHandle" ∧ (parseMethodDescriptor yX2_degreesApart.desc).map (fun d => d.parameters.length) = some 2 := by decide +kernel
abbrev cX2_drill : ByteArray := prog_4_method_16_code
def yX2_drill : MethodName := ⟨RX2, "drill", "(III)Z"⟩
theorem hdX2_drill : yX2_drill.cls ≠ "java/lang/invoke/MethodHandle" ∧ yX2_drill.cls ≠ "java/lang/invoke/VarHandle" ∧ (parseMethodDescriptor yX2_drill.desc).map (fun d => d.parameters.length) = some 3 := by decide +kernel
abbrev cX2_forgetYear : ByteArray := prog_4_method_10_code
def yX2_forgetYear : MethodName := ⟨RX2, "forgetYear", "()V"⟩
theorem hdX2_forgetYear : yX2_forgetYear.cls ≠ "java/lang/invoke/MethodHandle" ∧ yX2_forgetYear.cls ≠ "java/lang/invoke/VarHandle" ∧ (parseMethodDescriptor yX2_forgetYear.desc).map (fun d => d.parameters.length) = some 0 := by decide +kernel
abbrev cX2_gaveThisYear : ByteArray := prog_4_method_8_code
def yX2_gaveThisYear : MethodName := ⟨RX2, "gaveThisYear", "(I)I"⟩
theorem hdX2_gaveThisYear : yX2_gaveThisYear.cls ≠ "java/lang/invoke/MethodHandle" ∧ yX2_gaveThisYear.cls ≠ "java/lang/invoke/VarHandle" ∧ (parseMethodDescriptor yX2_gaveThisYear.desc).map (fun d => d.parameters.length) = some 1 := by decide +kernel
abbrev cX2_girthOf : ByteArray := prog_4_method_7_code
def yX2_girthOf : MethodName := ⟨RX2, "girthOf", "(I)I"⟩
theorem hdX2_girthOf : yX2_girthOf.cls ≠ "java/lang/invoke/MethodHandle" ∧ yX2_girthOf.cls ≠ "java/lang/invoke/VarHandle" ∧ (parseMethodDescriptor yX2_girthOf.desc).map (fun d => d.parameters.length) = some 1 := by decide +kernel
abbrev cX2_give : ByteArray := prog_4_method_9_code
def yX2_give : MethodName := ⟨RX2, "give", "(II)V"⟩
theorem hdX2_give : yX2_give.cls ≠ "java/lang/invoke/MethodHandle" ∧ yX2_give.cls ≠ "java/lang/invoke/VarHandle" ∧ (parseMethodDescriptor yX2_give.desc).map (fun d => d.parameters.length) = some 2 := by decide +kernel
abbrev cX2_has : ByteArray := prog_4_method_2_code
def yX2_has : MethodName := ⟨RX2, "has", "(I)Z"⟩
theorem hdX2_has : yX2_has.cls ≠ "java/lang/invoke/MethodHandle" ∧ yX2_has.cls ≠ "java/lang/invoke/VarHandle" ∧ (parseMethodDescriptor yX2_has.desc).map (fun d => d.parameters.length) = some 1 := by decide +kernel
abbrev cX2_hasHole : ByteArray := prog_4_method_3_code
def yX2_hasHole : MethodName := ⟨RX2, "hasHole", "(I)Z"⟩
theorem hdX2_hasHole : yX2_hasHole.cls ≠ "java/lang/invoke/MethodHandle" ∧ yX2_hasHole.cls ≠ "java/lang/invoke/VarHandle" ∧ (parseMethodDescriptor yX2_hasHole.desc).map (fun d => d.parameters.length) = some 1 := by decide +kernel
abbrev cX2_holesOf : ByteArray := prog_4_method_13_code
def yX2_holesOf : MethodName := ⟨RX2, "holesOf", "(I)I"⟩
theorem hdX2_holesOf : yX2_holesOf.cls ≠ "java/lang/invoke/MethodHandle" ∧ yX2_holesOf.cls ≠ "java/lang/invoke/VarHandle" ∧ (parseMethodDescriptor yX2_holesOf.desc).map (fun d => d.parameters.length) = some 1 := by decide +kernel
abbrev cX2_init : ByteArray := prog_4_method_1_code
def yX2_init : MethodName := ⟨RX2, "<init>", "()V"⟩
theorem hdX2_init : yX2_init.cls ≠ "java/lang/invoke/MethodHandle" ∧ yX2_init.cls ≠ "java/lang/invoke/VarHandle" ∧ (parseMethodDescriptor yX2_init.desc).map (fun d => d.parameters.length) = some 0 := by decide +kernel
abbrev cX2_isTooNear : ByteArray := prog_4_method_14_code
def yX2_isTooNear : MethodName := ⟨RX2, "isTooNear", "(III)Z"⟩
theorem hdX2_isTooNear : yX2_isTooNear.cls ≠ "java/lang/invoke/MethodHandle" ∧ yX2_isTooNear.cls ≠ "java/lang/invoke/VarHandle" ∧ (parseMethodDescriptor yX2_isTooNear.desc).map (fun d => d.parameters.length) = some 3 := by decide +kernel
abbrev cX2_nodeOfTree : ByteArray := prog_4_method_6_code
def yX2_nodeOfTree : MethodName := ⟨RX2, "nodeOfTree", "(I)I"⟩
theorem hdX2_nodeOfTree : yX2_nodeOfTree.cls ≠ "java/lang/invoke/MethodHandle" ∧ yX2_nodeOfTree.cls ≠ "java/lang/invoke/VarHandle" ∧ (parseMethodDescriptor yX2_nodeOfTree.desc).map (fun d => d.parameters.length) = some 1 := by decide +kernel
abbrev cX2_tapsAllowed : ByteArray := prog_4_method_11_code
def yX2_tapsAllowed : MethodName := ⟨RX2, "tapsAllowed", "(I)I"⟩
theorem hdX2_tapsAllowed : yX2_tapsAllowed.cls ≠ "java/lang/invoke/MethodHandle" ∧ yX2_tapsAllowed.cls ≠ "java/lang/invoke/VarHandle" ∧ (parseMethodDescriptor yX2_tapsAllowed.desc).map (fun d => d.parameters.length) = some 1 := by decide +kernel
abbrev cX2_tapsOf : ByteArray := prog_4_method_12_code
def yX2_tapsOf : MethodName := ⟨RX2, "tapsOf", "(II)I"⟩
theorem hdX2_tapsOf : yX2_tapsOf.cls ≠ "java/lang/invoke/MethodHandle" ∧ yX2_tapsOf.cls ≠ "java/lang/invoke/VarHandle" ∧ (parseMethodDescriptor yX2_tapsOf.desc).map (fun d => d.parameters.length) = some 2 := by decide +kernel
abbrev cX2_treeOfHole : ByteArray := prog_4_method_17_code
def yX2_treeOfHole : MethodName := ⟨RX2, "treeOfHole", "(I)I"⟩
theorem hdX2_treeOfHole : yX2_treeOfHole.cls ≠ "java/lang/invoke/MethodHandle" ∧ yX2_treeOfHole.cls ≠ "java/lang/invoke/VarHandle" ∧ (parseMethodDescriptor yX2_treeOfHole.desc).map (fun d => d.parameters.length) = some 1 := by decide +kernel
abbrev cX2_treesAt : ByteArray := prog_4_method_5_code
def yX2_treesAt : MethodName := ⟨RX2, "treesAt", "(I)I"⟩
theorem hdX2_treesAt : yX2_treesAt.cls ≠ "java/lang/invoke/MethodHandle" ∧ yX2_treesAt.cls ≠ "java/lang/invoke/VarHandle" ∧ (parseMethodDescriptor yX2_treesAt.desc).map (fun d => d.parameters.length) = some 1 := by decide +kernel
abbrev cX2_yearOfHole : ByteArray := prog_4_method_18_code
def yX2_yearOfHole : MethodName := ⟨RX2, "yearOfHole", "(I)I"⟩
theorem hdX2_yearOfHole : yX2_yearOfHole.cls ≠ "java/lang/invoke/MethodHandle" ∧ yX2_yearOfHole.cls ≠ "java/lang/invoke/VarHandle" ∧ (parseMethodDescriptor yX2_yearOfHole.desc).map (fun d => d.parameters.length) = some 1 := by decide +kernel
abbrev cX3_boilMinute : ByteArray := prog_5_method_7_code
def yX3_boilMinute : MethodName := ⟨RX3, "boilMinute", "()V"⟩
theorem hdX3_boilMinute : yX3_boilMinute.cls ≠ "java/lang/invoke/MethodHandle" ∧ yX3_boilMinute.cls ≠ "java/lang/invoke/VarHandle" ∧ (parseMethodDescriptor yX3_boilMinute.desc).map (fun d => d.parameters.length) = some 0 := by decide +kernel
abbrev cX3_empty : ByteArray := prog_5_method_3_code
def yX3_empty : MethodName := ⟨RX3, "empty", "()V"⟩
theorem hdX3_empty : yX3_empty.cls ≠ "java/lang/invoke/MethodHandle" ∧ yX3_empty.cls ≠ "java/lang/invoke/VarHandle" ∧ (parseMethodDescriptor yX3_empty.desc).map (fun d => d.parameters.length) = some 0 := by decide +kernel
abbrev cX3_fill : ByteArray := prog_5_method_2_code
def yX3_fill : MethodName := ⟨RX3, "fill", "(I)V"⟩
theorem hdX3_fill : yX3_fill.cls ≠ "java/lang/invoke/MethodHandle" ∧ yX3_fill.cls ≠ "java/lang/invoke/VarHandle" ∧ (parseMethodDescriptor yX3_fill.desc).map (fun d => d.parameters.length) = some 1 := by decide +kernel
abbrev cX3_init : ByteArray := prog_5_method_1_code
def yX3_init : MethodName := ⟨RX3, "<init>", "()V"⟩
theorem hdX3_init : yX3_init.cls ≠ "java/lang/invoke/MethodHandle" ∧ yX3_init.cls ≠ "java/lang/invoke/VarHandle" ∧ (parseMethodDescriptor yX3_init.desc).map (fun d => d.parameters.length) = some 0 := by decide +kernel
abbrev cX3_isBurnt : ByteArray := prog_5_method_6_code
def yX3_isBurnt : MethodName := ⟨RX3, "isBurnt", "()Z"⟩
theorem hdX3_isBurnt : yX3_isBurnt.cls ≠ "java/lang/invoke/MethodHandle" ∧ yX3_isBurnt.cls ≠ "java/lang/invoke/VarHandle" ∧ (parseMethodDescriptor yX3_isBurnt.desc).map (fun d => d.parameters.length) = some 0 := by decide +kernel
abbrev cX3_stack : ByteArray := prog_5_method_4_code
def yX3_stack : MethodName := ⟨RX3, "stack", "(I)I"⟩
theorem hdX3_stack : yX3_stack.cls ≠ "java/lang/invoke/MethodHandle" ∧ yX3_stack.cls ≠ "java/lang/invoke/VarHandle" ∧ (parseMethodDescriptor yX3_stack.desc).map (fun d => d.parameters.length) = some 1 := by decide +kernel
abbrev cX3_strength : ByteArray := prog_5_method_5_code
def yX3_strength : MethodName := ⟨RX3, "strength", "()I"⟩
theorem hdX3_strength : yX3_strength.cls ≠ "java/lang/invoke/MethodHandle" ∧ yX3_strength.cls ≠ "java/lang/invoke/VarHandle" ∧ (parseMethodDescriptor yX3_strength.desc).map (fun d => d.parameters.length) = some 0 := by decide +kernel
abbrev cX3_tell : ByteArray := prog_5_method_8_code
def yX3_tell : MethodName := ⟨RX3, "tell", "(I)I"⟩
theorem hdX3_tell : yX3_tell.cls ≠ "java/lang/invoke/MethodHandle" ∧ yX3_tell.cls ≠ "java/lang/invoke/VarHandle" ∧ (parseMethodDescriptor yX3_tell.desc).map (fun d => d.parameters.length) = some 1 := by decide +kernel
abbrev cX4_greatestDivisor : ByteArray := prog_6_method_7_code
def yX4_greatestDivisor : MethodName := ⟨RX4, "greatestDivisor", "(II)I"⟩
theorem hdX4_greatestDivisor : yX4_greatestDivisor.cls ≠ "java/lang/invoke/MethodHandle" ∧ yX4_greatestDivisor.cls ≠ "java/lang/invoke/VarHandle" ∧ (parseMethodDescriptor yX4_greatestDivisor.desc).map (fun d => d.parameters.length) = some 2 := by decide +kernel
abbrev cX4_inLowestTerms : ByteArray := prog_6_method_6_code
def yX4_inLowestTerms : MethodName := ⟨RX4, "inLowestTerms", "(II)I"⟩
theorem hdX4_inLowestTerms : yX4_inLowestTerms.cls ≠ "java/lang/invoke/MethodHandle" ∧ yX4_inLowestTerms.cls ≠ "java/lang/invoke/VarHandle" ∧ (parseMethodDescriptor yX4_inLowestTerms.desc).map (fun d => d.parameters.length) = some 2 := by decide +kernel
abbrev cX4_init : ByteArray := prog_6_method_1_code
def yX4_init : MethodName := ⟨RX4, "<init>", "()V"⟩
theorem hdX4_init : yX4_init.cls ≠ "java/lang/invoke/MethodHandle" ∧ yX4_init.cls ≠ "java/lang/invoke/VarHandle" ∧ (parseMethodDescriptor yX4_init.desc).map (fun d => d.parameters.length) = some 0 := by decide +kernel
abbrev cX4_keep : ByteArray := prog_6_method_3_code
def yX4_keep : MethodName := ⟨RX4, "keep", "(III)V"⟩
theorem hdX4_keep : yX4_keep.cls ≠ "java/lang/invoke/MethodHandle" ∧ yX4_keep.cls ≠ "java/lang/invoke/VarHandle" ∧ (parseMethodDescriptor yX4_keep.desc).map (fun d => d.parameters.length) = some 3 := by decide +kernel
abbrev cX4_meanLower : ByteArray := prog_6_method_5_code
def yX4_meanLower : MethodName := ⟨RX4, "meanLower", "(II)I"⟩
theorem hdX4_meanLower : yX4_meanLower.cls ≠ "java/lang/invoke/MethodHandle" ∧ yX4_meanLower.cls ≠ "java/lang/invoke/VarHandle" ∧ (parseMethodDescriptor yX4_meanLower.desc).map (fun d => d.parameters.length) = some 2 := by decide +kernel
abbrev cX4_meanUpper : ByteArray := prog_6_method_4_code
def yX4_meanUpper : MethodName := ⟨RX4, "meanUpper", "(II)I"⟩
theorem hdX4_meanUpper : yX4_meanUpper.cls ≠ "java/lang/invoke/MethodHandle" ∧ yX4_meanUpper.cls ≠ "java/lang/invoke/VarHandle" ∧ (parseMethodDescriptor yX4_meanUpper.desc).map (fun d => d.parameters.length) = some 2 := by decide +kernel
abbrev cX4_placeOf : ByteArray := prog_6_method_2_code
def yX4_placeOf : MethodName := ⟨RX4, "placeOf", "(II)I"⟩
theorem hdX4_placeOf : yX4_placeOf.cls ≠ "java/lang/invoke/MethodHandle" ∧ yX4_placeOf.cls ≠ "java/lang/invoke/VarHandle" ∧ (parseMethodDescriptor yX4_placeOf.desc).map (fun d => d.parameters.length) = some 2 := by decide +kernel
abbrev cX5_addTest : ByteArray := prog_7_method_3_code
def yX5_addTest : MethodName := ⟨RX5, "addTest", "(III)V"⟩
theorem hdX5_addTest : yX5_addTest.cls ≠ "java/lang/invoke/MethodHandle" ∧ yX5_addTest.cls ≠ "java/lang/invoke/VarHandle" ∧ (parseMethodDescriptor yX5_addTest.desc).map (fun d => d.parameters.length) = some 3 := by decide +kernel
abbrev cX5_allHold : ByteArray := prog_7_method_7_code
def yX5_allHold : MethodName := ⟨RX5, "allHold", "(I[I)Z"⟩
theorem hdX5_allHold : yX5_allHold.cls ≠ "java/lang/invoke/MethodHandle" ∧ yX5_allHold.cls ≠ "java/lang/invoke/VarHandle" ∧ (parseMethodDescriptor yX5_allHold.desc).map (fun d => d.parameters.length) = some 2 := by decide +kernel
abbrev cX5_clear : ByteArray := prog_7_method_2_code
def yX5_clear : MethodName := ⟨RX5, "clear", "()V"⟩
theorem hdX5_clear : yX5_clear.cls ≠ "java/lang/invoke/MethodHandle" ∧ yX5_clear.cls ≠ "java/lang/invoke/VarHandle" ∧ (parseMethodDescriptor yX5_clear.desc).map (fun d => d.parameters.length) = some 0 := by decide +kernel
abbrev cX5_deedOf : ByteArray := prog_7_method_10_code
def yX5_deedOf : MethodName := ⟨RX5, "deedOf", "(I)I"⟩
theorem hdX5_deedOf : yX5_deedOf.cls ≠ "java/lang/invoke/MethodHandle" ∧ yX5_deedOf.cls ≠ "java/lang/invoke/VarHandle" ∧ (parseMethodDescriptor yX5_deedOf.desc).map (fun d => d.parameters.length) = some 1 := by decide +kernel
abbrev cX5_endStatement : ByteArray := prog_7_method_5_code
def yX5_endStatement : MethodName := ⟨RX5, "endStatement", "()V"⟩
theorem hdX5_endStatement : yX5_endStatement.cls ≠ "java/lang/invoke/MethodHandle" ∧ yX5_endStatement.cls ≠ "java/lang/invoke/VarHandle" ∧ (parseMethodDescriptor yX5_endStatement.desc).map (fun d => d.parameters.length) = some 0 := by decide +kernel
abbrev cX5_firstThatHolds : ByteArray := prog_7_method_6_code
def yX5_firstThatHolds : MethodName := ⟨RX5, "firstThatHolds", "(Z[I)I"⟩
theorem hdX5_firstThatHolds : yX5_firstThatHolds.cls ≠ "java/lang/invoke/MethodHandle" ∧ yX5_firstThatHolds.cls ≠ "java/lang/invoke/VarHandle" ∧ (parseMethodDescriptor yX5_firstThatHolds.desc).map (fun d => d.parameters.length) = some 2 := by decide +kernel
abbrev cX5_has : ByteArray := prog_7_method_9_code
def yX5_has : MethodName := ⟨RX5, "has", "(I)Z"⟩
theorem hdX5_has : yX5_has.cls ≠ "java/lang/invoke/MethodHandle" ∧ yX5_has.cls ≠ "java/lang/invoke/VarHandle" ∧ (parseMethodDescriptor yX5_has.desc).map (fun d => d.parameters.length) = some 1 := by decide +kernel
abbrev cX5_holds : ByteArray := prog_7_method_8_code
def yX5_holds : MethodName := ⟨RX5, "holds", "(III)Z"⟩
theorem hdX5_holds : yX5_holds.cls ≠ "java/lang/invoke/MethodHandle" ∧ yX5_holds.cls ≠ "java/lang/invoke/VarHandle" ∧ (parseMethodDescriptor yX5_holds.desc).map (fun d => d.parameters.length) = some 3 := by decide +kernel
abbrev cX5_init : ByteArray := prog_7_method_1_code
def yX5_init : MethodName := ⟨RX5, "<init>", "()V"⟩
theorem hdX5_init : yX5_init.cls ≠ "java/lang/invoke/MethodHandle" ∧ yX5_init.cls ≠ "java/lang/invoke/VarHandle" ∧ (parseMethodDescriptor yX5_init.desc).map (fun d => d.parameters.length) = some 0 := by decide +kernel
abbrev cX5_setDeed : ByteArray := prog_7_method_4_code
def yX5_setDeed : MethodName := ⟨RX5, "setDeed", "(II)V"⟩
theorem hdX5_setDeed : yX5_setDeed.cls ≠ "java/lang/invoke/MethodHandle" ∧ yX5_setDeed.cls ≠ "java/lang/invoke/VarHandle" ∧ (parseMethodDescriptor yX5_setDeed.desc).map (fun d => d.parameters.length) = some 2 := by decide +kernel
abbrev cX5_valueOf : ByteArray := prog_7_method_11_code
def yX5_valueOf : MethodName := ⟨RX5, "valueOf", "(I)I"⟩
theorem hdX5_valueOf : yX5_valueOf.cls ≠ "java/lang/invoke/MethodHandle" ∧ yX5_valueOf.cls ≠ "java/lang/invoke/VarHandle" ∧ (parseMethodDescriptor yX5_valueOf.desc).map (fun d => d.parameters.length) = some 1 := by decide +kernel
abbrev cX6_init : ByteArray := prog_8_method_1_code
def yX6_init : MethodName := ⟨RX6, "<init>", "(LMapleLines$Tape;)V"⟩
theorem hdX6_init : yX6_init.cls ≠ "java/lang/invoke/MethodHandle" ∧ yX6_init.cls ≠ "java/lang/invoke/VarHandle" ∧ (parseMethodDescriptor yX6_init.desc).map (fun d => d.parameters.length) = some 1 := by decide +kernel
abbrev cX6_place : ByteArray := prog_8_method_2_code
def yX6_place : MethodName := ⟨RX6, "place", "()I"⟩
theorem hdX6_place : yX6_place.cls ≠ "java/lang/invoke/MethodHandle" ∧ yX6_place.cls ≠ "java/lang/invoke/VarHandle" ∧ (parseMethodDescriptor yX6_place.desc).map (fun d => d.parameters.length) = some 0 := by decide +kernel
abbrev cX6_read : ByteArray := prog_8_method_3_code
def yX6_read : MethodName := ⟨RX6, "read", "(ILMapleLines$RuleBook;)Z"⟩
theorem hdX6_read : yX6_read.cls ≠ "java/lang/invoke/MethodHandle" ∧ yX6_read.cls ≠ "java/lang/invoke/VarHandle" ∧ (parseMethodDescriptor yX6_read.desc).map (fun d => d.parameters.length) = some 2 := by decide +kernel
abbrev cX6_readDeed : ByteArray := prog_8_method_5_code
def yX6_readDeed : MethodName := ⟨RX6, "readDeed", "(LMapleLines$RuleBook;)Z"⟩
theorem hdX6_readDeed : yX6_readDeed.cls ≠ "java/lang/invoke/MethodHandle" ∧ yX6_readDeed.cls ≠ "java/lang/invoke/VarHandle" ∧ (parseMethodDescriptor yX6_readDeed.desc).map (fun d => d.parameters.length) = some 1 := by decide +kernel
abbrev cX6_readDeedNumber : ByteArray := prog_8_method_6_code
def yX6_readDeedNumber : MethodName := ⟨RX6, "readDeedNumber", "(IILMapleLines$RuleBook;)Z"⟩
theorem hdX6_readDeedNumber : yX6_readDeedNumber.cls ≠ "java/lang/invoke/MethodHandle" ∧ yX6_readDeedNumber.cls ≠ "java/lang/invoke/VarHandle" ∧ (parseMethodDescriptor yX6_readDeedNumber.desc).map (fun d => d.parameters.length) = some 3 := by decide +kernel
abbrev cX6_readStatement : ByteArray := prog_8_method_4_code
def yX6_readStatement : MethodName := ⟨RX6, "readStatement", "(LMapleLines$RuleBook;)Z"⟩
theorem hdX6_readStatement : yX6_readStatement.cls ≠ "java/lang/invoke/MethodHandle" ∧ yX6_readStatement.cls ≠ "java/lang/invoke/VarHandle" ∧ (parseMethodDescriptor yX6_readStatement.desc).map (fun d => d.parameters.length) = some 1 := by decide +kernel
abbrev cX6_readTest : ByteArray := prog_8_method_8_code
def yX6_readTest : MethodName := ⟨RX6, "readTest", "(LMapleLines$RuleBook;)Z"⟩
theorem hdX6_readTest : yX6_readTest.cls ≠ "java/lang/invoke/MethodHandle" ∧ yX6_readTest.cls ≠ "java/lang/invoke/VarHandle" ∧ (parseMethodDescriptor yX6_readTest.desc).map (fun d => d.parameters.length) = some 1 := by decide +kernel
abbrev cX6_readTests : ByteArray := prog_8_method_7_code
def yX6_readTests : MethodName := ⟨RX6, "readTests", "(LMapleLines$RuleBook;)Z"⟩
theorem hdX6_readTests : yX6_readTests.cls ≠ "java/lang/invoke/MethodHandle" ∧ yX6_readTests.cls ≠ "java/lang/invoke/VarHandle" ∧ (parseMethodDescriptor yX6_readTests.desc).map (fun d => d.parameters.length) = some 1 := by decide +kernel
abbrev cX6_take : ByteArray := prog_8_method_9_code
def yX6_take : MethodName := ⟨RX6, "take", "(I)Z"⟩
theorem hdX6_take : yX6_take.cls ≠ "java/lang/invoke/MethodHandle" ∧ yX6_take.cls ≠ "java/lang/invoke/VarHandle" ∧ (parseMethodDescriptor yX6_take.desc).map (fun d => d.parameters.length) = some 1 := by decide +kernel
abbrev cX6_takeNumber : ByteArray := prog_8_method_10_code
def yX6_takeNumber : MethodName := ⟨RX6, "takeNumber", "(I)Z"⟩
theorem hdX6_takeNumber : yX6_takeNumber.cls ≠ "java/lang/invoke/MethodHandle" ∧ yX6_takeNumber.cls ≠ "java/lang/invoke/VarHandle" ∧ (parseMethodDescriptor yX6_takeNumber.desc).map (fun d => d.parameters.length) = some 1 := by decide +kernel
abbrev cX7_beginYear : ByteArray := prog_9_method_3_code
def yX7_beginYear : MethodName := ⟨RX7, "beginYear", "()V"⟩
theorem hdX7_beginYear : yX7_beginYear.cls ≠ "java/lang/invoke/MethodHandle" ∧ yX7_beginYear.cls ≠ "java/lang/invoke/VarHandle" ∧ (parseMethodDescriptor yX7_beginYear.desc).map (fun d => d.parameters.length) = some 0 := by decide +kernel
abbrev cX7_init : ByteArray := prog_9_method_1_code
def yX7_init : MethodName := ⟨RX7, "<init>", "()V"⟩
theorem hdX7_init : yX7_init.cls ≠ "java/lang/invoke/MethodHandle" ∧ yX7_init.cls ≠ "java/lang/invoke/VarHandle" ∧ (parseMethodDescriptor yX7_init.desc).map (fun d => d.parameters.length) = some 0 := by decide +kernel
abbrev cX7_passDay : ByteArray := prog_9_method_2_code
def yX7_passDay : MethodName := ⟨RX7, "passDay", "(Z)V"⟩
theorem hdX7_passDay : yX7_passDay.cls ≠ "java/lang/invoke/MethodHandle" ∧ yX7_passDay.cls ≠ "java/lang/invoke/VarHandle" ∧ (parseMethodDescriptor yX7_passDay.desc).map (fun d => d.parameters.length) = some 1 := by decide +kernel
abbrev cX8_drain : ByteArray := prog_10_method_5_code
def yX8_drain : MethodName := ⟨RX8, "drain", "()V"⟩
theorem hdX8_drain : yX8_drain.cls ≠ "java/lang/invoke/MethodHandle" ∧ yX8_drain.cls ≠ "java/lang/invoke/VarHandle" ∧ (parseMethodDescriptor yX8_drain.desc).map (fun d => d.parameters.length) = some 0 := by decide +kernel
abbrev cX8_init : ByteArray := prog_10_method_1_code
def yX8_init : MethodName := ⟨RX8, "<init>", "()V"⟩
theorem hdX8_init : yX8_init.cls ≠ "java/lang/invoke/MethodHandle" ∧ yX8_init.cls ≠ "java/lang/invoke/VarHandle" ∧ (parseMethodDescriptor yX8_init.desc).map (fun d => d.parameters.length) = some 0 := by decide +kernel
abbrev cX8_leave : ByteArray := prog_10_method_3_code
def yX8_leave : MethodName := ⟨RX8, "leave", "(I)V"⟩
theorem hdX8_leave : yX8_leave.cls ≠ "java/lang/invoke/MethodHandle" ∧ yX8_leave.cls ≠ "java/lang/invoke/VarHandle" ∧ (parseMethodDescriptor yX8_leave.desc).map (fun d => d.parameters.length) = some 1 := by decide +kernel
abbrev cX8_takeIn : ByteArray := prog_10_method_2_code
def yX8_takeIn : MethodName := ⟨RX8, "takeIn", "(I)V"⟩
theorem hdX8_takeIn : yX8_takeIn.cls ≠ "java/lang/invoke/MethodHandle" ∧ yX8_takeIn.cls ≠ "java/lang/invoke/VarHandle" ∧ (parseMethodDescriptor yX8_takeIn.desc).map (fun d => d.parameters.length) = some 1 := by decide +kernel
abbrev cX8_takeOut : ByteArray := prog_10_method_4_code
def yX8_takeOut : MethodName := ⟨RX8, "takeOut", "(I)Z"⟩
theorem hdX8_takeOut : yX8_takeOut.cls ≠ "java/lang/invoke/MethodHandle" ∧ yX8_takeOut.cls ≠ "java/lang/invoke/VarHandle" ∧ (parseMethodDescriptor yX8_takeOut.desc).map (fun d => d.parameters.length) = some 1 := by decide +kernel
abbrev cX9_append : ByteArray := prog_11_method_3_code
def yX9_append : MethodName := ⟨RX9, "append", "(I)V"⟩
theorem hdX9_append : yX9_append.cls ≠ "java/lang/invoke/MethodHandle" ∧ yX9_append.cls ≠ "java/lang/invoke/VarHandle" ∧ (parseMethodDescriptor yX9_append.desc).map (fun d => d.parameters.length) = some 1 := by decide +kernel
abbrev cX9_beginsToken : ByteArray := prog_11_method_6_code
def yX9_beginsToken : MethodName := ⟨RX9, "beginsToken", "(I)Z"⟩
theorem hdX9_beginsToken : yX9_beginsToken.cls ≠ "java/lang/invoke/MethodHandle" ∧ yX9_beginsToken.cls ≠ "java/lang/invoke/VarHandle" ∧ (parseMethodDescriptor yX9_beginsToken.desc).map (fun d => d.parameters.length) = some 1 := by decide +kernel
abbrev cX9_clear : ByteArray := prog_11_method_4_code
def yX9_clear : MethodName := ⟨RX9, "clear", "()V"⟩
theorem hdX9_clear : yX9_clear.cls ≠ "java/lang/invoke/MethodHandle" ∧ yX9_clear.cls ≠ "java/lang/invoke/VarHandle" ∧ (parseMethodDescriptor yX9_clear.desc).map (fun d => d.parameters.length) = some 0 := by decide +kernel
abbrev cX9_codeAt : ByteArray := prog_11_method_8_code
def yX9_codeAt : MethodName := ⟨RX9, "codeAt", "(I)I"⟩
theorem hdX9_codeAt : yX9_codeAt.cls ≠ "java/lang/invoke/MethodHandle" ∧ yX9_codeAt.cls ≠ "java/lang/invoke/VarHandle" ∧ (parseMethodDescriptor yX9_codeAt.desc).map (fun d => d.parameters.length) = some 1 := by decide +kernel
abbrev cX9_codeOf : ByteArray := prog_11_method_15_code
def yX9_codeOf : MethodName := ⟨RX9, "codeOf", "(I)I"⟩
theorem hdX9_codeOf : yX9_codeOf.cls ≠ "java/lang/invoke/MethodHandle" ∧ yX9_codeOf.cls ≠ "java/lang/invoke/VarHandle" ∧ (parseMethodDescriptor yX9_codeOf.desc).map (fun d => d.parameters.length) = some 1 := by decide +kernel
abbrev cX9_codeOfNumber : ByteArray := prog_11_method_12_code
def yX9_codeOfNumber : MethodName := ⟨RX9, "codeOfNumber", "(I)I"⟩
theorem hdX9_codeOfNumber : yX9_codeOfNumber.cls ≠ "java/lang/invoke/MethodHandle" ∧ yX9_codeOfNumber.cls ≠ "java/lang/invoke/VarHandle" ∧ (parseMethodDescriptor yX9_codeOfNumber.desc).map (fun d => d.parameters.length) = some 1 := by decide +kernel
abbrev cX9_codeOfSign : ByteArray := prog_11_method_13_code
def yX9_codeOfSign : MethodName := ⟨RX9, "codeOfSign", "(I)I"⟩
theorem hdX9_codeOfSign : yX9_codeOfSign.cls ≠ "java/lang/invoke/MethodHandle" ∧ yX9_codeOfSign.cls ≠ "java/lang/invoke/VarHandle" ∧ (parseMethodDescriptor yX9_codeOfSign.desc).map (fun d => d.parameters.length) = some 1 := by decide +kernel
abbrev cX9_codeOfWord : ByteArray := prog_11_method_9_code
def yX9_codeOfWord : MethodName := ⟨RX9, "codeOfWord", "(I)I"⟩
theorem hdX9_codeOfWord : yX9_codeOfWord.cls ≠ "java/lang/invoke/MethodHandle" ∧ yX9_codeOfWord.cls ≠ "java/lang/invoke/VarHandle" ∧ (parseMethodDescriptor yX9_codeOfWord.desc).map (fun d => d.parameters.length) = some 1 := by decide +kernel
abbrev cX9_hasRoomFor : ByteArray := prog_11_method_2_code
def yX9_hasRoomFor : MethodName := ⟨RX9, "hasRoomFor", "(I)Z"⟩
theorem hdX9_hasRoomFor : yX9_hasRoomFor.cls ≠ "java/lang/invoke/MethodHandle" ∧ yX9_hasRoomFor.cls ≠ "java/lang/invoke/VarHandle" ∧ (parseMethodDescriptor yX9_hasRoomFor.desc).map (fun d => d.parameters.length) = some 1 := by decide +kernel
abbrev cX9_hasToken : ByteArray := prog_11_method_14_code
def yX9_hasToken : MethodName := ⟨RX9, "hasToken", "(I)Z"⟩
theorem hdX9_hasToken : yX9_hasToken.cls ≠ "java/lang/invoke/MethodHandle" ∧ yX9_hasToken.cls ≠ "java/lang/invoke/VarHandle" ∧ (parseMethodDescriptor yX9_hasToken.desc).map (fun d => d.parameters.length) = some 1 := by decide +kernel
abbrev cX9_init : ByteArray := prog_11_method_1_code
def yX9_init : MethodName := ⟨RX9, "<init>", "()V"⟩
theorem hdX9_init : yX9_init.cls ≠ "java/lang/invoke/MethodHandle" ∧ yX9_init.cls ≠ "java/lang/invoke/VarHandle" ∧ (parseMethodDescriptor yX9_init.desc).map (fun d => d.parameters.length) = some 0 := by decide +kernel
abbrev cX9_isSpeltAt : ByteArray := prog_11_method_11_code
def yX9_isSpeltAt : MethodName := ⟨RX9, "isSpeltAt", "(ILjava/lang/String;)Z"⟩
theorem hdX9_isSpeltAt : yX9_isSpeltAt.cls ≠ "java/lang/invoke/MethodHandle" ∧ yX9_isSpeltAt.cls ≠ "java/lang/invoke/VarHandle" ∧ (parseMethodDescriptor yX9_isSpeltAt.desc).map (fun d => d.parameters.length) = some 2 := by decide +kernel
abbrev cX9_kindAt : ByteArray := prog_11_method_7_code
def yX9_kindAt : MethodName := ⟨RX9, "kindAt", "(I)I"⟩
theorem hdX9_kindAt : yX9_kindAt.cls ≠ "java/lang/invoke/MethodHandle" ∧ yX9_kindAt.cls ≠ "java/lang/invoke/VarHandle" ∧ (parseMethodDescriptor yX9_kindAt.desc).map (fun d => d.parameters.length) = some 1 := by decide +kernel
abbrev cX9_placeOf : ByteArray := prog_11_method_16_code
def yX9_placeOf : MethodName := ⟨RX9, "placeOf", "(I)I"⟩
theorem hdX9_placeOf : yX9_placeOf.cls ≠ "java/lang/invoke/MethodHandle" ∧ yX9_placeOf.cls ≠ "java/lang/invoke/VarHandle" ∧ (parseMethodDescriptor yX9_placeOf.desc).map (fun d => d.parameters.length) = some 1 := by decide +kernel
abbrev cX9_splitFirst : ByteArray := prog_11_method_5_code
def yX9_splitFirst : MethodName := ⟨RX9, "splitFirst", "(I)V"⟩
theorem hdX9_splitFirst : yX9_splitFirst.cls ≠ "java/lang/invoke/MethodHandle" ∧ yX9_splitFirst.cls ≠ "java/lang/invoke/VarHandle" ∧ (parseMethodDescriptor yX9_splitFirst.desc).map (fun d => d.parameters.length) = some 1 := by decide +kernel
abbrev cX9_wordOf : ByteArray := prog_11_method_10_code
def yX9_wordOf : MethodName := ⟨RX9, "wordOf", "(I)Ljava/lang/String;"⟩
theorem hdX9_wordOf : yX9_wordOf.cls ≠ "java/lang/invoke/MethodHandle" ∧ yX9_wordOf.cls ≠ "java/lang/invoke/VarHandle" ∧ (parseMethodDescriptor yX9_wordOf.desc).map (fun d => d.parameters.length) = some 1 := by decide +kernel
abbrev vwCl : List vw_C := [(RX0, TX0, 7), (RX1, TX1, 3), (RX2, TX2, 8), (RX3, TX3, 5), (RX4, TX4, 2), (RX5, TX5, 7), (RX6, TX6, 3), (RX7, TX7, 4), (RX8, TX8, 4), (RX9, TX9, 6), (RX10, TX10, 9), (RX11, TX11, 14), (RX12, TX12, 66)]
def nw_ws : List Cond := [Cond.fieldLinkNest RX11 270 "MapleLines$Tubes" "size" "I" "MapleLines", Cond.methodLinkNest RX11 18 yX2_init "MapleLines", Cond.fieldLinkNest RX11 271 "MapleLines$Grove" "trees" "I" "MapleLines", Cond.fieldLinkNest RX11 274 "MapleLines$Grove" "holes" "I" "MapleLines", Cond.methodLinkNest RX11 25 yX7_init "MapleLines", Cond.fieldLinkNest RX11 121 "MapleLines$Season" "year" "I" "MapleLines", Cond.fieldLinkNest RX11 174 "MapleLines$Season" "day" "I" "MapleLines", Cond.fieldLinkNest RX11 166 "MapleLines$Season" "dry" "Z" "MapleLines", Cond.methodLinkNest RX11 32 yX4_init "MapleLines", Cond.methodLinkNest RX11 39 yX8_init "MapleLines", Cond.fieldLinkNest RX11 277 "MapleLines$Tank" "parts" "I" "MapleLines", Cond.fieldLinkNest RX11 278 "MapleLines$Tank" "spilt" "I" "MapleLines", Cond.fieldLinkNest RX11 281 "MapleLines$Tank" "left" "I" "MapleLines", Cond.fieldLinkNest RX11 288 "MapleLines$Tank" "came" "I" "MapleLines", Cond.methodLinkNest RX11 46 yX3_init "MapleLines", Cond.fieldLinkNest RX11 213 "MapleLines$Pan" "parts" "I" "MapleLines", Cond.fieldLinkNest RX11 346 "MapleLines$Pan" "heat" "I" "MapleLines", Cond.fieldLinkNest RX11 361 "MapleLines$Pan" "minutes" "I" "MapleLines", Cond.fieldLinkNest RX11 284 "MapleLines$Pan" "wood" "I" "MapleLines", Cond.methodLinkNest RX11 53 yX0_init "MapleLines", Cond.fieldLinkNest RX11 287 "MapleLines$Cellar" "size" "I" "MapleLines", Cond.methodLinkNest RX11 60 yX1_init "MapleLines", Cond.methodLinkNest RX11 67 yX9_init "MapleLines", Cond.fieldLinkNest RX11 256 "MapleLines$Tape" "size" "I" "MapleLines", Cond.methodLinkNest RX11 87 yX5_init "MapleLines", Cond.fieldLinkNest RX11 269 "MapleLines$RuleBook" "size" "I" "MapleLines", Cond.methodLinkNest RX1 22 yX11_isMember "MapleLines", Cond.methodLinkNest RX4 18 yX11_frostOf "MapleLines", Cond.methodLinkNest RX4 22 yX11_thawOf "MapleLines", Cond.methodLinkNest RX0 41 yX11_isWithin "MapleLines", Cond.methodLinkNest RX6 74 yX11_isWithin "MapleLines"]
set_option maxRecDepth 20000 in
theorem nw_tb : nw_ws = [43, 67, 78, 80, 100, 105, 107, 110, 122, 135, 140, 142, 144, 146, 158, 164, 166, 168, 170, 184, 197, 215, 232, 240, 275, 286, 548, 560, 561, 716, 935].filterMap (fun i => tables_1[i]?) := by decide +kernel
theorem nw_lw : ∀ w ∈ nw_ws, w ∈ lw_tbl := by
  intro w hw
  rw [nw_tb] at hw
  obtain ⟨i, -, hi⟩ := List.mem_filterMap.mp hw
  exact List.mem_append_right _ (List.mem_of_getElem? hi)
theorem ao_lw : Cond.arrayOver (.array .int) ∈ lw_tbl := List.mem_append_right _ (List.mem_of_getElem? (i := 189) (by decide +kernel))
theorem nm_0 : Cond.fieldLinkNest RX11 270 "MapleLines$Tubes" "size" "I" "MapleLines" ∈ nw_ws := List.mem_of_getElem? (i := 0) rfl
theorem nm_1 : Cond.methodLinkNest RX11 18 yX2_init "MapleLines" ∈ nw_ws := List.mem_of_getElem? (i := 1) rfl
theorem nm_2 : Cond.fieldLinkNest RX11 271 "MapleLines$Grove" "trees" "I" "MapleLines" ∈ nw_ws := List.mem_of_getElem? (i := 2) rfl
theorem nm_3 : Cond.fieldLinkNest RX11 274 "MapleLines$Grove" "holes" "I" "MapleLines" ∈ nw_ws := List.mem_of_getElem? (i := 3) rfl
theorem nm_4 : Cond.methodLinkNest RX11 25 yX7_init "MapleLines" ∈ nw_ws := List.mem_of_getElem? (i := 4) rfl
theorem nm_5 : Cond.fieldLinkNest RX11 121 "MapleLines$Season" "year" "I" "MapleLines" ∈ nw_ws := List.mem_of_getElem? (i := 5) rfl
theorem nm_6 : Cond.fieldLinkNest RX11 174 "MapleLines$Season" "day" "I" "MapleLines" ∈ nw_ws := List.mem_of_getElem? (i := 6) rfl
theorem nm_7 : Cond.fieldLinkNest RX11 166 "MapleLines$Season" "dry" "Z" "MapleLines" ∈ nw_ws := List.mem_of_getElem? (i := 7) rfl
theorem nm_8 : Cond.methodLinkNest RX11 32 yX4_init "MapleLines" ∈ nw_ws := List.mem_of_getElem? (i := 8) rfl
theorem nm_9 : Cond.methodLinkNest RX11 39 yX8_init "MapleLines" ∈ nw_ws := List.mem_of_getElem? (i := 9) rfl
theorem nm_10 : Cond.fieldLinkNest RX11 277 "MapleLines$Tank" "parts" "I" "MapleLines" ∈ nw_ws := List.mem_of_getElem? (i := 10) rfl
theorem nm_11 : Cond.fieldLinkNest RX11 278 "MapleLines$Tank" "spilt" "I" "MapleLines" ∈ nw_ws := List.mem_of_getElem? (i := 11) rfl
theorem nm_12 : Cond.fieldLinkNest RX11 281 "MapleLines$Tank" "left" "I" "MapleLines" ∈ nw_ws := List.mem_of_getElem? (i := 12) rfl
theorem nm_13 : Cond.fieldLinkNest RX11 288 "MapleLines$Tank" "came" "I" "MapleLines" ∈ nw_ws := List.mem_of_getElem? (i := 13) rfl
theorem nm_14 : Cond.methodLinkNest RX11 46 yX3_init "MapleLines" ∈ nw_ws := List.mem_of_getElem? (i := 14) rfl
theorem nm_15 : Cond.fieldLinkNest RX11 213 "MapleLines$Pan" "parts" "I" "MapleLines" ∈ nw_ws := List.mem_of_getElem? (i := 15) rfl
theorem nm_16 : Cond.fieldLinkNest RX11 346 "MapleLines$Pan" "heat" "I" "MapleLines" ∈ nw_ws := List.mem_of_getElem? (i := 16) rfl
theorem nm_17 : Cond.fieldLinkNest RX11 361 "MapleLines$Pan" "minutes" "I" "MapleLines" ∈ nw_ws := List.mem_of_getElem? (i := 17) rfl
theorem nm_18 : Cond.fieldLinkNest RX11 284 "MapleLines$Pan" "wood" "I" "MapleLines" ∈ nw_ws := List.mem_of_getElem? (i := 18) rfl
theorem nm_19 : Cond.methodLinkNest RX11 53 yX0_init "MapleLines" ∈ nw_ws := List.mem_of_getElem? (i := 19) rfl
theorem nm_20 : Cond.fieldLinkNest RX11 287 "MapleLines$Cellar" "size" "I" "MapleLines" ∈ nw_ws := List.mem_of_getElem? (i := 20) rfl
theorem nm_21 : Cond.methodLinkNest RX11 60 yX1_init "MapleLines" ∈ nw_ws := List.mem_of_getElem? (i := 21) rfl
theorem nm_22 : Cond.methodLinkNest RX11 67 yX9_init "MapleLines" ∈ nw_ws := List.mem_of_getElem? (i := 22) rfl
theorem nm_23 : Cond.fieldLinkNest RX11 256 "MapleLines$Tape" "size" "I" "MapleLines" ∈ nw_ws := List.mem_of_getElem? (i := 23) rfl
theorem nm_24 : Cond.methodLinkNest RX11 87 yX5_init "MapleLines" ∈ nw_ws := List.mem_of_getElem? (i := 24) rfl
theorem nm_25 : Cond.fieldLinkNest RX11 269 "MapleLines$RuleBook" "size" "I" "MapleLines" ∈ nw_ws := List.mem_of_getElem? (i := 25) rfl
theorem nm_26 : Cond.methodLinkNest RX1 22 yX11_isMember "MapleLines" ∈ nw_ws := List.mem_of_getElem? (i := 26) rfl
theorem nm_27 : Cond.methodLinkNest RX4 18 yX11_frostOf "MapleLines" ∈ nw_ws := List.mem_of_getElem? (i := 27) rfl
theorem nm_28 : Cond.methodLinkNest RX4 22 yX11_thawOf "MapleLines" ∈ nw_ws := List.mem_of_getElem? (i := 28) rfl
theorem nm_29 : Cond.methodLinkNest RX0 41 yX11_isWithin "MapleLines" ∈ nw_ws := List.mem_of_getElem? (i := 29) rfl
theorem nm_30 : Cond.methodLinkNest RX6 74 yX11_isWithin "MapleLines" ∈ nw_ws := List.mem_of_getElem? (i := 30) rfl

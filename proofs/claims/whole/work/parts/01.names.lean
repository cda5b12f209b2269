-- ===== PART A: goes FIRST, ahead of the names: the tables' words, and 'selects' of the private methods out of them =====
/-- a private method of a class that the tables say can be made, by its rows of tables_1 -/
def lw_okq (q : MethodName × Nat) : Prop := (q.1.cls ≠ "java/lang/invoke/MethodHandle" ∧ q.1.cls ≠ "java/lang/invoke/VarHandle") ∧ Cond.instantiable q.1.cls q.2 ∈ tables_1 ∧ Cond.privateMethod q.1 ∈ tables_1 ∧ Cond.instanceMethod q.1 ∈ tables_1
theorem lw_p0 : lw_okq (⟨"ShedTalk", "canAskNews", "(IIII)Z"⟩, 11) := ⟨⟨by decide +kernel, by decide +kernel⟩, List.mem_of_getElem? (i := 23) (by decide +kernel), List.mem_of_getElem? (i := 494) (by decide +kernel), List.mem_of_getElem? (i := 495) (by decide +kernel)⟩
theorem lw_p1 : lw_okq (⟨"ShedTalk$News", "tellInSecond", "(III)I"⟩, 3) := ⟨⟨by decide +kernel, by decide +kernel⟩, List.mem_of_getElem? (i := 176) (by decide +kernel), List.mem_of_getElem? (i := 523) (by decide +kernel), List.mem_of_getElem? (i := 524) (by decide +kernel)⟩
theorem lw_p2 : lw_okq (⟨"ShedTalk$News", "write", "(III)V"⟩, 3) := ⟨⟨by decide +kernel, by decide +kernel⟩, List.mem_of_getElem? (i := 176) (by decide +kernel), List.mem_of_getElem? (i := 527) (by decide +kernel), List.mem_of_getElem? (i := 528) (by decide +kernel)⟩
theorem lw_p3 : lw_okq (⟨"ShedTalk$News", "isReached", "(LShedTalk$Floor;III)Z"⟩, 3) := ⟨⟨by decide +kernel, by decide +kernel⟩, List.mem_of_getElem? (i := 176) (by decide +kernel), List.mem_of_getElem? (i := 569) (by decide +kernel), List.mem_of_getElem? (i := 570) (by decide +kernel)⟩
theorem lw_p4 : lw_okq (⟨"ShedTalk$Lexicon", "lookAlike", "(II)Z"⟩, 10) := ⟨⟨by decide +kernel, by decide +kernel⟩, List.mem_of_getElem? (i := 95) (by decide +kernel), List.mem_of_getElem? (i := 619) (by decide +kernel), List.mem_of_getElem? (i := 620) (by decide +kernel)⟩
theorem lw_p5 : lw_okq (⟨"ShedTalk$Readings", "begin", "(IIII)V"⟩, 4) := ⟨⟨by decide +kernel, by decide +kernel⟩, List.mem_of_getElem? (i := 195) (by decide +kernel), List.mem_of_getElem? (i := 647) (by decide +kernel), List.mem_of_getElem? (i := 648) (by decide +kernel)⟩
theorem lw_p6 : lw_okq (⟨"ShedTalk$Lexicon", "findLaterAlike", "()V"⟩, 10) := ⟨⟨by decide +kernel, by decide +kernel⟩, List.mem_of_getElem? (i := 95) (by decide +kernel), List.mem_of_getElem? (i := 680) (by decide +kernel), List.mem_of_getElem? (i := 681) (by decide +kernel)⟩
theorem lw_p7 : lw_okq (⟨"ShedTalk$Lexicon", "mistakenBy", "(I)I"⟩, 10) := ⟨⟨by decide +kernel, by decide +kernel⟩, List.mem_of_getElem? (i := 95) (by decide +kernel), List.mem_of_getElem? (i := 685) (by decide +kernel), List.mem_of_getElem? (i := 686) (by decide +kernel)⟩
theorem lw_p8 : lw_okq (⟨"ShedTalk$Chances", "findParts", "()V"⟩, 9) := ⟨⟨by decide +kernel, by decide +kernel⟩, List.mem_of_getElem? (i := 214) (by decide +kernel), List.mem_of_getElem? (i := 718) (by decide +kernel), List.mem_of_getElem? (i := 719) (by decide +kernel)⟩
theorem lw_p9 : lw_okq (⟨"ShedTalk$Chances", "hear", "(I)V"⟩, 9) := ⟨⟨by decide +kernel, by decide +kernel⟩, List.mem_of_getElem? (i := 214) (by decide +kernel), List.mem_of_getElem? (i := 736) (by decide +kernel), List.mem_of_getElem? (i := 737) (by decide +kernel)⟩
theorem lw_p10 : lw_okq (⟨"ShedTalk$Chances", "multiplyByParts", "(LShedTalk$Natural;)V"⟩, 9) := ⟨⟨by decide +kernel, by decide +kernel⟩, List.mem_of_getElem? (i := 214) (by decide +kernel), List.mem_of_getElem? (i := 740) (by decide +kernel), List.mem_of_getElem? (i := 741) (by decide +kernel)⟩
theorem lw_p11 : lw_okq (⟨"ShedTalk$Natural", "trim", "()V"⟩, 2) := ⟨⟨by decide +kernel, by decide +kernel⟩, List.mem_of_getElem? (i := 223) (by decide +kernel), List.mem_of_getElem? (i := 753) (by decide +kernel), List.mem_of_getElem? (i := 754) (by decide +kernel)⟩
theorem lw_p12 : lw_okq (⟨"ShedTalk$Fraction", "toLowestTerms", "()V"⟩, 2) := ⟨⟨by decide +kernel, by decide +kernel⟩, List.mem_of_getElem? (i := 333) (by decide +kernel), List.mem_of_getElem? (i := 771) (by decide +kernel), List.mem_of_getElem? (i := 772) (by decide +kernel)⟩
theorem lw_p13 : lw_okq (⟨"ShedTalk$Fraction", "isDividedBy", "(I)Z"⟩, 2) := ⟨⟨by decide +kernel, by decide +kernel⟩, List.mem_of_getElem? (i := 333) (by decide +kernel), List.mem_of_getElem? (i := 775) (by decide +kernel), List.mem_of_getElem? (i := 776) (by decide +kernel)⟩
theorem lw_p14 : lw_okq (⟨"ShedTalk$Lexicon", "findBetterAlike", "()V"⟩, 10) := ⟨⟨by decide +kernel, by decide +kernel⟩, List.mem_of_getElem? (i := 95) (by decide +kernel), List.mem_of_getElem? (i := 808) (by decide +kernel), List.mem_of_getElem? (i := 809) (by decide +kernel)⟩
theorem lw_p15 : lw_okq (⟨"ShedTalk$Lexicon", "gottenOf", "(I)I"⟩, 10) := ⟨⟨by decide +kernel, by decide +kernel⟩, List.mem_of_getElem? (i := 95) (by decide +kernel), List.mem_of_getElem? (i := 812) (by decide +kernel), List.mem_of_getElem? (i := 813) (by decide +kernel)⟩
def lw_privs_1 : List (MethodName × Nat) := [(⟨"ShedTalk", "canAskNews", "(IIII)Z"⟩, 11), (⟨"ShedTalk$News", "tellInSecond", "(III)I"⟩, 3), (⟨"ShedTalk$News", "write", "(III)V"⟩, 3), (⟨"ShedTalk$News", "isReached", "(LShedTalk$Floor;III)Z"⟩, 3), (⟨"ShedTalk$Lexicon", "lookAlike", "(II)Z"⟩, 10), (⟨"ShedTalk$Readings", "begin", "(IIII)V"⟩, 4), (⟨"ShedTalk$Lexicon", "findLaterAlike", "()V"⟩, 10), (⟨"ShedTalk$Lexicon", "mistakenBy", "(I)I"⟩, 10), (⟨"ShedTalk$Chances", "findParts", "()V"⟩, 9), (⟨"ShedTalk$Chances", "hear", "(I)V"⟩, 9), (⟨"ShedTalk$Chances", "multiplyByParts", "(LShedTalk$Natural;)V"⟩, 9), (⟨"ShedTalk$Natural", "trim", "()V"⟩, 2), (⟨"ShedTalk$Fraction", "toLowestTerms", "()V"⟩, 2), (⟨"ShedTalk$Fraction", "isDividedBy", "(I)Z"⟩, 2), (⟨"ShedTalk$Lexicon", "findBetterAlike", "()V"⟩, 10), (⟨"ShedTalk$Lexicon", "gottenOf", "(I)I"⟩, 10)]
theorem lw_r1 : ∀ q ∈ lw_privs_1, lw_okq q := List.forall_mem_cons.mpr ⟨lw_p0, List.forall_mem_cons.mpr ⟨lw_p1, List.forall_mem_cons.mpr ⟨lw_p2, List.forall_mem_cons.mpr ⟨lw_p3, List.forall_mem_cons.mpr ⟨lw_p4, List.forall_mem_cons.mpr ⟨lw_p5, List.forall_mem_cons.mpr ⟨lw_p6, List.forall_mem_cons.mpr ⟨lw_p7, List.forall_mem_cons.mpr ⟨lw_p8, List.forall_mem_cons.mpr ⟨lw_p9, List.forall_mem_cons.mpr ⟨lw_p10, List.forall_mem_cons.mpr ⟨lw_p11, List.forall_mem_cons.mpr ⟨lw_p12, List.forall_mem_cons.mpr ⟨lw_p13, List.forall_mem_cons.mpr ⟨lw_p14, List.forall_mem_cons.mpr ⟨lw_p15, fun _ h => absurd h List.not_mem_nil⟩⟩⟩⟩⟩⟩⟩⟩⟩⟩⟩⟩⟩⟩⟩⟩
theorem lw_p16 : lw_okq (⟨"ShedTalk$Turning", "findReaders", "(LShedTalk$Floor;I)V"⟩, 6) := ⟨⟨by decide +kernel, by decide +kernel⟩, List.mem_of_getElem? (i := 267) (by decide +kernel), List.mem_of_getElem? (i := 852) (by decide +kernel), List.mem_of_getElem? (i := 853) (by decide +kernel)⟩
theorem lw_p17 : lw_okq (⟨"ShedTalk$Turning", "joinWays", "(LShedTalk$Floor;II)V"⟩, 6) := ⟨⟨by decide +kernel, by decide +kernel⟩, List.mem_of_getElem? (i := 267) (by decide +kernel), List.mem_of_getElem? (i := 857) (by decide +kernel), List.mem_of_getElem? (i := 858) (by decide +kernel)⟩
theorem lw_p18 : lw_okq (⟨"ShedTalk$Turning", "countPairs", "(II)V"⟩, 6) := ⟨⟨by decide +kernel, by decide +kernel⟩, List.mem_of_getElem? (i := 267) (by decide +kernel), List.mem_of_getElem? (i := 862) (by decide +kernel), List.mem_of_getElem? (i := 863) (by decide +kernel)⟩
theorem lw_p19 : lw_okq (⟨"ShedTalk$Turning", "turnToNext", "(I)I"⟩, 6) := ⟨⟨by decide +kernel, by decide +kernel⟩, List.mem_of_getElem? (i := 267) (by decide +kernel), List.mem_of_getElem? (i := 868) (by decide +kernel), List.mem_of_getElem? (i := 869) (by decide +kernel)⟩
theorem lw_p20 : lw_okq (⟨"ShedTalk$Text", "nextToken", "()V"⟩, 10) := ⟨⟨by decide +kernel, by decide +kernel⟩, List.mem_of_getElem? (i := 293) (by decide +kernel), List.mem_of_getElem? (i := 899) (by decide +kernel), List.mem_of_getElem? (i := 900) (by decide +kernel)⟩
theorem lw_p21 : lw_okq (⟨"ShedTalk$Text", "endOfRun", "(III)I"⟩, 10) := ⟨⟨by decide +kernel, by decide +kernel⟩, List.mem_of_getElem? (i := 293) (by decide +kernel), List.mem_of_getElem? (i := 903) (by decide +kernel), List.mem_of_getElem? (i := 904) (by decide +kernel)⟩
theorem lw_p22 : lw_okq (⟨"ShedTalk$Text", "byteAt", "(I)I"⟩, 10) := ⟨⟨by decide +kernel, by decide +kernel⟩, List.mem_of_getElem? (i := 293) (by decide +kernel), List.mem_of_getElem? (i := 907) (by decide +kernel), List.mem_of_getElem? (i := 908) (by decide +kernel)⟩
theorem lw_p23 : lw_okq (⟨"ShedTalk$Text", "readNumber", "()V"⟩, 10) := ⟨⟨by decide +kernel, by decide +kernel⟩, List.mem_of_getElem? (i := 293) (by decide +kernel), List.mem_of_getElem? (i := 911) (by decide +kernel), List.mem_of_getElem? (i := 912) (by decide +kernel)⟩
theorem lw_p24 : lw_okq (⟨"ShedTalk$Text", "kindNamed", "()I"⟩, 10) := ⟨⟨by decide +kernel, by decide +kernel⟩, List.mem_of_getElem? (i := 293) (by decide +kernel), List.mem_of_getElem? (i := 915) (by decide +kernel), List.mem_of_getElem? (i := 916) (by decide +kernel)⟩
theorem lw_p25 : lw_okq (⟨"ShedTalk$Text", "tokenSpells", "(Ljava/lang/String;)Z"⟩, 10) := ⟨⟨by decide +kernel, by decide +kernel⟩, List.mem_of_getElem? (i := 293) (by decide +kernel), List.mem_of_getElem? (i := 929) (by decide +kernel), List.mem_of_getElem? (i := 930) (by decide +kernel)⟩
theorem lw_p26 : lw_okq (⟨"ShedTalk$Text", "readNumbers", "(II)I"⟩, 10) := ⟨⟨by decide +kernel, by decide +kernel⟩, List.mem_of_getElem? (i := 293) (by decide +kernel), List.mem_of_getElem? (i := 981) (by decide +kernel), List.mem_of_getElem? (i := 982) (by decide +kernel)⟩
theorem lw_p27 : lw_okq (⟨"ShedTalk", "imageNumbered", "(I)LShedTalk$Shed;"⟩, 11) := ⟨⟨by decide +kernel, by decide +kernel⟩, List.mem_of_getElem? (i := 23) (by decide +kernel), List.mem_of_getElem? (i := 1051) (by decide +kernel), List.mem_of_getElem? (i := 1052) (by decide +kernel)⟩
theorem lw_p28 : lw_okq (⟨"ShedTalkModel", "begins", "()V"⟩, 26) := ⟨⟨by decide +kernel, by decide +kernel⟩, List.mem_of_getElem? (i := 1106) (by decide +kernel), List.mem_of_getElem? (i := 1112) (by decide +kernel), List.mem_of_getElem? (i := 1113) (by decide +kernel)⟩
theorem lw_p29 : lw_okq (⟨"ShedTalkModel", "sets", "(IJ)V"⟩, 26) := ⟨⟨by decide +kernel, by decide +kernel⟩, List.mem_of_getElem? (i := 1106) (by decide +kernel), List.mem_of_getElem? (i := 1116) (by decide +kernel), List.mem_of_getElem? (i := 1117) (by decide +kernel)⟩
theorem lw_p30 : lw_okq (⟨"ShedTalkModel", "trims", "(I)V"⟩, 26) := ⟨⟨by decide +kernel, by decide +kernel⟩, List.mem_of_getElem? (i := 1106) (by decide +kernel), List.mem_of_getElem? (i := 1121) (by decide +kernel), List.mem_of_getElem? (i := 1122) (by decide +kernel)⟩
theorem lw_p31 : lw_okq (⟨"ShedTalkModel", "stands", "(I)Z"⟩, 26) := ⟨⟨by decide +kernel, by decide +kernel⟩, List.mem_of_getElem? (i := 1106) (by decide +kernel), List.mem_of_getElem? (i := 1224) (by decide +kernel), List.mem_of_getElem? (i := 1225) (by decide +kernel)⟩
def lw_privs_2 : List (MethodName × Nat) := [(⟨"ShedTalk$Turning", "findReaders", "(LShedTalk$Floor;I)V"⟩, 6), (⟨"ShedTalk$Turning", "joinWays", "(LShedTalk$Floor;II)V"⟩, 6), (⟨"ShedTalk$Turning", "countPairs", "(II)V"⟩, 6), (⟨"ShedTalk$Turning", "turnToNext", "(I)I"⟩, 6), (⟨"ShedTalk$Text", "nextToken", "()V"⟩, 10), (⟨"ShedTalk$Text", "endOfRun", "(III)I"⟩, 10), (⟨"ShedTalk$Text", "byteAt", "(I)I"⟩, 10), (⟨"ShedTalk$Text", "readNumber", "()V"⟩, 10), (⟨"ShedTalk$Text", "kindNamed", "()I"⟩, 10), (⟨"ShedTalk$Text", "tokenSpells", "(Ljava/lang/String;)Z"⟩, 10), (⟨"ShedTalk$Text", "readNumbers", "(II)I"⟩, 10), (⟨"ShedTalk", "imageNumbered", "(I)LShedTalk$Shed;"⟩, 11), (⟨"ShedTalkModel", "begins", "()V"⟩, 26), (⟨"ShedTalkModel", "sets", "(IJ)V"⟩, 26), (⟨"ShedTalkModel", "trims", "(I)V"⟩, 26), (⟨"ShedTalkModel", "stands", "(I)Z"⟩, 26)]
theorem lw_r2 : ∀ q ∈ lw_privs_2, lw_okq q := List.forall_mem_cons.mpr ⟨lw_p16, List.forall_mem_cons.mpr ⟨lw_p17, List.forall_mem_cons.mpr ⟨lw_p18, List.forall_mem_cons.mpr ⟨lw_p19, List.forall_mem_cons.mpr ⟨lw_p20, List.forall_mem_cons.mpr ⟨lw_p21, List.forall_mem_cons.mpr ⟨lw_p22, List.forall_mem_cons.mpr ⟨lw_p23, List.forall_mem_cons.mpr ⟨lw_p24, List.forall_mem_cons.mpr ⟨lw_p25, List.forall_mem_cons.mpr ⟨lw_p26, List.forall_mem_cons.mpr ⟨lw_p27, List.forall_mem_cons.mpr ⟨lw_p28, List.forall_mem_cons.mpr ⟨lw_p29, List.forall_mem_cons.mpr ⟨lw_p30, List.forall_mem_cons.mpr ⟨lw_p31, fun _ h => absurd h List.not_mem_nil⟩⟩⟩⟩⟩⟩⟩⟩⟩⟩⟩⟩⟩⟩⟩⟩
theorem lw_p32 : lw_okq (⟨"ShedTalkModel", "placeOf", "(I)I"⟩, 26) := ⟨⟨by decide +kernel, by decide +kernel⟩, List.mem_of_getElem? (i := 1106) (by decide +kernel), List.mem_of_getElem? (i := 1228) (by decide +kernel), List.mem_of_getElem? (i := 1229) (by decide +kernel)⟩
theorem lw_p33 : lw_okq (⟨"ShedTalkModel", "isWeaver", "(I)Z"⟩, 26) := ⟨⟨by decide +kernel, by decide +kernel⟩, List.mem_of_getElem? (i := 1106) (by decide +kernel), List.mem_of_getElem? (i := 1241) (by decide +kernel), List.mem_of_getElem? (i := 1242) (by decide +kernel)⟩
theorem lw_p34 : lw_okq (⟨"ShedTalkModel", "puts", "(II)I"⟩, 26) := ⟨⟨by decide +kernel, by decide +kernel⟩, List.mem_of_getElem? (i := 1106) (by decide +kernel), List.mem_of_getElem? (i := 1245) (by decide +kernel), List.mem_of_getElem? (i := 1246) (by decide +kernel)⟩
theorem lw_p35 : lw_okq (⟨"ShedTalkModel", "areTwo", "(II)Z"⟩, 26) := ⟨⟨by decide +kernel, by decide +kernel⟩, List.mem_of_getElem? (i := 1106) (by decide +kernel), List.mem_of_getElem? (i := 1263) (by decide +kernel), List.mem_of_getElem? (i := 1264) (by decide +kernel)⟩
theorem lw_p36 : lw_okq (⟨"ShedTalkModel", "areFacing", "(II)Z"⟩, 26) := ⟨⟨by decide +kernel, by decide +kernel⟩, List.mem_of_getElem? (i := 1106) (by decide +kernel), List.mem_of_getElem? (i := 1267) (by decide +kernel), List.mem_of_getElem? (i := 1268) (by decide +kernel)⟩
theorem lw_p37 : lw_okq (⟨"ShedTalkModel", "faceOf", "(I)I"⟩, 26) := ⟨⟨by decide +kernel, by decide +kernel⟩, List.mem_of_getElem? (i := 1106) (by decide +kernel), List.mem_of_getElem? (i := 1271) (by decide +kernel), List.mem_of_getElem? (i := 1272) (by decide +kernel)⟩
theorem lw_p38 : lw_okq (⟨"ShedTalkModel", "areReading", "(IIII)Z"⟩, 26) := ⟨⟨by decide +kernel, by decide +kernel⟩, List.mem_of_getElem? (i := 1106) (by decide +kernel), List.mem_of_getElem? (i := 1275) (by decide +kernel), List.mem_of_getElem? (i := 1276) (by decide +kernel)⟩
theorem lw_p39 : lw_okq (⟨"ShedTalkModel", "isClear", "(II)Z"⟩, 26) := ⟨⟨by decide +kernel, by decide +kernel⟩, List.mem_of_getElem? (i := 1106) (by decide +kernel), List.mem_of_getElem? (i := 1285) (by decide +kernel), List.mem_of_getElem? (i := 1286) (by decide +kernel)⟩
theorem lw_p40 : lw_okq (⟨"ShedTalkModel", "watches", "(II)Z"⟩, 26) := ⟨⟨by decide +kernel, by decide +kernel⟩, List.mem_of_getElem? (i := 1106) (by decide +kernel), List.mem_of_getElem? (i := 1289) (by decide +kernel), List.mem_of_getElem? (i := 1290) (by decide +kernel)⟩
theorem lw_p41 : lw_okq (⟨"ShedTalkModel", "isNews", "(IIII)Z"⟩, 26) := ⟨⟨by decide +kernel, by decide +kernel⟩, List.mem_of_getElem? (i := 1106) (by decide +kernel), List.mem_of_getElem? (i := 1301) (by decide +kernel), List.mem_of_getElem? (i := 1302) (by decide +kernel)⟩
theorem lw_p42 : lw_okq (⟨"ShedTalkModel", "spreads", "(IIII)V"⟩, 26) := ⟨⟨by decide +kernel, by decide +kernel⟩, List.mem_of_getElem? (i := 1106) (by decide +kernel), List.mem_of_getElem? (i := 1305) (by decide +kernel), List.mem_of_getElem? (i := 1306) (by decide +kernel)⟩
theorem lw_p43 : lw_okq (⟨"ShedTalkModel", "looks", "(I)V"⟩, 26) := ⟨⟨by decide +kernel, by decide +kernel⟩, List.mem_of_getElem? (i := 1106) (by decide +kernel), List.mem_of_getElem? (i := 1309) (by decide +kernel), List.mem_of_getElem? (i := 1310) (by decide +kernel)⟩
theorem lw_p44 : lw_okq (⟨"ShedTalkModel", "can", "(III)Z"⟩, 26) := ⟨⟨by decide +kernel, by decide +kernel⟩, List.mem_of_getElem? (i := 1106) (by decide +kernel), List.mem_of_getElem? (i := 1314) (by decide +kernel), List.mem_of_getElem? (i := 1315) (by decide +kernel)⟩
theorem lw_p45 : lw_okq (⟨"ShedTalkModel", "isJoined", "(III)Z"⟩, 26) := ⟨⟨by decide +kernel, by decide +kernel⟩, List.mem_of_getElem? (i := 1106) (by decide +kernel), List.mem_of_getElem? (i := 1342) (by decide +kernel), List.mem_of_getElem? (i := 1343) (by decide +kernel)⟩
theorem lw_p46 : lw_okq (⟨"ShedTalkModel", "isWord", "(I)Z"⟩, 26) := ⟨⟨by decide +kernel, by decide +kernel⟩, List.mem_of_getElem? (i := 1106) (by decide +kernel), List.mem_of_getElem? (i := 1364) (by decide +kernel), List.mem_of_getElem? (i := 1365) (by decide +kernel)⟩
theorem lw_p47 : lw_okq (⟨"ShedTalkModel", "areAlike", "(II)Z"⟩, 26) := ⟨⟨by decide +kernel, by decide +kernel⟩, List.mem_of_getElem? (i := 1106) (by decide +kernel), List.mem_of_getElem? (i := 1368) (by decide +kernel), List.mem_of_getElem? (i := 1369) (by decide +kernel)⟩
def lw_privs_3 : List (MethodName × Nat) := [(⟨"ShedTalkModel", "placeOf", "(I)I"⟩, 26), (⟨"ShedTalkModel", "isWeaver", "(I)Z"⟩, 26), (⟨"ShedTalkModel", "puts", "(II)I"⟩, 26), (⟨"ShedTalkModel", "areTwo", "(II)Z"⟩, 26), (⟨"ShedTalkModel", "areFacing", "(II)Z"⟩, 26), (⟨"ShedTalkModel", "faceOf", "(I)I"⟩, 26), (⟨"ShedTalkModel", "areReading", "(IIII)Z"⟩, 26), (⟨"ShedTalkModel", "isClear", "(II)Z"⟩, 26), (⟨"ShedTalkModel", "watches", "(II)Z"⟩, 26), (⟨"ShedTalkModel", "isNews", "(IIII)Z"⟩, 26), (⟨"ShedTalkModel", "spreads", "(IIII)V"⟩, 26), (⟨"ShedTalkModel", "looks", "(I)V"⟩, 26), (⟨"ShedTalkModel", "can", "(III)Z"⟩, 26), (⟨"ShedTalkModel", "isJoined", "(III)Z"⟩, 26), (⟨"ShedTalkModel", "isWord", "(I)Z"⟩, 26), (⟨"ShedTalkModel", "areAlike", "(II)Z"⟩, 26)]
theorem lw_r3 : ∀ q ∈ lw_privs_3, lw_okq q := List.forall_mem_cons.mpr ⟨lw_p32, List.forall_mem_cons.mpr ⟨lw_p33, List.forall_mem_cons.mpr ⟨lw_p34, List.forall_mem_cons.mpr ⟨lw_p35, List.forall_mem_cons.mpr ⟨lw_p36, List.forall_mem_cons.mpr ⟨lw_p37, List.forall_mem_cons.mpr ⟨lw_p38, List.forall_mem_cons.mpr ⟨lw_p39, List.forall_mem_cons.mpr ⟨lw_p40, List.forall_mem_cons.mpr ⟨lw_p41, List.forall_mem_cons.mpr ⟨lw_p42, List.forall_mem_cons.mpr ⟨lw_p43, List.forall_mem_cons.mpr ⟨lw_p44, List.forall_mem_cons.mpr ⟨lw_p45, List.forall_mem_cons.mpr ⟨lw_p46, List.forall_mem_cons.mpr ⟨lw_p47, fun _ h => absurd h List.not_mem_nil⟩⟩⟩⟩⟩⟩⟩⟩⟩⟩⟩⟩⟩⟩⟩⟩
theorem lw_p48 : lw_okq (⟨"ShedTalkModel", "lengthOf", "(I)I"⟩, 26) := ⟨⟨by decide +kernel, by decide +kernel⟩, List.mem_of_getElem? (i := 1106) (by decide +kernel), List.mem_of_getElem? (i := 1372) (by decide +kernel), List.mem_of_getElem? (i := 1373) (by decide +kernel)⟩
theorem lw_p49 : lw_okq (⟨"ShedTalkModel", "unlike", "(II)I"⟩, 26) := ⟨⟨by decide +kernel, by decide +kernel⟩, List.mem_of_getElem? (i := 1106) (by decide +kernel), List.mem_of_getElem? (i := 1376) (by decide +kernel), List.mem_of_getElem? (i := 1377) (by decide +kernel)⟩
theorem lw_p50 : lw_okq (⟨"ShedTalkModel", "lipOf", "(II)I"⟩, 26) := ⟨⟨by decide +kernel, by decide +kernel⟩, List.mem_of_getElem? (i := 1106) (by decide +kernel), List.mem_of_getElem? (i := 1380) (by decide +kernel), List.mem_of_getElem? (i := 1381) (by decide +kernel)⟩
theorem lw_p51 : lw_okq (⟨"ShedTalkModel", "readsRow", "()V"⟩, 26) := ⟨⟨by decide +kernel, by decide +kernel⟩, List.mem_of_getElem? (i := 1106) (by decide +kernel), List.mem_of_getElem? (i := 1398) (by decide +kernel), List.mem_of_getElem? (i := 1399) (by decide +kernel)⟩
theorem lw_p52 : lw_okq (⟨"ShedTalkModel", "isAtRow", "(II)Z"⟩, 26) := ⟨⟨by decide +kernel, by decide +kernel⟩, List.mem_of_getElem? (i := 1106) (by decide +kernel), List.mem_of_getElem? (i := 1402) (by decide +kernel), List.mem_of_getElem? (i := 1403) (by decide +kernel)⟩
theorem lw_p53 : lw_okq (⟨"ShedTalkModel", "weightOf", "(I)I"⟩, 26) := ⟨⟨by decide +kernel, by decide +kernel⟩, List.mem_of_getElem? (i := 1106) (by decide +kernel), List.mem_of_getElem? (i := 1407) (by decide +kernel), List.mem_of_getElem? (i := 1408) (by decide +kernel)⟩
theorem lw_p54 : lw_okq (⟨"ShedTalkModel", "allWords", "()I"⟩, 26) := ⟨⟨by decide +kernel, by decide +kernel⟩, List.mem_of_getElem? (i := 1106) (by decide +kernel), List.mem_of_getElem? (i := 1415) (by decide +kernel), List.mem_of_getElem? (i := 1416) (by decide +kernel)⟩
theorem lw_p55 : lw_okq (⟨"ShedTalkModel", "mistakes", "(I)I"⟩, 26) := ⟨⟨by decide +kernel, by decide +kernel⟩, List.mem_of_getElem? (i := 1106) (by decide +kernel), List.mem_of_getElem? (i := 1419) (by decide +kernel), List.mem_of_getElem? (i := 1420) (by decide +kernel)⟩
theorem lw_p56 : lw_okq (⟨"ShedTalkModel", "beginHearing", "(I)V"⟩, 26) := ⟨⟨by decide +kernel, by decide +kernel⟩, List.mem_of_getElem? (i := 1106) (by decide +kernel), List.mem_of_getElem? (i := 1437) (by decide +kernel), List.mem_of_getElem? (i := 1438) (by decide +kernel)⟩
theorem lw_p57 : lw_okq (⟨"ShedTalkModel", "hearing", "(II)I"⟩, 26) := ⟨⟨by decide +kernel, by decide +kernel⟩, List.mem_of_getElem? (i := 1106) (by decide +kernel), List.mem_of_getElem? (i := 1441) (by decide +kernel), List.mem_of_getElem? (i := 1442) (by decide +kernel)⟩
theorem lw_p58 : lw_okq (⟨"ShedTalkModel", "hearsOn", "(I)V"⟩, 26) := ⟨⟨by decide +kernel, by decide +kernel⟩, List.mem_of_getElem? (i := 1106) (by decide +kernel), List.mem_of_getElem? (i := 1445) (by decide +kernel), List.mem_of_getElem? (i := 1446) (by decide +kernel)⟩
theorem lw_p59 : lw_okq (⟨"ShedTalkModel", "takes", "(II)V"⟩, 26) := ⟨⟨by decide +kernel, by decide +kernel⟩, List.mem_of_getElem? (i := 1106) (by decide +kernel), List.mem_of_getElem? (i := 1449) (by decide +kernel), List.mem_of_getElem? (i := 1450) (by decide +kernel)⟩
theorem lw_p60 : lw_okq (⟨"ShedTalkModel", "times", "(II)V"⟩, 26) := ⟨⟨by decide +kernel, by decide +kernel⟩, List.mem_of_getElem? (i := 1106) (by decide +kernel), List.mem_of_getElem? (i := 1453) (by decide +kernel), List.mem_of_getElem? (i := 1454) (by decide +kernel)⟩
theorem lw_p61 : lw_okq (⟨"ShedTalkModel", "adds", "(II)V"⟩, 26) := ⟨⟨by decide +kernel, by decide +kernel⟩, List.mem_of_getElem? (i := 1106) (by decide +kernel), List.mem_of_getElem? (i := 1457) (by decide +kernel), List.mem_of_getElem? (i := 1458) (by decide +kernel)⟩
theorem lw_p62 : lw_okq (⟨"ShedTalkModel", "lowers", "()V"⟩, 26) := ⟨⟨by decide +kernel, by decide +kernel⟩, List.mem_of_getElem? (i := 1106) (by decide +kernel), List.mem_of_getElem? (i := 1462) (by decide +kernel), List.mem_of_getElem? (i := 1463) (by decide +kernel)⟩
theorem lw_p63 : lw_okq (⟨"ShedTalkModel", "isEven", "(I)Z"⟩, 26) := ⟨⟨by decide +kernel, by decide +kernel⟩, List.mem_of_getElem? (i := 1106) (by decide +kernel), List.mem_of_getElem? (i := 1466) (by decide +kernel), List.mem_of_getElem? (i := 1467) (by decide +kernel)⟩
def lw_privs_4 : List (MethodName × Nat) := [(⟨"ShedTalkModel", "lengthOf", "(I)I"⟩, 26), (⟨"ShedTalkModel", "unlike", "(II)I"⟩, 26), (⟨"ShedTalkModel", "lipOf", "(II)I"⟩, 26), (⟨"ShedTalkModel", "readsRow", "()V"⟩, 26), (⟨"ShedTalkModel", "isAtRow", "(II)Z"⟩, 26), (⟨"ShedTalkModel", "weightOf", "(I)I"⟩, 26), (⟨"ShedTalkModel", "allWords", "()I"⟩, 26), (⟨"ShedTalkModel", "mistakes", "(I)I"⟩, 26), (⟨"ShedTalkModel", "beginHearing", "(I)V"⟩, 26), (⟨"ShedTalkModel", "hearing", "(II)I"⟩, 26), (⟨"ShedTalkModel", "hearsOn", "(I)V"⟩, 26), (⟨"ShedTalkModel", "takes", "(II)V"⟩, 26), (⟨"ShedTalkModel", "times", "(II)V"⟩, 26), (⟨"ShedTalkModel", "adds", "(II)V"⟩, 26), (⟨"ShedTalkModel", "lowers", "()V"⟩, 26), (⟨"ShedTalkModel", "isEven", "(I)Z"⟩, 26)]
theorem lw_r4 : ∀ q ∈ lw_privs_4, lw_okq q := List.forall_mem_cons.mpr ⟨lw_p48, List.forall_mem_cons.mpr ⟨lw_p49, List.forall_mem_cons.mpr ⟨lw_p50, List.forall_mem_cons.mpr ⟨lw_p51, List.forall_mem_cons.mpr ⟨lw_p52, List.forall_mem_cons.mpr ⟨lw_p53, List.forall_mem_cons.mpr ⟨lw_p54, List.forall_mem_cons.mpr ⟨lw_p55, List.forall_mem_cons.mpr ⟨lw_p56, List.forall_mem_cons.mpr ⟨lw_p57, List.forall_mem_cons.mpr ⟨lw_p58, List.forall_mem_cons.mpr ⟨lw_p59, List.forall_mem_cons.mpr ⟨lw_p60, List.forall_mem_cons.mpr ⟨lw_p61, List.forall_mem_cons.mpr ⟨lw_p62, List.forall_mem_cons.mpr ⟨lw_p63, fun _ h => absurd h List.not_mem_nil⟩⟩⟩⟩⟩⟩⟩⟩⟩⟩⟩⟩⟩⟩⟩⟩
theorem lw_p64 : lw_okq (⟨"ShedTalkModel", "halves", "(I)V"⟩, 26) := ⟨⟨by decide +kernel, by decide +kernel⟩, List.mem_of_getElem? (i := 1106) (by decide +kernel), List.mem_of_getElem? (i := 1470) (by decide +kernel), List.mem_of_getElem? (i := 1471) (by decide +kernel)⟩
theorem lw_p65 : lw_okq (⟨"ShedTalkModel", "against", "(II)I"⟩, 26) := ⟨⟨by decide +kernel, by decide +kernel⟩, List.mem_of_getElem? (i := 1106) (by decide +kernel), List.mem_of_getElem? (i := 1474) (by decide +kernel), List.mem_of_getElem? (i := 1475) (by decide +kernel)⟩
theorem lw_p66 : lw_okq (⟨"ShedTalkModel", "lessens", "(II)V"⟩, 26) := ⟨⟨by decide +kernel, by decide +kernel⟩, List.mem_of_getElem? (i := 1106) (by decide +kernel), List.mem_of_getElem? (i := 1478) (by decide +kernel), List.mem_of_getElem? (i := 1479) (by decide +kernel)⟩
theorem lw_p67 : lw_okq (⟨"ShedTalkModel", "parts", "(I)V"⟩, 26) := ⟨⟨by decide +kernel, by decide +kernel⟩, List.mem_of_getElem? (i := 1106) (by decide +kernel), List.mem_of_getElem? (i := 1482) (by decide +kernel), List.mem_of_getElem? (i := 1483) (by decide +kernel)⟩
theorem lw_p68 : lw_okq (⟨"ShedTalkModel", "getsOf", "(I)I"⟩, 26) := ⟨⟨by decide +kernel, by decide +kernel⟩, List.mem_of_getElem? (i := 1106) (by decide +kernel), List.mem_of_getElem? (i := 1498) (by decide +kernel), List.mem_of_getElem? (i := 1499) (by decide +kernel)⟩
theorem lw_p69 : lw_okq (⟨"ShedTalkModel", "weights", "(I)I"⟩, 26) := ⟨⟨by decide +kernel, by decide +kernel⟩, List.mem_of_getElem? (i := 1106) (by decide +kernel), List.mem_of_getElem? (i := 1507) (by decide +kernel), List.mem_of_getElem? (i := 1508) (by decide +kernel)⟩
theorem lw_p70 : lw_okq (⟨"ShedTalkModel", "told", "(JJ)I"⟩, 26) := ⟨⟨by decide +kernel, by decide +kernel⟩, List.mem_of_getElem? (i := 1106) (by decide +kernel), List.mem_of_getElem? (i := 1511) (by decide +kernel), List.mem_of_getElem? (i := 1512) (by decide +kernel)⟩
theorem lw_p71 : lw_okq (⟨"ShedTalkModel", "pairs", "()I"⟩, 26) := ⟨⟨by decide +kernel, by decide +kernel⟩, List.mem_of_getElem? (i := 1106) (by decide +kernel), List.mem_of_getElem? (i := 1532) (by decide +kernel), List.mem_of_getElem? (i := 1533) (by decide +kernel)⟩
theorem lw_p72 : lw_okq (⟨"ShedTalkModel", "readsText", "()Z"⟩, 26) := ⟨⟨by decide +kernel, by decide +kernel⟩, List.mem_of_getElem? (i := 1106) (by decide +kernel), List.mem_of_getElem? (i := 1550) (by decide +kernel), List.mem_of_getElem? (i := 1551) (by decide +kernel)⟩
theorem lw_p73 : lw_okq (⟨"ShedTalkModel", "scans", "()V"⟩, 26) := ⟨⟨by decide +kernel, by decide +kernel⟩, List.mem_of_getElem? (i := 1106) (by decide +kernel), List.mem_of_getElem? (i := 1554) (by decide +kernel), List.mem_of_getElem? (i := 1555) (by decide +kernel)⟩
theorem lw_p74 : lw_okq (⟨"ShedTalkModel", "isAt", "(II)Z"⟩, 26) := ⟨⟨by decide +kernel, by decide +kernel⟩, List.mem_of_getElem? (i := 1106) (by decide +kernel), List.mem_of_getElem? (i := 1558) (by decide +kernel), List.mem_of_getElem? (i := 1559) (by decide +kernel)⟩
theorem lw_p75 : lw_okq (⟨"ShedTalkModel", "tellsItem", "(I)I"⟩, 26) := ⟨⟨by decide +kernel, by decide +kernel⟩, List.mem_of_getElem? (i := 1106) (by decide +kernel), List.mem_of_getElem? (i := 1580) (by decide +kernel), List.mem_of_getElem? (i := 1581) (by decide +kernel)⟩
theorem lw_p76 : lw_okq (⟨"ShedTalkModel", "tellsWord", "(I)I"⟩, 26) := ⟨⟨by decide +kernel, by decide +kernel⟩, List.mem_of_getElem? (i := 1106) (by decide +kernel), List.mem_of_getElem? (i := 1588) (by decide +kernel), List.mem_of_getElem? (i := 1589) (by decide +kernel)⟩
theorem lw_p77 : lw_okq (⟨"ShedTalkModel", "countOf", "(I)I"⟩, 26) := ⟨⟨by decide +kernel, by decide +kernel⟩, List.mem_of_getElem? (i := 1106) (by decide +kernel), List.mem_of_getElem? (i := 1606) (by decide +kernel), List.mem_of_getElem? (i := 1607) (by decide +kernel)⟩
def lw_privs_5 : List (MethodName × Nat) := [(⟨"ShedTalkModel", "halves", "(I)V"⟩, 26), (⟨"ShedTalkModel", "against", "(II)I"⟩, 26), (⟨"ShedTalkModel", "lessens", "(II)V"⟩, 26), (⟨"ShedTalkModel", "parts", "(I)V"⟩, 26), (⟨"ShedTalkModel", "getsOf", "(I)I"⟩, 26), (⟨"ShedTalkModel", "weights", "(I)I"⟩, 26), (⟨"ShedTalkModel", "told", "(JJ)I"⟩, 26), (⟨"ShedTalkModel", "pairs", "()I"⟩, 26), (⟨"ShedTalkModel", "readsText", "()Z"⟩, 26), (⟨"ShedTalkModel", "scans", "()V"⟩, 26), (⟨"ShedTalkModel", "isAt", "(II)Z"⟩, 26), (⟨"ShedTalkModel", "tellsItem", "(I)I"⟩, 26), (⟨"ShedTalkModel", "tellsWord", "(I)I"⟩, 26), (⟨"ShedTalkModel", "countOf", "(I)I"⟩, 26)]
theorem lw_r5 : ∀ q ∈ lw_privs_5, lw_okq q := List.forall_mem_cons.mpr ⟨lw_p64, List.forall_mem_cons.mpr ⟨lw_p65, List.forall_mem_cons.mpr ⟨lw_p66, List.forall_mem_cons.mpr ⟨lw_p67, List.forall_mem_cons.mpr ⟨lw_p68, List.forall_mem_cons.mpr ⟨lw_p69, List.forall_mem_cons.mpr ⟨lw_p70, List.forall_mem_cons.mpr ⟨lw_p71, List.forall_mem_cons.mpr ⟨lw_p72, List.forall_mem_cons.mpr ⟨lw_p73, List.forall_mem_cons.mpr ⟨lw_p74, List.forall_mem_cons.mpr ⟨lw_p75, List.forall_mem_cons.mpr ⟨lw_p76, List.forall_mem_cons.mpr ⟨lw_p77, fun _ h => absurd h List.not_mem_nil⟩⟩⟩⟩⟩⟩⟩⟩⟩⟩⟩⟩⟩⟩
def lw_privs : List (MethodName × Nat) := lw_privs_1 ++ (lw_privs_2 ++ (lw_privs_3 ++ (lw_privs_4 ++ (lw_privs_5))))
def lw_tbl : List Cond := k2_sels lw_privs ++ tables_1
theorem lw_privs_ok : ∀ q ∈ lw_privs, lw_okq q := by
  show ∀ q ∈ lw_privs_1 ++ (lw_privs_2 ++ (lw_privs_3 ++ (lw_privs_4 ++ (lw_privs_5)))), lw_okq q
  exact List.forall_mem_append.mpr ⟨lw_r1, List.forall_mem_append.mpr ⟨lw_r2, List.forall_mem_append.mpr ⟨lw_r3, List.forall_mem_append.mpr ⟨lw_r4, lw_r5⟩⟩⟩⟩
def RX0 : String := "ShedTalk$Chances"
def TX0 : u_T := fun k => match k with
  | 0 => ("ShedTalk$Chances", "heardAs", "[[I", true)
  | 1 => ("ShedTalk$Chances", "total", "[I", true)
  | 2 => ("ShedTalk$Chances", "part", "[I", true)
  | 3 => ("ShedTalk$Chances", "chance", "[LShedTalk$Natural;", true)
  | 4 => ("ShedTalk$Chances", "before", "[LShedTalk$Natural;", true)
  | 5 => ("ShedTalk$Chances", "below", "LShedTalk$Natural;", true)
  | 6 => ("ShedTalk$Chances", "scaled", "LShedTalk$Natural;", true)
  | 7 => ("ShedTalk$Chances", "scaledBelow", "LShedTalk$Natural;", true)
  | _ => ("ShedTalk$Chances", "words", "I", false)
def tyX0 : Nat → FieldType := fun k => match k with
  | 0 => .array (.array .int)
  | 1 => .array .int
  | 2 => .array .int
  | 3 => .array (.object "ShedTalk$Natural")
  | 4 => .array (.object "ShedTalk$Natural")
  | 5 => .object "ShedTalk$Natural"
  | 6 => .object "ShedTalk$Natural"
  | 7 => .object "ShedTalk$Natural"
  | _ => .int
abbrev wsX00 : List Cond := u_ws RX0 TX0 9
theorem nmX0 : ∀ a, a < 9 → ∀ b, b < 9 → a ≠ b → (TX0 a).2.1 ≠ (TX0 b).2.1 := by decide +kernel
theorem tyX0_ok : ∀ k, k < 9 → parseFieldDescriptor (TX0 k).2.2.1 = some (tyX0 k) := by decide +kernel
abbrev cX0_init : ByteArray := prog_2_method_1_code
def yX0_init : MethodName := ⟨RX0, "<init>", "()V"⟩
abbrev cX0_say : ByteArray := prog_2_method_2_code
def yX0_say : MethodName := ⟨RX0, "say", "(LShedTalk$Lexicon;II)V"⟩
abbrev cX0_findParts : ByteArray := prog_2_method_3_code
def yX0_findParts : MethodName := ⟨RX0, "findParts", "()V"⟩
abbrev cX0_passOn : ByteArray := prog_2_method_4_code
def yX0_passOn : MethodName := ⟨RX0, "passOn", "()V"⟩
abbrev cX0_hear : ByteArray := prog_2_method_5_code
def yX0_hear : MethodName := ⟨RX0, "hear", "(I)V"⟩
abbrev cX0_multiplyByParts : ByteArray := prog_2_method_6_code
def yX0_multiplyByParts : MethodName := ⟨RX0, "multiplyByParts", "(LShedTalk$Natural;)V"⟩
abbrev cX0_isBelow : ByteArray := prog_2_method_7_code
def yX0_isBelow : MethodName := ⟨RX0, "isBelow", "(III)Z"⟩
abbrev cX0_tellAs : ByteArray := prog_2_method_8_code
def yX0_tellAs : MethodName := ⟨RX0, "tellAs", "(ILShedTalk$Fraction;)V"⟩
def RX1 : String := "ShedTalk$Floor"
def TX1 : u_T := fun k => match k with
  | 0 => ("ShedTalk$Floor", "pillars", "J", false)
  | 1 => ("ShedTalk$Floor", "weavers", "I", false)
  | 2 => ("ShedTalk$Floor", "place", "[I", true)
  | 3 => ("ShedTalk$Floor", "way", "[I", true)
  | 4 => ("ShedTalk$Floor", "tell", "[I", true)
  | 5 => ("ShedTalk$Floor", "look", "[I", true)
  | _ => ("ShedTalk$Floor", "farSquare", "[I", true)
def tyX1 : Nat → FieldType := fun k => match k with
  | 0 => .long
  | 1 => .int
  | 2 => .array .int
  | 3 => .array .int
  | 4 => .array .int
  | 5 => .array .int
  | _ => .array .int
abbrev wsX10 : List Cond := u_ws RX1 TX1 7
theorem nmX1 : ∀ a, a < 7 → ∀ b, b < 7 → a ≠ b → (TX1 a).2.1 ≠ (TX1 b).2.1 := by decide +kernel
theorem tyX1_ok : ∀ k, k < 7 → parseFieldDescriptor (TX1 k).2.2.1 = some (tyX1 k) := by decide +kernel
abbrev cX1_init : ByteArray := prog_3_method_1_code
def yX1_init : MethodName := ⟨RX1, "<init>", "()V"⟩
abbrev cX1_makeEmpty : ByteArray := prog_3_method_2_code
def yX1_makeEmpty : MethodName := ⟨RX1, "makeEmpty", "()V"⟩
abbrev cX1_copyFrom : ByteArray := prog_3_method_3_code
def yX1_copyFrom : MethodName := ⟨RX1, "copyFrom", "(LShedTalk$Floor;)V"⟩
abbrev cX1_isWeaver : ByteArray := prog_3_method_4_code
def yX1_isWeaver : MethodName := ⟨RX1, "isWeaver", "(I)Z"⟩
abbrev cX1_areTwo : ByteArray := prog_3_method_5_code
def yX1_areTwo : MethodName := ⟨RX1, "areTwo", "(II)Z"⟩
abbrev cX1_hasPillar : ByteArray := prog_3_method_6_code
def yX1_hasPillar : MethodName := ⟨RX1, "hasPillar", "(I)Z"⟩
abbrev cX1_hasWeaver : ByteArray := prog_3_method_7_code
def yX1_hasWeaver : MethodName := ⟨RX1, "hasWeaver", "(I)Z"⟩
abbrev cX1_putPillar : ByteArray := prog_3_method_8_code
def yX1_putPillar : MethodName := ⟨RX1, "putPillar", "(I)I"⟩
abbrev cX1_putWeaver : ByteArray := prog_3_method_9_code
def yX1_putWeaver : MethodName := ⟨RX1, "putWeaver", "(II)I"⟩
abbrev cX1_turn : ByteArray := prog_3_method_10_code
def yX1_turn : MethodName := ⟨RX1, "turn", "(II)I"⟩
abbrev cX1_setFree : ByteArray := prog_3_method_11_code
def yX1_setFree : MethodName := ⟨RX1, "setFree", "(IIII)I"⟩
abbrev cX1_setFar : ByteArray := prog_3_method_12_code
def yX1_setFar : MethodName := ⟨RX1, "setFar", "(II)I"⟩
abbrev cX1_goesBy : ByteArray := prog_3_method_13_code
def yX1_goesBy : MethodName := ⟨RX1, "goesBy", "(III)I"⟩
abbrev cX1_squareOfWay : ByteArray := prog_3_method_14_code
def yX1_squareOfWay : MethodName := ⟨RX1, "squareOfWay", "(II)I"⟩
abbrev cX1_isClear : ByteArray := prog_3_method_15_code
def yX1_isClear : MethodName := ⟨RX1, "isClear", "(II)Z"⟩
abbrev cX1_isBlockedBy : ByteArray := prog_3_method_16_code
def yX1_isBlockedBy : MethodName := ⟨RX1, "isBlockedBy", "(III)Z"⟩
abbrev cX1_mayRead : ByteArray := prog_3_method_17_code
def yX1_mayRead : MethodName := ⟨RX1, "mayRead", "(II)Z"⟩
abbrev cX1_faceEachOther : ByteArray := prog_3_method_18_code
def yX1_faceEachOther : MethodName := ⟨RX1, "faceEachOther", "(IIII)Z"⟩
abbrev cX1_watches : ByteArray := prog_3_method_19_code
def yX1_watches : MethodName := ⟨RX1, "watches", "(II)Z"⟩
abbrev cX1_perceives : ByteArray := prog_3_method_20_code
def yX1_perceives : MethodName := ⟨RX1, "perceives", "(III)Z"⟩
abbrev cX1_perceiversOf : ByteArray := prog_3_method_21_code
def yX1_perceiversOf : MethodName := ⟨RX1, "perceiversOf", "(II)I"⟩
abbrev cX1_seenBy : ByteArray := prog_3_method_22_code
def yX1_seenBy : MethodName := ⟨RX1, "seenBy", "(I)I"⟩
abbrev cX1_tellersIn : ByteArray := prog_3_method_23_code
def yX1_tellersIn : MethodName := ⟨RX1, "tellersIn", "(I)I"⟩
abbrev cX1_lookersIn : ByteArray := prog_3_method_24_code
def yX1_lookersIn : MethodName := ⟨RX1, "lookersIn", "(I)I"⟩
abbrev cX1_digestOnto : ByteArray := prog_3_method_25_code
def yX1_digestOnto : MethodName := ⟨RX1, "digestOnto", "(J)J"⟩
def RX2 : String := "ShedTalk$Fraction"
def TX2 : u_T := fun k => match k with
  | 0 => ("ShedTalk$Fraction", "above", "LShedTalk$Natural;", true)
  | _ => ("ShedTalk$Fraction", "below", "LShedTalk$Natural;", true)
def tyX2 : Nat → FieldType := fun k => match k with
  | 0 => .object "ShedTalk$Natural"
  | _ => .object "ShedTalk$Natural"
abbrev wsX20 : List Cond := u_ws RX2 TX2 2
theorem nmX2 : ∀ a, a < 2 → ∀ b, b < 2 → a ≠ b → (TX2 a).2.1 ≠ (TX2 b).2.1 := by decide +kernel
theorem tyX2_ok : ∀ k, k < 2 → parseFieldDescriptor (TX2 k).2.2.1 = some (tyX2 k) := by decide +kernel
abbrev cX2_init : ByteArray := prog_4_method_1_code
def yX2_init : MethodName := ⟨RX2, "<init>", "()V"⟩
abbrev cX2_signNumber : ByteArray := prog_4_method_2_code
def yX2_signNumber : MethodName := ⟨RX2, "signNumber", "()I"⟩
abbrev cX2_put : ByteArray := prog_4_method_3_code
def yX2_put : MethodName := ⟨RX2, "put", "(II)V"⟩
abbrev cX2_put_ : ByteArray := prog_4_method_4_code
def yX2_put_ : MethodName := ⟨RX2, "put", "(LShedTalk$Natural;LShedTalk$Natural;)V"⟩
abbrev cX2_toLowestTerms : ByteArray := prog_4_method_5_code
def yX2_toLowestTerms : MethodName := ⟨RX2, "toLowestTerms", "()V"⟩
abbrev cX2_isDividedBy : ByteArray := prog_4_method_6_code
def yX2_isDividedBy : MethodName := ⟨RX2, "isDividedBy", "(I)Z"⟩
abbrev cX2_digestOnto : ByteArray := prog_4_method_7_code
def yX2_digestOnto : MethodName := ⟨RX2, "digestOnto", "(J)J"⟩
def RX3 : String := "ShedTalk$Lexicon"
def TX3 : u_T := fun k => match k with
  | 0 => ("ShedTalk$Lexicon", "words", "I", false)
  | 1 => ("ShedTalk$Lexicon", "length", "[I", true)
  | 2 => ("ShedTalk$Lexicon", "number", "[I", true)
  | 3 => ("ShedTalk$Lexicon", "weight", "[I", true)
  | 4 => ("ShedTalk$Lexicon", "leastLike", "[I", true)
  | 5 => ("ShedTalk$Lexicon", "row", "[I", true)
  | 6 => ("ShedTalk$Lexicon", "rowLips", "I", false)
  | 7 => ("ShedTalk$Lexicon", "girlKnows", "I", false)
  | 8 => ("ShedTalk$Lexicon", "lipsOf", "[I", true)
  | _ => ("ShedTalk$Lexicon", "others", "[I", true)
def tyX3 : Nat → FieldType := fun k => match k with
  | 0 => .int
  | 1 => .array .int
  | 2 => .array .int
  | 3 => .array .int
  | 4 => .array .int
  | 5 => .array .int
  | 6 => .int
  | 7 => .int
  | 8 => .array .int
  | _ => .array .int
abbrev wsX30 : List Cond := u_ws RX3 TX3 10
theorem nmX3 : ∀ a, a < 10 → ∀ b, b < 10 → a ≠ b → (TX3 a).2.1 ≠ (TX3 b).2.1 := by decide +kernel
theorem tyX3_ok : ∀ k, k < 10 → parseFieldDescriptor (TX3 k).2.2.1 = some (tyX3 k) := by decide +kernel
abbrev cX3_init : ByteArray := prog_5_method_1_code
def yX3_init : MethodName := ⟨RX3, "<init>", "()V"⟩
abbrev cX3_makeEmpty : ByteArray := prog_5_method_2_code
def yX3_makeEmpty : MethodName := ⟨RX3, "makeEmpty", "()V"⟩
abbrev cX3_copyFrom : ByteArray := prog_5_method_3_code
def yX3_copyFrom : MethodName := ⟨RX3, "copyFrom", "(LShedTalk$Lexicon;)V"⟩
abbrev cX3_isWord : ByteArray := prog_5_method_4_code
def yX3_isWord : MethodName := ⟨RX3, "isWord", "(I)Z"⟩
abbrev cX3_allWords : ByteArray := prog_5_method_5_code
def yX3_allWords : MethodName := ⟨RX3, "allWords", "()I"⟩
abbrev cX3_areWords : ByteArray := prog_5_method_6_code
def yX3_areWords : MethodName := ⟨RX3, "areWords", "(I)Z"⟩
abbrev cX3_makeAlike : ByteArray := prog_5_method_7_code
def yX3_makeAlike : MethodName := ⟨RX3, "makeAlike", "(II)I"⟩
abbrev cX3_addWord : ByteArray := prog_5_method_8_code
def yX3_addWord : MethodName := ⟨RX3, "addWord", "(III)I"⟩
abbrev cX3_addLip : ByteArray := prog_5_method_9_code
def yX3_addLip : MethodName := ⟨RX3, "addLip", "(I)I"⟩
abbrev cX3_lookAlike : ByteArray := prog_5_method_10_code
def yX3_lookAlike : MethodName := ⟨RX3, "lookAlike", "(II)Z"⟩
abbrev cX3_unlikeLips : ByteArray := prog_5_method_11_code
def yX3_unlikeLips : MethodName := ⟨RX3, "unlikeLips", "(II)I"⟩
abbrev cX3_areAlike : ByteArray := prog_5_method_12_code
def yX3_areAlike : MethodName := ⟨RX3, "areAlike", "(II)Z"⟩
abbrev cX3_fitsRow : ByteArray := prog_5_method_13_code
def yX3_fitsRow : MethodName := ⟨RX3, "fitsRow", "(II)Z"⟩
abbrev cX3_weightOf : ByteArray := prog_5_method_14_code
def yX3_weightOf : MethodName := ⟨RX3, "weightOf", "(I)I"⟩
abbrev cX3_mistakenWith : ByteArray := prog_5_method_15_code
def yX3_mistakenWith : MethodName := ⟨RX3, "mistakenWith", "(I)I"⟩
abbrev cX3_mistakenBy : ByteArray := prog_5_method_16_code
def yX3_mistakenBy : MethodName := ⟨RX3, "mistakenBy", "(I)I"⟩
abbrev cX3_findLaterAlike : ByteArray := prog_5_method_17_code
def yX3_findLaterAlike : MethodName := ⟨RX3, "findLaterAlike", "()V"⟩
abbrev cX3_bestSigns : ByteArray := prog_5_method_18_code
def yX3_bestSigns : MethodName := ⟨RX3, "bestSigns", "(I)I"⟩
abbrev cX3_findBetterAlike : ByteArray := prog_5_method_19_code
def yX3_findBetterAlike : MethodName := ⟨RX3, "findBetterAlike", "()V"⟩
abbrev cX3_gotten : ByteArray := prog_5_method_20_code
def yX3_gotten : MethodName := ⟨RX3, "gotten", "(I)I"⟩
abbrev cX3_gottenOf : ByteArray := prog_5_method_21_code
def yX3_gottenOf : MethodName := ⟨RX3, "gottenOf", "(I)I"⟩
abbrev cX3_bestTaught : ByteArray := prog_5_method_22_code
def yX3_bestTaught : MethodName := ⟨RX3, "bestTaught", "(I)I"⟩
abbrev cX3_digestWordsOnto : ByteArray := prog_5_method_23_code
def yX3_digestWordsOnto : MethodName := ⟨RX3, "digestWordsOnto", "(J)J"⟩
def RX4 : String := "ShedTalk$Natural"
def TX4 : u_T := fun k => match k with
  | 0 => ("ShedTalk$Natural", "limb", "[I", true)
  | _ => ("ShedTalk$Natural", "limbs", "I", false)
def tyX4 : Nat → FieldType := fun k => match k with
  | 0 => .array .int
  | _ => .int
abbrev wsX40 : List Cond := u_ws RX4 TX4 2
theorem nmX4 : ∀ a, a < 2 → ∀ b, b < 2 → a ≠ b → (TX4 a).2.1 ≠ (TX4 b).2.1 := by decide +kernel
theorem tyX4_ok : ∀ k, k < 2 → parseFieldDescriptor (TX4 k).2.2.1 = some (tyX4 k) := by decide +kernel
abbrev cX4_init : ByteArray := prog_6_method_1_code
def yX4_init : MethodName := ⟨RX4, "<init>", "()V"⟩
abbrev cX4_limbAt : ByteArray := prog_6_method_2_code
def yX4_limbAt : MethodName := ⟨RX4, "limbAt", "(I)I"⟩
abbrev cX4_put : ByteArray := prog_6_method_3_code
def yX4_put : MethodName := ⟨RX4, "put", "(I)V"⟩
abbrev cX4_copyFrom : ByteArray := prog_6_method_4_code
def yX4_copyFrom : MethodName := ⟨RX4, "copyFrom", "(LShedTalk$Natural;)V"⟩
abbrev cX4_multiply : ByteArray := prog_6_method_5_code
def yX4_multiply : MethodName := ⟨RX4, "multiply", "(I)V"⟩
abbrev cX4_addTimes : ByteArray := prog_6_method_6_code
def yX4_addTimes : MethodName := ⟨RX4, "addTimes", "(LShedTalk$Natural;I)V"⟩
abbrev cX4_remainder : ByteArray := prog_6_method_7_code
def yX4_remainder : MethodName := ⟨RX4, "remainder", "(I)I"⟩
abbrev cX4_divide : ByteArray := prog_6_method_8_code
def yX4_divide : MethodName := ⟨RX4, "divide", "(I)V"⟩
abbrev cX4_trim : ByteArray := prog_6_method_9_code
def yX4_trim : MethodName := ⟨RX4, "trim", "()V"⟩
abbrev cX4_isLessThan : ByteArray := prog_6_method_10_code
def yX4_isLessThan : MethodName := ⟨RX4, "isLessThan", "(LShedTalk$Natural;)Z"⟩
abbrev cX4_digestOnto : ByteArray := prog_6_method_11_code
def yX4_digestOnto : MethodName := ⟨RX4, "digestOnto", "(J)J"⟩
def RX5 : String := "ShedTalk$News"
def TX5 : u_T := fun k => match k with
  | 0 => ("ShedTalk$News", "since", "[I", true)
  | 1 => ("ShedTalk$News", "toldBy", "[I", true)
  | _ => ("ShedTalk$News", "audience", "[I", true)
def tyX5 : Nat → FieldType := fun k => match k with
  | 0 => .array .int
  | 1 => .array .int
  | _ => .array .int
abbrev wsX50 : List Cond := u_ws RX5 TX5 3
theorem nmX5 : ∀ a, a < 3 → ∀ b, b < 3 → a ≠ b → (TX5 a).2.1 ≠ (TX5 b).2.1 := by decide +kernel
theorem tyX5_ok : ∀ k, k < 3 → parseFieldDescriptor (TX5 k).2.2.1 = some (tyX5 k) := by decide +kernel
abbrev cX5_init : ByteArray := prog_7_method_1_code
def yX5_init : MethodName := ⟨RX5, "<init>", "()V"⟩
abbrev cX5_spread : ByteArray := prog_7_method_2_code
def yX5_spread : MethodName := ⟨RX5, "spread", "(LShedTalk$Floor;IIII)V"⟩
abbrev cX5_tellInSecond : ByteArray := prog_7_method_3_code
def yX5_tellInSecond : MethodName := ⟨RX5, "tellInSecond", "(III)I"⟩
abbrev cX5_write : ByteArray := prog_7_method_4_code
def yX5_write : MethodName := ⟨RX5, "write", "(III)V"⟩
abbrev cX5_waysApart : ByteArray := prog_7_method_5_code
def yX5_waysApart : MethodName := ⟨RX5, "waysApart", "(LShedTalk$Floor;II)I"⟩
abbrev cX5_isReached : ByteArray := prog_7_method_6_code
def yX5_isReached : MethodName := ⟨RX5, "isReached", "(LShedTalk$Floor;III)Z"⟩
def RX6 : String := "ShedTalk$Readings"
def TX6 : u_T := fun k => match k with
  | 0 => ("ShedTalk$Readings", "ways", "[I", true)
  | 1 => ("ShedTalk$Readings", "fewest", "[I", true)
  | 2 => ("ShedTalk$Readings", "weights", "[I", true)
  | _ => ("ShedTalk$Readings", "first", "[I", true)
def tyX6 : Nat → FieldType := fun k => match k with
  | 0 => .array .int
  | 1 => .array .int
  | 2 => .array .int
  | _ => .array .int
abbrev wsX60 : List Cond := u_ws RX6 TX6 4
theorem nmX6 : ∀ a, a < 4 → ∀ b, b < 4 → a ≠ b → (TX6 a).2.1 ≠ (TX6 b).2.1 := by decide +kernel
theorem tyX6_ok : ∀ k, k < 4 → parseFieldDescriptor (TX6 k).2.2.1 = some (tyX6 k) := by decide +kernel
abbrev cX6_init : ByteArray := prog_8_method_1_code
def yX6_init : MethodName := ⟨RX6, "<init>", "()V"⟩
abbrev cX6_reckon : ByteArray := prog_8_method_2_code
def yX6_reckon : MethodName := ⟨RX6, "reckon", "(LShedTalk$Lexicon;)V"⟩
abbrev cX6_begin : ByteArray := prog_8_method_3_code
def yX6_begin : MethodName := ⟨RX6, "begin", "(IIII)V"⟩
abbrev cX6_number : ByteArray := prog_8_method_4_code
def yX6_number : MethodName := ⟨RX6, "number", "()I"⟩
abbrev cX6_fewestWords : ByteArray := prog_8_method_5_code
def yX6_fewestWords : MethodName := ⟨RX6, "fewestWords", "()I"⟩
abbrev cX6_wordInPlace : ByteArray := prog_8_method_6_code
def yX6_wordInPlace : MethodName := ⟨RX6, "wordInPlace", "(LShedTalk$Lexicon;I)I"⟩
def RX7 : String := "ShedTalk$Shed"
def TX7 : u_T := fun k => match k with
  | 0 => ("ShedTalk$Shed", "floor", "LShedTalk$Floor;", true)
  | 1 => ("ShedTalk$Shed", "sightings", "LShedTalk$Sightings;", true)
  | 2 => ("ShedTalk$Shed", "lexicon", "LShedTalk$Lexicon;", true)
  | 3 => ("ShedTalk$Shed", "level", "[I", true)
  | 4 => ("ShedTalk$Shed", "loss", "[I", true)
  | 5 => ("ShedTalk$Shed", "clearness", "I", false)
  | _ => ("ShedTalk$Shed", "isKept", "Z", false)
def tyX7 : Nat → FieldType := fun k => match k with
  | 0 => .object "ShedTalk$Floor"
  | 1 => .object "ShedTalk$Sightings"
  | 2 => .object "ShedTalk$Lexicon"
  | 3 => .array .int
  | 4 => .array .int
  | 5 => .int
  | _ => .boolean
abbrev wsX70 : List Cond := u_ws RX7 TX7 7
theorem nmX7 : ∀ a, a < 7 → ∀ b, b < 7 → a ≠ b → (TX7 a).2.1 ≠ (TX7 b).2.1 := by decide +kernel
theorem tyX7_ok : ∀ k, k < 7 → parseFieldDescriptor (TX7 k).2.2.1 = some (tyX7 k) := by decide +kernel
abbrev cX7_init : ByteArray := prog_9_method_1_code
def yX7_init : MethodName := ⟨RX7, "<init>", "()V"⟩
abbrev cX7_copyFrom : ByteArray := prog_9_method_2_code
def yX7_copyFrom : MethodName := ⟨RX7, "copyFrom", "(LShedTalk$Shed;)V"⟩
abbrev cX7_beginAnew : ByteArray := prog_9_method_3_code
def yX7_beginAnew : MethodName := ⟨RX7, "beginAnew", "()V"⟩
def RX8 : String := "ShedTalk$Sightings"
def TX8 : u_T := fun k => match k with
  | 0 => ("ShedTalk$Sightings", "many", "I", false)
  | 1 => ("ShedTalk$Sightings", "weaver", "[I", true)
  | 2 => ("ShedTalk$Sightings", "second", "[I", true)
  | _ => ("ShedTalk$Sightings", "knew", "[I", true)
def tyX8 : Nat → FieldType := fun k => match k with
  | 0 => .int
  | 1 => .array .int
  | 2 => .array .int
  | _ => .array .int
abbrev wsX80 : List Cond := u_ws RX8 TX8 4
theorem nmX8 : ∀ a, a < 4 → ∀ b, b < 4 → a ≠ b → (TX8 a).2.1 ≠ (TX8 b).2.1 := by decide +kernel
theorem tyX8_ok : ∀ k, k < 4 → parseFieldDescriptor (TX8 k).2.2.1 = some (tyX8 k) := by decide +kernel
abbrev cX8_init : ByteArray := prog_10_method_1_code
def yX8_init : MethodName := ⟨RX8, "<init>", "()V"⟩
abbrev cX8_copyFrom : ByteArray := prog_10_method_2_code
def yX8_copyFrom : MethodName := ⟨RX8, "copyFrom", "(LShedTalk$Sightings;)V"⟩
abbrev cX8_add : ByteArray := prog_10_method_3_code
def yX8_add : MethodName := ⟨RX8, "add", "(IIZ)I"⟩
abbrev cX8_areBorneBy : ByteArray := prog_10_method_4_code
def yX8_areBorneBy : MethodName := ⟨RX8, "areBorneBy", "(LShedTalk$News;)Z"⟩
abbrev cX8_digestOnto : ByteArray := prog_10_method_5_code
def yX8_digestOnto : MethodName := ⟨RX8, "digestOnto", "(J)J"⟩
def RX9 : String := "ShedTalk$Text"
def TX9 : u_T := fun k => match k with
  | 0 => ("ShedTalk$Text", "bytes", "I", false)
  | 1 => ("ShedTalk$Text", "items", "I", false)
  | 2 => ("ShedTalk$Text", "row", "[I", true)
  | 3 => ("ShedTalk$Text", "itemKind", "[I", true)
  | 4 => ("ShedTalk$Text", "numbersOf", "[I", true)
  | 5 => ("ShedTalk$Text", "number", "[[I", true)
  | 6 => ("ShedTalk$Text", "at", "I", false)
  | 7 => ("ShedTalk$Text", "token", "I", false)
  | 8 => ("ShedTalk$Text", "tokenAt", "I", false)
  | _ => ("ShedTalk$Text", "tokenNumber", "I", false)
def tyX9 : Nat → FieldType := fun k => match k with
  | 0 => .int
  | 1 => .int
  | 2 => .array .int
  | 3 => .array .int
  | 4 => .array .int
  | 5 => .array (.array .int)
  | 6 => .int
  | 7 => .int
  | 8 => .int
  | _ => .int
abbrev wsX90 : List Cond := u_ws RX9 TX9 10
theorem nmX9 : ∀ a, a < 10 → ∀ b, b < 10 → a ≠ b → (TX9 a).2.1 ≠ (TX9 b).2.1 := by decide +kernel
theorem tyX9_ok : ∀ k, k < 10 → parseFieldDescriptor (TX9 k).2.2.1 = some (tyX9 k) := by decide +kernel
abbrev cX9_init : ByteArray := prog_11_method_1_code
def yX9_init : MethodName := ⟨RX9, "<init>", "()V"⟩
abbrev cX9_add : ByteArray := prog_11_method_2_code
def yX9_add : MethodName := ⟨RX9, "add", "(JI)I"⟩
abbrev cX9_readItems : ByteArray := prog_11_method_3_code
def yX9_readItems : MethodName := ⟨RX9, "readItems", "()I"⟩
abbrev cX9_readNumbers : ByteArray := prog_11_method_4_code
def yX9_readNumbers : MethodName := ⟨RX9, "readNumbers", "(II)I"⟩
abbrev cX9_nextToken : ByteArray := prog_11_method_5_code
def yX9_nextToken : MethodName := ⟨RX9, "nextToken", "()V"⟩
abbrev cX9_byteAt : ByteArray := prog_11_method_6_code
def yX9_byteAt : MethodName := ⟨RX9, "byteAt", "(I)I"⟩
abbrev cX9_endOfRun : ByteArray := prog_11_method_7_code
def yX9_endOfRun : MethodName := ⟨RX9, "endOfRun", "(III)I"⟩
abbrev cX9_readNumber : ByteArray := prog_11_method_8_code
def yX9_readNumber : MethodName := ⟨RX9, "readNumber", "()V"⟩
abbrev cX9_kindNamed : ByteArray := prog_11_method_9_code
def yX9_kindNamed : MethodName := ⟨RX9, "kindNamed", "()I"⟩
abbrev cX9_tokenSpells : ByteArray := prog_11_method_10_code
def yX9_tokenSpells : MethodName := ⟨RX9, "tokenSpells", "(Ljava/lang/String;)Z"⟩
abbrev cX9_nameOf : ByteArray := prog_11_method_11_code
def yX9_nameOf : MethodName := ⟨RX9, "nameOf", "(I)Ljava/lang/String;"⟩
abbrev cX9_tellItem : ByteArray := prog_11_method_12_code
def yX9_tellItem : MethodName := ⟨RX9, "tellItem", "(ILShedTalk$Shed;)I"⟩
abbrev cX9_tellWord : ByteArray := prog_11_method_13_code
def yX9_tellWord : MethodName := ⟨RX9, "tellWord", "([IILShedTalk$Lexicon;)I"⟩
def RX10 : String := "ShedTalk$Turning"
def TX10 : u_T := fun k => match k with
  | 0 => ("ShedTalk$Turning", "bestPairs", "I", false)
  | 1 => ("ShedTalk$Turning", "way", "[I", true)
  | 2 => ("ShedTalk$Turning", "bestWay", "[I", true)
  | 3 => ("ShedTalk$Turning", "readers", "[I", true)
  | 4 => ("ShedTalk$Turning", "chosen", "[I", true)
  | _ => ("ShedTalk$Turning", "pairs", "[I", true)
def tyX10 : Nat → FieldType := fun k => match k with
  | 0 => .int
  | 1 => .array .int
  | 2 => .array .int
  | 3 => .array .int
  | 4 => .array .int
  | _ => .array .int
abbrev wsX100 : List Cond := u_ws RX10 TX10 6
theorem nmX10 : ∀ a, a < 6 → ∀ b, b < 6 → a ≠ b → (TX10 a).2.1 ≠ (TX10 b).2.1 := by decide +kernel
theorem tyX10_ok : ∀ k, k < 6 → parseFieldDescriptor (TX10 k).2.2.1 = some (tyX10 k) := by decide +kernel
abbrev cX10_init : ByteArray := prog_12_method_1_code
def yX10_init : MethodName := ⟨RX10, "<init>", "()V"⟩
abbrev cX10_bestWayOf : ByteArray := prog_12_method_2_code
def yX10_bestWayOf : MethodName := ⟨RX10, "bestWayOf", "(I)I"⟩
abbrev cX10_search : ByteArray := prog_12_method_3_code
def yX10_search : MethodName := ⟨RX10, "search", "(LShedTalk$Floor;Z)V"⟩
abbrev cX10_findReaders : ByteArray := prog_12_method_4_code
def yX10_findReaders : MethodName := ⟨RX10, "findReaders", "(LShedTalk$Floor;I)V"⟩
abbrev cX10_joinWays : ByteArray := prog_12_method_5_code
def yX10_joinWays : MethodName := ⟨RX10, "joinWays", "(LShedTalk$Floor;II)V"⟩
abbrev cX10_countPairs : ByteArray := prog_12_method_6_code
def yX10_countPairs : MethodName := ⟨RX10, "countPairs", "(II)V"⟩
abbrev cX10_turnToNext : ByteArray := prog_12_method_7_code
def yX10_turnToNext : MethodName := ⟨RX10, "turnToNext", "(I)I"⟩
def RX11 : String := "ShedTalk"
def TX11 : u_T := fun k => match k with
  | 0 => ("ShedTalk", "now", "LShedTalk$Shed;", true)
  | 1 => ("ShedTalk", "draft", "LShedTalk$Shed;", true)
  | 2 => ("ShedTalk", "firstImage", "LShedTalk$Shed;", true)
  | 3 => ("ShedTalk", "secondImage", "LShedTalk$Shed;", true)
  | 4 => ("ShedTalk", "news", "LShedTalk$News;", true)
  | 5 => ("ShedTalk", "otherNews", "LShedTalk$News;", true)
  | 6 => ("ShedTalk", "readings", "LShedTalk$Readings;", true)
  | 7 => ("ShedTalk", "chances", "LShedTalk$Chances;", true)
  | 8 => ("ShedTalk", "turning", "LShedTalk$Turning;", true)
  | 9 => ("ShedTalk", "text", "LShedTalk$Text;", true)
  | _ => ("ShedTalk", "fraction", "LShedTalk$Fraction;", true)
def tyX11 : Nat → FieldType := fun k => match k with
  | 0 => .object "ShedTalk$Shed"
  | 1 => .object "ShedTalk$Shed"
  | 2 => .object "ShedTalk$Shed"
  | 3 => .object "ShedTalk$Shed"
  | 4 => .object "ShedTalk$News"
  | 5 => .object "ShedTalk$News"
  | 6 => .object "ShedTalk$Readings"
  | 7 => .object "ShedTalk$Chances"
  | 8 => .object "ShedTalk$Turning"
  | 9 => .object "ShedTalk$Text"
  | _ => .object "ShedTalk$Fraction"
abbrev wsX110 : List Cond := u_ws RX11 TX11 11
theorem nmX11 : ∀ a, a < 11 → ∀ b, b < 11 → a ≠ b → (TX11 a).2.1 ≠ (TX11 b).2.1 := by decide +kernel
theorem tyX11_ok : ∀ k, k < 11 → parseFieldDescriptor (TX11 k).2.2.1 = some (tyX11 k) := by decide +kernel
abbrev cX11_init : ByteArray := prog_1_method_1_code
def yX11_init : MethodName := ⟨RX11, "<init>", "()V"⟩
abbrev cX11_pillar : ByteArray := prog_1_method_2_code
def yX11_pillar : MethodName := ⟨RX11, "pillar", "(I)I"⟩
abbrev cX11_weaver : ByteArray := prog_1_method_3_code
def yX11_weaver : MethodName := ⟨RX11, "weaver", "(II)I"⟩
abbrev cX11_face : ByteArray := prog_1_method_4_code
def yX11_face : MethodName := ⟨RX11, "face", "(II)I"⟩
abbrev cX11_free : ByteArray := prog_1_method_5_code
def yX11_free : MethodName := ⟨RX11, "free", "(IIII)I"⟩
abbrev cX11_far : ByteArray := prog_1_method_6_code
def yX11_far : MethodName := ⟨RX11, "far", "(II)I"⟩
abbrev cX11_sees : ByteArray := prog_1_method_7_code
def yX11_sees : MethodName := ⟨RX11, "sees", "(III)I"⟩
abbrev cX11_clear : ByteArray := prog_1_method_8_code
def yX11_clear : MethodName := ⟨RX11, "clear", "(II)I"⟩
abbrev cX11_knows : ByteArray := prog_1_method_9_code
def yX11_knows : MethodName := ⟨RX11, "knows", "(IIII)I"⟩
abbrev cX11_teller : ByteArray := prog_1_method_10_code
def yX11_teller : MethodName := ⟨RX11, "teller", "(IIII)I"⟩
abbrev cX11_meet : ByteArray := prog_1_method_11_code
def yX11_meet : MethodName := ⟨RX11, "meet", "(IIII)I"⟩
abbrev cX11_seen : ByteArray := prog_1_method_12_code
def yX11_seen : MethodName := ⟨RX11, "seen", "(IIZ)I"⟩
abbrev cX11_source : ByteArray := prog_1_method_13_code
def yX11_source : MethodName := ⟨RX11, "source", "()I"⟩
abbrev cX11_apart : ByteArray := prog_1_method_14_code
def yX11_apart : MethodName := ⟨RX11, "apart", "(II)I"⟩
abbrev cX11_like : ByteArray := prog_1_method_15_code
def yX11_like : MethodName := ⟨RX11, "like", "(II)I"⟩
abbrev cX11_word : ByteArray := prog_1_method_16_code
def yX11_word : MethodName := ⟨RX11, "word", "(III)I"⟩
abbrev cX11_alike : ByteArray := prog_1_method_17_code
def yX11_alike : MethodName := ⟨RX11, "alike", "(II)I"⟩
abbrev cX11_lip : ByteArray := prog_1_method_18_code
def yX11_lip : MethodName := ⟨RX11, "lip", "(I)I"⟩
abbrev cX11_hush : ByteArray := prog_1_method_19_code
def yX11_hush : MethodName := ⟨RX11, "hush", "()I"⟩
abbrev cX11_reads : ByteArray := prog_1_method_20_code
def yX11_reads : MethodName := ⟨RX11, "reads", "(I)I"⟩
abbrev cX11_mistaken : ByteArray := prog_1_method_21_code
def yX11_mistaken : MethodName := ⟨RX11, "mistaken", "(I)I"⟩
abbrev cX11_signs : ByteArray := prog_1_method_22_code
def yX11_signs : MethodName := ⟨RX11, "signs", "(I)I"⟩
abbrev cX11_plain : ByteArray := prog_1_method_23_code
def yX11_plain : MethodName := ⟨RX11, "plain", "(I)I"⟩
abbrev cX11_arrives : ByteArray := prog_1_method_24_code
def yX11_arrives : MethodName := ⟨RX11, "arrives", "(III)I"⟩
abbrev cX11_turns : ByteArray := prog_1_method_25_code
def yX11_turns : MethodName := ⟨RX11, "turns", "(III)I"⟩
abbrev cX11_girl : ByteArray := prog_1_method_26_code
def yX11_girl : MethodName := ⟨RX11, "girl", "(I)I"⟩
abbrev cX11_gets : ByteArray := prog_1_method_27_code
def yX11_gets : MethodName := ⟨RX11, "gets", "()I"⟩
abbrev cX11_share : ByteArray := prog_1_method_28_code
def yX11_share : MethodName := ⟨RX11, "share", "()I"⟩
abbrev cX11_teach : ByteArray := prog_1_method_29_code
def yX11_teach : MethodName := ⟨RX11, "teach", "(I)I"⟩
abbrev cX11_band : ByteArray := prog_1_method_30_code
def yX11_band : MethodName := ⟨RX11, "band", "(III)I"⟩
abbrev cX11_heard : ByteArray := prog_1_method_31_code
def yX11_heard : MethodName := ⟨RX11, "heard", "(II)I"⟩
abbrev cX11_anew : ByteArray := prog_1_method_32_code
def yX11_anew : MethodName := ⟨RX11, "anew", "(II)I"⟩
abbrev cX11_type : ByteArray := prog_1_method_33_code
def yX11_type : MethodName := ⟨RX11, "type", "(JI)I"⟩
abbrev cX11_erase : ByteArray := prog_1_method_34_code
def yX11_erase : MethodName := ⟨RX11, "erase", "()I"⟩
abbrev cX11_shed : ByteArray := prog_1_method_35_code
def yX11_shed : MethodName := ⟨RX11, "shed", "()I"⟩
abbrev cX11_sign : ByteArray := prog_1_method_36_code
def yX11_sign : MethodName := ⟨RX11, "sign", "(I)I"⟩
abbrev cX11_limb : ByteArray := prog_1_method_37_code
def yX11_limb : MethodName := ⟨RX11, "limb", "(II)I"⟩
abbrev cX11_image : ByteArray := prog_1_method_38_code
def yX11_image : MethodName := ⟨RX11, "image", "(I)I"⟩
abbrev cX11_from : ByteArray := prog_1_method_39_code
def yX11_from : MethodName := ⟨RX11, "from", "(I)I"⟩
abbrev cX11_count : ByteArray := prog_1_method_40_code
def yX11_count : MethodName := ⟨RX11, "count", "(I)I"⟩
abbrev cX11_digest : ByteArray := prog_1_method_41_code
def yX11_digest : MethodName := ⟨RX11, "digest", "()J"⟩
abbrev cX11_imageNumbered : ByteArray := prog_1_method_42_code
def yX11_imageNumbered : MethodName := ⟨RX11, "imageNumbered", "(I)LShedTalk$Shed;"⟩
abbrev cX11_canAskNews : ByteArray := prog_1_method_43_code
def yX11_canAskNews : MethodName := ⟨RX11, "canAskNews", "(IIII)Z"⟩
abbrev cX11_firstOf : ByteArray := prog_1_method_44_code
def yX11_firstOf : MethodName := ⟨RX11, "firstOf", "(II)I"⟩
abbrev cX11_within : ByteArray := prog_1_method_45_code
def yX11_within : MethodName := ⟨RX11, "within", "(III)Z"⟩
abbrev cX11_hasBit : ByteArray := prog_1_method_46_code
def yX11_hasBit : MethodName := ⟨RX11, "hasBit", "(II)Z"⟩
abbrev cX11_oneIf : ByteArray := prog_1_method_47_code
def yX11_oneIf : MethodName := ⟨RX11, "oneIf", "(Z)I"⟩
abbrev cX11_mixed : ByteArray := prog_1_method_48_code
def yX11_mixed : MethodName := ⟨RX11, "mixed", "(JI)J"⟩
abbrev cX11_commonDivisor : ByteArray := prog_1_method_49_code
def yX11_commonDivisor : MethodName := ⟨RX11, "commonDivisor", "(II)I"⟩
def RX12 : String := "ShedTalkModel"
def TX12 : u_T := fun k => match k with
  | 0 => ("ShedTalkModel", "book", "[I", true)
  | 1 => ("ShedTalkModel", "images", "[I", true)
  | 2 => ("ShedTalkModel", "kept", "[Z", true)
  | 3 => ("ShedTalkModel", "aside", "[I", true)
  | 4 => ("ShedTalkModel", "limbs", "[I", true)
  | 5 => ("ShedTalkModel", "wide", "[I", true)
  | 6 => ("ShedTalkModel", "hears", "[Z", true)
  | 7 => ("ShedTalkModel", "spies", "[Z", true)
  | 8 => ("ShedTalkModel", "known", "[I", true)
  | 9 => ("ShedTalkModel", "by", "[I", true)
  | 10 => ("ShedTalkModel", "ways", "[I", true)
  | 11 => ("ShedTalkModel", "fewest", "[I", true)
  | 12 => ("ShedTalkModel", "heavy", "[I", true)
  | 13 => ("ShedTalkModel", "sums", "[I", true)
  | 14 => ("ShedTalkModel", "faces", "[I", true)
  | 15 => ("ShedTalkModel", "bestFaces", "[I", true)
  | 16 => ("ShedTalkModel", "text", "[I", true)
  | 17 => ("ShedTalkModel", "typed", "I", false)
  | 18 => ("ShedTalkModel", "at", "I", false)
  | 19 => ("ShedTalkModel", "start", "I", false)
  | 20 => ("ShedTalkModel", "token", "I", false)
  | 21 => ("ShedTalkModel", "value", "I", false)
  | 22 => ("ShedTalkModel", "verbs", "[I", true)
  | 23 => ("ShedTalkModel", "many", "[I", true)
  | 24 => ("ShedTalkModel", "nums", "[I", true)
  | _ => ("ShedTalkModel", "items", "I", false)
def tyX12 : Nat → FieldType := fun k => match k with
  | 0 => .array .int
  | 1 => .array .int
  | 2 => .array .boolean
  | 3 => .array .int
  | 4 => .array .int
  | 5 => .array .int
  | 6 => .array .boolean
  | 7 => .array .boolean
  | 8 => .array .int
  | 9 => .array .int
  | 10 => .array .int
  | 11 => .array .int
  | 12 => .array .int
  | 13 => .array .int
  | 14 => .array .int
  | 15 => .array .int
  | 16 => .array .int
  | 17 => .int
  | 18 => .int
  | 19 => .int
  | 20 => .int
  | 21 => .int
  | 22 => .array .int
  | 23 => .array .int
  | 24 => .array .int
  | _ => .int
abbrev wsX120 : List Cond := u_ws RX12 TX12 26
theorem nmX12 : ∀ a, a < 26 → ∀ b, b < 26 → a ≠ b → (TX12 a).2.1 ≠ (TX12 b).2.1 := by decide +kernel
theorem tyX12_ok : ∀ k, k < 26 → parseFieldDescriptor (TX12 k).2.2.1 = some (tyX12 k) := by decide +kernel
abbrev cX12_in : ByteArray := prog_14_method_2_code
def yX12_in : MethodName := ⟨RX12, "in", "(JJJ)Z"⟩
abbrev cX12_init : ByteArray := prog_14_method_3_code
def yX12_init : MethodName := ⟨RX12, "<init>", "()V"⟩
abbrev cX12_begins : ByteArray := prog_14_method_4_code
def yX12_begins : MethodName := ⟨RX12, "begins", "()V"⟩
abbrev cX12_trims : ByteArray := prog_14_method_5_code
def yX12_trims : MethodName := ⟨RX12, "trims", "(I)V"⟩
abbrev cX12_sets : ByteArray := prog_14_method_6_code
def yX12_sets : MethodName := ⟨RX12, "sets", "(IJ)V"⟩
abbrev cX12_takes : ByteArray := prog_14_method_7_code
def yX12_takes : MethodName := ⟨RX12, "takes", "(II)V"⟩
abbrev cX12_times : ByteArray := prog_14_method_8_code
def yX12_times : MethodName := ⟨RX12, "times", "(II)V"⟩
abbrev cX12_adds : ByteArray := prog_14_method_10_code
def yX12_adds : MethodName := ⟨RX12, "adds", "(II)V"⟩
abbrev cX12_lessens : ByteArray := prog_14_method_11_code
def yX12_lessens : MethodName := ⟨RX12, "lessens", "(II)V"⟩
abbrev cX12_against : ByteArray := prog_14_method_12_code
def yX12_against : MethodName := ⟨RX12, "against", "(II)I"⟩
abbrev cX12_isEven : ByteArray := prog_14_method_13_code
def yX12_isEven : MethodName := ⟨RX12, "isEven", "(I)Z"⟩
abbrev cX12_halves : ByteArray := prog_14_method_14_code
def yX12_halves : MethodName := ⟨RX12, "halves", "(I)V"⟩
abbrev cX12_lowers : ByteArray := prog_14_method_15_code
def yX12_lowers : MethodName := ⟨RX12, "lowers", "()V"⟩
abbrev cX12_parts : ByteArray := prog_14_method_16_code
def yX12_parts : MethodName := ⟨RX12, "parts", "(I)V"⟩
abbrev cX12_told : ByteArray := prog_14_method_17_code
def yX12_told : MethodName := ⟨RX12, "told", "(JJ)I"⟩
abbrev cX12_sign : ByteArray := prog_14_method_18_code
def yX12_sign : MethodName := ⟨RX12, "sign", "(I)I"⟩
abbrev cX12_limb : ByteArray := prog_14_method_19_code
def yX12_limb : MethodName := ⟨RX12, "limb", "(II)I"⟩
abbrev cX12_puts : ByteArray := prog_14_method_20_code
def yX12_puts : MethodName := ⟨RX12, "puts", "(II)I"⟩
abbrev cX12_isPlace : ByteArray := prog_14_method_21_code
def yX12_isPlace : MethodName := ⟨RX12, "isPlace", "(I)Z"⟩
abbrev cX12_isWeaver : ByteArray := prog_14_method_22_code
def yX12_isWeaver : MethodName := ⟨RX12, "isWeaver", "(I)Z"⟩
abbrev cX12_placeOf : ByteArray := prog_14_method_23_code
def yX12_placeOf : MethodName := ⟨RX12, "placeOf", "(I)I"⟩
abbrev cX12_faceOf : ByteArray := prog_14_method_24_code
def yX12_faceOf : MethodName := ⟨RX12, "faceOf", "(I)I"⟩
abbrev cX12_stands : ByteArray := prog_14_method_25_code
def yX12_stands : MethodName := ⟨RX12, "stands", "(I)Z"⟩
abbrev cX12_pillar : ByteArray := prog_14_method_26_code
def yX12_pillar : MethodName := ⟨RX12, "pillar", "(I)I"⟩
abbrev cX12_weaver : ByteArray := prog_14_method_27_code
def yX12_weaver : MethodName := ⟨RX12, "weaver", "(II)I"⟩
abbrev cX12_face : ByteArray := prog_14_method_28_code
def yX12_face : MethodName := ⟨RX12, "face", "(II)I"⟩
abbrev cX12_free : ByteArray := prog_14_method_29_code
def yX12_free : MethodName := ⟨RX12, "free", "(IIII)I"⟩
abbrev cX12_far : ByteArray := prog_14_method_30_code
def yX12_far : MethodName := ⟨RX12, "far", "(II)I"⟩
abbrev cX12_toward : ByteArray := prog_14_method_31_code
def yX12_toward : MethodName := ⟨RX12, "toward", "(III)I"⟩
abbrev cX12_square : ByteArray := prog_14_method_32_code
def yX12_square : MethodName := ⟨RX12, "square", "(II)I"⟩
abbrev cX12_isClear : ByteArray := prog_14_method_33_code
def yX12_isClear : MethodName := ⟨RX12, "isClear", "(II)Z"⟩
abbrev cX12_areReading : ByteArray := prog_14_method_34_code
def yX12_areReading : MethodName := ⟨RX12, "areReading", "(IIII)Z"⟩
abbrev cX12_areFacing : ByteArray := prog_14_method_35_code
def yX12_areFacing : MethodName := ⟨RX12, "areFacing", "(II)Z"⟩
abbrev cX12_watches : ByteArray := prog_14_method_36_code
def yX12_watches : MethodName := ⟨RX12, "watches", "(II)Z"⟩
abbrev cX12_areTwo : ByteArray := prog_14_method_37_code
def yX12_areTwo : MethodName := ⟨RX12, "areTwo", "(II)Z"⟩
abbrev cX12_sees : ByteArray := prog_14_method_38_code
def yX12_sees : MethodName := ⟨RX12, "sees", "(III)I"⟩
abbrev cX12_clear : ByteArray := prog_14_method_39_code
def yX12_clear : MethodName := ⟨RX12, "clear", "(II)I"⟩
abbrev cX12_looks : ByteArray := prog_14_method_40_code
def yX12_looks : MethodName := ⟨RX12, "looks", "(I)V"⟩
abbrev cX12_can : ByteArray := prog_14_method_41_code
def yX12_can : MethodName := ⟨RX12, "can", "(III)Z"⟩
abbrev cX12_spreads : ByteArray := prog_14_method_42_code
def yX12_spreads : MethodName := ⟨RX12, "spreads", "(IIII)V"⟩
abbrev cX12_isNews : ByteArray := prog_14_method_43_code
def yX12_isNews : MethodName := ⟨RX12, "isNews", "(IIII)Z"⟩
abbrev cX12_knows : ByteArray := prog_14_method_44_code
def yX12_knows : MethodName := ⟨RX12, "knows", "(IIII)I"⟩
abbrev cX12_teller : ByteArray := prog_14_method_45_code
def yX12_teller : MethodName := ⟨RX12, "teller", "(IIII)I"⟩
abbrev cX12_meet : ByteArray := prog_14_method_46_code
def yX12_meet : MethodName := ⟨RX12, "meet", "(IIII)I"⟩
abbrev cX12_seen : ByteArray := prog_14_method_47_code
def yX12_seen : MethodName := ⟨RX12, "seen", "(IIZ)I"⟩
abbrev cX12_source : ByteArray := prog_14_method_48_code
def yX12_source : MethodName := ⟨RX12, "source", "()I"⟩
abbrev cX12_isJoined : ByteArray := prog_14_method_49_code
def yX12_isJoined : MethodName := ⟨RX12, "isJoined", "(III)Z"⟩
abbrev cX12_sizeOf : ByteArray := prog_14_method_50_code
def yX12_sizeOf : MethodName := ⟨RX12, "sizeOf", "(I)I"⟩
abbrev cX12_apart : ByteArray := prog_14_method_51_code
def yX12_apart : MethodName := ⟨RX12, "apart", "(II)I"⟩
abbrev cX12_like : ByteArray := prog_14_method_52_code
def yX12_like : MethodName := ⟨RX12, "like", "(II)I"⟩
abbrev cX12_power : ByteArray := prog_14_method_53_code
def yX12_power : MethodName := ⟨RX12, "power", "(I)I"⟩
abbrev cX12_word : ByteArray := prog_14_method_54_code
def yX12_word : MethodName := ⟨RX12, "word", "(III)I"⟩
abbrev cX12_isWord : ByteArray := prog_14_method_55_code
def yX12_isWord : MethodName := ⟨RX12, "isWord", "(I)Z"⟩
abbrev cX12_lengthOf : ByteArray := prog_14_method_56_code
def yX12_lengthOf : MethodName := ⟨RX12, "lengthOf", "(I)I"⟩
abbrev cX12_weightOf : ByteArray := prog_14_method_57_code
def yX12_weightOf : MethodName := ⟨RX12, "weightOf", "(I)I"⟩
abbrev cX12_lipOf : ByteArray := prog_14_method_58_code
def yX12_lipOf : MethodName := ⟨RX12, "lipOf", "(II)I"⟩
abbrev cX12_unlike : ByteArray := prog_14_method_59_code
def yX12_unlike : MethodName := ⟨RX12, "unlike", "(II)I"⟩
abbrev cX12_areAlike : ByteArray := prog_14_method_60_code
def yX12_areAlike : MethodName := ⟨RX12, "areAlike", "(II)Z"⟩
abbrev cX12_alike : ByteArray := prog_14_method_61_code
def yX12_alike : MethodName := ⟨RX12, "alike", "(II)I"⟩
abbrev cX12_lip : ByteArray := prog_14_method_62_code
def yX12_lip : MethodName := ⟨RX12, "lip", "(I)I"⟩
abbrev cX12_hush : ByteArray := prog_14_method_63_code
def yX12_hush : MethodName := ⟨RX12, "hush", "()I"⟩
abbrev cX12_isAtRow : ByteArray := prog_14_method_64_code
def yX12_isAtRow : MethodName := ⟨RX12, "isAtRow", "(II)Z"⟩
abbrev cX12_readsRow : ByteArray := prog_14_method_65_code
def yX12_readsRow : MethodName := ⟨RX12, "readsRow", "()V"⟩
abbrev cX12_reads : ByteArray := prog_14_method_66_code
def yX12_reads : MethodName := ⟨RX12, "reads", "(I)I"⟩
abbrev cX12_allWords : ByteArray := prog_14_method_67_code
def yX12_allWords : MethodName := ⟨RX12, "allWords", "()I"⟩
abbrev cX12_mistakes : ByteArray := prog_14_method_68_code
def yX12_mistakes : MethodName := ⟨RX12, "mistakes", "(I)I"⟩
abbrev cX12_mistaken : ByteArray := prog_14_method_69_code
def yX12_mistaken : MethodName := ⟨RX12, "mistaken", "(I)I"⟩
abbrev cX12_signs : ByteArray := prog_14_method_70_code
def yX12_signs : MethodName := ⟨RX12, "signs", "(I)I"⟩
abbrev cX12_plain : ByteArray := prog_14_method_71_code
def yX12_plain : MethodName := ⟨RX12, "plain", "(I)I"⟩
abbrev cX12_hearing : ByteArray := prog_14_method_72_code
def yX12_hearing : MethodName := ⟨RX12, "hearing", "(II)I"⟩
abbrev cX12_beginHearing : ByteArray := prog_14_method_73_code
def yX12_beginHearing : MethodName := ⟨RX12, "beginHearing", "(I)V"⟩
abbrev cX12_hearsOn : ByteArray := prog_14_method_74_code
def yX12_hearsOn : MethodName := ⟨RX12, "hearsOn", "(I)V"⟩
abbrev cX12_arrives : ByteArray := prog_14_method_75_code
def yX12_arrives : MethodName := ⟨RX12, "arrives", "(III)I"⟩
abbrev cX12_turns : ByteArray := prog_14_method_76_code
def yX12_turns : MethodName := ⟨RX12, "turns", "(III)I"⟩
abbrev cX12_girl : ByteArray := prog_14_method_77_code
def yX12_girl : MethodName := ⟨RX12, "girl", "(I)I"⟩
abbrev cX12_getsOf : ByteArray := prog_14_method_78_code
def yX12_getsOf : MethodName := ⟨RX12, "getsOf", "(I)I"⟩
abbrev cX12_gets : ByteArray := prog_14_method_79_code
def yX12_gets : MethodName := ⟨RX12, "gets", "()I"⟩
abbrev cX12_weights : ByteArray := prog_14_method_80_code
def yX12_weights : MethodName := ⟨RX12, "weights", "(I)I"⟩
abbrev cX12_share : ByteArray := prog_14_method_81_code
def yX12_share : MethodName := ⟨RX12, "share", "()I"⟩
abbrev cX12_teach : ByteArray := prog_14_method_82_code
def yX12_teach : MethodName := ⟨RX12, "teach", "(I)I"⟩
abbrev cX12_band : ByteArray := prog_14_method_83_code
def yX12_band : MethodName := ⟨RX12, "band", "(III)I"⟩
abbrev cX12_heard : ByteArray := prog_14_method_84_code
def yX12_heard : MethodName := ⟨RX12, "heard", "(II)I"⟩
abbrev cX12_pairs : ByteArray := prog_14_method_85_code
def yX12_pairs : MethodName := ⟨RX12, "pairs", "()I"⟩
abbrev cX12_anew : ByteArray := prog_14_method_86_code
def yX12_anew : MethodName := ⟨RX12, "anew", "(II)I"⟩
abbrev cX12_type : ByteArray := prog_14_method_87_code
def yX12_type : MethodName := ⟨RX12, "type", "(JI)I"⟩
abbrev cX12_erase : ByteArray := prog_14_method_88_code
def yX12_erase : MethodName := ⟨RX12, "erase", "()I"⟩
abbrev cX12_isAt : ByteArray := prog_14_method_89_code
def yX12_isAt : MethodName := ⟨RX12, "isAt", "(II)Z"⟩
abbrev cX12_wordOf : ByteArray := prog_14_method_90_code
def yX12_wordOf : MethodName := ⟨RX12, "wordOf", "(J)I"⟩
abbrev cX12_scans : ByteArray := prog_14_method_91_code
def yX12_scans : MethodName := ⟨RX12, "scans", "()V"⟩
abbrev cX12_fewestOf : ByteArray := prog_14_method_92_code
def yX12_fewestOf : MethodName := ⟨RX12, "fewestOf", "(I)I"⟩
abbrev cX12_mostOf : ByteArray := prog_14_method_93_code
def yX12_mostOf : MethodName := ⟨RX12, "mostOf", "(I)I"⟩
abbrev cX12_readsText : ByteArray := prog_14_method_94_code
def yX12_readsText : MethodName := ⟨RX12, "readsText", "()Z"⟩
abbrev cX12_tellsWord : ByteArray := prog_14_method_95_code
def yX12_tellsWord : MethodName := ⟨RX12, "tellsWord", "(I)I"⟩
abbrev cX12_tellsItem : ByteArray := prog_14_method_96_code
def yX12_tellsItem : MethodName := ⟨RX12, "tellsItem", "(I)I"⟩
abbrev cX12_shed : ByteArray := prog_14_method_97_code
def yX12_shed : MethodName := ⟨RX12, "shed", "()I"⟩
abbrev cX12_image : ByteArray := prog_14_method_98_code
def yX12_image : MethodName := ⟨RX12, "image", "(I)I"⟩
abbrev cX12_from : ByteArray := prog_14_method_99_code
def yX12_from : MethodName := ⟨RX12, "from", "(I)I"⟩
abbrev cX12_countOf : ByteArray := prog_14_method_100_code
def yX12_countOf : MethodName := ⟨RX12, "countOf", "(I)I"⟩
abbrev cX12_count : ByteArray := prog_14_method_101_code
def yX12_count : MethodName := ⟨RX12, "count", "(I)I"⟩
abbrev cX12_mixed : ByteArray := prog_14_method_102_code
def yX12_mixed : MethodName := ⟨RX12, "mixed", "(J[III)J"⟩
abbrev cX12_digest : ByteArray := prog_14_method_103_code
def yX12_digest : MethodName := ⟨RX12, "digest", "()J"⟩
def RJ6 : String := "java/lang/Integer"
def TJ6 : u_T := fun k => match k with
  | _ => ("", "", "", false)
def tyJ6 : Nat → FieldType := fun k => match k with
  | _ => .int
abbrev wsJ60 : List Cond := u_ws RJ6 TJ6 0
theorem nmJ6 : ∀ a, a < 0 → ∀ b, b < 0 → a ≠ b → (TJ6 a).2.1 ≠ (TJ6 b).2.1 := by decide +kernel
theorem tyJ6_ok : ∀ k, k < 0 → parseFieldDescriptor (TJ6 k).2.2.1 = some (tyJ6 k) := by decide +kernel
abbrev cJ6_bitCount_0f7a4 : ByteArray := prog_15_method_49_code
def yJ6_bitCount_0f7a4 : MethodName := ⟨RJ6, "bitCount", "(I)I"⟩
def RJ13 : String := "java/lang/Long"
def TJ13 : u_T := fun k => match k with
  | _ => ("", "", "", false)
def tyJ13 : Nat → FieldType := fun k => match k with
  | _ => .int
abbrev wsJ130 : List Cond := u_ws RJ13 TJ13 0
theorem nmJ13 : ∀ a, a < 0 → ∀ b, b < 0 → a ≠ b → (TJ13 a).2.1 ≠ (TJ13 b).2.1 := by decide +kernel
theorem tyJ13_ok : ∀ k, k < 0 → parseFieldDescriptor (TJ13 k).2.2.1 = some (tyJ13 k) := by decide +kernel
abbrev cJ13_bitCount_95d88 : ByteArray := prog_16_method_50_code
def yJ13_bitCount_95d88 : MethodName := ⟨RJ13, "bitCount", "(J)I"⟩
def RJ9 : String := "java/lang/Math"
def TJ9 : u_T := fun k => match k with
  | _ => ("", "", "", false)
def tyJ9 : Nat → FieldType := fun k => match k with
  | _ => .int
abbrev wsJ90 : List Cond := u_ws RJ9 TJ9 0
theorem nmJ9 : ∀ a, a < 0 → ∀ b, b < 0 → a ≠ b → (TJ9 a).2.1 ≠ (TJ9 b).2.1 := by decide +kernel
theorem tyJ9_ok : ∀ k, k < 0 → parseFieldDescriptor (TJ9 k).2.2.1 = some (tyJ9 k) := by decide +kernel
abbrev cJ9_max_7cf53 : ByteArray := prog_17_method_65_code
def yJ9_max_7cf53 : MethodName := ⟨RJ9, "max", "(II)I"⟩
abbrev cJ9_min_7cf53 : ByteArray := prog_17_method_69_code
def yJ9_min_7cf53 : MethodName := ⟨RJ9, "min", "(II)I"⟩
def RJ0 : String := "java/lang/String"
def TJ0 : u_T := fun k => match k with
  | _ => ("", "", "", false)
def tyJ0 : Nat → FieldType := fun k => match k with
  | _ => .int
abbrev wsJ00 : List Cond := u_ws RJ0 TJ0 0
theorem nmJ0 : ∀ a, a < 0 → ∀ b, b < 0 → a ≠ b → (TJ0 a).2.1 ≠ (TJ0 b).2.1 := by decide +kernel
theorem tyJ0_ok : ∀ k, k < 0 → parseFieldDescriptor (TJ0 k).2.2.1 = some (tyJ0 k) := by decide +kernel
abbrev cJ0_length_8abf5 : ByteArray := prog_18_method_54_code
def yJ0_length_8abf5 : MethodName := ⟨RJ0, "length", "()I"⟩
abbrev cJ0_charAt_5068e : ByteArray := prog_18_method_56_code
def yJ0_charAt_5068e : MethodName := ⟨RJ0, "charAt", "(I)C"⟩
abbrev cJ0_coder_7d493 : ByteArray := prog_18_method_152_code
def yJ0_coder_7d493 : MethodName := ⟨RJ0, "coder", "()B"⟩
abbrev cJ0_isLatin1_aae02 : ByteArray := prog_18_method_154_code
def yJ0_isLatin1_aae02 : MethodName := ⟨RJ0, "isLatin1", "()Z"⟩
abbrev cJ0_checkIndex_df160 : ByteArray := prog_18_method_155_code
def yJ0_checkIndex_df160 : MethodName := ⟨RJ0, "checkIndex", "(II)V"⟩
def RJ1 : String := "java/lang/StringLatin1"
def TJ1 : u_T := fun k => match k with
  | _ => ("", "", "", false)
def tyJ1 : Nat → FieldType := fun k => match k with
  | _ => .int
abbrev wsJ10 : List Cond := u_ws RJ1 TJ1 0
theorem nmJ1 : ∀ a, a < 0 → ∀ b, b < 0 → a ≠ b → (TJ1 a).2.1 ≠ (TJ1 b).2.1 := by decide +kernel
theorem tyJ1_ok : ∀ k, k < 0 → parseFieldDescriptor (TJ1 k).2.2.1 = some (tyJ1 k) := by decide +kernel
abbrev cJ1_charAt_3b067 : ByteArray := prog_19_method_2_code
def yJ1_charAt_3b067 : MethodName := ⟨RJ1, "charAt", "([BI)C"⟩
def RJ2 : String := "java/lang/StringUTF16"
def TJ2 : u_T := fun k => match k with
  | _ => ("", "", "", false)
def tyJ2 : Nat → FieldType := fun k => match k with
  | _ => .int
abbrev wsJ20 : List Cond := u_ws RJ2 TJ2 0
theorem nmJ2 : ∀ a, a < 0 → ∀ b, b < 0 → a ≠ b → (TJ2 a).2.1 ≠ (TJ2 b).2.1 := by decide +kernel
theorem tyJ2_ok : ∀ k, k < 0 → parseFieldDescriptor (TJ2 k).2.2.1 = some (tyJ2 k) := by decide +kernel
abbrev cJ2_getChar_3b067 : ByteArray := prog_20_method_5_code
def yJ2_getChar_3b067 : MethodName := ⟨RJ2, "getChar", "([BI)C"⟩
abbrev cJ2_length_9d52b : ByteArray := prog_20_method_6_code
def yJ2_length_9d52b : MethodName := ⟨RJ2, "length", "([B)I"⟩
abbrev cJ2_charAt_3b067 : ByteArray := prog_20_method_83_code
def yJ2_charAt_3b067 : MethodName := ⟨RJ2, "charAt", "([BI)C"⟩
abbrev cJ2_checkIndex_2214a : ByteArray := prog_20_method_91_code
def yJ2_checkIndex_2214a : MethodName := ⟨RJ2, "checkIndex", "(I[B)V"⟩
def RJ10 : String := "java/lang/System"
def TJ10 : u_T := fun k => match k with
  | _ => ("", "", "", false)
def tyJ10 : Nat → FieldType := fun k => match k with
  | _ => .int
abbrev wsJ100 : List Cond := u_ws RJ10 TJ10 0
theorem nmJ10 : ∀ a, a < 0 → ∀ b, b < 0 → a ≠ b → (TJ10 a).2.1 ≠ (TJ10 b).2.1 := by decide +kernel
theorem tyJ10_ok : ∀ k, k < 0 → parseFieldDescriptor (TJ10 k).2.2.1 = some (tyJ10 k) := by decide +kernel
def RJ3 : String := "jdk/internal/util/Preconditions"
def TJ3 : u_T := fun k => match k with
  | _ => ("", "", "", false)
def tyJ3 : Nat → FieldType := fun k => match k with
  | _ => .int
abbrev wsJ30 : List Cond := u_ws RJ3 TJ3 0
theorem nmJ3 : ∀ a, a < 0 → ∀ b, b < 0 → a ≠ b → (TJ3 a).2.1 ≠ (TJ3 b).2.1 := by decide +kernel
theorem tyJ3_ok : ∀ k, k < 0 → parseFieldDescriptor (TJ3 k).2.2.1 = some (tyJ3 k) := by decide +kernel
abbrev cJ3_checkIndex_8e157 : ByteArray := prog_22_method_11_code
def yJ3_checkIndex_8e157 : MethodName := ⟨RJ3, "checkIndex", "(IILjava/util/function/BiFunction;)I"⟩
def RL : String := "ShedTalkLaw"
abbrev cL_law : ByteArray := code
def yL_law : MethodName := ⟨RL, "law", "([I)Z"⟩
abbrev vwCl : List vw_C := [(RX0, TX0, 9), (RX1, TX1, 7), (RX2, TX2, 2), (RX3, TX3, 10), (RX4, TX4, 2), (RX5, TX5, 3), (RX6, TX6, 4), (RX7, TX7, 7), (RX8, TX8, 4), (RX9, TX9, 10), (RX10, TX10, 6), (RX11, TX11, 11), (RX12, TX12, 26)]
/-- the tables' words that stay through every step; a contract's words are its own code and these -/
def gwt : List Cond := lw_tbl.filter goodWord
theorem gw_l {w : Cond} {i : Nat} (h : (k2_sels lw_privs)[i]? = some w) (hg : goodWord w = true) : w ∈ gwt := List.mem_filter.mpr ⟨List.mem_append_left _ (List.mem_of_getElem? h), hg⟩
theorem gw_r {w : Cond} {i : Nat} (h : tables_1[i]? = some w) (hg : goodWord w = true) : w ∈ gwt := List.mem_filter.mpr ⟨List.mem_append_right _ (List.mem_of_getElem? h), hg⟩
theorem gw_in {w : Cond} (h : w ∈ gwt) : w ∈ lw_tbl := (List.mem_filter.mp h).1
theorem gw_good {w : Cond} (h : w ∈ gwt) : w ∈ gwt ∧ ((w.onTables && w.keeps) = true ∨ ∃ ty, w = .arrayClass ty) := ⟨h, good_of_word (List.mem_filter.mp h).2⟩
theorem gw_all {ws : List Cond} (h : ∀ w ∈ ws, w ∈ gwt) : GoodIn gwt ws := fun w hw => gw_good (h w hw)
def nwt : List (String × Nat × MethodName × String) := [(RX11, 9, yX7_init, RX11), (RX7, 18, yX8_init, RX11), (RX11, 27, yX5_init, RX11), (RX11, 37, yX6_init, RX11), (RX0, 32, yX4_init, RX11), (RX11, 51, yX10_init, RX11), (RX11, 58, yX9_init, RX11), (RX2, 9, yX4_init, RX11), (RX1, 44, yX11_within, RX11), (RX5, 38, yX11_hasBit, RX11), (RX8, 33, yX11_within, RX11), (RX8, 37, yX11_oneIf, RX11), (RX5, 53, yX11_oneIf, RX11), (RX3, 52, yX11_within, RX11), (RX3, 76, yX11_hasBit, RX11), (RX0, 58, yX11_oneIf, RX11), (RX0, 71, yX11_commonDivisor, RX11), (RX10, 27, yX11_within, RX11), (RX9, 26, yX11_within, RX11), (RX4, 19, yX11_within, RX11), (RX1, 86, yX11_oneIf, RX11), (RX1, 90, yX11_mixed, RX11), (RX8, 44, yX11_mixed, RX11), (RX3, 103, yX11_mixed, RX11), (RX2, 49, yX11_mixed, RX11), (RX4, 40, yX11_mixed, RX11)]
theorem nw_0 : (RX11, 9, yX7_init, RX11) ∈ nwt := List.mem_of_getElem? (i := 0) rfl
theorem nw_1 : (RX7, 18, yX8_init, RX11) ∈ nwt := List.mem_of_getElem? (i := 1) rfl
theorem nw_2 : (RX11, 27, yX5_init, RX11) ∈ nwt := List.mem_of_getElem? (i := 2) rfl
theorem nw_3 : (RX11, 37, yX6_init, RX11) ∈ nwt := List.mem_of_getElem? (i := 3) rfl
theorem nw_4 : (RX0, 32, yX4_init, RX11) ∈ nwt := List.mem_of_getElem? (i := 4) rfl
theorem nw_5 : (RX11, 51, yX10_init, RX11) ∈ nwt := List.mem_of_getElem? (i := 5) rfl
theorem nw_6 : (RX11, 58, yX9_init, RX11) ∈ nwt := List.mem_of_getElem? (i := 6) rfl
theorem nw_7 : (RX2, 9, yX4_init, RX11) ∈ nwt := List.mem_of_getElem? (i := 7) rfl
theorem nw_8 : (RX1, 44, yX11_within, RX11) ∈ nwt := List.mem_of_getElem? (i := 8) rfl
theorem nw_9 : (RX5, 38, yX11_hasBit, RX11) ∈ nwt := List.mem_of_getElem? (i := 9) rfl
theorem nw_10 : (RX8, 33, yX11_within, RX11) ∈ nwt := List.mem_of_getElem? (i := 10) rfl
theorem nw_11 : (RX8, 37, yX11_oneIf, RX11) ∈ nwt := List.mem_of_getElem? (i := 11) rfl
theorem nw_12 : (RX5, 53, yX11_oneIf, RX11) ∈ nwt := List.mem_of_getElem? (i := 12) rfl
theorem nw_13 : (RX3, 52, yX11_within, RX11) ∈ nwt := List.mem_of_getElem? (i := 13) rfl
theorem nw_14 : (RX3, 76, yX11_hasBit, RX11) ∈ nwt := List.mem_of_getElem? (i := 14) rfl
theorem nw_15 : (RX0, 58, yX11_oneIf, RX11) ∈ nwt := List.mem_of_getElem? (i := 15) rfl
theorem nw_16 : (RX0, 71, yX11_commonDivisor, RX11) ∈ nwt := List.mem_of_getElem? (i := 16) rfl
theorem nw_17 : (RX10, 27, yX11_within, RX11) ∈ nwt := List.mem_of_getElem? (i := 17) rfl
theorem nw_18 : (RX9, 26, yX11_within, RX11) ∈ nwt := List.mem_of_getElem? (i := 18) rfl
theorem nw_19 : (RX4, 19, yX11_within, RX11) ∈ nwt := List.mem_of_getElem? (i := 19) rfl
theorem nw_20 : (RX1, 86, yX11_oneIf, RX11) ∈ nwt := List.mem_of_getElem? (i := 20) rfl
theorem nw_21 : (RX1, 90, yX11_mixed, RX11) ∈ nwt := List.mem_of_getElem? (i := 21) rfl
theorem nw_22 : (RX8, 44, yX11_mixed, RX11) ∈ nwt := List.mem_of_getElem? (i := 22) rfl
theorem nw_23 : (RX3, 103, yX11_mixed, RX11) ∈ nwt := List.mem_of_getElem? (i := 23) rfl
theorem nw_24 : (RX2, 49, yX11_mixed, RX11) ∈ nwt := List.mem_of_getElem? (i := 24) rfl
theorem nw_25 : (RX4, 40, yX11_mixed, RX11) ∈ nwt := List.mem_of_getElem? (i := 25) rfl
theorem wk_247 : Cond.laysFinal RX0 RX0 "heardAs" "[[I" ∈ gwt := gw_r (i := 247) (by decide +kernel) (by decide +kernel)
theorem wk_249 : Cond.laysFinal RX0 RX0 "total" "[I" ∈ gwt := gw_r (i := 249) (by decide +kernel) (by decide +kernel)
theorem wk_251 : Cond.laysFinal RX0 RX0 "part" "[I" ∈ gwt := gw_r (i := 251) (by decide +kernel) (by decide +kernel)
theorem wk_253 : Cond.laysFinal RX0 RX0 "chance" "[LShedTalk$Natural;" ∈ gwt := gw_r (i := 253) (by decide +kernel) (by decide +kernel)
theorem wk_255 : Cond.laysFinal RX0 RX0 "before" "[LShedTalk$Natural;" ∈ gwt := gw_r (i := 255) (by decide +kernel) (by decide +kernel)
theorem wk_257 : Cond.laysFinal RX0 RX0 "below" "LShedTalk$Natural;" ∈ gwt := gw_r (i := 257) (by decide +kernel) (by decide +kernel)
theorem wk_259 : Cond.laysFinal RX0 RX0 "scaled" "LShedTalk$Natural;" ∈ gwt := gw_r (i := 259) (by decide +kernel) (by decide +kernel)
theorem wk_261 : Cond.laysFinal RX0 RX0 "scaledBelow" "LShedTalk$Natural;" ∈ gwt := gw_r (i := 261) (by decide +kernel) (by decide +kernel)
theorem wk_263 : Cond.lays RX0 RX0 "words" "I" ∈ gwt := gw_r (i := 263) (by decide +kernel) (by decide +kernel)
theorem kwX0 : ∀ w ∈ u_ws RX0 TX0 9, w ∈ gwt := List.forall_mem_cons.mpr ⟨wk_247, List.forall_mem_cons.mpr ⟨wk_249, List.forall_mem_cons.mpr ⟨wk_251, List.forall_mem_cons.mpr ⟨wk_253, List.forall_mem_cons.mpr ⟨wk_255, List.forall_mem_cons.mpr ⟨wk_257, List.forall_mem_cons.mpr ⟨wk_259, List.forall_mem_cons.mpr ⟨wk_261, List.forall_mem_cons.mpr ⟨wk_263, fun _ h => absurd h List.not_mem_nil⟩⟩⟩⟩⟩⟩⟩⟩⟩
theorem wk_57 : Cond.lays RX1 RX1 "pillars" "J" ∈ gwt := gw_r (i := 57) (by decide +kernel) (by decide +kernel)
theorem wk_59 : Cond.lays RX1 RX1 "weavers" "I" ∈ gwt := gw_r (i := 59) (by decide +kernel) (by decide +kernel)
theorem wk_61 : Cond.laysFinal RX1 RX1 "place" "[I" ∈ gwt := gw_r (i := 61) (by decide +kernel) (by decide +kernel)
theorem wk_63 : Cond.laysFinal RX1 RX1 "way" "[I" ∈ gwt := gw_r (i := 63) (by decide +kernel) (by decide +kernel)
theorem wk_65 : Cond.laysFinal RX1 RX1 "tell" "[I" ∈ gwt := gw_r (i := 65) (by decide +kernel) (by decide +kernel)
theorem wk_67 : Cond.laysFinal RX1 RX1 "look" "[I" ∈ gwt := gw_r (i := 67) (by decide +kernel) (by decide +kernel)
theorem wk_69 : Cond.laysFinal RX1 RX1 "farSquare" "[I" ∈ gwt := gw_r (i := 69) (by decide +kernel) (by decide +kernel)
theorem kwX1 : ∀ w ∈ u_ws RX1 TX1 7, w ∈ gwt := List.forall_mem_cons.mpr ⟨wk_57, List.forall_mem_cons.mpr ⟨wk_59, List.forall_mem_cons.mpr ⟨wk_61, List.forall_mem_cons.mpr ⟨wk_63, List.forall_mem_cons.mpr ⟨wk_65, List.forall_mem_cons.mpr ⟨wk_67, List.forall_mem_cons.mpr ⟨wk_69, fun _ h => absurd h List.not_mem_nil⟩⟩⟩⟩⟩⟩⟩
theorem wk_348 : Cond.laysFinal RX2 RX2 "above" "LShedTalk$Natural;" ∈ gwt := gw_r (i := 348) (by decide +kernel) (by decide +kernel)
theorem wk_350 : Cond.laysFinal RX2 RX2 "below" "LShedTalk$Natural;" ∈ gwt := gw_r (i := 350) (by decide +kernel) (by decide +kernel)
theorem kwX2 : ∀ w ∈ u_ws RX2 TX2 2, w ∈ gwt := List.forall_mem_cons.mpr ⟨wk_348, List.forall_mem_cons.mpr ⟨wk_350, fun _ h => absurd h List.not_mem_nil⟩⟩
theorem wk_124 : Cond.lays RX3 RX3 "words" "I" ∈ gwt := gw_r (i := 124) (by decide +kernel) (by decide +kernel)
theorem wk_126 : Cond.laysFinal RX3 RX3 "length" "[I" ∈ gwt := gw_r (i := 126) (by decide +kernel) (by decide +kernel)
theorem wk_128 : Cond.laysFinal RX3 RX3 "number" "[I" ∈ gwt := gw_r (i := 128) (by decide +kernel) (by decide +kernel)
theorem wk_130 : Cond.laysFinal RX3 RX3 "weight" "[I" ∈ gwt := gw_r (i := 130) (by decide +kernel) (by decide +kernel)
theorem wk_132 : Cond.laysFinal RX3 RX3 "leastLike" "[I" ∈ gwt := gw_r (i := 132) (by decide +kernel) (by decide +kernel)
theorem wk_134 : Cond.laysFinal RX3 RX3 "row" "[I" ∈ gwt := gw_r (i := 134) (by decide +kernel) (by decide +kernel)
theorem wk_136 : Cond.lays RX3 RX3 "rowLips" "I" ∈ gwt := gw_r (i := 136) (by decide +kernel) (by decide +kernel)
theorem wk_138 : Cond.lays RX3 RX3 "girlKnows" "I" ∈ gwt := gw_r (i := 138) (by decide +kernel) (by decide +kernel)
theorem wk_140 : Cond.laysFinal RX3 RX3 "lipsOf" "[I" ∈ gwt := gw_r (i := 140) (by decide +kernel) (by decide +kernel)
theorem wk_142 : Cond.laysFinal RX3 RX3 "others" "[I" ∈ gwt := gw_r (i := 142) (by decide +kernel) (by decide +kernel)
theorem kwX3 : ∀ w ∈ u_ws RX3 TX3 10, w ∈ gwt := List.forall_mem_cons.mpr ⟨wk_124, List.forall_mem_cons.mpr ⟨wk_126, List.forall_mem_cons.mpr ⟨wk_128, List.forall_mem_cons.mpr ⟨wk_130, List.forall_mem_cons.mpr ⟨wk_132, List.forall_mem_cons.mpr ⟨wk_134, List.forall_mem_cons.mpr ⟨wk_136, List.forall_mem_cons.mpr ⟨wk_138, List.forall_mem_cons.mpr ⟨wk_140, List.forall_mem_cons.mpr ⟨wk_142, fun _ h => absurd h List.not_mem_nil⟩⟩⟩⟩⟩⟩⟩⟩⟩⟩
theorem wk_233 : Cond.laysFinal RX4 RX4 "limb" "[I" ∈ gwt := gw_r (i := 233) (by decide +kernel) (by decide +kernel)
theorem wk_235 : Cond.lays RX4 RX4 "limbs" "I" ∈ gwt := gw_r (i := 235) (by decide +kernel) (by decide +kernel)
theorem kwX4 : ∀ w ∈ u_ws RX4 TX4 2, w ∈ gwt := List.forall_mem_cons.mpr ⟨wk_233, List.forall_mem_cons.mpr ⟨wk_235, fun _ h => absurd h List.not_mem_nil⟩⟩
theorem wk_187 : Cond.laysFinal RX5 RX5 "since" "[I" ∈ gwt := gw_r (i := 187) (by decide +kernel) (by decide +kernel)
theorem wk_189 : Cond.laysFinal RX5 RX5 "toldBy" "[I" ∈ gwt := gw_r (i := 189) (by decide +kernel) (by decide +kernel)
theorem wk_191 : Cond.laysFinal RX5 RX5 "audience" "[I" ∈ gwt := gw_r (i := 191) (by decide +kernel) (by decide +kernel)
theorem kwX5 : ∀ w ∈ u_ws RX5 TX5 3, w ∈ gwt := List.forall_mem_cons.mpr ⟨wk_187, List.forall_mem_cons.mpr ⟨wk_189, List.forall_mem_cons.mpr ⟨wk_191, fun _ h => absurd h List.not_mem_nil⟩⟩⟩
theorem wk_204 : Cond.laysFinal RX6 RX6 "ways" "[I" ∈ gwt := gw_r (i := 204) (by decide +kernel) (by decide +kernel)
theorem wk_206 : Cond.laysFinal RX6 RX6 "fewest" "[I" ∈ gwt := gw_r (i := 206) (by decide +kernel) (by decide +kernel)
theorem wk_208 : Cond.laysFinal RX6 RX6 "weights" "[I" ∈ gwt := gw_r (i := 208) (by decide +kernel) (by decide +kernel)
theorem wk_210 : Cond.laysFinal RX6 RX6 "first" "[I" ∈ gwt := gw_r (i := 210) (by decide +kernel) (by decide +kernel)
theorem kwX6 : ∀ w ∈ u_ws RX6 TX6 4, w ∈ gwt := List.forall_mem_cons.mpr ⟨wk_204, List.forall_mem_cons.mpr ⟨wk_206, List.forall_mem_cons.mpr ⟨wk_208, List.forall_mem_cons.mpr ⟨wk_210, fun _ h => absurd h List.not_mem_nil⟩⟩⟩⟩
theorem wk_160 : Cond.laysFinal RX7 RX7 "floor" "LShedTalk$Floor;" ∈ gwt := gw_r (i := 160) (by decide +kernel) (by decide +kernel)
theorem wk_162 : Cond.laysFinal RX7 RX7 "sightings" "LShedTalk$Sightings;" ∈ gwt := gw_r (i := 162) (by decide +kernel) (by decide +kernel)
theorem wk_164 : Cond.laysFinal RX7 RX7 "lexicon" "LShedTalk$Lexicon;" ∈ gwt := gw_r (i := 164) (by decide +kernel) (by decide +kernel)
theorem wk_166 : Cond.laysFinal RX7 RX7 "level" "[I" ∈ gwt := gw_r (i := 166) (by decide +kernel) (by decide +kernel)
theorem wk_168 : Cond.laysFinal RX7 RX7 "loss" "[I" ∈ gwt := gw_r (i := 168) (by decide +kernel) (by decide +kernel)
theorem wk_170 : Cond.lays RX7 RX7 "clearness" "I" ∈ gwt := gw_r (i := 170) (by decide +kernel) (by decide +kernel)
theorem wk_172 : Cond.lays RX7 RX7 "isKept" "Z" ∈ gwt := gw_r (i := 172) (by decide +kernel) (by decide +kernel)
theorem kwX7 : ∀ w ∈ u_ws RX7 TX7 7, w ∈ gwt := List.forall_mem_cons.mpr ⟨wk_160, List.forall_mem_cons.mpr ⟨wk_162, List.forall_mem_cons.mpr ⟨wk_164, List.forall_mem_cons.mpr ⟨wk_166, List.forall_mem_cons.mpr ⟨wk_168, List.forall_mem_cons.mpr ⟨wk_170, List.forall_mem_cons.mpr ⟨wk_172, fun _ h => absurd h List.not_mem_nil⟩⟩⟩⟩⟩⟩⟩
theorem wk_85 : Cond.lays RX8 RX8 "many" "I" ∈ gwt := gw_r (i := 85) (by decide +kernel) (by decide +kernel)
theorem wk_87 : Cond.laysFinal RX8 RX8 "weaver" "[I" ∈ gwt := gw_r (i := 87) (by decide +kernel) (by decide +kernel)
theorem wk_89 : Cond.laysFinal RX8 RX8 "second" "[I" ∈ gwt := gw_r (i := 89) (by decide +kernel) (by decide +kernel)
theorem wk_91 : Cond.laysFinal RX8 RX8 "knew" "[I" ∈ gwt := gw_r (i := 91) (by decide +kernel) (by decide +kernel)
theorem kwX8 : ∀ w ∈ u_ws RX8 TX8 4, w ∈ gwt := List.forall_mem_cons.mpr ⟨wk_85, List.forall_mem_cons.mpr ⟨wk_87, List.forall_mem_cons.mpr ⟨wk_89, List.forall_mem_cons.mpr ⟨wk_91, fun _ h => absurd h List.not_mem_nil⟩⟩⟩⟩
theorem wk_311 : Cond.lays RX9 RX9 "bytes" "I" ∈ gwt := gw_r (i := 311) (by decide +kernel) (by decide +kernel)
theorem wk_313 : Cond.lays RX9 RX9 "items" "I" ∈ gwt := gw_r (i := 313) (by decide +kernel) (by decide +kernel)
theorem wk_315 : Cond.laysFinal RX9 RX9 "row" "[I" ∈ gwt := gw_r (i := 315) (by decide +kernel) (by decide +kernel)
theorem wk_317 : Cond.laysFinal RX9 RX9 "itemKind" "[I" ∈ gwt := gw_r (i := 317) (by decide +kernel) (by decide +kernel)
theorem wk_319 : Cond.laysFinal RX9 RX9 "numbersOf" "[I" ∈ gwt := gw_r (i := 319) (by decide +kernel) (by decide +kernel)
theorem wk_321 : Cond.laysFinal RX9 RX9 "number" "[[I" ∈ gwt := gw_r (i := 321) (by decide +kernel) (by decide +kernel)
theorem wk_323 : Cond.lays RX9 RX9 "at" "I" ∈ gwt := gw_r (i := 323) (by decide +kernel) (by decide +kernel)
theorem wk_325 : Cond.lays RX9 RX9 "token" "I" ∈ gwt := gw_r (i := 325) (by decide +kernel) (by decide +kernel)
theorem wk_327 : Cond.lays RX9 RX9 "tokenAt" "I" ∈ gwt := gw_r (i := 327) (by decide +kernel) (by decide +kernel)
theorem wk_329 : Cond.lays RX9 RX9 "tokenNumber" "I" ∈ gwt := gw_r (i := 329) (by decide +kernel) (by decide +kernel)
theorem kwX9 : ∀ w ∈ u_ws RX9 TX9 10, w ∈ gwt := List.forall_mem_cons.mpr ⟨wk_311, List.forall_mem_cons.mpr ⟨wk_313, List.forall_mem_cons.mpr ⟨wk_315, List.forall_mem_cons.mpr ⟨wk_317, List.forall_mem_cons.mpr ⟨wk_319, List.forall_mem_cons.mpr ⟨wk_321, List.forall_mem_cons.mpr ⟨wk_323, List.forall_mem_cons.mpr ⟨wk_325, List.forall_mem_cons.mpr ⟨wk_327, List.forall_mem_cons.mpr ⟨wk_329, fun _ h => absurd h List.not_mem_nil⟩⟩⟩⟩⟩⟩⟩⟩⟩⟩
theorem wk_279 : Cond.lays RX10 RX10 "bestPairs" "I" ∈ gwt := gw_r (i := 279) (by decide +kernel) (by decide +kernel)
theorem wk_281 : Cond.laysFinal RX10 RX10 "way" "[I" ∈ gwt := gw_r (i := 281) (by decide +kernel) (by decide +kernel)
theorem wk_283 : Cond.laysFinal RX10 RX10 "bestWay" "[I" ∈ gwt := gw_r (i := 283) (by decide +kernel) (by decide +kernel)
theorem wk_285 : Cond.laysFinal RX10 RX10 "readers" "[I" ∈ gwt := gw_r (i := 285) (by decide +kernel) (by decide +kernel)
theorem wk_287 : Cond.laysFinal RX10 RX10 "chosen" "[I" ∈ gwt := gw_r (i := 287) (by decide +kernel) (by decide +kernel)
theorem wk_289 : Cond.laysFinal RX10 RX10 "pairs" "[I" ∈ gwt := gw_r (i := 289) (by decide +kernel) (by decide +kernel)
theorem kwX10 : ∀ w ∈ u_ws RX10 TX10 6, w ∈ gwt := List.forall_mem_cons.mpr ⟨wk_279, List.forall_mem_cons.mpr ⟨wk_281, List.forall_mem_cons.mpr ⟨wk_283, List.forall_mem_cons.mpr ⟨wk_285, List.forall_mem_cons.mpr ⟨wk_287, List.forall_mem_cons.mpr ⟨wk_289, fun _ h => absurd h List.not_mem_nil⟩⟩⟩⟩⟩⟩
theorem wk_364 : Cond.laysFinal RX11 RX11 "now" "LShedTalk$Shed;" ∈ gwt := gw_r (i := 364) (by decide +kernel) (by decide +kernel)
theorem wk_366 : Cond.laysFinal RX11 RX11 "draft" "LShedTalk$Shed;" ∈ gwt := gw_r (i := 366) (by decide +kernel) (by decide +kernel)
theorem wk_368 : Cond.laysFinal RX11 RX11 "firstImage" "LShedTalk$Shed;" ∈ gwt := gw_r (i := 368) (by decide +kernel) (by decide +kernel)
theorem wk_370 : Cond.laysFinal RX11 RX11 "secondImage" "LShedTalk$Shed;" ∈ gwt := gw_r (i := 370) (by decide +kernel) (by decide +kernel)
theorem wk_372 : Cond.laysFinal RX11 RX11 "news" "LShedTalk$News;" ∈ gwt := gw_r (i := 372) (by decide +kernel) (by decide +kernel)
theorem wk_374 : Cond.laysFinal RX11 RX11 "otherNews" "LShedTalk$News;" ∈ gwt := gw_r (i := 374) (by decide +kernel) (by decide +kernel)
theorem wk_376 : Cond.laysFinal RX11 RX11 "readings" "LShedTalk$Readings;" ∈ gwt := gw_r (i := 376) (by decide +kernel) (by decide +kernel)
theorem wk_378 : Cond.laysFinal RX11 RX11 "chances" "LShedTalk$Chances;" ∈ gwt := gw_r (i := 378) (by decide +kernel) (by decide +kernel)
theorem wk_380 : Cond.laysFinal RX11 RX11 "turning" "LShedTalk$Turning;" ∈ gwt := gw_r (i := 380) (by decide +kernel) (by decide +kernel)
theorem wk_382 : Cond.laysFinal RX11 RX11 "text" "LShedTalk$Text;" ∈ gwt := gw_r (i := 382) (by decide +kernel) (by decide +kernel)
theorem wk_384 : Cond.laysFinal RX11 RX11 "fraction" "LShedTalk$Fraction;" ∈ gwt := gw_r (i := 384) (by decide +kernel) (by decide +kernel)
theorem kwX11 : ∀ w ∈ u_ws RX11 TX11 11, w ∈ gwt := List.forall_mem_cons.mpr ⟨wk_364, List.forall_mem_cons.mpr ⟨wk_366, List.forall_mem_cons.mpr ⟨wk_368, List.forall_mem_cons.mpr ⟨wk_370, List.forall_mem_cons.mpr ⟨wk_372, List.forall_mem_cons.mpr ⟨wk_374, List.forall_mem_cons.mpr ⟨wk_376, List.forall_mem_cons.mpr ⟨wk_378, List.forall_mem_cons.mpr ⟨wk_380, List.forall_mem_cons.mpr ⟨wk_382, List.forall_mem_cons.mpr ⟨wk_384, fun _ h => absurd h List.not_mem_nil⟩⟩⟩⟩⟩⟩⟩⟩⟩⟩⟩
theorem wk_1150 : Cond.laysFinal RX12 RX12 "book" "[I" ∈ gwt := gw_r (i := 1150) (by decide +kernel) (by decide +kernel)
theorem wk_1152 : Cond.laysFinal RX12 RX12 "images" "[I" ∈ gwt := gw_r (i := 1152) (by decide +kernel) (by decide +kernel)
theorem wk_1154 : Cond.laysFinal RX12 RX12 "kept" "[Z" ∈ gwt := gw_r (i := 1154) (by decide +kernel) (by decide +kernel)
theorem wk_1156 : Cond.laysFinal RX12 RX12 "aside" "[I" ∈ gwt := gw_r (i := 1156) (by decide +kernel) (by decide +kernel)
theorem wk_1158 : Cond.laysFinal RX12 RX12 "limbs" "[I" ∈ gwt := gw_r (i := 1158) (by decide +kernel) (by decide +kernel)
theorem wk_1160 : Cond.laysFinal RX12 RX12 "wide" "[I" ∈ gwt := gw_r (i := 1160) (by decide +kernel) (by decide +kernel)
theorem wk_1162 : Cond.laysFinal RX12 RX12 "hears" "[Z" ∈ gwt := gw_r (i := 1162) (by decide +kernel) (by decide +kernel)
theorem wk_1164 : Cond.laysFinal RX12 RX12 "spies" "[Z" ∈ gwt := gw_r (i := 1164) (by decide +kernel) (by decide +kernel)
theorem wk_1166 : Cond.laysFinal RX12 RX12 "known" "[I" ∈ gwt := gw_r (i := 1166) (by decide +kernel) (by decide +kernel)
theorem wk_1168 : Cond.laysFinal RX12 RX12 "by" "[I" ∈ gwt := gw_r (i := 1168) (by decide +kernel) (by decide +kernel)
theorem wk_1170 : Cond.laysFinal RX12 RX12 "ways" "[I" ∈ gwt := gw_r (i := 1170) (by decide +kernel) (by decide +kernel)
theorem wk_1172 : Cond.laysFinal RX12 RX12 "fewest" "[I" ∈ gwt := gw_r (i := 1172) (by decide +kernel) (by decide +kernel)
theorem wk_1174 : Cond.laysFinal RX12 RX12 "heavy" "[I" ∈ gwt := gw_r (i := 1174) (by decide +kernel) (by decide +kernel)
theorem wk_1176 : Cond.laysFinal RX12 RX12 "sums" "[I" ∈ gwt := gw_r (i := 1176) (by decide +kernel) (by decide +kernel)
theorem wk_1178 : Cond.laysFinal RX12 RX12 "faces" "[I" ∈ gwt := gw_r (i := 1178) (by decide +kernel) (by decide +kernel)
theorem wk_1180 : Cond.laysFinal RX12 RX12 "bestFaces" "[I" ∈ gwt := gw_r (i := 1180) (by decide +kernel) (by decide +kernel)
theorem wk_1182 : Cond.laysFinal RX12 RX12 "text" "[I" ∈ gwt := gw_r (i := 1182) (by decide +kernel) (by decide +kernel)
theorem wk_1184 : Cond.lays RX12 RX12 "typed" "I" ∈ gwt := gw_r (i := 1184) (by decide +kernel) (by decide +kernel)
theorem wk_1186 : Cond.lays RX12 RX12 "at" "I" ∈ gwt := gw_r (i := 1186) (by decide +kernel) (by decide +kernel)
theorem wk_1188 : Cond.lays RX12 RX12 "start" "I" ∈ gwt := gw_r (i := 1188) (by decide +kernel) (by decide +kernel)
theorem wk_1190 : Cond.lays RX12 RX12 "token" "I" ∈ gwt := gw_r (i := 1190) (by decide +kernel) (by decide +kernel)
theorem wk_1192 : Cond.lays RX12 RX12 "value" "I" ∈ gwt := gw_r (i := 1192) (by decide +kernel) (by decide +kernel)
theorem wk_1194 : Cond.laysFinal RX12 RX12 "verbs" "[I" ∈ gwt := gw_r (i := 1194) (by decide +kernel) (by decide +kernel)
theorem wk_1196 : Cond.laysFinal RX12 RX12 "many" "[I" ∈ gwt := gw_r (i := 1196) (by decide +kernel) (by decide +kernel)
theorem wk_1198 : Cond.laysFinal RX12 RX12 "nums" "[I" ∈ gwt := gw_r (i := 1198) (by decide +kernel) (by decide +kernel)
theorem wk_1200 : Cond.lays RX12 RX12 "items" "I" ∈ gwt := gw_r (i := 1200) (by decide +kernel) (by decide +kernel)
theorem kwX12 : ∀ w ∈ u_ws RX12 TX12 26, w ∈ gwt := List.forall_mem_cons.mpr ⟨wk_1150, List.forall_mem_cons.mpr ⟨wk_1152, List.forall_mem_cons.mpr ⟨wk_1154, List.forall_mem_cons.mpr ⟨wk_1156, List.forall_mem_cons.mpr ⟨wk_1158, List.forall_mem_cons.mpr ⟨wk_1160, List.forall_mem_cons.mpr ⟨wk_1162, List.forall_mem_cons.mpr ⟨wk_1164, List.forall_mem_cons.mpr ⟨wk_1166, List.forall_mem_cons.mpr ⟨wk_1168, List.forall_mem_cons.mpr ⟨wk_1170, List.forall_mem_cons.mpr ⟨wk_1172, List.forall_mem_cons.mpr ⟨wk_1174, List.forall_mem_cons.mpr ⟨wk_1176, List.forall_mem_cons.mpr ⟨wk_1178, List.forall_mem_cons.mpr ⟨wk_1180, List.forall_mem_cons.mpr ⟨wk_1182, List.forall_mem_cons.mpr ⟨wk_1184, List.forall_mem_cons.mpr ⟨wk_1186, List.forall_mem_cons.mpr ⟨wk_1188, List.forall_mem_cons.mpr ⟨wk_1190, List.forall_mem_cons.mpr ⟨wk_1192, List.forall_mem_cons.mpr ⟨wk_1194, List.forall_mem_cons.mpr ⟨wk_1196, List.forall_mem_cons.mpr ⟨wk_1198, List.forall_mem_cons.mpr ⟨wk_1200, fun _ h => absurd h List.not_mem_nil⟩⟩⟩⟩⟩⟩⟩⟩⟩⟩⟩⟩⟩⟩⟩⟩⟩⟩⟩⟩⟩⟩⟩⟩⟩⟩
theorem wk_46 : Cond.fieldLink RX1 30 "ShedTalk$Floor" "pillars" "J" ∈ gwt := gw_r (i := 46) (by decide +kernel) (by decide +kernel)
theorem wk_47 : Cond.fieldLink RX11 314 "ShedTalk$Floor" "pillars" "J" ∈ gwt := gw_r (i := 47) (by decide +kernel) (by decide +kernel)
theorem wk_48 : Cond.fieldLink RX1 34 "ShedTalk$Floor" "weavers" "I" ∈ gwt := gw_r (i := 48) (by decide +kernel) (by decide +kernel)
theorem wk_49 : Cond.fieldLink RX5 31 "ShedTalk$Floor" "weavers" "I" ∈ gwt := gw_r (i := 49) (by decide +kernel) (by decide +kernel)
theorem wk_50 : Cond.fieldLink RX10 31 "ShedTalk$Floor" "weavers" "I" ∈ gwt := gw_r (i := 50) (by decide +kernel) (by decide +kernel)
theorem wk_51 : Cond.fieldLink RX11 144 "ShedTalk$Floor" "weavers" "I" ∈ gwt := gw_r (i := 51) (by decide +kernel) (by decide +kernel)
theorem wk_52 : Cond.fieldLink RX1 11 "ShedTalk$Floor" "place" "[I" ∈ gwt := gw_r (i := 52) (by decide +kernel) (by decide +kernel)
theorem wk_53 : Cond.fieldLink RX1 15 "ShedTalk$Floor" "way" "[I" ∈ gwt := gw_r (i := 53) (by decide +kernel) (by decide +kernel)
theorem wk_54 : Cond.fieldLink RX1 18 "ShedTalk$Floor" "tell" "[I" ∈ gwt := gw_r (i := 54) (by decide +kernel) (by decide +kernel)
theorem wk_55 : Cond.fieldLink RX1 21 "ShedTalk$Floor" "look" "[I" ∈ gwt := gw_r (i := 55) (by decide +kernel) (by decide +kernel)
theorem wk_56 : Cond.fieldLink RX1 24 "ShedTalk$Floor" "farSquare" "[I" ∈ gwt := gw_r (i := 56) (by decide +kernel) (by decide +kernel)
theorem wk_79 : Cond.fieldLink RX8 21 "ShedTalk$Sightings" "many" "I" ∈ gwt := gw_r (i := 79) (by decide +kernel) (by decide +kernel)
theorem wk_80 : Cond.fieldLink RX7 60 "ShedTalk$Sightings" "many" "I" ∈ gwt := gw_r (i := 80) (by decide +kernel) (by decide +kernel)
theorem wk_81 : Cond.fieldLink RX11 323 "ShedTalk$Sightings" "many" "I" ∈ gwt := gw_r (i := 81) (by decide +kernel) (by decide +kernel)
theorem wk_82 : Cond.fieldLink RX8 11 "ShedTalk$Sightings" "weaver" "[I" ∈ gwt := gw_r (i := 82) (by decide +kernel) (by decide +kernel)
theorem wk_83 : Cond.fieldLink RX8 15 "ShedTalk$Sightings" "second" "[I" ∈ gwt := gw_r (i := 83) (by decide +kernel) (by decide +kernel)
theorem wk_84 : Cond.fieldLink RX8 18 "ShedTalk$Sightings" "knew" "[I" ∈ gwt := gw_r (i := 84) (by decide +kernel) (by decide +kernel)
theorem wk_104 : Cond.fieldLink RX3 36 "ShedTalk$Lexicon" "words" "I" ∈ gwt := gw_r (i := 104) (by decide +kernel) (by decide +kernel)
theorem wk_105 : Cond.fieldLink RX0 43 "ShedTalk$Lexicon" "words" "I" ∈ gwt := gw_r (i := 105) (by decide +kernel) (by decide +kernel)
theorem wk_106 : Cond.fieldLink RX6 30 "ShedTalk$Lexicon" "words" "I" ∈ gwt := gw_r (i := 106) (by decide +kernel) (by decide +kernel)
theorem wk_107 : Cond.fieldLink RX11 202 "ShedTalk$Lexicon" "words" "I" ∈ gwt := gw_r (i := 107) (by decide +kernel) (by decide +kernel)
theorem wk_108 : Cond.fieldLink RX3 11 "ShedTalk$Lexicon" "length" "[I" ∈ gwt := gw_r (i := 108) (by decide +kernel) (by decide +kernel)
theorem wk_109 : Cond.fieldLink RX0 48 "ShedTalk$Lexicon" "length" "[I" ∈ gwt := gw_r (i := 109) (by decide +kernel) (by decide +kernel)
theorem wk_110 : Cond.fieldLink RX6 37 "ShedTalk$Lexicon" "length" "[I" ∈ gwt := gw_r (i := 110) (by decide +kernel) (by decide +kernel)
theorem wk_111 : Cond.fieldLink RX3 15 "ShedTalk$Lexicon" "number" "[I" ∈ gwt := gw_r (i := 111) (by decide +kernel) (by decide +kernel)
theorem wk_112 : Cond.fieldLink RX3 18 "ShedTalk$Lexicon" "weight" "[I" ∈ gwt := gw_r (i := 112) (by decide +kernel) (by decide +kernel)
theorem wk_113 : Cond.fieldLink RX0 51 "ShedTalk$Lexicon" "weight" "[I" ∈ gwt := gw_r (i := 113) (by decide +kernel) (by decide +kernel)
theorem wk_114 : Cond.fieldLink RX6 40 "ShedTalk$Lexicon" "weight" "[I" ∈ gwt := gw_r (i := 114) (by decide +kernel) (by decide +kernel)
theorem wk_115 : Cond.fieldLink RX3 21 "ShedTalk$Lexicon" "leastLike" "[I" ∈ gwt := gw_r (i := 115) (by decide +kernel) (by decide +kernel)
theorem wk_116 : Cond.fieldLink RX3 24 "ShedTalk$Lexicon" "row" "[I" ∈ gwt := gw_r (i := 116) (by decide +kernel) (by decide +kernel)
theorem wk_117 : Cond.fieldLink RX6 26 "ShedTalk$Lexicon" "rowLips" "I" ∈ gwt := gw_r (i := 117) (by decide +kernel) (by decide +kernel)
theorem wk_118 : Cond.fieldLink RX3 40 "ShedTalk$Lexicon" "rowLips" "I" ∈ gwt := gw_r (i := 118) (by decide +kernel) (by decide +kernel)
theorem wk_119 : Cond.fieldLink RX11 178 "ShedTalk$Lexicon" "rowLips" "I" ∈ gwt := gw_r (i := 119) (by decide +kernel) (by decide +kernel)
theorem wk_120 : Cond.fieldLink RX3 43 "ShedTalk$Lexicon" "girlKnows" "I" ∈ gwt := gw_r (i := 120) (by decide +kernel) (by decide +kernel)
theorem wk_121 : Cond.fieldLink RX11 225 "ShedTalk$Lexicon" "girlKnows" "I" ∈ gwt := gw_r (i := 121) (by decide +kernel) (by decide +kernel)
theorem wk_122 : Cond.fieldLink RX3 27 "ShedTalk$Lexicon" "lipsOf" "[I" ∈ gwt := gw_r (i := 122) (by decide +kernel) (by decide +kernel)
theorem wk_123 : Cond.fieldLink RX3 30 "ShedTalk$Lexicon" "others" "[I" ∈ gwt := gw_r (i := 123) (by decide +kernel) (by decide +kernel)
theorem wk_145 : Cond.fieldLink RX7 10 "ShedTalk$Shed" "floor" "LShedTalk$Floor;" ∈ gwt := gw_r (i := 145) (by decide +kernel) (by decide +kernel)
theorem wk_146 : Cond.fieldLink RX11 70 "ShedTalk$Shed" "floor" "LShedTalk$Floor;" ∈ gwt := gw_r (i := 146) (by decide +kernel) (by decide +kernel)
theorem wk_147 : Cond.fieldLink RX9 110 "ShedTalk$Shed" "floor" "LShedTalk$Floor;" ∈ gwt := gw_r (i := 147) (by decide +kernel) (by decide +kernel)
theorem wk_148 : Cond.fieldLink RX7 19 "ShedTalk$Shed" "sightings" "LShedTalk$Sightings;" ∈ gwt := gw_r (i := 148) (by decide +kernel) (by decide +kernel)
theorem wk_149 : Cond.fieldLink RX11 134 "ShedTalk$Shed" "sightings" "LShedTalk$Sightings;" ∈ gwt := gw_r (i := 149) (by decide +kernel) (by decide +kernel)
theorem wk_150 : Cond.fieldLink RX7 26 "ShedTalk$Shed" "lexicon" "LShedTalk$Lexicon;" ∈ gwt := gw_r (i := 150) (by decide +kernel) (by decide +kernel)
theorem wk_151 : Cond.fieldLink RX9 136 "ShedTalk$Shed" "lexicon" "LShedTalk$Lexicon;" ∈ gwt := gw_r (i := 151) (by decide +kernel) (by decide +kernel)
theorem wk_152 : Cond.fieldLink RX11 156 "ShedTalk$Shed" "lexicon" "LShedTalk$Lexicon;" ∈ gwt := gw_r (i := 152) (by decide +kernel) (by decide +kernel)
theorem wk_153 : Cond.fieldLink RX7 30 "ShedTalk$Shed" "level" "[I" ∈ gwt := gw_r (i := 153) (by decide +kernel) (by decide +kernel)
theorem wk_154 : Cond.fieldLink RX11 249 "ShedTalk$Shed" "level" "[I" ∈ gwt := gw_r (i := 154) (by decide +kernel) (by decide +kernel)
theorem wk_155 : Cond.fieldLink RX7 34 "ShedTalk$Shed" "loss" "[I" ∈ gwt := gw_r (i := 155) (by decide +kernel) (by decide +kernel)
theorem wk_156 : Cond.fieldLink RX11 252 "ShedTalk$Shed" "loss" "[I" ∈ gwt := gw_r (i := 156) (by decide +kernel) (by decide +kernel)
theorem wk_157 : Cond.fieldLink RX7 37 "ShedTalk$Shed" "clearness" "I" ∈ gwt := gw_r (i := 157) (by decide +kernel) (by decide +kernel)
theorem wk_158 : Cond.fieldLink RX11 208 "ShedTalk$Shed" "clearness" "I" ∈ gwt := gw_r (i := 158) (by decide +kernel) (by decide +kernel)
theorem wk_159 : Cond.fieldLink RX11 310 "ShedTalk$Shed" "isKept" "Z" ∈ gwt := gw_r (i := 159) (by decide +kernel) (by decide +kernel)
theorem wk_181 : Cond.fieldLink RX5 11 "ShedTalk$News" "since" "[I" ∈ gwt := gw_r (i := 181) (by decide +kernel) (by decide +kernel)
theorem wk_182 : Cond.fieldLink RX8 41 "ShedTalk$News" "since" "[I" ∈ gwt := gw_r (i := 182) (by decide +kernel) (by decide +kernel)
theorem wk_183 : Cond.fieldLink RX11 120 "ShedTalk$News" "since" "[I" ∈ gwt := gw_r (i := 183) (by decide +kernel) (by decide +kernel)
theorem wk_184 : Cond.fieldLink RX5 17 "ShedTalk$News" "toldBy" "[I" ∈ gwt := gw_r (i := 184) (by decide +kernel) (by decide +kernel)
theorem wk_185 : Cond.fieldLink RX11 124 "ShedTalk$News" "toldBy" "[I" ∈ gwt := gw_r (i := 185) (by decide +kernel) (by decide +kernel)
theorem wk_186 : Cond.fieldLink RX5 20 "ShedTalk$News" "audience" "[I" ∈ gwt := gw_r (i := 186) (by decide +kernel) (by decide +kernel)
theorem wk_200 : Cond.fieldLink RX6 11 "ShedTalk$Readings" "ways" "[I" ∈ gwt := gw_r (i := 200) (by decide +kernel) (by decide +kernel)
theorem wk_201 : Cond.fieldLink RX6 17 "ShedTalk$Readings" "fewest" "[I" ∈ gwt := gw_r (i := 201) (by decide +kernel) (by decide +kernel)
theorem wk_202 : Cond.fieldLink RX6 20 "ShedTalk$Readings" "weights" "[I" ∈ gwt := gw_r (i := 202) (by decide +kernel) (by decide +kernel)
theorem wk_203 : Cond.fieldLink RX6 23 "ShedTalk$Readings" "first" "[I" ∈ gwt := gw_r (i := 203) (by decide +kernel) (by decide +kernel)
theorem wk_228 : Cond.fieldLink RX4 11 "ShedTalk$Natural" "limb" "[I" ∈ gwt := gw_r (i := 228) (by decide +kernel) (by decide +kernel)
theorem wk_229 : Cond.fieldLink RX4 15 "ShedTalk$Natural" "limbs" "I" ∈ gwt := gw_r (i := 229) (by decide +kernel) (by decide +kernel)
theorem wk_230 : Cond.fieldLink RX2 23 "ShedTalk$Natural" "limbs" "I" ∈ gwt := gw_r (i := 230) (by decide +kernel) (by decide +kernel)
theorem wk_231 : Cond.fieldLink RX0 78 "ShedTalk$Natural" "limbs" "I" ∈ gwt := gw_r (i := 231) (by decide +kernel) (by decide +kernel)
theorem wk_232 : Cond.fieldLink RX11 295 "ShedTalk$Natural" "limbs" "I" ∈ gwt := gw_r (i := 232) (by decide +kernel) (by decide +kernel)
theorem wk_238 : Cond.fieldLink RX0 11 "ShedTalk$Chances" "heardAs" "[[I" ∈ gwt := gw_r (i := 238) (by decide +kernel) (by decide +kernel)
theorem wk_239 : Cond.fieldLink RX0 16 "ShedTalk$Chances" "total" "[I" ∈ gwt := gw_r (i := 239) (by decide +kernel) (by decide +kernel)
theorem wk_240 : Cond.fieldLink RX0 20 "ShedTalk$Chances" "part" "[I" ∈ gwt := gw_r (i := 240) (by decide +kernel) (by decide +kernel)
theorem wk_241 : Cond.fieldLink RX0 25 "ShedTalk$Chances" "chance" "[LShedTalk$Natural;" ∈ gwt := gw_r (i := 241) (by decide +kernel) (by decide +kernel)
theorem wk_242 : Cond.fieldLink RX0 29 "ShedTalk$Chances" "before" "[LShedTalk$Natural;" ∈ gwt := gw_r (i := 242) (by decide +kernel) (by decide +kernel)
theorem wk_243 : Cond.fieldLink RX0 33 "ShedTalk$Chances" "below" "LShedTalk$Natural;" ∈ gwt := gw_r (i := 243) (by decide +kernel) (by decide +kernel)
theorem wk_244 : Cond.fieldLink RX0 37 "ShedTalk$Chances" "scaled" "LShedTalk$Natural;" ∈ gwt := gw_r (i := 244) (by decide +kernel) (by decide +kernel)
theorem wk_245 : Cond.fieldLink RX0 40 "ShedTalk$Chances" "scaledBelow" "LShedTalk$Natural;" ∈ gwt := gw_r (i := 245) (by decide +kernel) (by decide +kernel)
theorem wk_246 : Cond.fieldLink RX0 47 "ShedTalk$Chances" "words" "I" ∈ gwt := gw_r (i := 246) (by decide +kernel) (by decide +kernel)
theorem wk_272 : Cond.fieldLink RX10 51 "ShedTalk$Turning" "bestPairs" "I" ∈ gwt := gw_r (i := 272) (by decide +kernel) (by decide +kernel)
theorem wk_273 : Cond.fieldLink RX11 259 "ShedTalk$Turning" "bestPairs" "I" ∈ gwt := gw_r (i := 273) (by decide +kernel) (by decide +kernel)
theorem wk_274 : Cond.fieldLink RX10 11 "ShedTalk$Turning" "way" "[I" ∈ gwt := gw_r (i := 274) (by decide +kernel) (by decide +kernel)
theorem wk_275 : Cond.fieldLink RX10 15 "ShedTalk$Turning" "bestWay" "[I" ∈ gwt := gw_r (i := 275) (by decide +kernel) (by decide +kernel)
theorem wk_276 : Cond.fieldLink RX10 18 "ShedTalk$Turning" "readers" "[I" ∈ gwt := gw_r (i := 276) (by decide +kernel) (by decide +kernel)
theorem wk_277 : Cond.fieldLink RX10 21 "ShedTalk$Turning" "chosen" "[I" ∈ gwt := gw_r (i := 277) (by decide +kernel) (by decide +kernel)
theorem wk_278 : Cond.fieldLink RX10 24 "ShedTalk$Turning" "pairs" "[I" ∈ gwt := gw_r (i := 278) (by decide +kernel) (by decide +kernel)
theorem wk_299 : Cond.fieldLink RX9 30 "ShedTalk$Text" "bytes" "I" ∈ gwt := gw_r (i := 299) (by decide +kernel) (by decide +kernel)
theorem wk_300 : Cond.fieldLink RX11 268 "ShedTalk$Text" "bytes" "I" ∈ gwt := gw_r (i := 300) (by decide +kernel) (by decide +kernel)
theorem wk_301 : Cond.fieldLink RX9 36 "ShedTalk$Text" "items" "I" ∈ gwt := gw_r (i := 301) (by decide +kernel) (by decide +kernel)
theorem wk_302 : Cond.fieldLink RX11 281 "ShedTalk$Text" "items" "I" ∈ gwt := gw_r (i := 302) (by decide +kernel) (by decide +kernel)
theorem wk_303 : Cond.fieldLink RX9 11 "ShedTalk$Text" "row" "[I" ∈ gwt := gw_r (i := 303) (by decide +kernel) (by decide +kernel)
theorem wk_304 : Cond.fieldLink RX9 15 "ShedTalk$Text" "itemKind" "[I" ∈ gwt := gw_r (i := 304) (by decide +kernel) (by decide +kernel)
theorem wk_305 : Cond.fieldLink RX9 18 "ShedTalk$Text" "numbersOf" "[I" ∈ gwt := gw_r (i := 305) (by decide +kernel) (by decide +kernel)
theorem wk_306 : Cond.fieldLink RX9 23 "ShedTalk$Text" "number" "[[I" ∈ gwt := gw_r (i := 306) (by decide +kernel) (by decide +kernel)
theorem wk_307 : Cond.fieldLink RX9 39 "ShedTalk$Text" "at" "I" ∈ gwt := gw_r (i := 307) (by decide +kernel) (by decide +kernel)
theorem wk_308 : Cond.fieldLink RX9 45 "ShedTalk$Text" "token" "I" ∈ gwt := gw_r (i := 308) (by decide +kernel) (by decide +kernel)
theorem wk_309 : Cond.fieldLink RX9 48 "ShedTalk$Text" "tokenAt" "I" ∈ gwt := gw_r (i := 309) (by decide +kernel) (by decide +kernel)
theorem wk_310 : Cond.fieldLink RX9 61 "ShedTalk$Text" "tokenNumber" "I" ∈ gwt := gw_r (i := 310) (by decide +kernel) (by decide +kernel)
theorem wk_344 : Cond.fieldLink RX2 10 "ShedTalk$Fraction" "above" "LShedTalk$Natural;" ∈ gwt := gw_r (i := 344) (by decide +kernel) (by decide +kernel)
theorem wk_345 : Cond.fieldLink RX11 291 "ShedTalk$Fraction" "above" "LShedTalk$Natural;" ∈ gwt := gw_r (i := 345) (by decide +kernel) (by decide +kernel)
theorem wk_346 : Cond.fieldLink RX2 16 "ShedTalk$Fraction" "below" "LShedTalk$Natural;" ∈ gwt := gw_r (i := 346) (by decide +kernel) (by decide +kernel)
theorem wk_347 : Cond.fieldLink RX11 300 "ShedTalk$Fraction" "below" "LShedTalk$Natural;" ∈ gwt := gw_r (i := 347) (by decide +kernel) (by decide +kernel)
theorem wk_353 : Cond.fieldLink RX11 10 "ShedTalk" "now" "LShedTalk$Shed;" ∈ gwt := gw_r (i := 353) (by decide +kernel) (by decide +kernel)
theorem wk_354 : Cond.fieldLink RX11 16 "ShedTalk" "draft" "LShedTalk$Shed;" ∈ gwt := gw_r (i := 354) (by decide +kernel) (by decide +kernel)
theorem wk_355 : Cond.fieldLink RX11 19 "ShedTalk" "firstImage" "LShedTalk$Shed;" ∈ gwt := gw_r (i := 355) (by decide +kernel) (by decide +kernel)
theorem wk_356 : Cond.fieldLink RX11 22 "ShedTalk" "secondImage" "LShedTalk$Shed;" ∈ gwt := gw_r (i := 356) (by decide +kernel) (by decide +kernel)
theorem wk_357 : Cond.fieldLink RX11 28 "ShedTalk" "news" "LShedTalk$News;" ∈ gwt := gw_r (i := 357) (by decide +kernel) (by decide +kernel)
theorem wk_358 : Cond.fieldLink RX11 32 "ShedTalk" "otherNews" "LShedTalk$News;" ∈ gwt := gw_r (i := 358) (by decide +kernel) (by decide +kernel)
theorem wk_359 : Cond.fieldLink RX11 38 "ShedTalk" "readings" "LShedTalk$Readings;" ∈ gwt := gw_r (i := 359) (by decide +kernel) (by decide +kernel)
theorem wk_360 : Cond.fieldLink RX11 45 "ShedTalk" "chances" "LShedTalk$Chances;" ∈ gwt := gw_r (i := 360) (by decide +kernel) (by decide +kernel)
theorem wk_361 : Cond.fieldLink RX11 52 "ShedTalk" "turning" "LShedTalk$Turning;" ∈ gwt := gw_r (i := 361) (by decide +kernel) (by decide +kernel)
theorem wk_362 : Cond.fieldLink RX11 59 "ShedTalk" "text" "LShedTalk$Text;" ∈ gwt := gw_r (i := 362) (by decide +kernel) (by decide +kernel)
theorem wk_363 : Cond.fieldLink RX11 66 "ShedTalk" "fraction" "LShedTalk$Fraction;" ∈ gwt := gw_r (i := 363) (by decide +kernel) (by decide +kernel)
theorem wk_1124 : Cond.fieldLink RX12 7 "ShedTalkModel" "book" "[I" ∈ gwt := gw_r (i := 1124) (by decide +kernel) (by decide +kernel)
theorem wk_1125 : Cond.fieldLink RX12 13 "ShedTalkModel" "images" "[I" ∈ gwt := gw_r (i := 1125) (by decide +kernel) (by decide +kernel)
theorem wk_1126 : Cond.fieldLink RX12 16 "ShedTalkModel" "kept" "[Z" ∈ gwt := gw_r (i := 1126) (by decide +kernel) (by decide +kernel)
theorem wk_1127 : Cond.fieldLink RX12 20 "ShedTalkModel" "aside" "[I" ∈ gwt := gw_r (i := 1127) (by decide +kernel) (by decide +kernel)
theorem wk_1128 : Cond.fieldLink RX12 23 "ShedTalkModel" "limbs" "[I" ∈ gwt := gw_r (i := 1128) (by decide +kernel) (by decide +kernel)
theorem wk_1129 : Cond.fieldLink RX12 26 "ShedTalkModel" "wide" "[I" ∈ gwt := gw_r (i := 1129) (by decide +kernel) (by decide +kernel)
theorem wk_1130 : Cond.fieldLink RX12 29 "ShedTalkModel" "hears" "[Z" ∈ gwt := gw_r (i := 1130) (by decide +kernel) (by decide +kernel)
theorem wk_1131 : Cond.fieldLink RX12 32 "ShedTalkModel" "spies" "[Z" ∈ gwt := gw_r (i := 1131) (by decide +kernel) (by decide +kernel)
theorem wk_1132 : Cond.fieldLink RX12 35 "ShedTalkModel" "known" "[I" ∈ gwt := gw_r (i := 1132) (by decide +kernel) (by decide +kernel)
theorem wk_1133 : Cond.fieldLink RX12 38 "ShedTalkModel" "by" "[I" ∈ gwt := gw_r (i := 1133) (by decide +kernel) (by decide +kernel)
theorem wk_1134 : Cond.fieldLink RX12 41 "ShedTalkModel" "ways" "[I" ∈ gwt := gw_r (i := 1134) (by decide +kernel) (by decide +kernel)
theorem wk_1135 : Cond.fieldLink RX12 44 "ShedTalkModel" "fewest" "[I" ∈ gwt := gw_r (i := 1135) (by decide +kernel) (by decide +kernel)
theorem wk_1136 : Cond.fieldLink RX12 47 "ShedTalkModel" "heavy" "[I" ∈ gwt := gw_r (i := 1136) (by decide +kernel) (by decide +kernel)
theorem wk_1137 : Cond.fieldLink RX12 50 "ShedTalkModel" "sums" "[I" ∈ gwt := gw_r (i := 1137) (by decide +kernel) (by decide +kernel)
theorem wk_1138 : Cond.fieldLink RX12 53 "ShedTalkModel" "faces" "[I" ∈ gwt := gw_r (i := 1138) (by decide +kernel) (by decide +kernel)
theorem wk_1139 : Cond.fieldLink RX12 56 "ShedTalkModel" "bestFaces" "[I" ∈ gwt := gw_r (i := 1139) (by decide +kernel) (by decide +kernel)
theorem wk_1140 : Cond.fieldLink RX12 59 "ShedTalkModel" "text" "[I" ∈ gwt := gw_r (i := 1140) (by decide +kernel) (by decide +kernel)
theorem wk_1141 : Cond.fieldLink RX12 271 "ShedTalkModel" "typed" "I" ∈ gwt := gw_r (i := 1141) (by decide +kernel) (by decide +kernel)
theorem wk_1142 : Cond.fieldLink RX12 277 "ShedTalkModel" "at" "I" ∈ gwt := gw_r (i := 1142) (by decide +kernel) (by decide +kernel)
theorem wk_1143 : Cond.fieldLink RX12 297 "ShedTalkModel" "start" "I" ∈ gwt := gw_r (i := 1143) (by decide +kernel) (by decide +kernel)
theorem wk_1144 : Cond.fieldLink RX12 300 "ShedTalkModel" "token" "I" ∈ gwt := gw_r (i := 1144) (by decide +kernel) (by decide +kernel)
theorem wk_1145 : Cond.fieldLink RX12 311 "ShedTalkModel" "value" "I" ∈ gwt := gw_r (i := 1145) (by decide +kernel) (by decide +kernel)
theorem wk_1146 : Cond.fieldLink RX12 62 "ShedTalkModel" "verbs" "[I" ∈ gwt := gw_r (i := 1146) (by decide +kernel) (by decide +kernel)
theorem wk_1147 : Cond.fieldLink RX12 65 "ShedTalkModel" "many" "[I" ∈ gwt := gw_r (i := 1147) (by decide +kernel) (by decide +kernel)
theorem wk_1148 : Cond.fieldLink RX12 68 "ShedTalkModel" "nums" "[I" ∈ gwt := gw_r (i := 1148) (by decide +kernel) (by decide +kernel)
theorem wk_1149 : Cond.fieldLink RX12 317 "ShedTalkModel" "items" "I" ∈ gwt := gw_r (i := 1149) (by decide +kernel) (by decide +kernel)
theorem wk_45 : Cond.code yX1_makeEmpty cX1_makeEmpty 1 none ∈ gwt := gw_r (i := 45) (by decide +kernel) (by decide +kernel)
theorem wk_3 : Cond.initialized RX1 ∈ gwt := gw_r (i := 3) (by decide +kernel) (by decide +kernel)
theorem wk_44 : Cond.selects RX1 yX1_makeEmpty yX1_makeEmpty ∈ gwt := gw_r (i := 44) (by decide +kernel) (by decide +kernel)
theorem wk_42 : Cond.methodLink RX1 27 yX1_makeEmpty ∈ gwt := gw_r (i := 42) (by decide +kernel) (by decide +kernel)
theorem wk_43 : Cond.instanceMethod yX1_makeEmpty ∈ gwt := gw_r (i := 43) (by decide +kernel) (by decide +kernel)
theorem wk_103 : Cond.code yX3_makeEmpty cX3_makeEmpty 2 none ∈ gwt := gw_r (i := 103) (by decide +kernel) (by decide +kernel)
theorem wk_5 : Cond.initialized RX3 ∈ gwt := gw_r (i := 5) (by decide +kernel) (by decide +kernel)
theorem wk_102 : Cond.selects RX3 yX3_makeEmpty yX3_makeEmpty ∈ gwt := gw_r (i := 102) (by decide +kernel) (by decide +kernel)
theorem wk_100 : Cond.methodLink RX3 33 yX3_makeEmpty ∈ gwt := gw_r (i := 100) (by decide +kernel) (by decide +kernel)
theorem wk_101 : Cond.instanceMethod yX3_makeEmpty ∈ gwt := gw_r (i := 101) (by decide +kernel) (by decide +kernel)
theorem wk_343 : Cond.code yX4_put cX4_put 2 none ∈ gwt := gw_r (i := 343) (by decide +kernel) (by decide +kernel)
theorem wk_9 : Cond.initialized RX4 ∈ gwt := gw_r (i := 9) (by decide +kernel) (by decide +kernel)
theorem wk_342 : Cond.selects RX4 yX4_put yX4_put ∈ gwt := gw_r (i := 342) (by decide +kernel) (by decide +kernel)
theorem wk_340 : Cond.methodLink RX2 19 yX4_put ∈ gwt := gw_r (i := 340) (by decide +kernel) (by decide +kernel)
theorem wk_341 : Cond.instanceMethod yX4_put ∈ gwt := gw_r (i := 341) (by decide +kernel) (by decide +kernel)
theorem wk_390 : Cond.code yX11_pillar cX11_pillar 2 (some .int) ∈ gwt := gw_r (i := 390) (by decide +kernel) (by decide +kernel)
theorem wk_1 : Cond.initialized RX11 ∈ gwt := gw_r (i := 1) (by decide +kernel) (by decide +kernel)
theorem wk_389 : Cond.selects RX11 yX11_pillar yX11_pillar ∈ gwt := gw_r (i := 389) (by decide +kernel) (by decide +kernel)
theorem wk_387 : Cond.methodLink RL 13 yX11_pillar ∈ gwt := gw_r (i := 387) (by decide +kernel) (by decide +kernel)
theorem wk_388 : Cond.instanceMethod yX11_pillar ∈ gwt := gw_r (i := 388) (by decide +kernel) (by decide +kernel)
theorem wk_394 : Cond.code yX1_putPillar cX1_putPillar 2 (some .int) ∈ gwt := gw_r (i := 394) (by decide +kernel) (by decide +kernel)
theorem wk_393 : Cond.selects RX1 yX1_putPillar yX1_putPillar ∈ gwt := gw_r (i := 393) (by decide +kernel) (by decide +kernel)
theorem wk_391 : Cond.methodLink RX11 74 yX1_putPillar ∈ gwt := gw_r (i := 391) (by decide +kernel) (by decide +kernel)
theorem wk_392 : Cond.instanceMethod yX1_putPillar ∈ gwt := gw_r (i := 392) (by decide +kernel) (by decide +kernel)
theorem wk_397 : Cond.code yX11_within cX11_within 3 (some .boolean) ∈ gwt := gw_r (i := 397) (by decide +kernel) (by decide +kernel)
theorem wk_396 : Cond.static yX11_within ∈ gwt := gw_r (i := 396) (by decide +kernel) (by decide +kernel)
theorem wk_401 : Cond.code yX1_hasWeaver cX1_hasWeaver 3 (some .boolean) ∈ gwt := gw_r (i := 401) (by decide +kernel) (by decide +kernel)
theorem wk_400 : Cond.selects RX1 yX1_hasWeaver yX1_hasWeaver ∈ gwt := gw_r (i := 400) (by decide +kernel) (by decide +kernel)
theorem wk_398 : Cond.methodLink RX1 52 yX1_hasWeaver ∈ gwt := gw_r (i := 398) (by decide +kernel) (by decide +kernel)
theorem wk_399 : Cond.instanceMethod yX1_hasWeaver ∈ gwt := gw_r (i := 399) (by decide +kernel) (by decide +kernel)
theorem wk_405 : Cond.code yX1_hasPillar cX1_hasPillar 2 (some .boolean) ∈ gwt := gw_r (i := 405) (by decide +kernel) (by decide +kernel)
theorem wk_404 : Cond.selects RX1 yX1_hasPillar yX1_hasPillar ∈ gwt := gw_r (i := 404) (by decide +kernel) (by decide +kernel)
theorem wk_402 : Cond.methodLink RX1 55 yX1_hasPillar ∈ gwt := gw_r (i := 402) (by decide +kernel) (by decide +kernel)
theorem wk_403 : Cond.instanceMethod yX1_hasPillar ∈ gwt := gw_r (i := 403) (by decide +kernel) (by decide +kernel)
theorem wk_409 : Cond.code yX11_weaver cX11_weaver 3 (some .int) ∈ gwt := gw_r (i := 409) (by decide +kernel) (by decide +kernel)
theorem wk_408 : Cond.selects RX11 yX11_weaver yX11_weaver ∈ gwt := gw_r (i := 408) (by decide +kernel) (by decide +kernel)
theorem wk_406 : Cond.methodLink RL 18 yX11_weaver ∈ gwt := gw_r (i := 406) (by decide +kernel) (by decide +kernel)
theorem wk_407 : Cond.instanceMethod yX11_weaver ∈ gwt := gw_r (i := 407) (by decide +kernel) (by decide +kernel)
theorem wk_413 : Cond.code yX1_putWeaver cX1_putWeaver 3 (some .int) ∈ gwt := gw_r (i := 413) (by decide +kernel) (by decide +kernel)
theorem wk_412 : Cond.selects RX1 yX1_putWeaver yX1_putWeaver ∈ gwt := gw_r (i := 412) (by decide +kernel) (by decide +kernel)
theorem wk_410 : Cond.methodLink RX11 80 yX1_putWeaver ∈ gwt := gw_r (i := 410) (by decide +kernel) (by decide +kernel)
theorem wk_411 : Cond.instanceMethod yX1_putWeaver ∈ gwt := gw_r (i := 411) (by decide +kernel) (by decide +kernel)
theorem wk_417 : Cond.code yX11_face cX11_face 3 (some .int) ∈ gwt := gw_r (i := 417) (by decide +kernel) (by decide +kernel)
theorem wk_416 : Cond.selects RX11 yX11_face yX11_face ∈ gwt := gw_r (i := 416) (by decide +kernel) (by decide +kernel)
theorem wk_414 : Cond.methodLink RL 23 yX11_face ∈ gwt := gw_r (i := 414) (by decide +kernel) (by decide +kernel)
theorem wk_415 : Cond.instanceMethod yX11_face ∈ gwt := gw_r (i := 415) (by decide +kernel) (by decide +kernel)
theorem wk_421 : Cond.code yX1_turn cX1_turn 4 (some .int) ∈ gwt := gw_r (i := 421) (by decide +kernel) (by decide +kernel)
theorem wk_420 : Cond.selects RX1 yX1_turn yX1_turn ∈ gwt := gw_r (i := 420) (by decide +kernel) (by decide +kernel)
theorem wk_418 : Cond.methodLink RX11 84 yX1_turn ∈ gwt := gw_r (i := 418) (by decide +kernel) (by decide +kernel)
theorem wk_419 : Cond.instanceMethod yX1_turn ∈ gwt := gw_r (i := 419) (by decide +kernel) (by decide +kernel)
theorem wk_425 : Cond.code yX1_isWeaver cX1_isWeaver 2 (some .boolean) ∈ gwt := gw_r (i := 425) (by decide +kernel) (by decide +kernel)
theorem wk_424 : Cond.selects RX1 yX1_isWeaver yX1_isWeaver ∈ gwt := gw_r (i := 424) (by decide +kernel) (by decide +kernel)
theorem wk_422 : Cond.methodLink RX1 48 yX1_isWeaver ∈ gwt := gw_r (i := 422) (by decide +kernel) (by decide +kernel)
theorem wk_423 : Cond.instanceMethod yX1_isWeaver ∈ gwt := gw_r (i := 423) (by decide +kernel) (by decide +kernel)
theorem wk_429 : Cond.code yX11_free cX11_free 5 (some .int) ∈ gwt := gw_r (i := 429) (by decide +kernel) (by decide +kernel)
theorem wk_428 : Cond.selects RX11 yX11_free yX11_free ∈ gwt := gw_r (i := 428) (by decide +kernel) (by decide +kernel)
theorem wk_426 : Cond.methodLink RL 27 yX11_free ∈ gwt := gw_r (i := 426) (by decide +kernel) (by decide +kernel)
theorem wk_427 : Cond.instanceMethod yX11_free ∈ gwt := gw_r (i := 427) (by decide +kernel) (by decide +kernel)
theorem wk_433 : Cond.code yX1_setFree cX1_setFree 6 (some .int) ∈ gwt := gw_r (i := 433) (by decide +kernel) (by decide +kernel)
theorem wk_432 : Cond.selects RX1 yX1_setFree yX1_setFree ∈ gwt := gw_r (i := 432) (by decide +kernel) (by decide +kernel)
theorem wk_430 : Cond.methodLink RX11 87 yX1_setFree ∈ gwt := gw_r (i := 430) (by decide +kernel) (by decide +kernel)
theorem wk_431 : Cond.instanceMethod yX1_setFree ∈ gwt := gw_r (i := 431) (by decide +kernel) (by decide +kernel)
theorem wk_437 : Cond.code yX11_far cX11_far 3 (some .int) ∈ gwt := gw_r (i := 437) (by decide +kernel) (by decide +kernel)
theorem wk_436 : Cond.selects RX11 yX11_far yX11_far ∈ gwt := gw_r (i := 436) (by decide +kernel) (by decide +kernel)
theorem wk_434 : Cond.methodLink RL 32 yX11_far ∈ gwt := gw_r (i := 434) (by decide +kernel) (by decide +kernel)
theorem wk_435 : Cond.instanceMethod yX11_far ∈ gwt := gw_r (i := 435) (by decide +kernel) (by decide +kernel)
theorem wk_441 : Cond.code yX1_setFar cX1_setFar 4 (some .int) ∈ gwt := gw_r (i := 441) (by decide +kernel) (by decide +kernel)
theorem wk_440 : Cond.selects RX1 yX1_setFar yX1_setFar ∈ gwt := gw_r (i := 440) (by decide +kernel) (by decide +kernel)
theorem wk_438 : Cond.methodLink RX11 91 yX1_setFar ∈ gwt := gw_r (i := 438) (by decide +kernel) (by decide +kernel)
theorem wk_439 : Cond.instanceMethod yX1_setFar ∈ gwt := gw_r (i := 439) (by decide +kernel) (by decide +kernel)
theorem wk_445 : Cond.code yX11_sees cX11_sees 4 (some .int) ∈ gwt := gw_r (i := 445) (by decide +kernel) (by decide +kernel)
theorem wk_444 : Cond.selects RX11 yX11_sees yX11_sees ∈ gwt := gw_r (i := 444) (by decide +kernel) (by decide +kernel)
theorem wk_442 : Cond.methodLink RL 36 yX11_sees ∈ gwt := gw_r (i := 442) (by decide +kernel) (by decide +kernel)
theorem wk_443 : Cond.instanceMethod yX11_sees ∈ gwt := gw_r (i := 443) (by decide +kernel) (by decide +kernel)
theorem wk_449 : Cond.code yX1_areTwo cX1_areTwo 3 (some .boolean) ∈ gwt := gw_r (i := 449) (by decide +kernel) (by decide +kernel)
theorem wk_448 : Cond.selects RX1 yX1_areTwo yX1_areTwo ∈ gwt := gw_r (i := 448) (by decide +kernel) (by decide +kernel)
theorem wk_446 : Cond.methodLink RX11 94 yX1_areTwo ∈ gwt := gw_r (i := 446) (by decide +kernel) (by decide +kernel)
theorem wk_447 : Cond.instanceMethod yX1_areTwo ∈ gwt := gw_r (i := 447) (by decide +kernel) (by decide +kernel)
theorem wk_450 : Cond.methodLink RX11 98 yX11_within ∈ gwt := gw_r (i := 450) (by decide +kernel) (by decide +kernel)
theorem wk_454 : Cond.code yX1_perceives cX1_perceives 4 (some .boolean) ∈ gwt := gw_r (i := 454) (by decide +kernel) (by decide +kernel)
theorem wk_453 : Cond.selects RX1 yX1_perceives yX1_perceives ∈ gwt := gw_r (i := 453) (by decide +kernel) (by decide +kernel)
theorem wk_451 : Cond.methodLink RX11 102 yX1_perceives ∈ gwt := gw_r (i := 451) (by decide +kernel) (by decide +kernel)
theorem wk_452 : Cond.instanceMethod yX1_perceives ∈ gwt := gw_r (i := 452) (by decide +kernel) (by decide +kernel)
theorem wk_458 : Cond.code yX1_faceEachOther cX1_faceEachOther 5 (some .boolean) ∈ gwt := gw_r (i := 458) (by decide +kernel) (by decide +kernel)
theorem wk_457 : Cond.selects RX1 yX1_faceEachOther yX1_faceEachOther ∈ gwt := gw_r (i := 457) (by decide +kernel) (by decide +kernel)
theorem wk_455 : Cond.methodLink RX1 73 yX1_faceEachOther ∈ gwt := gw_r (i := 455) (by decide +kernel) (by decide +kernel)
theorem wk_456 : Cond.instanceMethod yX1_faceEachOther ∈ gwt := gw_r (i := 456) (by decide +kernel) (by decide +kernel)
theorem wk_461 : Cond.code yX1_goesBy cX1_goesBy 5 (some .int) ∈ gwt := gw_r (i := 461) (by decide +kernel) (by decide +kernel)
theorem wk_459 : Cond.methodLink RX1 58 yX1_goesBy ∈ gwt := gw_r (i := 459) (by decide +kernel) (by decide +kernel)
theorem wk_460 : Cond.static yX1_goesBy ∈ gwt := gw_r (i := 460) (by decide +kernel) (by decide +kernel)
theorem wk_465 : Cond.code yX1_mayRead cX1_mayRead 3 (some .boolean) ∈ gwt := gw_r (i := 465) (by decide +kernel) (by decide +kernel)
theorem wk_464 : Cond.selects RX1 yX1_mayRead yX1_mayRead ∈ gwt := gw_r (i := 464) (by decide +kernel) (by decide +kernel)
theorem wk_462 : Cond.methodLink RX1 77 yX1_mayRead ∈ gwt := gw_r (i := 462) (by decide +kernel) (by decide +kernel)
theorem wk_463 : Cond.instanceMethod yX1_mayRead ∈ gwt := gw_r (i := 463) (by decide +kernel) (by decide +kernel)
theorem wk_469 : Cond.code yX1_squareOfWay cX1_squareOfWay 5 (some .int) ∈ gwt := gw_r (i := 469) (by decide +kernel) (by decide +kernel)
theorem wk_468 : Cond.selects RX1 yX1_squareOfWay yX1_squareOfWay ∈ gwt := gw_r (i := 468) (by decide +kernel) (by decide +kernel)
theorem wk_466 : Cond.methodLink RX1 65 yX1_squareOfWay ∈ gwt := gw_r (i := 466) (by decide +kernel) (by decide +kernel)
theorem wk_467 : Cond.instanceMethod yX1_squareOfWay ∈ gwt := gw_r (i := 467) (by decide +kernel) (by decide +kernel)
theorem wk_473 : Cond.code yX1_isClear cX1_isClear 4 (some .boolean) ∈ gwt := gw_r (i := 473) (by decide +kernel) (by decide +kernel)
theorem wk_472 : Cond.selects RX1 yX1_isClear yX1_isClear ∈ gwt := gw_r (i := 472) (by decide +kernel) (by decide +kernel)
theorem wk_470 : Cond.methodLink RX1 69 yX1_isClear ∈ gwt := gw_r (i := 470) (by decide +kernel) (by decide +kernel)
theorem wk_471 : Cond.instanceMethod yX1_isClear ∈ gwt := gw_r (i := 471) (by decide +kernel) (by decide +kernel)
theorem wk_476 : Cond.code yX1_isBlockedBy cX1_isBlockedBy 10 (some .boolean) ∈ gwt := gw_r (i := 476) (by decide +kernel) (by decide +kernel)
theorem wk_474 : Cond.methodLink RX1 62 yX1_isBlockedBy ∈ gwt := gw_r (i := 474) (by decide +kernel) (by decide +kernel)
theorem wk_475 : Cond.static yX1_isBlockedBy ∈ gwt := gw_r (i := 475) (by decide +kernel) (by decide +kernel)
theorem wk_480 : Cond.code yX1_watches cX1_watches 3 (some .boolean) ∈ gwt := gw_r (i := 480) (by decide +kernel) (by decide +kernel)
theorem wk_479 : Cond.selects RX1 yX1_watches yX1_watches ∈ gwt := gw_r (i := 479) (by decide +kernel) (by decide +kernel)
theorem wk_477 : Cond.methodLink RX1 80 yX1_watches ∈ gwt := gw_r (i := 477) (by decide +kernel) (by decide +kernel)
theorem wk_478 : Cond.instanceMethod yX1_watches ∈ gwt := gw_r (i := 478) (by decide +kernel) (by decide +kernel)
theorem wk_483 : Cond.code yX11_oneIf cX11_oneIf 1 (some .int) ∈ gwt := gw_r (i := 483) (by decide +kernel) (by decide +kernel)
theorem wk_481 : Cond.methodLink RX11 105 yX11_oneIf ∈ gwt := gw_r (i := 481) (by decide +kernel) (by decide +kernel)
theorem wk_482 : Cond.static yX11_oneIf ∈ gwt := gw_r (i := 482) (by decide +kernel) (by decide +kernel)
theorem wk_487 : Cond.code yX11_clear cX11_clear 3 (some .int) ∈ gwt := gw_r (i := 487) (by decide +kernel) (by decide +kernel)
theorem wk_486 : Cond.selects RX11 yX11_clear yX11_clear ∈ gwt := gw_r (i := 486) (by decide +kernel) (by decide +kernel)
theorem wk_484 : Cond.methodLink RL 41 yX11_clear ∈ gwt := gw_r (i := 484) (by decide +kernel) (by decide +kernel)
theorem wk_485 : Cond.instanceMethod yX11_clear ∈ gwt := gw_r (i := 485) (by decide +kernel) (by decide +kernel)
theorem wk_488 : Cond.methodLink RX11 109 yX1_isClear ∈ gwt := gw_r (i := 488) (by decide +kernel) (by decide +kernel)
theorem wk_492 : Cond.code yX11_knows cX11_knows 5 (some .int) ∈ gwt := gw_r (i := 492) (by decide +kernel) (by decide +kernel)
theorem wk_491 : Cond.selects RX11 yX11_knows yX11_knows ∈ gwt := gw_r (i := 491) (by decide +kernel) (by decide +kernel)
theorem wk_489 : Cond.methodLink RL 45 yX11_knows ∈ gwt := gw_r (i := 489) (by decide +kernel) (by decide +kernel)
theorem wk_490 : Cond.instanceMethod yX11_knows ∈ gwt := gw_r (i := 490) (by decide +kernel) (by decide +kernel)
theorem wk_496 : Cond.code yX11_canAskNews cX11_canAskNews 6 (some .boolean) ∈ gwt := gw_r (i := 496) (by decide +kernel) (by decide +kernel)
theorem wk_p0 : Cond.selects RX11 yX11_canAskNews yX11_canAskNews ∈ gwt := gw_l (i := 0) (by decide +kernel) (by decide +kernel)
theorem wk_493 : Cond.methodLink RX11 112 yX11_canAskNews ∈ gwt := gw_r (i := 493) (by decide +kernel) (by decide +kernel)
theorem wk_495 : Cond.instanceMethod yX11_canAskNews ∈ gwt := gw_r (i := 495) (by decide +kernel) (by decide +kernel)
theorem wk_497 : Cond.methodLink RX11 127 yX1_isWeaver ∈ gwt := gw_r (i := 497) (by decide +kernel) (by decide +kernel)
theorem wk_501 : Cond.code yX5_spread cX5_spread 13 none ∈ gwt := gw_r (i := 501) (by decide +kernel) (by decide +kernel)
theorem wk_6 : Cond.initialized RX5 ∈ gwt := gw_r (i := 6) (by decide +kernel) (by decide +kernel)
theorem wk_500 : Cond.selects RX5 yX5_spread yX5_spread ∈ gwt := gw_r (i := 500) (by decide +kernel) (by decide +kernel)
theorem wk_498 : Cond.methodLink RX11 116 yX5_spread ∈ gwt := gw_r (i := 498) (by decide +kernel) (by decide +kernel)
theorem wk_499 : Cond.instanceMethod yX5_spread ∈ gwt := gw_r (i := 499) (by decide +kernel) (by decide +kernel)
theorem wk_505 : Cond.code yX1_perceiversOf cX1_perceiversOf 5 (some .int) ∈ gwt := gw_r (i := 505) (by decide +kernel) (by decide +kernel)
theorem wk_504 : Cond.selects RX1 yX1_perceiversOf yX1_perceiversOf ∈ gwt := gw_r (i := 504) (by decide +kernel) (by decide +kernel)
theorem wk_502 : Cond.methodLink RX5 23 yX1_perceiversOf ∈ gwt := gw_r (i := 502) (by decide +kernel) (by decide +kernel)
theorem wk_503 : Cond.instanceMethod yX1_perceiversOf ∈ gwt := gw_r (i := 503) (by decide +kernel) (by decide +kernel)
theorem wk_506 : Cond.methodLink RX1 83 yX1_perceives ∈ gwt := gw_r (i := 506) (by decide +kernel) (by decide +kernel)
theorem wk_510 : Cond.code yX1_seenBy cX1_seenBy 4 (some .int) ∈ gwt := gw_r (i := 510) (by decide +kernel) (by decide +kernel)
theorem wk_509 : Cond.selects RX1 yX1_seenBy yX1_seenBy ∈ gwt := gw_r (i := 509) (by decide +kernel) (by decide +kernel)
theorem wk_507 : Cond.methodLink RX5 27 yX1_seenBy ∈ gwt := gw_r (i := 507) (by decide +kernel) (by decide +kernel)
theorem wk_508 : Cond.instanceMethod yX1_seenBy ∈ gwt := gw_r (i := 508) (by decide +kernel) (by decide +kernel)
theorem wk_514 : Cond.code yX1_lookersIn cX1_lookersIn 4 (some .int) ∈ gwt := gw_r (i := 514) (by decide +kernel) (by decide +kernel)
theorem wk_513 : Cond.selects RX1 yX1_lookersIn yX1_lookersIn ∈ gwt := gw_r (i := 513) (by decide +kernel) (by decide +kernel)
theorem wk_511 : Cond.methodLink RX5 35 yX1_lookersIn ∈ gwt := gw_r (i := 511) (by decide +kernel) (by decide +kernel)
theorem wk_512 : Cond.instanceMethod yX1_lookersIn ∈ gwt := gw_r (i := 512) (by decide +kernel) (by decide +kernel)
theorem wk_517 : Cond.code yX11_hasBit cX11_hasBit 2 (some .boolean) ∈ gwt := gw_r (i := 517) (by decide +kernel) (by decide +kernel)
theorem wk_516 : Cond.static yX11_hasBit ∈ gwt := gw_r (i := 516) (by decide +kernel) (by decide +kernel)
theorem wk_521 : Cond.code yX1_tellersIn cX1_tellersIn 4 (some .int) ∈ gwt := gw_r (i := 521) (by decide +kernel) (by decide +kernel)
theorem wk_520 : Cond.selects RX1 yX1_tellersIn yX1_tellersIn ∈ gwt := gw_r (i := 520) (by decide +kernel) (by decide +kernel)
theorem wk_518 : Cond.methodLink RX5 42 yX1_tellersIn ∈ gwt := gw_r (i := 518) (by decide +kernel) (by decide +kernel)
theorem wk_519 : Cond.instanceMethod yX1_tellersIn ∈ gwt := gw_r (i := 519) (by decide +kernel) (by decide +kernel)
theorem wk_525 : Cond.code yX5_tellInSecond cX5_tellInSecond 7 (some .int) ∈ gwt := gw_r (i := 525) (by decide +kernel) (by decide +kernel)
theorem wk_p1 : Cond.selects RX5 yX5_tellInSecond yX5_tellInSecond ∈ gwt := gw_l (i := 1) (by decide +kernel) (by decide +kernel)
theorem wk_522 : Cond.methodLink RX5 45 yX5_tellInSecond ∈ gwt := gw_r (i := 522) (by decide +kernel) (by decide +kernel)
theorem wk_524 : Cond.instanceMethod yX5_tellInSecond ∈ gwt := gw_r (i := 524) (by decide +kernel) (by decide +kernel)
theorem wk_529 : Cond.code yX5_write cX5_write 5 none ∈ gwt := gw_r (i := 529) (by decide +kernel) (by decide +kernel)
theorem wk_p2 : Cond.selects RX5 yX5_write yX5_write ∈ gwt := gw_l (i := 2) (by decide +kernel) (by decide +kernel)
theorem wk_526 : Cond.methodLink RX5 49 yX5_write ∈ gwt := gw_r (i := 526) (by decide +kernel) (by decide +kernel)
theorem wk_528 : Cond.instanceMethod yX5_write ∈ gwt := gw_r (i := 528) (by decide +kernel) (by decide +kernel)
theorem wk_533 : Cond.code yX11_teller cX11_teller 5 (some .int) ∈ gwt := gw_r (i := 533) (by decide +kernel) (by decide +kernel)
theorem wk_532 : Cond.selects RX11 yX11_teller yX11_teller ∈ gwt := gw_r (i := 532) (by decide +kernel) (by decide +kernel)
theorem wk_530 : Cond.methodLink RL 49 yX11_teller ∈ gwt := gw_r (i := 530) (by decide +kernel) (by decide +kernel)
theorem wk_531 : Cond.instanceMethod yX11_teller ∈ gwt := gw_r (i := 531) (by decide +kernel) (by decide +kernel)
theorem wk_537 : Cond.code yX11_meet cX11_meet 6 (some .int) ∈ gwt := gw_r (i := 537) (by decide +kernel) (by decide +kernel)
theorem wk_536 : Cond.selects RX11 yX11_meet yX11_meet ∈ gwt := gw_r (i := 536) (by decide +kernel) (by decide +kernel)
theorem wk_534 : Cond.methodLink RL 53 yX11_meet ∈ gwt := gw_r (i := 534) (by decide +kernel) (by decide +kernel)
theorem wk_535 : Cond.instanceMethod yX11_meet ∈ gwt := gw_r (i := 535) (by decide +kernel) (by decide +kernel)
theorem wk_540 : Cond.code yX11_firstOf cX11_firstOf 2 (some .int) ∈ gwt := gw_r (i := 540) (by decide +kernel) (by decide +kernel)
theorem wk_538 : Cond.methodLink RX11 131 yX11_firstOf ∈ gwt := gw_r (i := 538) (by decide +kernel) (by decide +kernel)
theorem wk_539 : Cond.static yX11_firstOf ∈ gwt := gw_r (i := 539) (by decide +kernel) (by decide +kernel)
theorem wk_544 : Cond.code yX11_seen cX11_seen 4 (some .int) ∈ gwt := gw_r (i := 544) (by decide +kernel) (by decide +kernel)
theorem wk_543 : Cond.selects RX11 yX11_seen yX11_seen ∈ gwt := gw_r (i := 543) (by decide +kernel) (by decide +kernel)
theorem wk_541 : Cond.methodLink RL 57 yX11_seen ∈ gwt := gw_r (i := 541) (by decide +kernel) (by decide +kernel)
theorem wk_542 : Cond.instanceMethod yX11_seen ∈ gwt := gw_r (i := 542) (by decide +kernel) (by decide +kernel)
theorem wk_548 : Cond.code yX8_add cX8_add 4 (some .int) ∈ gwt := gw_r (i := 548) (by decide +kernel) (by decide +kernel)
theorem wk_4 : Cond.initialized RX8 ∈ gwt := gw_r (i := 4) (by decide +kernel) (by decide +kernel)
theorem wk_547 : Cond.selects RX8 yX8_add yX8_add ∈ gwt := gw_r (i := 547) (by decide +kernel) (by decide +kernel)
theorem wk_545 : Cond.methodLink RX11 138 yX8_add ∈ gwt := gw_r (i := 545) (by decide +kernel) (by decide +kernel)
theorem wk_546 : Cond.instanceMethod yX8_add ∈ gwt := gw_r (i := 546) (by decide +kernel) (by decide +kernel)
theorem wk_554 : Cond.code yX11_source cX11_source 3 (some .int) ∈ gwt := gw_r (i := 554) (by decide +kernel) (by decide +kernel)
theorem wk_553 : Cond.selects RX11 yX11_source yX11_source ∈ gwt := gw_r (i := 553) (by decide +kernel) (by decide +kernel)
theorem wk_551 : Cond.methodLink RL 62 yX11_source ∈ gwt := gw_r (i := 551) (by decide +kernel) (by decide +kernel)
theorem wk_552 : Cond.instanceMethod yX11_source ∈ gwt := gw_r (i := 552) (by decide +kernel) (by decide +kernel)
theorem wk_558 : Cond.code yX8_areBorneBy cX8_areBorneBy 5 (some .boolean) ∈ gwt := gw_r (i := 558) (by decide +kernel) (by decide +kernel)
theorem wk_557 : Cond.selects RX8 yX8_areBorneBy yX8_areBorneBy ∈ gwt := gw_r (i := 557) (by decide +kernel) (by decide +kernel)
theorem wk_555 : Cond.methodLink RX11 148 yX8_areBorneBy ∈ gwt := gw_r (i := 555) (by decide +kernel) (by decide +kernel)
theorem wk_556 : Cond.instanceMethod yX8_areBorneBy ∈ gwt := gw_r (i := 556) (by decide +kernel) (by decide +kernel)
theorem wk_562 : Cond.code yX11_apart cX11_apart 3 (some .int) ∈ gwt := gw_r (i := 562) (by decide +kernel) (by decide +kernel)
theorem wk_561 : Cond.selects RX11 yX11_apart yX11_apart ∈ gwt := gw_r (i := 561) (by decide +kernel) (by decide +kernel)
theorem wk_559 : Cond.methodLink RL 67 yX11_apart ∈ gwt := gw_r (i := 559) (by decide +kernel) (by decide +kernel)
theorem wk_560 : Cond.instanceMethod yX11_apart ∈ gwt := gw_r (i := 560) (by decide +kernel) (by decide +kernel)
theorem wk_566 : Cond.code yX5_waysApart cX5_waysApart 8 (some .int) ∈ gwt := gw_r (i := 566) (by decide +kernel) (by decide +kernel)
theorem wk_565 : Cond.selects RX5 yX5_waysApart yX5_waysApart ∈ gwt := gw_r (i := 565) (by decide +kernel) (by decide +kernel)
theorem wk_563 : Cond.methodLink RX11 152 yX5_waysApart ∈ gwt := gw_r (i := 563) (by decide +kernel) (by decide +kernel)
theorem wk_564 : Cond.instanceMethod yX5_waysApart ∈ gwt := gw_r (i := 564) (by decide +kernel) (by decide +kernel)
theorem wk_571 : Cond.code yX5_isReached cX5_isReached 8 (some .boolean) ∈ gwt := gw_r (i := 571) (by decide +kernel) (by decide +kernel)
theorem wk_p3 : Cond.selects RX5 yX5_isReached yX5_isReached ∈ gwt := gw_l (i := 3) (by decide +kernel) (by decide +kernel)
theorem wk_568 : Cond.methodLink RX5 57 yX5_isReached ∈ gwt := gw_r (i := 568) (by decide +kernel) (by decide +kernel)
theorem wk_570 : Cond.instanceMethod yX5_isReached ∈ gwt := gw_r (i := 570) (by decide +kernel) (by decide +kernel)
theorem wk_574 : Cond.code yJ6_bitCount_0f7a4 cJ6_bitCount_0f7a4 1 (some .int) ∈ gwt := gw_r (i := 574) (by decide +kernel) (by decide +kernel)
theorem wk_14 : Cond.initialized RJ6 ∈ gwt := gw_r (i := 14) (by decide +kernel) (by decide +kernel)
theorem wk_572 : Cond.methodLink RX5 61 yJ6_bitCount_0f7a4 ∈ gwt := gw_r (i := 572) (by decide +kernel) (by decide +kernel)
theorem wk_573 : Cond.static yJ6_bitCount_0f7a4 ∈ gwt := gw_r (i := 573) (by decide +kernel) (by decide +kernel)
theorem wk_584 : Cond.code yX11_like cX11_like 3 (some .int) ∈ gwt := gw_r (i := 584) (by decide +kernel) (by decide +kernel)
theorem wk_583 : Cond.selects RX11 yX11_like yX11_like ∈ gwt := gw_r (i := 583) (by decide +kernel) (by decide +kernel)
theorem wk_581 : Cond.methodLink RL 71 yX11_like ∈ gwt := gw_r (i := 581) (by decide +kernel) (by decide +kernel)
theorem wk_582 : Cond.instanceMethod yX11_like ∈ gwt := gw_r (i := 582) (by decide +kernel) (by decide +kernel)
theorem wk_588 : Cond.code yX3_makeAlike cX3_makeAlike 6 (some .int) ∈ gwt := gw_r (i := 588) (by decide +kernel) (by decide +kernel)
theorem wk_587 : Cond.selects RX3 yX3_makeAlike yX3_makeAlike ∈ gwt := gw_r (i := 587) (by decide +kernel) (by decide +kernel)
theorem wk_585 : Cond.methodLink RX11 160 yX3_makeAlike ∈ gwt := gw_r (i := 585) (by decide +kernel) (by decide +kernel)
theorem wk_586 : Cond.instanceMethod yX3_makeAlike ∈ gwt := gw_r (i := 586) (by decide +kernel) (by decide +kernel)
theorem wk_597 : Cond.code yX11_word cX11_word 4 (some .int) ∈ gwt := gw_r (i := 597) (by decide +kernel) (by decide +kernel)
theorem wk_596 : Cond.selects RX11 yX11_word yX11_word ∈ gwt := gw_r (i := 596) (by decide +kernel) (by decide +kernel)
theorem wk_594 : Cond.methodLink RL 75 yX11_word ∈ gwt := gw_r (i := 594) (by decide +kernel) (by decide +kernel)
theorem wk_595 : Cond.instanceMethod yX11_word ∈ gwt := gw_r (i := 595) (by decide +kernel) (by decide +kernel)
theorem wk_601 : Cond.code yX3_addWord cX3_addWord 6 (some .int) ∈ gwt := gw_r (i := 601) (by decide +kernel) (by decide +kernel)
theorem wk_600 : Cond.selects RX3 yX3_addWord yX3_addWord ∈ gwt := gw_r (i := 600) (by decide +kernel) (by decide +kernel)
theorem wk_598 : Cond.methodLink RX11 165 yX3_addWord ∈ gwt := gw_r (i := 598) (by decide +kernel) (by decide +kernel)
theorem wk_599 : Cond.instanceMethod yX3_addWord ∈ gwt := gw_r (i := 599) (by decide +kernel) (by decide +kernel)
theorem wk_605 : Cond.code yX11_alike cX11_alike 3 (some .int) ∈ gwt := gw_r (i := 605) (by decide +kernel) (by decide +kernel)
theorem wk_604 : Cond.selects RX11 yX11_alike yX11_alike ∈ gwt := gw_r (i := 604) (by decide +kernel) (by decide +kernel)
theorem wk_602 : Cond.methodLink RL 79 yX11_alike ∈ gwt := gw_r (i := 602) (by decide +kernel) (by decide +kernel)
theorem wk_603 : Cond.instanceMethod yX11_alike ∈ gwt := gw_r (i := 603) (by decide +kernel) (by decide +kernel)
theorem wk_609 : Cond.code yX3_isWord cX3_isWord 2 (some .boolean) ∈ gwt := gw_r (i := 609) (by decide +kernel) (by decide +kernel)
theorem wk_608 : Cond.selects RX3 yX3_isWord yX3_isWord ∈ gwt := gw_r (i := 608) (by decide +kernel) (by decide +kernel)
theorem wk_606 : Cond.methodLink RX11 169 yX3_isWord ∈ gwt := gw_r (i := 606) (by decide +kernel) (by decide +kernel)
theorem wk_607 : Cond.instanceMethod yX3_isWord ∈ gwt := gw_r (i := 607) (by decide +kernel) (by decide +kernel)
theorem wk_613 : Cond.code yX3_areAlike cX3_areAlike 3 (some .boolean) ∈ gwt := gw_r (i := 613) (by decide +kernel) (by decide +kernel)
theorem wk_612 : Cond.selects RX3 yX3_areAlike yX3_areAlike ∈ gwt := gw_r (i := 612) (by decide +kernel) (by decide +kernel)
theorem wk_610 : Cond.methodLink RX11 172 yX3_areAlike ∈ gwt := gw_r (i := 610) (by decide +kernel) (by decide +kernel)
theorem wk_611 : Cond.instanceMethod yX3_areAlike ∈ gwt := gw_r (i := 611) (by decide +kernel) (by decide +kernel)
theorem wk_617 : Cond.code yX3_unlikeLips cX3_unlikeLips 5 (some .int) ∈ gwt := gw_r (i := 617) (by decide +kernel) (by decide +kernel)
theorem wk_616 : Cond.selects RX3 yX3_unlikeLips yX3_unlikeLips ∈ gwt := gw_r (i := 616) (by decide +kernel) (by decide +kernel)
theorem wk_614 : Cond.methodLink RX3 73 yX3_unlikeLips ∈ gwt := gw_r (i := 614) (by decide +kernel) (by decide +kernel)
theorem wk_615 : Cond.instanceMethod yX3_unlikeLips ∈ gwt := gw_r (i := 615) (by decide +kernel) (by decide +kernel)
theorem wk_621 : Cond.code yX3_lookAlike cX3_lookAlike 3 (some .boolean) ∈ gwt := gw_r (i := 621) (by decide +kernel) (by decide +kernel)
theorem wk_p4 : Cond.selects RX3 yX3_lookAlike yX3_lookAlike ∈ gwt := gw_l (i := 4) (by decide +kernel) (by decide +kernel)
theorem wk_618 : Cond.methodLink RX3 69 yX3_lookAlike ∈ gwt := gw_r (i := 618) (by decide +kernel) (by decide +kernel)
theorem wk_620 : Cond.instanceMethod yX3_lookAlike ∈ gwt := gw_r (i := 620) (by decide +kernel) (by decide +kernel)
theorem wk_625 : Cond.code yX11_lip cX11_lip 2 (some .int) ∈ gwt := gw_r (i := 625) (by decide +kernel) (by decide +kernel)
theorem wk_624 : Cond.selects RX11 yX11_lip yX11_lip ∈ gwt := gw_r (i := 624) (by decide +kernel) (by decide +kernel)
theorem wk_622 : Cond.methodLink RL 83 yX11_lip ∈ gwt := gw_r (i := 622) (by decide +kernel) (by decide +kernel)
theorem wk_623 : Cond.instanceMethod yX11_lip ∈ gwt := gw_r (i := 623) (by decide +kernel) (by decide +kernel)
theorem wk_629 : Cond.code yX3_addLip cX3_addLip 2 (some .int) ∈ gwt := gw_r (i := 629) (by decide +kernel) (by decide +kernel)
theorem wk_628 : Cond.selects RX3 yX3_addLip yX3_addLip ∈ gwt := gw_r (i := 628) (by decide +kernel) (by decide +kernel)
theorem wk_626 : Cond.methodLink RX11 175 yX3_addLip ∈ gwt := gw_r (i := 626) (by decide +kernel) (by decide +kernel)
theorem wk_627 : Cond.instanceMethod yX3_addLip ∈ gwt := gw_r (i := 627) (by decide +kernel) (by decide +kernel)
theorem wk_633 : Cond.code yX11_hush cX11_hush 2 (some .int) ∈ gwt := gw_r (i := 633) (by decide +kernel) (by decide +kernel)
theorem wk_632 : Cond.selects RX11 yX11_hush yX11_hush ∈ gwt := gw_r (i := 632) (by decide +kernel) (by decide +kernel)
theorem wk_630 : Cond.methodLink RL 87 yX11_hush ∈ gwt := gw_r (i := 630) (by decide +kernel) (by decide +kernel)
theorem wk_631 : Cond.instanceMethod yX11_hush ∈ gwt := gw_r (i := 631) (by decide +kernel) (by decide +kernel)
theorem wk_637 : Cond.code yX11_reads cX11_reads 3 (some .int) ∈ gwt := gw_r (i := 637) (by decide +kernel) (by decide +kernel)
theorem wk_636 : Cond.selects RX11 yX11_reads yX11_reads ∈ gwt := gw_r (i := 636) (by decide +kernel) (by decide +kernel)
theorem wk_634 : Cond.methodLink RL 91 yX11_reads ∈ gwt := gw_r (i := 634) (by decide +kernel) (by decide +kernel)
theorem wk_635 : Cond.instanceMethod yX11_reads ∈ gwt := gw_r (i := 635) (by decide +kernel) (by decide +kernel)
theorem wk_641 : Cond.code yX6_reckon cX6_reckon 5 none ∈ gwt := gw_r (i := 641) (by decide +kernel) (by decide +kernel)
theorem wk_7 : Cond.initialized RX6 ∈ gwt := gw_r (i := 7) (by decide +kernel) (by decide +kernel)
theorem wk_640 : Cond.selects RX6 yX6_reckon yX6_reckon ∈ gwt := gw_r (i := 640) (by decide +kernel) (by decide +kernel)
theorem wk_638 : Cond.methodLink RX11 181 yX6_reckon ∈ gwt := gw_r (i := 638) (by decide +kernel) (by decide +kernel)
theorem wk_639 : Cond.instanceMethod yX6_reckon ∈ gwt := gw_r (i := 639) (by decide +kernel) (by decide +kernel)
theorem wk_645 : Cond.code yX3_fitsRow cX3_fitsRow 4 (some .boolean) ∈ gwt := gw_r (i := 645) (by decide +kernel) (by decide +kernel)
theorem wk_644 : Cond.selects RX3 yX3_fitsRow yX3_fitsRow ∈ gwt := gw_r (i := 644) (by decide +kernel) (by decide +kernel)
theorem wk_642 : Cond.methodLink RX6 33 yX3_fitsRow ∈ gwt := gw_r (i := 642) (by decide +kernel) (by decide +kernel)
theorem wk_643 : Cond.instanceMethod yX3_fitsRow ∈ gwt := gw_r (i := 643) (by decide +kernel) (by decide +kernel)
theorem wk_649 : Cond.code yX6_begin cX6_begin 7 none ∈ gwt := gw_r (i := 649) (by decide +kernel) (by decide +kernel)
theorem wk_p5 : Cond.selects RX6 yX6_begin yX6_begin ∈ gwt := gw_l (i := 5) (by decide +kernel) (by decide +kernel)
theorem wk_646 : Cond.methodLink RX6 43 yX6_begin ∈ gwt := gw_r (i := 646) (by decide +kernel) (by decide +kernel)
theorem wk_648 : Cond.instanceMethod yX6_begin ∈ gwt := gw_r (i := 648) (by decide +kernel) (by decide +kernel)
theorem wk_654 : Cond.code yX6_number cX6_number 1 (some .int) ∈ gwt := gw_r (i := 654) (by decide +kernel) (by decide +kernel)
theorem wk_653 : Cond.selects RX6 yX6_number yX6_number ∈ gwt := gw_r (i := 653) (by decide +kernel) (by decide +kernel)
theorem wk_651 : Cond.methodLink RX11 185 yX6_number ∈ gwt := gw_r (i := 651) (by decide +kernel) (by decide +kernel)
theorem wk_652 : Cond.instanceMethod yX6_number ∈ gwt := gw_r (i := 652) (by decide +kernel) (by decide +kernel)
theorem wk_658 : Cond.code yX6_fewestWords cX6_fewestWords 1 (some .int) ∈ gwt := gw_r (i := 658) (by decide +kernel) (by decide +kernel)
theorem wk_657 : Cond.selects RX6 yX6_fewestWords yX6_fewestWords ∈ gwt := gw_r (i := 657) (by decide +kernel) (by decide +kernel)
theorem wk_655 : Cond.methodLink RX11 189 yX6_fewestWords ∈ gwt := gw_r (i := 655) (by decide +kernel) (by decide +kernel)
theorem wk_656 : Cond.instanceMethod yX6_fewestWords ∈ gwt := gw_r (i := 656) (by decide +kernel) (by decide +kernel)
theorem wk_662 : Cond.code yX6_wordInPlace cX6_wordInPlace 5 (some .int) ∈ gwt := gw_r (i := 662) (by decide +kernel) (by decide +kernel)
theorem wk_661 : Cond.selects RX6 yX6_wordInPlace yX6_wordInPlace ∈ gwt := gw_r (i := 661) (by decide +kernel) (by decide +kernel)
theorem wk_659 : Cond.methodLink RX11 192 yX6_wordInPlace ∈ gwt := gw_r (i := 659) (by decide +kernel) (by decide +kernel)
theorem wk_660 : Cond.instanceMethod yX6_wordInPlace ∈ gwt := gw_r (i := 660) (by decide +kernel) (by decide +kernel)
theorem wk_666 : Cond.code yX11_mistaken cX11_mistaken 2 (some .int) ∈ gwt := gw_r (i := 666) (by decide +kernel) (by decide +kernel)
theorem wk_665 : Cond.selects RX11 yX11_mistaken yX11_mistaken ∈ gwt := gw_r (i := 665) (by decide +kernel) (by decide +kernel)
theorem wk_663 : Cond.methodLink RL 95 yX11_mistaken ∈ gwt := gw_r (i := 663) (by decide +kernel) (by decide +kernel)
theorem wk_664 : Cond.instanceMethod yX11_mistaken ∈ gwt := gw_r (i := 664) (by decide +kernel) (by decide +kernel)
theorem wk_670 : Cond.code yX3_areWords cX3_areWords 2 (some .boolean) ∈ gwt := gw_r (i := 670) (by decide +kernel) (by decide +kernel)
theorem wk_669 : Cond.selects RX3 yX3_areWords yX3_areWords ∈ gwt := gw_r (i := 669) (by decide +kernel) (by decide +kernel)
theorem wk_667 : Cond.methodLink RX11 196 yX3_areWords ∈ gwt := gw_r (i := 667) (by decide +kernel) (by decide +kernel)
theorem wk_668 : Cond.instanceMethod yX3_areWords ∈ gwt := gw_r (i := 668) (by decide +kernel) (by decide +kernel)
theorem wk_674 : Cond.code yX3_allWords cX3_allWords 1 (some .int) ∈ gwt := gw_r (i := 674) (by decide +kernel) (by decide +kernel)
theorem wk_673 : Cond.selects RX3 yX3_allWords yX3_allWords ∈ gwt := gw_r (i := 673) (by decide +kernel) (by decide +kernel)
theorem wk_671 : Cond.methodLink RX3 56 yX3_allWords ∈ gwt := gw_r (i := 671) (by decide +kernel) (by decide +kernel)
theorem wk_672 : Cond.instanceMethod yX3_allWords ∈ gwt := gw_r (i := 672) (by decide +kernel) (by decide +kernel)
theorem wk_678 : Cond.code yX3_mistakenWith cX3_mistakenWith 2 (some .int) ∈ gwt := gw_r (i := 678) (by decide +kernel) (by decide +kernel)
theorem wk_677 : Cond.selects RX3 yX3_mistakenWith yX3_mistakenWith ∈ gwt := gw_r (i := 677) (by decide +kernel) (by decide +kernel)
theorem wk_675 : Cond.methodLink RX11 199 yX3_mistakenWith ∈ gwt := gw_r (i := 675) (by decide +kernel) (by decide +kernel)
theorem wk_676 : Cond.instanceMethod yX3_mistakenWith ∈ gwt := gw_r (i := 676) (by decide +kernel) (by decide +kernel)
theorem wk_682 : Cond.code yX3_findLaterAlike cX3_findLaterAlike 3 none ∈ gwt := gw_r (i := 682) (by decide +kernel) (by decide +kernel)
theorem wk_p6 : Cond.selects RX3 yX3_findLaterAlike yX3_findLaterAlike ∈ gwt := gw_l (i := 6) (by decide +kernel) (by decide +kernel)
theorem wk_679 : Cond.methodLink RX3 79 yX3_findLaterAlike ∈ gwt := gw_r (i := 679) (by decide +kernel) (by decide +kernel)
theorem wk_681 : Cond.instanceMethod yX3_findLaterAlike ∈ gwt := gw_r (i := 681) (by decide +kernel) (by decide +kernel)
theorem wk_683 : Cond.methodLink RX3 89 yX3_areAlike ∈ gwt := gw_r (i := 683) (by decide +kernel) (by decide +kernel)
theorem wk_687 : Cond.code yX3_mistakenBy cX3_mistakenBy 4 (some .int) ∈ gwt := gw_r (i := 687) (by decide +kernel) (by decide +kernel)
theorem wk_p7 : Cond.selects RX3 yX3_mistakenBy yX3_mistakenBy ∈ gwt := gw_l (i := 7) (by decide +kernel) (by decide +kernel)
theorem wk_684 : Cond.methodLink RX3 82 yX3_mistakenBy ∈ gwt := gw_r (i := 684) (by decide +kernel) (by decide +kernel)
theorem wk_686 : Cond.instanceMethod yX3_mistakenBy ∈ gwt := gw_r (i := 686) (by decide +kernel) (by decide +kernel)
theorem wk_692 : Cond.code yX3_weightOf cX3_weightOf 4 (some .int) ∈ gwt := gw_r (i := 692) (by decide +kernel) (by decide +kernel)
theorem wk_691 : Cond.selects RX3 yX3_weightOf yX3_weightOf ∈ gwt := gw_r (i := 691) (by decide +kernel) (by decide +kernel)
theorem wk_689 : Cond.methodLink RX3 86 yX3_weightOf ∈ gwt := gw_r (i := 689) (by decide +kernel) (by decide +kernel)
theorem wk_690 : Cond.instanceMethod yX3_weightOf ∈ gwt := gw_r (i := 690) (by decide +kernel) (by decide +kernel)
theorem wk_696 : Cond.code yX11_signs cX11_signs 2 (some .int) ∈ gwt := gw_r (i := 696) (by decide +kernel) (by decide +kernel)
theorem wk_695 : Cond.selects RX11 yX11_signs yX11_signs ∈ gwt := gw_r (i := 695) (by decide +kernel) (by decide +kernel)
theorem wk_693 : Cond.methodLink RL 99 yX11_signs ∈ gwt := gw_r (i := 693) (by decide +kernel) (by decide +kernel)
theorem wk_694 : Cond.instanceMethod yX11_signs ∈ gwt := gw_r (i := 694) (by decide +kernel) (by decide +kernel)
theorem wk_700 : Cond.code yX3_bestSigns cX3_bestSigns 6 (some .int) ∈ gwt := gw_r (i := 700) (by decide +kernel) (by decide +kernel)
theorem wk_699 : Cond.selects RX3 yX3_bestSigns yX3_bestSigns ∈ gwt := gw_r (i := 699) (by decide +kernel) (by decide +kernel)
theorem wk_697 : Cond.methodLink RX11 205 yX3_bestSigns ∈ gwt := gw_r (i := 697) (by decide +kernel) (by decide +kernel)
theorem wk_698 : Cond.instanceMethod yX3_bestSigns ∈ gwt := gw_r (i := 698) (by decide +kernel) (by decide +kernel)
theorem wk_701 : Cond.methodLink RX3 92 yJ6_bitCount_0f7a4 ∈ gwt := gw_r (i := 701) (by decide +kernel) (by decide +kernel)
theorem wk_705 : Cond.code yX11_plain cX11_plain 3 (some .int) ∈ gwt := gw_r (i := 705) (by decide +kernel) (by decide +kernel)
theorem wk_704 : Cond.selects RX11 yX11_plain yX11_plain ∈ gwt := gw_r (i := 704) (by decide +kernel) (by decide +kernel)
theorem wk_702 : Cond.methodLink RL 103 yX11_plain ∈ gwt := gw_r (i := 702) (by decide +kernel) (by decide +kernel)
theorem wk_703 : Cond.instanceMethod yX11_plain ∈ gwt := gw_r (i := 703) (by decide +kernel) (by decide +kernel)
theorem wk_709 : Cond.code yX11_arrives cX11_arrives 6 (some .int) ∈ gwt := gw_r (i := 709) (by decide +kernel) (by decide +kernel)
theorem wk_708 : Cond.selects RX11 yX11_arrives yX11_arrives ∈ gwt := gw_r (i := 708) (by decide +kernel) (by decide +kernel)
theorem wk_706 : Cond.methodLink RL 107 yX11_arrives ∈ gwt := gw_r (i := 706) (by decide +kernel) (by decide +kernel)
theorem wk_707 : Cond.instanceMethod yX11_arrives ∈ gwt := gw_r (i := 707) (by decide +kernel) (by decide +kernel)
theorem wk_713 : Cond.code yX0_say cX0_say 7 none ∈ gwt := gw_r (i := 713) (by decide +kernel) (by decide +kernel)
theorem wk_8 : Cond.initialized RX0 ∈ gwt := gw_r (i := 8) (by decide +kernel) (by decide +kernel)
theorem wk_712 : Cond.selects RX0 yX0_say yX0_say ∈ gwt := gw_r (i := 712) (by decide +kernel) (by decide +kernel)
theorem wk_710 : Cond.methodLink RX11 211 yX0_say ∈ gwt := gw_r (i := 710) (by decide +kernel) (by decide +kernel)
theorem wk_711 : Cond.instanceMethod yX0_say ∈ gwt := gw_r (i := 711) (by decide +kernel) (by decide +kernel)
theorem wk_714 : Cond.methodLink RX0 54 yX3_unlikeLips ∈ gwt := gw_r (i := 714) (by decide +kernel) (by decide +kernel)
theorem wk_716 : Cond.methodLink RX0 64 yX4_put ∈ gwt := gw_r (i := 716) (by decide +kernel) (by decide +kernel)
theorem wk_720 : Cond.code yX0_findParts cX0_findParts 4 none ∈ gwt := gw_r (i := 720) (by decide +kernel) (by decide +kernel)
theorem wk_p8 : Cond.selects RX0 yX0_findParts yX0_findParts ∈ gwt := gw_l (i := 8) (by decide +kernel) (by decide +kernel)
theorem wk_717 : Cond.methodLink RX0 68 yX0_findParts ∈ gwt := gw_r (i := 717) (by decide +kernel) (by decide +kernel)
theorem wk_719 : Cond.instanceMethod yX0_findParts ∈ gwt := gw_r (i := 719) (by decide +kernel) (by decide +kernel)
theorem wk_723 : Cond.code yX11_commonDivisor cX11_commonDivisor 6 (some .int) ∈ gwt := gw_r (i := 723) (by decide +kernel) (by decide +kernel)
theorem wk_722 : Cond.static yX11_commonDivisor ∈ gwt := gw_r (i := 722) (by decide +kernel) (by decide +kernel)
theorem wk_727 : Cond.code yX0_passOn cX0_passOn 2 none ∈ gwt := gw_r (i := 727) (by decide +kernel) (by decide +kernel)
theorem wk_726 : Cond.selects RX0 yX0_passOn yX0_passOn ∈ gwt := gw_r (i := 726) (by decide +kernel) (by decide +kernel)
theorem wk_724 : Cond.methodLink RX11 215 yX0_passOn ∈ gwt := gw_r (i := 724) (by decide +kernel) (by decide +kernel)
theorem wk_725 : Cond.instanceMethod yX0_passOn ∈ gwt := gw_r (i := 725) (by decide +kernel) (by decide +kernel)
theorem wk_731 : Cond.code yX4_copyFrom cX4_copyFrom 2 none ∈ gwt := gw_r (i := 731) (by decide +kernel) (by decide +kernel)
theorem wk_730 : Cond.selects RX4 yX4_copyFrom yX4_copyFrom ∈ gwt := gw_r (i := 730) (by decide +kernel) (by decide +kernel)
theorem wk_728 : Cond.methodLink RX0 74 yX4_copyFrom ∈ gwt := gw_r (i := 728) (by decide +kernel) (by decide +kernel)
theorem wk_729 : Cond.instanceMethod yX4_copyFrom ∈ gwt := gw_r (i := 729) (by decide +kernel) (by decide +kernel)
theorem wk_738 : Cond.code yX0_hear cX0_hear 3 none ∈ gwt := gw_r (i := 738) (by decide +kernel) (by decide +kernel)
theorem wk_p9 : Cond.selects RX0 yX0_hear yX0_hear ∈ gwt := gw_l (i := 9) (by decide +kernel) (by decide +kernel)
theorem wk_735 : Cond.methodLink RX0 81 yX0_hear ∈ gwt := gw_r (i := 735) (by decide +kernel) (by decide +kernel)
theorem wk_737 : Cond.instanceMethod yX0_hear ∈ gwt := gw_r (i := 737) (by decide +kernel) (by decide +kernel)
theorem wk_742 : Cond.code yX0_multiplyByParts cX0_multiplyByParts 3 none ∈ gwt := gw_r (i := 742) (by decide +kernel) (by decide +kernel)
theorem wk_p10 : Cond.selects RX0 yX0_multiplyByParts yX0_multiplyByParts ∈ gwt := gw_l (i := 10) (by decide +kernel) (by decide +kernel)
theorem wk_739 : Cond.methodLink RX0 84 yX0_multiplyByParts ∈ gwt := gw_r (i := 739) (by decide +kernel) (by decide +kernel)
theorem wk_741 : Cond.instanceMethod yX0_multiplyByParts ∈ gwt := gw_r (i := 741) (by decide +kernel) (by decide +kernel)
theorem wk_746 : Cond.code yX4_multiply cX4_multiply 5 none ∈ gwt := gw_r (i := 746) (by decide +kernel) (by decide +kernel)
theorem wk_745 : Cond.selects RX4 yX4_multiply yX4_multiply ∈ gwt := gw_r (i := 745) (by decide +kernel) (by decide +kernel)
theorem wk_743 : Cond.methodLink RX0 94 yX4_multiply ∈ gwt := gw_r (i := 743) (by decide +kernel) (by decide +kernel)
theorem wk_744 : Cond.instanceMethod yX4_multiply ∈ gwt := gw_r (i := 744) (by decide +kernel) (by decide +kernel)
theorem wk_751 : Cond.code yX4_divide cX4_divide 5 none ∈ gwt := gw_r (i := 751) (by decide +kernel) (by decide +kernel)
theorem wk_750 : Cond.selects RX4 yX4_divide yX4_divide ∈ gwt := gw_r (i := 750) (by decide +kernel) (by decide +kernel)
theorem wk_748 : Cond.methodLink RX0 87 yX4_divide ∈ gwt := gw_r (i := 748) (by decide +kernel) (by decide +kernel)
theorem wk_749 : Cond.instanceMethod yX4_divide ∈ gwt := gw_r (i := 749) (by decide +kernel) (by decide +kernel)
theorem wk_755 : Cond.code yX4_trim cX4_trim 2 none ∈ gwt := gw_r (i := 755) (by decide +kernel) (by decide +kernel)
theorem wk_p11 : Cond.selects RX4 yX4_trim yX4_trim ∈ gwt := gw_l (i := 11) (by decide +kernel) (by decide +kernel)
theorem wk_752 : Cond.methodLink RX4 37 yX4_trim ∈ gwt := gw_r (i := 752) (by decide +kernel) (by decide +kernel)
theorem wk_754 : Cond.instanceMethod yX4_trim ∈ gwt := gw_r (i := 754) (by decide +kernel) (by decide +kernel)
theorem wk_759 : Cond.code yX4_addTimes cX4_addTimes 8 none ∈ gwt := gw_r (i := 759) (by decide +kernel) (by decide +kernel)
theorem wk_758 : Cond.selects RX4 yX4_addTimes yX4_addTimes ∈ gwt := gw_r (i := 758) (by decide +kernel) (by decide +kernel)
theorem wk_756 : Cond.methodLink RX0 90 yX4_addTimes ∈ gwt := gw_r (i := 756) (by decide +kernel) (by decide +kernel)
theorem wk_757 : Cond.instanceMethod yX4_addTimes ∈ gwt := gw_r (i := 757) (by decide +kernel) (by decide +kernel)
theorem wk_764 : Cond.code yX0_tellAs cX0_tellAs 3 none ∈ gwt := gw_r (i := 764) (by decide +kernel) (by decide +kernel)
theorem wk_763 : Cond.selects RX0 yX0_tellAs yX0_tellAs ∈ gwt := gw_r (i := 763) (by decide +kernel) (by decide +kernel)
theorem wk_761 : Cond.methodLink RX11 218 yX0_tellAs ∈ gwt := gw_r (i := 761) (by decide +kernel) (by decide +kernel)
theorem wk_762 : Cond.instanceMethod yX0_tellAs ∈ gwt := gw_r (i := 762) (by decide +kernel) (by decide +kernel)
theorem wk_768 : Cond.code yX2_put_ cX2_put_ 3 none ∈ gwt := gw_r (i := 768) (by decide +kernel) (by decide +kernel)
theorem wk_12 : Cond.initialized RX2 ∈ gwt := gw_r (i := 12) (by decide +kernel) (by decide +kernel)
theorem wk_767 : Cond.selects RX2 yX2_put_ yX2_put_ ∈ gwt := gw_r (i := 767) (by decide +kernel) (by decide +kernel)
theorem wk_765 : Cond.methodLink RX0 101 yX2_put_ ∈ gwt := gw_r (i := 765) (by decide +kernel) (by decide +kernel)
theorem wk_766 : Cond.instanceMethod yX2_put_ ∈ gwt := gw_r (i := 766) (by decide +kernel) (by decide +kernel)
theorem wk_769 : Cond.methodLink RX2 30 yX4_copyFrom ∈ gwt := gw_r (i := 769) (by decide +kernel) (by decide +kernel)
theorem wk_773 : Cond.code yX2_toLowestTerms cX2_toLowestTerms 3 none ∈ gwt := gw_r (i := 773) (by decide +kernel) (by decide +kernel)
theorem wk_p12 : Cond.selects RX2 yX2_toLowestTerms yX2_toLowestTerms ∈ gwt := gw_l (i := 12) (by decide +kernel) (by decide +kernel)
theorem wk_770 : Cond.methodLink RX2 27 yX2_toLowestTerms ∈ gwt := gw_r (i := 770) (by decide +kernel) (by decide +kernel)
theorem wk_772 : Cond.instanceMethod yX2_toLowestTerms ∈ gwt := gw_r (i := 772) (by decide +kernel) (by decide +kernel)
theorem wk_777 : Cond.code yX2_isDividedBy cX2_isDividedBy 2 (some .boolean) ∈ gwt := gw_r (i := 777) (by decide +kernel) (by decide +kernel)
theorem wk_p13 : Cond.selects RX2 yX2_isDividedBy yX2_isDividedBy ∈ gwt := gw_l (i := 13) (by decide +kernel) (by decide +kernel)
theorem wk_774 : Cond.methodLink RX2 34 yX2_isDividedBy ∈ gwt := gw_r (i := 774) (by decide +kernel) (by decide +kernel)
theorem wk_776 : Cond.instanceMethod yX2_isDividedBy ∈ gwt := gw_r (i := 776) (by decide +kernel) (by decide +kernel)
theorem wk_781 : Cond.code yX4_remainder cX4_remainder 5 (some .int) ∈ gwt := gw_r (i := 781) (by decide +kernel) (by decide +kernel)
theorem wk_780 : Cond.selects RX4 yX4_remainder yX4_remainder ∈ gwt := gw_r (i := 780) (by decide +kernel) (by decide +kernel)
theorem wk_778 : Cond.methodLink RX2 41 yX4_remainder ∈ gwt := gw_r (i := 778) (by decide +kernel) (by decide +kernel)
theorem wk_779 : Cond.instanceMethod yX4_remainder ∈ gwt := gw_r (i := 779) (by decide +kernel) (by decide +kernel)
theorem wk_782 : Cond.methodLink RX2 38 yX4_divide ∈ gwt := gw_r (i := 782) (by decide +kernel) (by decide +kernel)
theorem wk_786 : Cond.code yX11_turns cX11_turns 5 (some .int) ∈ gwt := gw_r (i := 786) (by decide +kernel) (by decide +kernel)
theorem wk_785 : Cond.selects RX11 yX11_turns yX11_turns ∈ gwt := gw_r (i := 785) (by decide +kernel) (by decide +kernel)
theorem wk_783 : Cond.methodLink RL 111 yX11_turns ∈ gwt := gw_r (i := 783) (by decide +kernel) (by decide +kernel)
theorem wk_784 : Cond.instanceMethod yX11_turns ∈ gwt := gw_r (i := 784) (by decide +kernel) (by decide +kernel)
theorem wk_790 : Cond.code yX0_isBelow cX0_isBelow 4 (some .boolean) ∈ gwt := gw_r (i := 790) (by decide +kernel) (by decide +kernel)
theorem wk_789 : Cond.selects RX0 yX0_isBelow yX0_isBelow ∈ gwt := gw_r (i := 789) (by decide +kernel) (by decide +kernel)
theorem wk_787 : Cond.methodLink RX11 222 yX0_isBelow ∈ gwt := gw_r (i := 787) (by decide +kernel) (by decide +kernel)
theorem wk_788 : Cond.instanceMethod yX0_isBelow ∈ gwt := gw_r (i := 788) (by decide +kernel) (by decide +kernel)
theorem wk_794 : Cond.code yX4_isLessThan cX4_isLessThan 3 (some .boolean) ∈ gwt := gw_r (i := 794) (by decide +kernel) (by decide +kernel)
theorem wk_793 : Cond.selects RX4 yX4_isLessThan yX4_isLessThan ∈ gwt := gw_r (i := 793) (by decide +kernel) (by decide +kernel)
theorem wk_791 : Cond.methodLink RX0 97 yX4_isLessThan ∈ gwt := gw_r (i := 791) (by decide +kernel) (by decide +kernel)
theorem wk_792 : Cond.instanceMethod yX4_isLessThan ∈ gwt := gw_r (i := 792) (by decide +kernel) (by decide +kernel)
theorem wk_798 : Cond.code yX11_girl cX11_girl 3 (some .int) ∈ gwt := gw_r (i := 798) (by decide +kernel) (by decide +kernel)
theorem wk_797 : Cond.selects RX11 yX11_girl yX11_girl ∈ gwt := gw_r (i := 797) (by decide +kernel) (by decide +kernel)
theorem wk_795 : Cond.methodLink RL 115 yX11_girl ∈ gwt := gw_r (i := 795) (by decide +kernel) (by decide +kernel)
theorem wk_796 : Cond.instanceMethod yX11_girl ∈ gwt := gw_r (i := 796) (by decide +kernel) (by decide +kernel)
theorem wk_802 : Cond.code yX11_gets cX11_gets 1 (some .int) ∈ gwt := gw_r (i := 802) (by decide +kernel) (by decide +kernel)
theorem wk_801 : Cond.selects RX11 yX11_gets yX11_gets ∈ gwt := gw_r (i := 801) (by decide +kernel) (by decide +kernel)
theorem wk_799 : Cond.methodLink RL 119 yX11_gets ∈ gwt := gw_r (i := 799) (by decide +kernel) (by decide +kernel)
theorem wk_800 : Cond.instanceMethod yX11_gets ∈ gwt := gw_r (i := 800) (by decide +kernel) (by decide +kernel)
theorem wk_806 : Cond.code yX3_gotten cX3_gotten 2 (some .int) ∈ gwt := gw_r (i := 806) (by decide +kernel) (by decide +kernel)
theorem wk_805 : Cond.selects RX3 yX3_gotten yX3_gotten ∈ gwt := gw_r (i := 805) (by decide +kernel) (by decide +kernel)
theorem wk_803 : Cond.methodLink RX11 228 yX3_gotten ∈ gwt := gw_r (i := 803) (by decide +kernel) (by decide +kernel)
theorem wk_804 : Cond.instanceMethod yX3_gotten ∈ gwt := gw_r (i := 804) (by decide +kernel) (by decide +kernel)
theorem wk_810 : Cond.code yX3_findBetterAlike cX3_findBetterAlike 4 none ∈ gwt := gw_r (i := 810) (by decide +kernel) (by decide +kernel)
theorem wk_p14 : Cond.selects RX3 yX3_findBetterAlike yX3_findBetterAlike ∈ gwt := gw_l (i := 14) (by decide +kernel) (by decide +kernel)
theorem wk_807 : Cond.methodLink RX3 97 yX3_findBetterAlike ∈ gwt := gw_r (i := 807) (by decide +kernel) (by decide +kernel)
theorem wk_809 : Cond.instanceMethod yX3_findBetterAlike ∈ gwt := gw_r (i := 809) (by decide +kernel) (by decide +kernel)
theorem wk_814 : Cond.code yX3_gottenOf cX3_gottenOf 4 (some .int) ∈ gwt := gw_r (i := 814) (by decide +kernel) (by decide +kernel)
theorem wk_p15 : Cond.selects RX3 yX3_gottenOf yX3_gottenOf ∈ gwt := gw_l (i := 15) (by decide +kernel) (by decide +kernel)
theorem wk_811 : Cond.methodLink RX3 100 yX3_gottenOf ∈ gwt := gw_r (i := 811) (by decide +kernel) (by decide +kernel)
theorem wk_813 : Cond.instanceMethod yX3_gottenOf ∈ gwt := gw_r (i := 813) (by decide +kernel) (by decide +kernel)
theorem wk_818 : Cond.code yX11_share cX11_share 2 (some .int) ∈ gwt := gw_r (i := 818) (by decide +kernel) (by decide +kernel)
theorem wk_817 : Cond.selects RX11 yX11_share yX11_share ∈ gwt := gw_r (i := 817) (by decide +kernel) (by decide +kernel)
theorem wk_815 : Cond.methodLink RL 123 yX11_share ∈ gwt := gw_r (i := 815) (by decide +kernel) (by decide +kernel)
theorem wk_816 : Cond.instanceMethod yX11_share ∈ gwt := gw_r (i := 816) (by decide +kernel) (by decide +kernel)
theorem wk_819 : Cond.methodLink RX11 231 yX3_weightOf ∈ gwt := gw_r (i := 819) (by decide +kernel) (by decide +kernel)
theorem wk_820 : Cond.methodLink RX11 234 yX3_allWords ∈ gwt := gw_r (i := 820) (by decide +kernel) (by decide +kernel)
theorem wk_824 : Cond.code yX2_put cX2_put 3 none ∈ gwt := gw_r (i := 824) (by decide +kernel) (by decide +kernel)
theorem wk_823 : Cond.selects RX2 yX2_put yX2_put ∈ gwt := gw_r (i := 823) (by decide +kernel) (by decide +kernel)
theorem wk_821 : Cond.methodLink RX11 237 yX2_put ∈ gwt := gw_r (i := 821) (by decide +kernel) (by decide +kernel)
theorem wk_822 : Cond.instanceMethod yX2_put ∈ gwt := gw_r (i := 822) (by decide +kernel) (by decide +kernel)
theorem wk_828 : Cond.code yX11_teach cX11_teach 2 (some .int) ∈ gwt := gw_r (i := 828) (by decide +kernel) (by decide +kernel)
theorem wk_827 : Cond.selects RX11 yX11_teach yX11_teach ∈ gwt := gw_r (i := 827) (by decide +kernel) (by decide +kernel)
theorem wk_825 : Cond.methodLink RL 127 yX11_teach ∈ gwt := gw_r (i := 825) (by decide +kernel) (by decide +kernel)
theorem wk_826 : Cond.instanceMethod yX11_teach ∈ gwt := gw_r (i := 826) (by decide +kernel) (by decide +kernel)
theorem wk_829 : Cond.methodLink RX11 241 yJ6_bitCount_0f7a4 ∈ gwt := gw_r (i := 829) (by decide +kernel) (by decide +kernel)
theorem wk_833 : Cond.code yX3_bestTaught cX3_bestTaught 6 (some .int) ∈ gwt := gw_r (i := 833) (by decide +kernel) (by decide +kernel)
theorem wk_832 : Cond.selects RX3 yX3_bestTaught yX3_bestTaught ∈ gwt := gw_r (i := 832) (by decide +kernel) (by decide +kernel)
theorem wk_830 : Cond.methodLink RX11 246 yX3_bestTaught ∈ gwt := gw_r (i := 830) (by decide +kernel) (by decide +kernel)
theorem wk_831 : Cond.instanceMethod yX3_bestTaught ∈ gwt := gw_r (i := 831) (by decide +kernel) (by decide +kernel)
theorem wk_837 : Cond.code yX11_band cX11_band 4 (some .int) ∈ gwt := gw_r (i := 837) (by decide +kernel) (by decide +kernel)
theorem wk_836 : Cond.selects RX11 yX11_band yX11_band ∈ gwt := gw_r (i := 836) (by decide +kernel) (by decide +kernel)
theorem wk_834 : Cond.methodLink RL 131 yX11_band ∈ gwt := gw_r (i := 834) (by decide +kernel) (by decide +kernel)
theorem wk_835 : Cond.instanceMethod yX11_band ∈ gwt := gw_r (i := 835) (by decide +kernel) (by decide +kernel)
theorem wk_841 : Cond.code yX11_heard cX11_heard 5 (some .int) ∈ gwt := gw_r (i := 841) (by decide +kernel) (by decide +kernel)
theorem wk_840 : Cond.selects RX11 yX11_heard yX11_heard ∈ gwt := gw_r (i := 840) (by decide +kernel) (by decide +kernel)
theorem wk_838 : Cond.methodLink RL 135 yX11_heard ∈ gwt := gw_r (i := 838) (by decide +kernel) (by decide +kernel)
theorem wk_839 : Cond.instanceMethod yX11_heard ∈ gwt := gw_r (i := 839) (by decide +kernel) (by decide +kernel)
theorem wk_845 : Cond.code yX11_anew cX11_anew 3 (some .int) ∈ gwt := gw_r (i := 845) (by decide +kernel) (by decide +kernel)
theorem wk_844 : Cond.selects RX11 yX11_anew yX11_anew ∈ gwt := gw_r (i := 844) (by decide +kernel) (by decide +kernel)
theorem wk_842 : Cond.methodLink RL 139 yX11_anew ∈ gwt := gw_r (i := 842) (by decide +kernel) (by decide +kernel)
theorem wk_843 : Cond.instanceMethod yX11_anew ∈ gwt := gw_r (i := 843) (by decide +kernel) (by decide +kernel)
theorem wk_849 : Cond.code yX10_search cX10_search 7 none ∈ gwt := gw_r (i := 849) (by decide +kernel) (by decide +kernel)
theorem wk_10 : Cond.initialized RX10 ∈ gwt := gw_r (i := 10) (by decide +kernel) (by decide +kernel)
theorem wk_848 : Cond.selects RX10 yX10_search yX10_search ∈ gwt := gw_r (i := 848) (by decide +kernel) (by decide +kernel)
theorem wk_846 : Cond.methodLink RX11 255 yX10_search ∈ gwt := gw_r (i := 846) (by decide +kernel) (by decide +kernel)
theorem wk_847 : Cond.instanceMethod yX10_search ∈ gwt := gw_r (i := 847) (by decide +kernel) (by decide +kernel)
theorem wk_854 : Cond.code yX10_findReaders cX10_findReaders 5 none ∈ gwt := gw_r (i := 854) (by decide +kernel) (by decide +kernel)
theorem wk_p16 : Cond.selects RX10 yX10_findReaders yX10_findReaders ∈ gwt := gw_l (i := 16) (by decide +kernel) (by decide +kernel)
theorem wk_851 : Cond.methodLink RX10 43 yX10_findReaders ∈ gwt := gw_r (i := 851) (by decide +kernel) (by decide +kernel)
theorem wk_853 : Cond.instanceMethod yX10_findReaders ∈ gwt := gw_r (i := 853) (by decide +kernel) (by decide +kernel)
theorem wk_855 : Cond.methodLink RX10 64 yX1_mayRead ∈ gwt := gw_r (i := 855) (by decide +kernel) (by decide +kernel)
theorem wk_859 : Cond.code yX10_joinWays cX10_joinWays 6 none ∈ gwt := gw_r (i := 859) (by decide +kernel) (by decide +kernel)
theorem wk_p17 : Cond.selects RX10 yX10_joinWays yX10_joinWays ∈ gwt := gw_l (i := 17) (by decide +kernel) (by decide +kernel)
theorem wk_856 : Cond.methodLink RX10 68 yX10_joinWays ∈ gwt := gw_r (i := 856) (by decide +kernel) (by decide +kernel)
theorem wk_858 : Cond.instanceMethod yX10_joinWays ∈ gwt := gw_r (i := 858) (by decide +kernel) (by decide +kernel)
theorem wk_860 : Cond.methodLink RX10 72 yX1_faceEachOther ∈ gwt := gw_r (i := 860) (by decide +kernel) (by decide +kernel)
theorem wk_864 : Cond.code yX10_countPairs cX10_countPairs 4 none ∈ gwt := gw_r (i := 864) (by decide +kernel) (by decide +kernel)
theorem wk_p18 : Cond.selects RX10 yX10_countPairs yX10_countPairs ∈ gwt := gw_l (i := 18) (by decide +kernel) (by decide +kernel)
theorem wk_861 : Cond.methodLink RX10 47 yX10_countPairs ∈ gwt := gw_r (i := 861) (by decide +kernel) (by decide +kernel)
theorem wk_863 : Cond.instanceMethod yX10_countPairs ∈ gwt := gw_r (i := 863) (by decide +kernel) (by decide +kernel)
theorem wk_865 : Cond.methodLink RX10 76 yJ6_bitCount_0f7a4 ∈ gwt := gw_r (i := 865) (by decide +kernel) (by decide +kernel)
theorem wk_870 : Cond.code yX10_turnToNext cX10_turnToNext 3 (some .int) ∈ gwt := gw_r (i := 870) (by decide +kernel) (by decide +kernel)
theorem wk_p19 : Cond.selects RX10 yX10_turnToNext yX10_turnToNext ∈ gwt := gw_l (i := 19) (by decide +kernel) (by decide +kernel)
theorem wk_867 : Cond.methodLink RX10 60 yX10_turnToNext ∈ gwt := gw_r (i := 867) (by decide +kernel) (by decide +kernel)
theorem wk_869 : Cond.instanceMethod yX10_turnToNext ∈ gwt := gw_r (i := 869) (by decide +kernel) (by decide +kernel)
theorem wk_874 : Cond.code yX10_bestWayOf cX10_bestWayOf 2 (some .int) ∈ gwt := gw_r (i := 874) (by decide +kernel) (by decide +kernel)
theorem wk_873 : Cond.selects RX10 yX10_bestWayOf yX10_bestWayOf ∈ gwt := gw_r (i := 873) (by decide +kernel) (by decide +kernel)
theorem wk_871 : Cond.methodLink RX11 262 yX10_bestWayOf ∈ gwt := gw_r (i := 871) (by decide +kernel) (by decide +kernel)
theorem wk_872 : Cond.instanceMethod yX10_bestWayOf ∈ gwt := gw_r (i := 872) (by decide +kernel) (by decide +kernel)
theorem wk_879 : Cond.code yX11_type cX11_type 4 (some .int) ∈ gwt := gw_r (i := 879) (by decide +kernel) (by decide +kernel)
theorem wk_878 : Cond.selects RX11 yX11_type yX11_type ∈ gwt := gw_r (i := 878) (by decide +kernel) (by decide +kernel)
theorem wk_876 : Cond.methodLink RL 145 yX11_type ∈ gwt := gw_r (i := 876) (by decide +kernel) (by decide +kernel)
theorem wk_877 : Cond.instanceMethod yX11_type ∈ gwt := gw_r (i := 877) (by decide +kernel) (by decide +kernel)
theorem wk_883 : Cond.code yX9_add cX9_add 5 (some .int) ∈ gwt := gw_r (i := 883) (by decide +kernel) (by decide +kernel)
theorem wk_11 : Cond.initialized RX9 ∈ gwt := gw_r (i := 11) (by decide +kernel) (by decide +kernel)
theorem wk_882 : Cond.selects RX9 yX9_add yX9_add ∈ gwt := gw_r (i := 882) (by decide +kernel) (by decide +kernel)
theorem wk_880 : Cond.methodLink RX11 265 yX9_add ∈ gwt := gw_r (i := 880) (by decide +kernel) (by decide +kernel)
theorem wk_881 : Cond.instanceMethod yX9_add ∈ gwt := gw_r (i := 881) (by decide +kernel) (by decide +kernel)
theorem wk_889 : Cond.code yX11_erase cX11_erase 2 (some .int) ∈ gwt := gw_r (i := 889) (by decide +kernel) (by decide +kernel)
theorem wk_888 : Cond.selects RX11 yX11_erase yX11_erase ∈ gwt := gw_r (i := 888) (by decide +kernel) (by decide +kernel)
theorem wk_886 : Cond.methodLink RL 150 yX11_erase ∈ gwt := gw_r (i := 886) (by decide +kernel) (by decide +kernel)
theorem wk_887 : Cond.instanceMethod yX11_erase ∈ gwt := gw_r (i := 887) (by decide +kernel) (by decide +kernel)
theorem wk_893 : Cond.code yX11_shed cX11_shed 3 (some .int) ∈ gwt := gw_r (i := 893) (by decide +kernel) (by decide +kernel)
theorem wk_892 : Cond.selects RX11 yX11_shed yX11_shed ∈ gwt := gw_r (i := 892) (by decide +kernel) (by decide +kernel)
theorem wk_890 : Cond.methodLink RL 154 yX11_shed ∈ gwt := gw_r (i := 890) (by decide +kernel) (by decide +kernel)
theorem wk_891 : Cond.instanceMethod yX11_shed ∈ gwt := gw_r (i := 891) (by decide +kernel) (by decide +kernel)
theorem wk_897 : Cond.code yX9_readItems cX9_readItems 3 (some .int) ∈ gwt := gw_r (i := 897) (by decide +kernel) (by decide +kernel)
theorem wk_896 : Cond.selects RX9 yX9_readItems yX9_readItems ∈ gwt := gw_r (i := 896) (by decide +kernel) (by decide +kernel)
theorem wk_894 : Cond.methodLink RX11 271 yX9_readItems ∈ gwt := gw_r (i := 894) (by decide +kernel) (by decide +kernel)
theorem wk_895 : Cond.instanceMethod yX9_readItems ∈ gwt := gw_r (i := 895) (by decide +kernel) (by decide +kernel)
theorem wk_901 : Cond.code yX9_nextToken cX9_nextToken 2 none ∈ gwt := gw_r (i := 901) (by decide +kernel) (by decide +kernel)
theorem wk_p20 : Cond.selects RX9 yX9_nextToken yX9_nextToken ∈ gwt := gw_l (i := 20) (by decide +kernel) (by decide +kernel)
theorem wk_898 : Cond.methodLink RX9 42 yX9_nextToken ∈ gwt := gw_r (i := 898) (by decide +kernel) (by decide +kernel)
theorem wk_900 : Cond.instanceMethod yX9_nextToken ∈ gwt := gw_r (i := 900) (by decide +kernel) (by decide +kernel)
theorem wk_905 : Cond.code yX9_endOfRun cX9_endOfRun 6 (some .int) ∈ gwt := gw_r (i := 905) (by decide +kernel) (by decide +kernel)
theorem wk_p21 : Cond.selects RX9 yX9_endOfRun yX9_endOfRun ∈ gwt := gw_l (i := 21) (by decide +kernel) (by decide +kernel)
theorem wk_902 : Cond.methodLink RX9 64 yX9_endOfRun ∈ gwt := gw_r (i := 902) (by decide +kernel) (by decide +kernel)
theorem wk_904 : Cond.instanceMethod yX9_endOfRun ∈ gwt := gw_r (i := 904) (by decide +kernel) (by decide +kernel)
theorem wk_909 : Cond.code yX9_byteAt cX9_byteAt 2 (some .int) ∈ gwt := gw_r (i := 909) (by decide +kernel) (by decide +kernel)
theorem wk_p22 : Cond.selects RX9 yX9_byteAt yX9_byteAt ∈ gwt := gw_l (i := 22) (by decide +kernel) (by decide +kernel)
theorem wk_906 : Cond.methodLink RX9 68 yX9_byteAt ∈ gwt := gw_r (i := 906) (by decide +kernel) (by decide +kernel)
theorem wk_908 : Cond.instanceMethod yX9_byteAt ∈ gwt := gw_r (i := 908) (by decide +kernel) (by decide +kernel)
theorem wk_913 : Cond.code yX9_readNumber cX9_readNumber 2 none ∈ gwt := gw_r (i := 913) (by decide +kernel) (by decide +kernel)
theorem wk_p23 : Cond.selects RX9 yX9_readNumber yX9_readNumber ∈ gwt := gw_l (i := 23) (by decide +kernel) (by decide +kernel)
theorem wk_910 : Cond.methodLink RX9 72 yX9_readNumber ∈ gwt := gw_r (i := 910) (by decide +kernel) (by decide +kernel)
theorem wk_912 : Cond.instanceMethod yX9_readNumber ∈ gwt := gw_r (i := 912) (by decide +kernel) (by decide +kernel)
theorem wk_917 : Cond.code yX9_kindNamed cX9_kindNamed 2 (some .int) ∈ gwt := gw_r (i := 917) (by decide +kernel) (by decide +kernel)
theorem wk_p24 : Cond.selects RX9 yX9_kindNamed yX9_kindNamed ∈ gwt := gw_l (i := 24) (by decide +kernel) (by decide +kernel)
theorem wk_914 : Cond.methodLink RX9 75 yX9_kindNamed ∈ gwt := gw_r (i := 914) (by decide +kernel) (by decide +kernel)
theorem wk_916 : Cond.instanceMethod yX9_kindNamed ∈ gwt := gw_r (i := 916) (by decide +kernel) (by decide +kernel)
theorem wk_920 : Cond.code yX9_nameOf cX9_nameOf 1 (some (.object "java/lang/String")) ∈ gwt := gw_r (i := 920) (by decide +kernel) (by decide +kernel)
theorem wk_918 : Cond.methodLink RX9 79 yX9_nameOf ∈ gwt := gw_r (i := 918) (by decide +kernel) (by decide +kernel)
theorem wk_919 : Cond.static yX9_nameOf ∈ gwt := gw_r (i := 919) (by decide +kernel) (by decide +kernel)
theorem wk_931 : Cond.code yX9_tokenSpells cX9_tokenSpells 3 (some .boolean) ∈ gwt := gw_r (i := 931) (by decide +kernel) (by decide +kernel)
theorem wk_p25 : Cond.selects RX9 yX9_tokenSpells yX9_tokenSpells ∈ gwt := gw_l (i := 25) (by decide +kernel) (by decide +kernel)
theorem wk_928 : Cond.methodLink RX9 83 yX9_tokenSpells ∈ gwt := gw_r (i := 928) (by decide +kernel) (by decide +kernel)
theorem wk_930 : Cond.instanceMethod yX9_tokenSpells ∈ gwt := gw_r (i := 930) (by decide +kernel) (by decide +kernel)
theorem wk_935 : Cond.code yJ0_length_8abf5 cJ0_length_8abf5 1 (some .int) ∈ gwt := gw_r (i := 935) (by decide +kernel) (by decide +kernel)
theorem wk_17 : Cond.initialized RJ0 ∈ gwt := gw_r (i := 17) (by decide +kernel) (by decide +kernel)
theorem wk_934 : Cond.selects RJ0 yJ0_length_8abf5 yJ0_length_8abf5 ∈ gwt := gw_r (i := 934) (by decide +kernel) (by decide +kernel)
theorem wk_932 : Cond.methodLink RX9 87 yJ0_length_8abf5 ∈ gwt := gw_r (i := 932) (by decide +kernel) (by decide +kernel)
theorem wk_933 : Cond.instanceMethod yJ0_length_8abf5 ∈ gwt := gw_r (i := 933) (by decide +kernel) (by decide +kernel)
theorem wk_939 : Cond.code yJ0_coder_7d493 cJ0_coder_7d493 1 (some .byte) ∈ gwt := gw_r (i := 939) (by decide +kernel) (by decide +kernel)
theorem wk_938 : Cond.selects RJ0 yJ0_coder_7d493 yJ0_coder_7d493 ∈ gwt := gw_r (i := 938) (by decide +kernel) (by decide +kernel)
theorem wk_936 : Cond.methodLink RJ0 335 yJ0_coder_7d493 ∈ gwt := gw_r (i := 936) (by decide +kernel) (by decide +kernel)
theorem wk_937 : Cond.instanceMethod yJ0_coder_7d493 ∈ gwt := gw_r (i := 937) (by decide +kernel) (by decide +kernel)
theorem wk_945 : Cond.code yJ0_charAt_5068e cJ0_charAt_5068e 2 (some .char) ∈ gwt := gw_r (i := 945) (by decide +kernel) (by decide +kernel)
theorem wk_944 : Cond.selects RJ0 yJ0_charAt_5068e yJ0_charAt_5068e ∈ gwt := gw_r (i := 944) (by decide +kernel) (by decide +kernel)
theorem wk_942 : Cond.methodLink RX9 92 yJ0_charAt_5068e ∈ gwt := gw_r (i := 942) (by decide +kernel) (by decide +kernel)
theorem wk_943 : Cond.instanceMethod yJ0_charAt_5068e ∈ gwt := gw_r (i := 943) (by decide +kernel) (by decide +kernel)
theorem wk_949 : Cond.code yJ0_isLatin1_aae02 cJ0_isLatin1_aae02 1 (some .boolean) ∈ gwt := gw_r (i := 949) (by decide +kernel) (by decide +kernel)
theorem wk_948 : Cond.selects RJ0 yJ0_isLatin1_aae02 yJ0_isLatin1_aae02 ∈ gwt := gw_r (i := 948) (by decide +kernel) (by decide +kernel)
theorem wk_946 : Cond.methodLink RJ0 492 yJ0_isLatin1_aae02 ∈ gwt := gw_r (i := 946) (by decide +kernel) (by decide +kernel)
theorem wk_947 : Cond.instanceMethod yJ0_isLatin1_aae02 ∈ gwt := gw_r (i := 947) (by decide +kernel) (by decide +kernel)
theorem wk_952 : Cond.code yJ1_charAt_3b067 cJ1_charAt_3b067 2 (some .char) ∈ gwt := gw_r (i := 952) (by decide +kernel) (by decide +kernel)
theorem wk_18 : Cond.initialized RJ1 ∈ gwt := gw_r (i := 18) (by decide +kernel) (by decide +kernel)
theorem wk_950 : Cond.methodLink RJ0 495 yJ1_charAt_3b067 ∈ gwt := gw_r (i := 950) (by decide +kernel) (by decide +kernel)
theorem wk_951 : Cond.static yJ1_charAt_3b067 ∈ gwt := gw_r (i := 951) (by decide +kernel) (by decide +kernel)
theorem wk_955 : Cond.code yJ0_checkIndex_df160 cJ0_checkIndex_df160 2 none ∈ gwt := gw_r (i := 955) (by decide +kernel) (by decide +kernel)
theorem wk_953 : Cond.methodLink RJ1 9 yJ0_checkIndex_df160 ∈ gwt := gw_r (i := 953) (by decide +kernel) (by decide +kernel)
theorem wk_954 : Cond.static yJ0_checkIndex_df160 ∈ gwt := gw_r (i := 954) (by decide +kernel) (by decide +kernel)
theorem wk_960 : Cond.code yJ3_checkIndex_8e157 cJ3_checkIndex_8e157 3 (some .int) ∈ gwt := gw_r (i := 960) (by decide +kernel) (by decide +kernel)
theorem wk_19 : Cond.initialized RJ3 ∈ gwt := gw_r (i := 19) (by decide +kernel) (by decide +kernel)
theorem wk_958 : Cond.methodLink RJ0 1059 yJ3_checkIndex_8e157 ∈ gwt := gw_r (i := 958) (by decide +kernel) (by decide +kernel)
theorem wk_959 : Cond.static yJ3_checkIndex_8e157 ∈ gwt := gw_r (i := 959) (by decide +kernel) (by decide +kernel)
theorem wk_963 : Cond.code yJ2_charAt_3b067 cJ2_charAt_3b067 2 (some .char) ∈ gwt := gw_r (i := 963) (by decide +kernel) (by decide +kernel)
theorem wk_20 : Cond.initialized RJ2 ∈ gwt := gw_r (i := 20) (by decide +kernel) (by decide +kernel)
theorem wk_961 : Cond.methodLink RJ0 498 yJ2_charAt_3b067 ∈ gwt := gw_r (i := 961) (by decide +kernel) (by decide +kernel)
theorem wk_962 : Cond.static yJ2_charAt_3b067 ∈ gwt := gw_r (i := 962) (by decide +kernel) (by decide +kernel)
theorem wk_966 : Cond.code yJ2_checkIndex_2214a cJ2_checkIndex_2214a 2 none ∈ gwt := gw_r (i := 966) (by decide +kernel) (by decide +kernel)
theorem wk_964 : Cond.methodLink RJ2 67 yJ2_checkIndex_2214a ∈ gwt := gw_r (i := 964) (by decide +kernel) (by decide +kernel)
theorem wk_965 : Cond.static yJ2_checkIndex_2214a ∈ gwt := gw_r (i := 965) (by decide +kernel) (by decide +kernel)
theorem wk_969 : Cond.code yJ2_length_9d52b cJ2_length_9d52b 1 (some .int) ∈ gwt := gw_r (i := 969) (by decide +kernel) (by decide +kernel)
theorem wk_967 : Cond.methodLink RJ2 48 yJ2_length_9d52b ∈ gwt := gw_r (i := 967) (by decide +kernel) (by decide +kernel)
theorem wk_968 : Cond.static yJ2_length_9d52b ∈ gwt := gw_r (i := 968) (by decide +kernel) (by decide +kernel)
theorem wk_970 : Cond.methodLink RJ2 414 yJ0_checkIndex_df160 ∈ gwt := gw_r (i := 970) (by decide +kernel) (by decide +kernel)
theorem wk_973 : Cond.code yJ2_getChar_3b067 cJ2_getChar_3b067 2 (some .char) ∈ gwt := gw_r (i := 973) (by decide +kernel) (by decide +kernel)
theorem wk_971 : Cond.methodLink RJ2 71 yJ2_getChar_3b067 ∈ gwt := gw_r (i := 971) (by decide +kernel) (by decide +kernel)
theorem wk_972 : Cond.static yJ2_getChar_3b067 ∈ gwt := gw_r (i := 972) (by decide +kernel) (by decide +kernel)
theorem wk_983 : Cond.code yX9_readNumbers cX9_readNumbers 4 (some .int) ∈ gwt := gw_r (i := 983) (by decide +kernel) (by decide +kernel)
theorem wk_p26 : Cond.selects RX9 yX9_readNumbers yX9_readNumbers ∈ gwt := gw_l (i := 26) (by decide +kernel) (by decide +kernel)
theorem wk_980 : Cond.methodLink RX9 51 yX9_readNumbers ∈ gwt := gw_r (i := 980) (by decide +kernel) (by decide +kernel)
theorem wk_982 : Cond.instanceMethod yX9_readNumbers ∈ gwt := gw_r (i := 982) (by decide +kernel) (by decide +kernel)
theorem wk_991 : Cond.code yX7_copyFrom cX7_copyFrom 2 none ∈ gwt := gw_r (i := 991) (by decide +kernel) (by decide +kernel)
theorem wk_2 : Cond.initialized RX7 ∈ gwt := gw_r (i := 2) (by decide +kernel) (by decide +kernel)
theorem wk_990 : Cond.selects RX7 yX7_copyFrom yX7_copyFrom ∈ gwt := gw_r (i := 990) (by decide +kernel) (by decide +kernel)
theorem wk_988 : Cond.methodLink RX11 274 yX7_copyFrom ∈ gwt := gw_r (i := 988) (by decide +kernel) (by decide +kernel)
theorem wk_989 : Cond.instanceMethod yX7_copyFrom ∈ gwt := gw_r (i := 989) (by decide +kernel) (by decide +kernel)
theorem wk_995 : Cond.code yX1_copyFrom cX1_copyFrom 2 none ∈ gwt := gw_r (i := 995) (by decide +kernel) (by decide +kernel)
theorem wk_994 : Cond.selects RX1 yX1_copyFrom yX1_copyFrom ∈ gwt := gw_r (i := 994) (by decide +kernel) (by decide +kernel)
theorem wk_992 : Cond.methodLink RX7 41 yX1_copyFrom ∈ gwt := gw_r (i := 992) (by decide +kernel) (by decide +kernel)
theorem wk_993 : Cond.instanceMethod yX1_copyFrom ∈ gwt := gw_r (i := 993) (by decide +kernel) (by decide +kernel)
theorem wk_1000 : Cond.code yX8_copyFrom cX8_copyFrom 2 none ∈ gwt := gw_r (i := 1000) (by decide +kernel) (by decide +kernel)
theorem wk_999 : Cond.selects RX8 yX8_copyFrom yX8_copyFrom ∈ gwt := gw_r (i := 999) (by decide +kernel) (by decide +kernel)
theorem wk_997 : Cond.methodLink RX7 45 yX8_copyFrom ∈ gwt := gw_r (i := 997) (by decide +kernel) (by decide +kernel)
theorem wk_998 : Cond.instanceMethod yX8_copyFrom ∈ gwt := gw_r (i := 998) (by decide +kernel) (by decide +kernel)
theorem wk_1005 : Cond.code yX3_copyFrom cX3_copyFrom 2 none ∈ gwt := gw_r (i := 1005) (by decide +kernel) (by decide +kernel)
theorem wk_1004 : Cond.selects RX3 yX3_copyFrom yX3_copyFrom ∈ gwt := gw_r (i := 1004) (by decide +kernel) (by decide +kernel)
theorem wk_1002 : Cond.methodLink RX7 48 yX3_copyFrom ∈ gwt := gw_r (i := 1002) (by decide +kernel) (by decide +kernel)
theorem wk_1003 : Cond.instanceMethod yX3_copyFrom ∈ gwt := gw_r (i := 1003) (by decide +kernel) (by decide +kernel)
theorem wk_1011 : Cond.code yX7_beginAnew cX7_beginAnew 1 none ∈ gwt := gw_r (i := 1011) (by decide +kernel) (by decide +kernel)
theorem wk_1010 : Cond.selects RX7 yX7_beginAnew yX7_beginAnew ∈ gwt := gw_r (i := 1010) (by decide +kernel) (by decide +kernel)
theorem wk_1008 : Cond.methodLink RX11 278 yX7_beginAnew ∈ gwt := gw_r (i := 1008) (by decide +kernel) (by decide +kernel)
theorem wk_1009 : Cond.instanceMethod yX7_beginAnew ∈ gwt := gw_r (i := 1009) (by decide +kernel) (by decide +kernel)
theorem wk_1012 : Cond.methodLink RX7 57 yX1_makeEmpty ∈ gwt := gw_r (i := 1012) (by decide +kernel) (by decide +kernel)
theorem wk_1013 : Cond.methodLink RX7 63 yX3_makeEmpty ∈ gwt := gw_r (i := 1013) (by decide +kernel) (by decide +kernel)
theorem wk_1017 : Cond.code yX9_tellItem cX9_tellItem 5 (some .int) ∈ gwt := gw_r (i := 1017) (by decide +kernel) (by decide +kernel)
theorem wk_1016 : Cond.selects RX9 yX9_tellItem yX9_tellItem ∈ gwt := gw_r (i := 1016) (by decide +kernel) (by decide +kernel)
theorem wk_1014 : Cond.methodLink RX11 284 yX9_tellItem ∈ gwt := gw_r (i := 1014) (by decide +kernel) (by decide +kernel)
theorem wk_1015 : Cond.instanceMethod yX9_tellItem ∈ gwt := gw_r (i := 1015) (by decide +kernel) (by decide +kernel)
theorem wk_1018 : Cond.methodLink RX9 116 yX1_putPillar ∈ gwt := gw_r (i := 1018) (by decide +kernel) (by decide +kernel)
theorem wk_1019 : Cond.methodLink RX9 121 yX1_putWeaver ∈ gwt := gw_r (i := 1019) (by decide +kernel) (by decide +kernel)
theorem wk_1020 : Cond.methodLink RX9 124 yX1_setFree ∈ gwt := gw_r (i := 1020) (by decide +kernel) (by decide +kernel)
theorem wk_1021 : Cond.methodLink RX9 128 yX1_setFar ∈ gwt := gw_r (i := 1021) (by decide +kernel) (by decide +kernel)
theorem wk_1025 : Cond.code yX9_tellWord cX9_tellWord 5 (some .int) ∈ gwt := gw_r (i := 1025) (by decide +kernel) (by decide +kernel)
theorem wk_1023 : Cond.methodLink RX9 140 yX9_tellWord ∈ gwt := gw_r (i := 1023) (by decide +kernel) (by decide +kernel)
theorem wk_1024 : Cond.static yX9_tellWord ∈ gwt := gw_r (i := 1024) (by decide +kernel) (by decide +kernel)
theorem wk_1026 : Cond.methodLink RX9 149 yX3_addWord ∈ gwt := gw_r (i := 1026) (by decide +kernel) (by decide +kernel)
theorem wk_1027 : Cond.methodLink RX9 144 yX3_makeAlike ∈ gwt := gw_r (i := 1027) (by decide +kernel) (by decide +kernel)
theorem wk_1032 : Cond.code yX11_sign cX11_sign 2 (some .int) ∈ gwt := gw_r (i := 1032) (by decide +kernel) (by decide +kernel)
theorem wk_1031 : Cond.selects RX11 yX11_sign yX11_sign ∈ gwt := gw_r (i := 1031) (by decide +kernel) (by decide +kernel)
theorem wk_1029 : Cond.methodLink RL 158 yX11_sign ∈ gwt := gw_r (i := 1029) (by decide +kernel) (by decide +kernel)
theorem wk_1030 : Cond.instanceMethod yX11_sign ∈ gwt := gw_r (i := 1030) (by decide +kernel) (by decide +kernel)
theorem wk_1036 : Cond.code yX2_signNumber cX2_signNumber 1 (some .int) ∈ gwt := gw_r (i := 1036) (by decide +kernel) (by decide +kernel)
theorem wk_1035 : Cond.selects RX2 yX2_signNumber yX2_signNumber ∈ gwt := gw_r (i := 1035) (by decide +kernel) (by decide +kernel)
theorem wk_1033 : Cond.methodLink RX11 288 yX2_signNumber ∈ gwt := gw_r (i := 1033) (by decide +kernel) (by decide +kernel)
theorem wk_1034 : Cond.instanceMethod yX2_signNumber ∈ gwt := gw_r (i := 1034) (by decide +kernel) (by decide +kernel)
theorem wk_1040 : Cond.code yX11_limb cX11_limb 3 (some .int) ∈ gwt := gw_r (i := 1040) (by decide +kernel) (by decide +kernel)
theorem wk_1039 : Cond.selects RX11 yX11_limb yX11_limb ∈ gwt := gw_r (i := 1039) (by decide +kernel) (by decide +kernel)
theorem wk_1037 : Cond.methodLink RL 162 yX11_limb ∈ gwt := gw_r (i := 1037) (by decide +kernel) (by decide +kernel)
theorem wk_1038 : Cond.instanceMethod yX11_limb ∈ gwt := gw_r (i := 1038) (by decide +kernel) (by decide +kernel)
theorem wk_1044 : Cond.code yX4_limbAt cX4_limbAt 2 (some .int) ∈ gwt := gw_r (i := 1044) (by decide +kernel) (by decide +kernel)
theorem wk_1043 : Cond.selects RX4 yX4_limbAt yX4_limbAt ∈ gwt := gw_r (i := 1043) (by decide +kernel) (by decide +kernel)
theorem wk_1041 : Cond.methodLink RX11 303 yX4_limbAt ∈ gwt := gw_r (i := 1041) (by decide +kernel) (by decide +kernel)
theorem wk_1042 : Cond.instanceMethod yX4_limbAt ∈ gwt := gw_r (i := 1042) (by decide +kernel) (by decide +kernel)
theorem wk_1049 : Cond.code yX11_image cX11_image 3 (some .int) ∈ gwt := gw_r (i := 1049) (by decide +kernel) (by decide +kernel)
theorem wk_1048 : Cond.selects RX11 yX11_image yX11_image ∈ gwt := gw_r (i := 1048) (by decide +kernel) (by decide +kernel)
theorem wk_1046 : Cond.methodLink RL 166 yX11_image ∈ gwt := gw_r (i := 1046) (by decide +kernel) (by decide +kernel)
theorem wk_1047 : Cond.instanceMethod yX11_image ∈ gwt := gw_r (i := 1047) (by decide +kernel) (by decide +kernel)
theorem wk_1053 : Cond.code yX11_imageNumbered cX11_imageNumbered 2 (some (.object "ShedTalk$Shed")) ∈ gwt := gw_r (i := 1053) (by decide +kernel) (by decide +kernel)
theorem wk_p27 : Cond.selects RX11 yX11_imageNumbered yX11_imageNumbered ∈ gwt := gw_l (i := 27) (by decide +kernel) (by decide +kernel)
theorem wk_1050 : Cond.methodLink RX11 306 yX11_imageNumbered ∈ gwt := gw_r (i := 1050) (by decide +kernel) (by decide +kernel)
theorem wk_1052 : Cond.instanceMethod yX11_imageNumbered ∈ gwt := gw_r (i := 1052) (by decide +kernel) (by decide +kernel)
theorem wk_1057 : Cond.code yX11_from cX11_from 3 (some .int) ∈ gwt := gw_r (i := 1057) (by decide +kernel) (by decide +kernel)
theorem wk_1056 : Cond.selects RX11 yX11_from yX11_from ∈ gwt := gw_r (i := 1056) (by decide +kernel) (by decide +kernel)
theorem wk_1054 : Cond.methodLink RL 170 yX11_from ∈ gwt := gw_r (i := 1054) (by decide +kernel) (by decide +kernel)
theorem wk_1055 : Cond.instanceMethod yX11_from ∈ gwt := gw_r (i := 1055) (by decide +kernel) (by decide +kernel)
theorem wk_1061 : Cond.code yX11_count cX11_count 2 (some .int) ∈ gwt := gw_r (i := 1061) (by decide +kernel) (by decide +kernel)
theorem wk_1060 : Cond.selects RX11 yX11_count yX11_count ∈ gwt := gw_r (i := 1060) (by decide +kernel) (by decide +kernel)
theorem wk_1058 : Cond.methodLink RL 174 yX11_count ∈ gwt := gw_r (i := 1058) (by decide +kernel) (by decide +kernel)
theorem wk_1059 : Cond.instanceMethod yX11_count ∈ gwt := gw_r (i := 1059) (by decide +kernel) (by decide +kernel)
theorem wk_1064 : Cond.code yJ13_bitCount_95d88 cJ13_bitCount_95d88 2 (some .int) ∈ gwt := gw_r (i := 1064) (by decide +kernel) (by decide +kernel)
theorem wk_21 : Cond.initialized RJ13 ∈ gwt := gw_r (i := 21) (by decide +kernel) (by decide +kernel)
theorem wk_1062 : Cond.methodLink RX11 318 yJ13_bitCount_95d88 ∈ gwt := gw_r (i := 1062) (by decide +kernel) (by decide +kernel)
theorem wk_1063 : Cond.static yJ13_bitCount_95d88 ∈ gwt := gw_r (i := 1063) (by decide +kernel) (by decide +kernel)
theorem wk_1071 : Cond.code yX11_digest cX11_digest 4 (some .long) ∈ gwt := gw_r (i := 1071) (by decide +kernel) (by decide +kernel)
theorem wk_1070 : Cond.selects RX11 yX11_digest yX11_digest ∈ gwt := gw_r (i := 1070) (by decide +kernel) (by decide +kernel)
theorem wk_1068 : Cond.methodLink RL 178 yX11_digest ∈ gwt := gw_r (i := 1068) (by decide +kernel) (by decide +kernel)
theorem wk_1069 : Cond.instanceMethod yX11_digest ∈ gwt := gw_r (i := 1069) (by decide +kernel) (by decide +kernel)
theorem wk_1073 : Cond.methodLink RX11 328 yX11_count ∈ gwt := gw_r (i := 1073) (by decide +kernel) (by decide +kernel)
theorem wk_1076 : Cond.code yX11_mixed cX11_mixed 3 (some .long) ∈ gwt := gw_r (i := 1076) (by decide +kernel) (by decide +kernel)
theorem wk_1074 : Cond.methodLink RX11 331 yX11_mixed ∈ gwt := gw_r (i := 1074) (by decide +kernel) (by decide +kernel)
theorem wk_1075 : Cond.static yX11_mixed ∈ gwt := gw_r (i := 1075) (by decide +kernel) (by decide +kernel)
theorem wk_1081 : Cond.code yX1_digestOnto cX1_digestOnto 6 (some .long) ∈ gwt := gw_r (i := 1081) (by decide +kernel) (by decide +kernel)
theorem wk_1080 : Cond.selects RX1 yX1_digestOnto yX1_digestOnto ∈ gwt := gw_r (i := 1080) (by decide +kernel) (by decide +kernel)
theorem wk_1078 : Cond.methodLink RX11 335 yX1_digestOnto ∈ gwt := gw_r (i := 1078) (by decide +kernel) (by decide +kernel)
theorem wk_1079 : Cond.instanceMethod yX1_digestOnto ∈ gwt := gw_r (i := 1079) (by decide +kernel) (by decide +kernel)
theorem wk_1087 : Cond.code yX8_digestOnto cX8_digestOnto 6 (some .long) ∈ gwt := gw_r (i := 1087) (by decide +kernel) (by decide +kernel)
theorem wk_1086 : Cond.selects RX8 yX8_digestOnto yX8_digestOnto ∈ gwt := gw_r (i := 1086) (by decide +kernel) (by decide +kernel)
theorem wk_1084 : Cond.methodLink RX11 339 yX8_digestOnto ∈ gwt := gw_r (i := 1084) (by decide +kernel) (by decide +kernel)
theorem wk_1085 : Cond.instanceMethod yX8_digestOnto ∈ gwt := gw_r (i := 1085) (by decide +kernel) (by decide +kernel)
theorem wk_1092 : Cond.code yX3_digestWordsOnto cX3_digestWordsOnto 6 (some .long) ∈ gwt := gw_r (i := 1092) (by decide +kernel) (by decide +kernel)
theorem wk_1091 : Cond.selects RX3 yX3_digestWordsOnto yX3_digestWordsOnto ∈ gwt := gw_r (i := 1091) (by decide +kernel) (by decide +kernel)
theorem wk_1089 : Cond.methodLink RX11 340 yX3_digestWordsOnto ∈ gwt := gw_r (i := 1089) (by decide +kernel) (by decide +kernel)
theorem wk_1090 : Cond.instanceMethod yX3_digestWordsOnto ∈ gwt := gw_r (i := 1090) (by decide +kernel) (by decide +kernel)
theorem wk_1097 : Cond.code yX2_digestOnto cX2_digestOnto 5 (some .long) ∈ gwt := gw_r (i := 1097) (by decide +kernel) (by decide +kernel)
theorem wk_1096 : Cond.selects RX2 yX2_digestOnto yX2_digestOnto ∈ gwt := gw_r (i := 1096) (by decide +kernel) (by decide +kernel)
theorem wk_1094 : Cond.methodLink RX11 343 yX2_digestOnto ∈ gwt := gw_r (i := 1094) (by decide +kernel) (by decide +kernel)
theorem wk_1095 : Cond.instanceMethod yX2_digestOnto ∈ gwt := gw_r (i := 1095) (by decide +kernel) (by decide +kernel)
theorem wk_1098 : Cond.methodLink RX2 45 yX2_signNumber ∈ gwt := gw_r (i := 1098) (by decide +kernel) (by decide +kernel)
theorem wk_1103 : Cond.code yX4_digestOnto cX4_digestOnto 6 (some .long) ∈ gwt := gw_r (i := 1103) (by decide +kernel) (by decide +kernel)
theorem wk_1102 : Cond.selects RX4 yX4_digestOnto yX4_digestOnto ∈ gwt := gw_r (i := 1102) (by decide +kernel) (by decide +kernel)
theorem wk_1100 : Cond.methodLink RX2 55 yX4_digestOnto ∈ gwt := gw_r (i := 1100) (by decide +kernel) (by decide +kernel)
theorem wk_1101 : Cond.instanceMethod yX4_digestOnto ∈ gwt := gw_r (i := 1101) (by decide +kernel) (by decide +kernel)
theorem wk_1114 : Cond.code yX12_begins cX12_begins 2 none ∈ gwt := gw_r (i := 1114) (by decide +kernel) (by decide +kernel)
theorem wk_13 : Cond.initialized RX12 ∈ gwt := gw_r (i := 13) (by decide +kernel) (by decide +kernel)
theorem wk_p28 : Cond.selects RX12 yX12_begins yX12_begins ∈ gwt := gw_l (i := 28) (by decide +kernel) (by decide +kernel)
theorem wk_1111 : Cond.methodLink RX12 71 yX12_begins ∈ gwt := gw_r (i := 1111) (by decide +kernel) (by decide +kernel)
theorem wk_1113 : Cond.instanceMethod yX12_begins ∈ gwt := gw_r (i := 1113) (by decide +kernel) (by decide +kernel)
theorem wk_1118 : Cond.code yX12_sets cX12_sets 5 none ∈ gwt := gw_r (i := 1118) (by decide +kernel) (by decide +kernel)
theorem wk_p29 : Cond.selects RX12 yX12_sets yX12_sets ∈ gwt := gw_l (i := 29) (by decide +kernel) (by decide +kernel)
theorem wk_1115 : Cond.methodLink RX12 74 yX12_sets ∈ gwt := gw_r (i := 1115) (by decide +kernel) (by decide +kernel)
theorem wk_1117 : Cond.instanceMethod yX12_sets ∈ gwt := gw_r (i := 1117) (by decide +kernel) (by decide +kernel)
theorem wk_1123 : Cond.code yX12_trims cX12_trims 2 none ∈ gwt := gw_r (i := 1123) (by decide +kernel) (by decide +kernel)
theorem wk_p30 : Cond.selects RX12 yX12_trims yX12_trims ∈ gwt := gw_l (i := 30) (by decide +kernel) (by decide +kernel)
theorem wk_1120 : Cond.methodLink RX12 80 yX12_trims ∈ gwt := gw_r (i := 1120) (by decide +kernel) (by decide +kernel)
theorem wk_1122 : Cond.instanceMethod yX12_trims ∈ gwt := gw_r (i := 1122) (by decide +kernel) (by decide +kernel)
theorem wk_1207 : Cond.code yX12_sign cX12_sign 2 (some .int) ∈ gwt := gw_r (i := 1207) (by decide +kernel) (by decide +kernel)
theorem wk_1206 : Cond.selects RX12 yX12_sign yX12_sign ∈ gwt := gw_r (i := 1206) (by decide +kernel) (by decide +kernel)
theorem wk_1204 : Cond.methodLink RL 161 yX12_sign ∈ gwt := gw_r (i := 1204) (by decide +kernel) (by decide +kernel)
theorem wk_1205 : Cond.instanceMethod yX12_sign ∈ gwt := gw_r (i := 1205) (by decide +kernel) (by decide +kernel)
theorem wk_1211 : Cond.code yX12_limb cX12_limb 3 (some .int) ∈ gwt := gw_r (i := 1211) (by decide +kernel) (by decide +kernel)
theorem wk_1210 : Cond.selects RX12 yX12_limb yX12_limb ∈ gwt := gw_r (i := 1210) (by decide +kernel) (by decide +kernel)
theorem wk_1208 : Cond.methodLink RL 165 yX12_limb ∈ gwt := gw_r (i := 1208) (by decide +kernel) (by decide +kernel)
theorem wk_1209 : Cond.instanceMethod yX12_limb ∈ gwt := gw_r (i := 1209) (by decide +kernel) (by decide +kernel)
theorem wk_1214 : Cond.code yX12_in cX12_in 6 (some .boolean) ∈ gwt := gw_r (i := 1214) (by decide +kernel) (by decide +kernel)
theorem wk_1212 : Cond.methodLink RX12 109 yX12_in ∈ gwt := gw_r (i := 1212) (by decide +kernel) (by decide +kernel)
theorem wk_1213 : Cond.static yX12_in ∈ gwt := gw_r (i := 1213) (by decide +kernel) (by decide +kernel)
theorem wk_1218 : Cond.code yX12_pillar cX12_pillar 2 (some .int) ∈ gwt := gw_r (i := 1218) (by decide +kernel) (by decide +kernel)
theorem wk_1217 : Cond.selects RX12 yX12_pillar yX12_pillar ∈ gwt := gw_r (i := 1217) (by decide +kernel) (by decide +kernel)
theorem wk_1215 : Cond.methodLink RL 17 yX12_pillar ∈ gwt := gw_r (i := 1215) (by decide +kernel) (by decide +kernel)
theorem wk_1216 : Cond.instanceMethod yX12_pillar ∈ gwt := gw_r (i := 1216) (by decide +kernel) (by decide +kernel)
theorem wk_1221 : Cond.code yX12_isPlace cX12_isPlace 1 (some .boolean) ∈ gwt := gw_r (i := 1221) (by decide +kernel) (by decide +kernel)
theorem wk_1219 : Cond.methodLink RX12 119 yX12_isPlace ∈ gwt := gw_r (i := 1219) (by decide +kernel) (by decide +kernel)
theorem wk_1220 : Cond.static yX12_isPlace ∈ gwt := gw_r (i := 1220) (by decide +kernel) (by decide +kernel)
theorem wk_1226 : Cond.code yX12_stands cX12_stands 4 (some .boolean) ∈ gwt := gw_r (i := 1226) (by decide +kernel) (by decide +kernel)
theorem wk_p31 : Cond.selects RX12 yX12_stands yX12_stands ∈ gwt := gw_l (i := 31) (by decide +kernel) (by decide +kernel)
theorem wk_1223 : Cond.methodLink RX12 122 yX12_stands ∈ gwt := gw_r (i := 1223) (by decide +kernel) (by decide +kernel)
theorem wk_1225 : Cond.instanceMethod yX12_stands ∈ gwt := gw_r (i := 1225) (by decide +kernel) (by decide +kernel)
theorem wk_1230 : Cond.code yX12_placeOf cX12_placeOf 2 (some .int) ∈ gwt := gw_r (i := 1230) (by decide +kernel) (by decide +kernel)
theorem wk_p32 : Cond.selects RX12 yX12_placeOf yX12_placeOf ∈ gwt := gw_l (i := 32) (by decide +kernel) (by decide +kernel)
theorem wk_1227 : Cond.methodLink RX12 115 yX12_placeOf ∈ gwt := gw_r (i := 1227) (by decide +kernel) (by decide +kernel)
theorem wk_1229 : Cond.instanceMethod yX12_placeOf ∈ gwt := gw_r (i := 1229) (by decide +kernel) (by decide +kernel)
theorem wk_1234 : Cond.code yX12_weaver cX12_weaver 4 (some .int) ∈ gwt := gw_r (i := 1234) (by decide +kernel) (by decide +kernel)
theorem wk_1233 : Cond.selects RX12 yX12_weaver yX12_weaver ∈ gwt := gw_r (i := 1233) (by decide +kernel) (by decide +kernel)
theorem wk_1231 : Cond.methodLink RL 22 yX12_weaver ∈ gwt := gw_r (i := 1231) (by decide +kernel) (by decide +kernel)
theorem wk_1232 : Cond.instanceMethod yX12_weaver ∈ gwt := gw_r (i := 1232) (by decide +kernel) (by decide +kernel)
theorem wk_1239 : Cond.code yX12_face cX12_face 3 (some .int) ∈ gwt := gw_r (i := 1239) (by decide +kernel) (by decide +kernel)
theorem wk_1238 : Cond.selects RX12 yX12_face yX12_face ∈ gwt := gw_r (i := 1238) (by decide +kernel) (by decide +kernel)
theorem wk_1236 : Cond.methodLink RL 26 yX12_face ∈ gwt := gw_r (i := 1236) (by decide +kernel) (by decide +kernel)
theorem wk_1237 : Cond.instanceMethod yX12_face ∈ gwt := gw_r (i := 1237) (by decide +kernel) (by decide +kernel)
theorem wk_1243 : Cond.code yX12_isWeaver cX12_isWeaver 2 (some .boolean) ∈ gwt := gw_r (i := 1243) (by decide +kernel) (by decide +kernel)
theorem wk_p33 : Cond.selects RX12 yX12_isWeaver yX12_isWeaver ∈ gwt := gw_l (i := 33) (by decide +kernel) (by decide +kernel)
theorem wk_1240 : Cond.methodLink RX12 127 yX12_isWeaver ∈ gwt := gw_r (i := 1240) (by decide +kernel) (by decide +kernel)
theorem wk_1242 : Cond.instanceMethod yX12_isWeaver ∈ gwt := gw_r (i := 1242) (by decide +kernel) (by decide +kernel)
theorem wk_1247 : Cond.code yX12_puts cX12_puts 4 (some .int) ∈ gwt := gw_r (i := 1247) (by decide +kernel) (by decide +kernel)
theorem wk_p34 : Cond.selects RX12 yX12_puts yX12_puts ∈ gwt := gw_l (i := 34) (by decide +kernel) (by decide +kernel)
theorem wk_1244 : Cond.methodLink RX12 130 yX12_puts ∈ gwt := gw_r (i := 1244) (by decide +kernel) (by decide +kernel)
theorem wk_1246 : Cond.instanceMethod yX12_puts ∈ gwt := gw_r (i := 1246) (by decide +kernel) (by decide +kernel)
theorem wk_1251 : Cond.code yX12_free cX12_free 7 (some .int) ∈ gwt := gw_r (i := 1251) (by decide +kernel) (by decide +kernel)
theorem wk_1250 : Cond.selects RX12 yX12_free yX12_free ∈ gwt := gw_r (i := 1250) (by decide +kernel) (by decide +kernel)
theorem wk_1248 : Cond.methodLink RL 31 yX12_free ∈ gwt := gw_r (i := 1248) (by decide +kernel) (by decide +kernel)
theorem wk_1249 : Cond.instanceMethod yX12_free ∈ gwt := gw_r (i := 1249) (by decide +kernel) (by decide +kernel)
theorem wk_1256 : Cond.code yX12_far cX12_far 3 (some .int) ∈ gwt := gw_r (i := 1256) (by decide +kernel) (by decide +kernel)
theorem wk_1255 : Cond.selects RX12 yX12_far yX12_far ∈ gwt := gw_r (i := 1255) (by decide +kernel) (by decide +kernel)
theorem wk_1253 : Cond.methodLink RL 35 yX12_far ∈ gwt := gw_r (i := 1253) (by decide +kernel) (by decide +kernel)
theorem wk_1254 : Cond.instanceMethod yX12_far ∈ gwt := gw_r (i := 1254) (by decide +kernel) (by decide +kernel)
theorem wk_1261 : Cond.code yX12_sees cX12_sees 5 (some .int) ∈ gwt := gw_r (i := 1261) (by decide +kernel) (by decide +kernel)
theorem wk_1260 : Cond.selects RX12 yX12_sees yX12_sees ∈ gwt := gw_r (i := 1260) (by decide +kernel) (by decide +kernel)
theorem wk_1258 : Cond.methodLink RL 40 yX12_sees ∈ gwt := gw_r (i := 1258) (by decide +kernel) (by decide +kernel)
theorem wk_1259 : Cond.instanceMethod yX12_sees ∈ gwt := gw_r (i := 1259) (by decide +kernel) (by decide +kernel)
theorem wk_1265 : Cond.code yX12_areTwo cX12_areTwo 3 (some .boolean) ∈ gwt := gw_r (i := 1265) (by decide +kernel) (by decide +kernel)
theorem wk_p35 : Cond.selects RX12 yX12_areTwo yX12_areTwo ∈ gwt := gw_l (i := 35) (by decide +kernel) (by decide +kernel)
theorem wk_1262 : Cond.methodLink RX12 155 yX12_areTwo ∈ gwt := gw_r (i := 1262) (by decide +kernel) (by decide +kernel)
theorem wk_1264 : Cond.instanceMethod yX12_areTwo ∈ gwt := gw_r (i := 1264) (by decide +kernel) (by decide +kernel)
theorem wk_1269 : Cond.code yX12_areFacing cX12_areFacing 3 (some .boolean) ∈ gwt := gw_r (i := 1269) (by decide +kernel) (by decide +kernel)
theorem wk_p36 : Cond.selects RX12 yX12_areFacing yX12_areFacing ∈ gwt := gw_l (i := 36) (by decide +kernel) (by decide +kernel)
theorem wk_1266 : Cond.methodLink RX12 158 yX12_areFacing ∈ gwt := gw_r (i := 1266) (by decide +kernel) (by decide +kernel)
theorem wk_1268 : Cond.instanceMethod yX12_areFacing ∈ gwt := gw_r (i := 1268) (by decide +kernel) (by decide +kernel)
theorem wk_1273 : Cond.code yX12_faceOf cX12_faceOf 2 (some .int) ∈ gwt := gw_r (i := 1273) (by decide +kernel) (by decide +kernel)
theorem wk_p37 : Cond.selects RX12 yX12_faceOf yX12_faceOf ∈ gwt := gw_l (i := 37) (by decide +kernel) (by decide +kernel)
theorem wk_1270 : Cond.methodLink RX12 148 yX12_faceOf ∈ gwt := gw_r (i := 1270) (by decide +kernel) (by decide +kernel)
theorem wk_1272 : Cond.instanceMethod yX12_faceOf ∈ gwt := gw_r (i := 1272) (by decide +kernel) (by decide +kernel)
theorem wk_1277 : Cond.code yX12_areReading cX12_areReading 5 (some .boolean) ∈ gwt := gw_r (i := 1277) (by decide +kernel) (by decide +kernel)
theorem wk_p38 : Cond.selects RX12 yX12_areReading yX12_areReading ∈ gwt := gw_l (i := 38) (by decide +kernel) (by decide +kernel)
theorem wk_1274 : Cond.methodLink RX12 151 yX12_areReading ∈ gwt := gw_r (i := 1274) (by decide +kernel) (by decide +kernel)
theorem wk_1276 : Cond.instanceMethod yX12_areReading ∈ gwt := gw_r (i := 1276) (by decide +kernel) (by decide +kernel)
theorem wk_1280 : Cond.code yX12_toward cX12_toward 5 (some .int) ∈ gwt := gw_r (i := 1280) (by decide +kernel) (by decide +kernel)
theorem wk_1278 : Cond.methodLink RX12 140 yX12_toward ∈ gwt := gw_r (i := 1278) (by decide +kernel) (by decide +kernel)
theorem wk_1279 : Cond.static yX12_toward ∈ gwt := gw_r (i := 1279) (by decide +kernel) (by decide +kernel)
theorem wk_1283 : Cond.code yX12_square cX12_square 4 (some .int) ∈ gwt := gw_r (i := 1283) (by decide +kernel) (by decide +kernel)
theorem wk_1281 : Cond.methodLink RX12 137 yX12_square ∈ gwt := gw_r (i := 1281) (by decide +kernel) (by decide +kernel)
theorem wk_1282 : Cond.static yX12_square ∈ gwt := gw_r (i := 1282) (by decide +kernel) (by decide +kernel)
theorem wk_1287 : Cond.code yX12_isClear cX12_isClear 12 (some .boolean) ∈ gwt := gw_r (i := 1287) (by decide +kernel) (by decide +kernel)
theorem wk_p39 : Cond.selects RX12 yX12_isClear yX12_isClear ∈ gwt := gw_l (i := 39) (by decide +kernel) (by decide +kernel)
theorem wk_1284 : Cond.methodLink RX12 144 yX12_isClear ∈ gwt := gw_r (i := 1284) (by decide +kernel) (by decide +kernel)
theorem wk_1286 : Cond.instanceMethod yX12_isClear ∈ gwt := gw_r (i := 1286) (by decide +kernel) (by decide +kernel)
theorem wk_1291 : Cond.code yX12_watches cX12_watches 5 (some .boolean) ∈ gwt := gw_r (i := 1291) (by decide +kernel) (by decide +kernel)
theorem wk_p40 : Cond.selects RX12 yX12_watches yX12_watches ∈ gwt := gw_l (i := 40) (by decide +kernel) (by decide +kernel)
theorem wk_1288 : Cond.methodLink RX12 161 yX12_watches ∈ gwt := gw_r (i := 1288) (by decide +kernel) (by decide +kernel)
theorem wk_1290 : Cond.instanceMethod yX12_watches ∈ gwt := gw_r (i := 1290) (by decide +kernel) (by decide +kernel)
theorem wk_1295 : Cond.code yX12_clear cX12_clear 3 (some .int) ∈ gwt := gw_r (i := 1295) (by decide +kernel) (by decide +kernel)
theorem wk_1294 : Cond.selects RX12 yX12_clear yX12_clear ∈ gwt := gw_r (i := 1294) (by decide +kernel) (by decide +kernel)
theorem wk_1292 : Cond.methodLink RL 44 yX12_clear ∈ gwt := gw_r (i := 1292) (by decide +kernel) (by decide +kernel)
theorem wk_1293 : Cond.instanceMethod yX12_clear ∈ gwt := gw_r (i := 1293) (by decide +kernel) (by decide +kernel)
theorem wk_1299 : Cond.code yX12_knows cX12_knows 5 (some .int) ∈ gwt := gw_r (i := 1299) (by decide +kernel) (by decide +kernel)
theorem wk_1298 : Cond.selects RX12 yX12_knows yX12_knows ∈ gwt := gw_r (i := 1298) (by decide +kernel) (by decide +kernel)
theorem wk_1296 : Cond.methodLink RL 48 yX12_knows ∈ gwt := gw_r (i := 1296) (by decide +kernel) (by decide +kernel)
theorem wk_1297 : Cond.instanceMethod yX12_knows ∈ gwt := gw_r (i := 1297) (by decide +kernel) (by decide +kernel)
theorem wk_1303 : Cond.code yX12_isNews cX12_isNews 5 (some .boolean) ∈ gwt := gw_r (i := 1303) (by decide +kernel) (by decide +kernel)
theorem wk_p41 : Cond.selects RX12 yX12_isNews yX12_isNews ∈ gwt := gw_l (i := 41) (by decide +kernel) (by decide +kernel)
theorem wk_1300 : Cond.methodLink RX12 172 yX12_isNews ∈ gwt := gw_r (i := 1300) (by decide +kernel) (by decide +kernel)
theorem wk_1302 : Cond.instanceMethod yX12_isNews ∈ gwt := gw_r (i := 1302) (by decide +kernel) (by decide +kernel)
theorem wk_1307 : Cond.code yX12_spreads cX12_spreads 10 none ∈ gwt := gw_r (i := 1307) (by decide +kernel) (by decide +kernel)
theorem wk_p42 : Cond.selects RX12 yX12_spreads yX12_spreads ∈ gwt := gw_l (i := 42) (by decide +kernel) (by decide +kernel)
theorem wk_1304 : Cond.methodLink RX12 175 yX12_spreads ∈ gwt := gw_r (i := 1304) (by decide +kernel) (by decide +kernel)
theorem wk_1306 : Cond.instanceMethod yX12_spreads ∈ gwt := gw_r (i := 1306) (by decide +kernel) (by decide +kernel)
theorem wk_1311 : Cond.code yX12_looks cX12_looks 6 none ∈ gwt := gw_r (i := 1311) (by decide +kernel) (by decide +kernel)
theorem wk_p43 : Cond.selects RX12 yX12_looks yX12_looks ∈ gwt := gw_l (i := 43) (by decide +kernel) (by decide +kernel)
theorem wk_1308 : Cond.methodLink RX12 164 yX12_looks ∈ gwt := gw_r (i := 1308) (by decide +kernel) (by decide +kernel)
theorem wk_1310 : Cond.instanceMethod yX12_looks ∈ gwt := gw_r (i := 1310) (by decide +kernel) (by decide +kernel)
theorem wk_1316 : Cond.code yX12_can cX12_can 4 (some .boolean) ∈ gwt := gw_r (i := 1316) (by decide +kernel) (by decide +kernel)
theorem wk_p44 : Cond.selects RX12 yX12_can yX12_can ∈ gwt := gw_l (i := 44) (by decide +kernel) (by decide +kernel)
theorem wk_1313 : Cond.methodLink RX12 168 yX12_can ∈ gwt := gw_r (i := 1313) (by decide +kernel) (by decide +kernel)
theorem wk_1315 : Cond.instanceMethod yX12_can ∈ gwt := gw_r (i := 1315) (by decide +kernel) (by decide +kernel)
theorem wk_1320 : Cond.code yX12_teller cX12_teller 5 (some .int) ∈ gwt := gw_r (i := 1320) (by decide +kernel) (by decide +kernel)
theorem wk_1319 : Cond.selects RX12 yX12_teller yX12_teller ∈ gwt := gw_r (i := 1319) (by decide +kernel) (by decide +kernel)
theorem wk_1317 : Cond.methodLink RL 52 yX12_teller ∈ gwt := gw_r (i := 1317) (by decide +kernel) (by decide +kernel)
theorem wk_1318 : Cond.instanceMethod yX12_teller ∈ gwt := gw_r (i := 1318) (by decide +kernel) (by decide +kernel)
theorem wk_1324 : Cond.code yX12_meet cX12_meet 7 (some .int) ∈ gwt := gw_r (i := 1324) (by decide +kernel) (by decide +kernel)
theorem wk_1323 : Cond.selects RX12 yX12_meet yX12_meet ∈ gwt := gw_r (i := 1323) (by decide +kernel) (by decide +kernel)
theorem wk_1321 : Cond.methodLink RL 56 yX12_meet ∈ gwt := gw_r (i := 1321) (by decide +kernel) (by decide +kernel)
theorem wk_1322 : Cond.instanceMethod yX12_meet ∈ gwt := gw_r (i := 1322) (by decide +kernel) (by decide +kernel)
theorem wk_1329 : Cond.code yX12_seen cX12_seen 5 (some .int) ∈ gwt := gw_r (i := 1329) (by decide +kernel) (by decide +kernel)
theorem wk_1328 : Cond.selects RX12 yX12_seen yX12_seen ∈ gwt := gw_r (i := 1328) (by decide +kernel) (by decide +kernel)
theorem wk_1326 : Cond.methodLink RL 61 yX12_seen ∈ gwt := gw_r (i := 1326) (by decide +kernel) (by decide +kernel)
theorem wk_1327 : Cond.instanceMethod yX12_seen ∈ gwt := gw_r (i := 1327) (by decide +kernel) (by decide +kernel)
theorem wk_1333 : Cond.code yX12_source cX12_source 7 (some .int) ∈ gwt := gw_r (i := 1333) (by decide +kernel) (by decide +kernel)
theorem wk_1332 : Cond.selects RX12 yX12_source yX12_source ∈ gwt := gw_r (i := 1332) (by decide +kernel) (by decide +kernel)
theorem wk_1330 : Cond.methodLink RL 66 yX12_source ∈ gwt := gw_r (i := 1330) (by decide +kernel) (by decide +kernel)
theorem wk_1331 : Cond.instanceMethod yX12_source ∈ gwt := gw_r (i := 1331) (by decide +kernel) (by decide +kernel)
theorem wk_1337 : Cond.code yX12_apart cX12_apart 6 (some .int) ∈ gwt := gw_r (i := 1337) (by decide +kernel) (by decide +kernel)
theorem wk_1336 : Cond.selects RX12 yX12_apart yX12_apart ∈ gwt := gw_r (i := 1336) (by decide +kernel) (by decide +kernel)
theorem wk_1334 : Cond.methodLink RL 70 yX12_apart ∈ gwt := gw_r (i := 1334) (by decide +kernel) (by decide +kernel)
theorem wk_1335 : Cond.instanceMethod yX12_apart ∈ gwt := gw_r (i := 1335) (by decide +kernel) (by decide +kernel)
theorem wk_1340 : Cond.code yX12_sizeOf cX12_sizeOf 3 (some .int) ∈ gwt := gw_r (i := 1340) (by decide +kernel) (by decide +kernel)
theorem wk_1338 : Cond.methodLink RX12 181 yX12_sizeOf ∈ gwt := gw_r (i := 1338) (by decide +kernel) (by decide +kernel)
theorem wk_1339 : Cond.static yX12_sizeOf ∈ gwt := gw_r (i := 1339) (by decide +kernel) (by decide +kernel)
theorem wk_1344 : Cond.code yX12_isJoined cX12_isJoined 9 (some .boolean) ∈ gwt := gw_r (i := 1344) (by decide +kernel) (by decide +kernel)
theorem wk_p45 : Cond.selects RX12 yX12_isJoined yX12_isJoined ∈ gwt := gw_l (i := 45) (by decide +kernel) (by decide +kernel)
theorem wk_1341 : Cond.methodLink RX12 184 yX12_isJoined ∈ gwt := gw_r (i := 1341) (by decide +kernel) (by decide +kernel)
theorem wk_1343 : Cond.instanceMethod yX12_isJoined ∈ gwt := gw_r (i := 1343) (by decide +kernel) (by decide +kernel)
theorem wk_1348 : Cond.code yX12_like cX12_like 6 (some .int) ∈ gwt := gw_r (i := 1348) (by decide +kernel) (by decide +kernel)
theorem wk_1347 : Cond.selects RX12 yX12_like yX12_like ∈ gwt := gw_r (i := 1347) (by decide +kernel) (by decide +kernel)
theorem wk_1345 : Cond.methodLink RL 74 yX12_like ∈ gwt := gw_r (i := 1345) (by decide +kernel) (by decide +kernel)
theorem wk_1346 : Cond.instanceMethod yX12_like ∈ gwt := gw_r (i := 1346) (by decide +kernel) (by decide +kernel)
theorem wk_1353 : Cond.code yX12_word cX12_word 5 (some .int) ∈ gwt := gw_r (i := 1353) (by decide +kernel) (by decide +kernel)
theorem wk_1352 : Cond.selects RX12 yX12_word yX12_word ∈ gwt := gw_r (i := 1352) (by decide +kernel) (by decide +kernel)
theorem wk_1350 : Cond.methodLink RL 78 yX12_word ∈ gwt := gw_r (i := 1350) (by decide +kernel) (by decide +kernel)
theorem wk_1351 : Cond.instanceMethod yX12_word ∈ gwt := gw_r (i := 1351) (by decide +kernel) (by decide +kernel)
theorem wk_1357 : Cond.code yX12_power cX12_power 3 (some .int) ∈ gwt := gw_r (i := 1357) (by decide +kernel) (by decide +kernel)
theorem wk_1355 : Cond.methodLink RX12 191 yX12_power ∈ gwt := gw_r (i := 1355) (by decide +kernel) (by decide +kernel)
theorem wk_1356 : Cond.static yX12_power ∈ gwt := gw_r (i := 1356) (by decide +kernel) (by decide +kernel)
theorem wk_1362 : Cond.code yX12_alike cX12_alike 3 (some .int) ∈ gwt := gw_r (i := 1362) (by decide +kernel) (by decide +kernel)
theorem wk_1361 : Cond.selects RX12 yX12_alike yX12_alike ∈ gwt := gw_r (i := 1361) (by decide +kernel) (by decide +kernel)
theorem wk_1359 : Cond.methodLink RL 82 yX12_alike ∈ gwt := gw_r (i := 1359) (by decide +kernel) (by decide +kernel)
theorem wk_1360 : Cond.instanceMethod yX12_alike ∈ gwt := gw_r (i := 1360) (by decide +kernel) (by decide +kernel)
theorem wk_1366 : Cond.code yX12_isWord cX12_isWord 2 (some .boolean) ∈ gwt := gw_r (i := 1366) (by decide +kernel) (by decide +kernel)
theorem wk_p46 : Cond.selects RX12 yX12_isWord yX12_isWord ∈ gwt := gw_l (i := 46) (by decide +kernel) (by decide +kernel)
theorem wk_1363 : Cond.methodLink RX12 205 yX12_isWord ∈ gwt := gw_r (i := 1363) (by decide +kernel) (by decide +kernel)
theorem wk_1365 : Cond.instanceMethod yX12_isWord ∈ gwt := gw_r (i := 1365) (by decide +kernel) (by decide +kernel)
theorem wk_1370 : Cond.code yX12_areAlike cX12_areAlike 3 (some .boolean) ∈ gwt := gw_r (i := 1370) (by decide +kernel) (by decide +kernel)
theorem wk_p47 : Cond.selects RX12 yX12_areAlike yX12_areAlike ∈ gwt := gw_l (i := 47) (by decide +kernel) (by decide +kernel)
theorem wk_1367 : Cond.methodLink RX12 208 yX12_areAlike ∈ gwt := gw_r (i := 1367) (by decide +kernel) (by decide +kernel)
theorem wk_1369 : Cond.instanceMethod yX12_areAlike ∈ gwt := gw_r (i := 1369) (by decide +kernel) (by decide +kernel)
theorem wk_1374 : Cond.code yX12_lengthOf cX12_lengthOf 2 (some .int) ∈ gwt := gw_r (i := 1374) (by decide +kernel) (by decide +kernel)
theorem wk_p48 : Cond.selects RX12 yX12_lengthOf yX12_lengthOf ∈ gwt := gw_l (i := 48) (by decide +kernel) (by decide +kernel)
theorem wk_1371 : Cond.methodLink RX12 196 yX12_lengthOf ∈ gwt := gw_r (i := 1371) (by decide +kernel) (by decide +kernel)
theorem wk_1373 : Cond.instanceMethod yX12_lengthOf ∈ gwt := gw_r (i := 1373) (by decide +kernel) (by decide +kernel)
theorem wk_1378 : Cond.code yX12_unlike cX12_unlike 5 (some .int) ∈ gwt := gw_r (i := 1378) (by decide +kernel) (by decide +kernel)
theorem wk_p49 : Cond.selects RX12 yX12_unlike yX12_unlike ∈ gwt := gw_l (i := 49) (by decide +kernel) (by decide +kernel)
theorem wk_1375 : Cond.methodLink RX12 202 yX12_unlike ∈ gwt := gw_r (i := 1375) (by decide +kernel) (by decide +kernel)
theorem wk_1377 : Cond.instanceMethod yX12_unlike ∈ gwt := gw_r (i := 1377) (by decide +kernel) (by decide +kernel)
theorem wk_1382 : Cond.code yX12_lipOf cX12_lipOf 3 (some .int) ∈ gwt := gw_r (i := 1382) (by decide +kernel) (by decide +kernel)
theorem wk_p50 : Cond.selects RX12 yX12_lipOf yX12_lipOf ∈ gwt := gw_l (i := 50) (by decide +kernel) (by decide +kernel)
theorem wk_1379 : Cond.methodLink RX12 199 yX12_lipOf ∈ gwt := gw_r (i := 1379) (by decide +kernel) (by decide +kernel)
theorem wk_1381 : Cond.instanceMethod yX12_lipOf ∈ gwt := gw_r (i := 1381) (by decide +kernel) (by decide +kernel)
theorem wk_1386 : Cond.code yX12_lip cX12_lip 2 (some .int) ∈ gwt := gw_r (i := 1386) (by decide +kernel) (by decide +kernel)
theorem wk_1385 : Cond.selects RX12 yX12_lip yX12_lip ∈ gwt := gw_r (i := 1385) (by decide +kernel) (by decide +kernel)
theorem wk_1383 : Cond.methodLink RL 86 yX12_lip ∈ gwt := gw_r (i := 1383) (by decide +kernel) (by decide +kernel)
theorem wk_1384 : Cond.instanceMethod yX12_lip ∈ gwt := gw_r (i := 1384) (by decide +kernel) (by decide +kernel)
theorem wk_1390 : Cond.code yX12_hush cX12_hush 1 (some .int) ∈ gwt := gw_r (i := 1390) (by decide +kernel) (by decide +kernel)
theorem wk_1389 : Cond.selects RX12 yX12_hush yX12_hush ∈ gwt := gw_r (i := 1389) (by decide +kernel) (by decide +kernel)
theorem wk_1387 : Cond.methodLink RL 90 yX12_hush ∈ gwt := gw_r (i := 1387) (by decide +kernel) (by decide +kernel)
theorem wk_1388 : Cond.instanceMethod yX12_hush ∈ gwt := gw_r (i := 1388) (by decide +kernel) (by decide +kernel)
theorem wk_1394 : Cond.code yX12_reads cX12_reads 7 (some .int) ∈ gwt := gw_r (i := 1394) (by decide +kernel) (by decide +kernel)
theorem wk_1393 : Cond.selects RX12 yX12_reads yX12_reads ∈ gwt := gw_r (i := 1393) (by decide +kernel) (by decide +kernel)
theorem wk_1391 : Cond.methodLink RL 94 yX12_reads ∈ gwt := gw_r (i := 1391) (by decide +kernel) (by decide +kernel)
theorem wk_1392 : Cond.instanceMethod yX12_reads ∈ gwt := gw_r (i := 1392) (by decide +kernel) (by decide +kernel)
theorem wk_1400 : Cond.code yX12_readsRow cX12_readsRow 7 none ∈ gwt := gw_r (i := 1400) (by decide +kernel) (by decide +kernel)
theorem wk_p51 : Cond.selects RX12 yX12_readsRow yX12_readsRow ∈ gwt := gw_l (i := 51) (by decide +kernel) (by decide +kernel)
theorem wk_1397 : Cond.methodLink RX12 222 yX12_readsRow ∈ gwt := gw_r (i := 1397) (by decide +kernel) (by decide +kernel)
theorem wk_1399 : Cond.instanceMethod yX12_readsRow ∈ gwt := gw_r (i := 1399) (by decide +kernel) (by decide +kernel)
theorem wk_1404 : Cond.code yX12_isAtRow cX12_isAtRow 5 (some .boolean) ∈ gwt := gw_r (i := 1404) (by decide +kernel) (by decide +kernel)
theorem wk_p52 : Cond.selects RX12 yX12_isAtRow yX12_isAtRow ∈ gwt := gw_l (i := 52) (by decide +kernel) (by decide +kernel)
theorem wk_1401 : Cond.methodLink RX12 211 yX12_isAtRow ∈ gwt := gw_r (i := 1401) (by decide +kernel) (by decide +kernel)
theorem wk_1403 : Cond.instanceMethod yX12_isAtRow ∈ gwt := gw_r (i := 1403) (by decide +kernel) (by decide +kernel)
theorem wk_1409 : Cond.code yX12_weightOf cX12_weightOf 2 (some .int) ∈ gwt := gw_r (i := 1409) (by decide +kernel) (by decide +kernel)
theorem wk_p53 : Cond.selects RX12 yX12_weightOf yX12_weightOf ∈ gwt := gw_l (i := 53) (by decide +kernel) (by decide +kernel)
theorem wk_1406 : Cond.methodLink RX12 215 yX12_weightOf ∈ gwt := gw_r (i := 1406) (by decide +kernel) (by decide +kernel)
theorem wk_1408 : Cond.instanceMethod yX12_weightOf ∈ gwt := gw_r (i := 1408) (by decide +kernel) (by decide +kernel)
theorem wk_1413 : Cond.code yX12_mistaken cX12_mistaken 2 (some .int) ∈ gwt := gw_r (i := 1413) (by decide +kernel) (by decide +kernel)
theorem wk_1412 : Cond.selects RX12 yX12_mistaken yX12_mistaken ∈ gwt := gw_r (i := 1412) (by decide +kernel) (by decide +kernel)
theorem wk_1410 : Cond.methodLink RL 98 yX12_mistaken ∈ gwt := gw_r (i := 1410) (by decide +kernel) (by decide +kernel)
theorem wk_1411 : Cond.instanceMethod yX12_mistaken ∈ gwt := gw_r (i := 1411) (by decide +kernel) (by decide +kernel)
theorem wk_1417 : Cond.code yX12_allWords cX12_allWords 1 (some .int) ∈ gwt := gw_r (i := 1417) (by decide +kernel) (by decide +kernel)
theorem wk_p54 : Cond.selects RX12 yX12_allWords yX12_allWords ∈ gwt := gw_l (i := 54) (by decide +kernel) (by decide +kernel)
theorem wk_1414 : Cond.methodLink RX12 225 yX12_allWords ∈ gwt := gw_r (i := 1414) (by decide +kernel) (by decide +kernel)
theorem wk_1416 : Cond.instanceMethod yX12_allWords ∈ gwt := gw_r (i := 1416) (by decide +kernel) (by decide +kernel)
theorem wk_1421 : Cond.code yX12_mistakes cX12_mistakes 6 (some .int) ∈ gwt := gw_r (i := 1421) (by decide +kernel) (by decide +kernel)
theorem wk_p55 : Cond.selects RX12 yX12_mistakes yX12_mistakes ∈ gwt := gw_l (i := 55) (by decide +kernel) (by decide +kernel)
theorem wk_1418 : Cond.methodLink RX12 229 yX12_mistakes ∈ gwt := gw_r (i := 1418) (by decide +kernel) (by decide +kernel)
theorem wk_1420 : Cond.instanceMethod yX12_mistakes ∈ gwt := gw_r (i := 1420) (by decide +kernel) (by decide +kernel)
theorem wk_1425 : Cond.code yX12_signs cX12_signs 5 (some .int) ∈ gwt := gw_r (i := 1425) (by decide +kernel) (by decide +kernel)
theorem wk_1424 : Cond.selects RX12 yX12_signs yX12_signs ∈ gwt := gw_r (i := 1424) (by decide +kernel) (by decide +kernel)
theorem wk_1422 : Cond.methodLink RL 102 yX12_signs ∈ gwt := gw_r (i := 1422) (by decide +kernel) (by decide +kernel)
theorem wk_1423 : Cond.instanceMethod yX12_signs ∈ gwt := gw_r (i := 1423) (by decide +kernel) (by decide +kernel)
theorem wk_1429 : Cond.code yX12_plain cX12_plain 2 (some .int) ∈ gwt := gw_r (i := 1429) (by decide +kernel) (by decide +kernel)
theorem wk_1428 : Cond.selects RX12 yX12_plain yX12_plain ∈ gwt := gw_r (i := 1428) (by decide +kernel) (by decide +kernel)
theorem wk_1426 : Cond.methodLink RL 106 yX12_plain ∈ gwt := gw_r (i := 1426) (by decide +kernel) (by decide +kernel)
theorem wk_1427 : Cond.instanceMethod yX12_plain ∈ gwt := gw_r (i := 1427) (by decide +kernel) (by decide +kernel)
theorem wk_1434 : Cond.code yX12_arrives cX12_arrives 5 (some .int) ∈ gwt := gw_r (i := 1434) (by decide +kernel) (by decide +kernel)
theorem wk_1433 : Cond.selects RX12 yX12_arrives yX12_arrives ∈ gwt := gw_r (i := 1433) (by decide +kernel) (by decide +kernel)
theorem wk_1431 : Cond.methodLink RL 110 yX12_arrives ∈ gwt := gw_r (i := 1431) (by decide +kernel) (by decide +kernel)
theorem wk_1432 : Cond.instanceMethod yX12_arrives ∈ gwt := gw_r (i := 1432) (by decide +kernel) (by decide +kernel)
theorem wk_1439 : Cond.code yX12_beginHearing cX12_beginHearing 4 none ∈ gwt := gw_r (i := 1439) (by decide +kernel) (by decide +kernel)
theorem wk_p56 : Cond.selects RX12 yX12_beginHearing yX12_beginHearing ∈ gwt := gw_l (i := 56) (by decide +kernel) (by decide +kernel)
theorem wk_1436 : Cond.methodLink RX12 245 yX12_beginHearing ∈ gwt := gw_r (i := 1436) (by decide +kernel) (by decide +kernel)
theorem wk_1438 : Cond.instanceMethod yX12_beginHearing ∈ gwt := gw_r (i := 1438) (by decide +kernel) (by decide +kernel)
theorem wk_1443 : Cond.code yX12_hearing cX12_hearing 3 (some .int) ∈ gwt := gw_r (i := 1443) (by decide +kernel) (by decide +kernel)
theorem wk_p57 : Cond.selects RX12 yX12_hearing yX12_hearing ∈ gwt := gw_l (i := 57) (by decide +kernel) (by decide +kernel)
theorem wk_1440 : Cond.methodLink RX12 234 yX12_hearing ∈ gwt := gw_r (i := 1440) (by decide +kernel) (by decide +kernel)
theorem wk_1442 : Cond.instanceMethod yX12_hearing ∈ gwt := gw_r (i := 1442) (by decide +kernel) (by decide +kernel)
theorem wk_1447 : Cond.code yX12_hearsOn cX12_hearsOn 5 none ∈ gwt := gw_r (i := 1447) (by decide +kernel) (by decide +kernel)
theorem wk_p58 : Cond.selects RX12 yX12_hearsOn yX12_hearsOn ∈ gwt := gw_l (i := 58) (by decide +kernel) (by decide +kernel)
theorem wk_1444 : Cond.methodLink RX12 248 yX12_hearsOn ∈ gwt := gw_r (i := 1444) (by decide +kernel) (by decide +kernel)
theorem wk_1446 : Cond.instanceMethod yX12_hearsOn ∈ gwt := gw_r (i := 1446) (by decide +kernel) (by decide +kernel)
theorem wk_1451 : Cond.code yX12_takes cX12_takes 4 none ∈ gwt := gw_r (i := 1451) (by decide +kernel) (by decide +kernel)
theorem wk_p59 : Cond.selects RX12 yX12_takes yX12_takes ∈ gwt := gw_l (i := 59) (by decide +kernel) (by decide +kernel)
theorem wk_1448 : Cond.methodLink RX12 84 yX12_takes ∈ gwt := gw_r (i := 1448) (by decide +kernel) (by decide +kernel)
theorem wk_1450 : Cond.instanceMethod yX12_takes ∈ gwt := gw_r (i := 1450) (by decide +kernel) (by decide +kernel)
theorem wk_1455 : Cond.code yX12_times cX12_times 8 none ∈ gwt := gw_r (i := 1455) (by decide +kernel) (by decide +kernel)
theorem wk_p60 : Cond.selects RX12 yX12_times yX12_times ∈ gwt := gw_l (i := 60) (by decide +kernel) (by decide +kernel)
theorem wk_1452 : Cond.methodLink RX12 237 yX12_times ∈ gwt := gw_r (i := 1452) (by decide +kernel) (by decide +kernel)
theorem wk_1454 : Cond.instanceMethod yX12_times ∈ gwt := gw_r (i := 1454) (by decide +kernel) (by decide +kernel)
theorem wk_1459 : Cond.code yX12_adds cX12_adds 7 none ∈ gwt := gw_r (i := 1459) (by decide +kernel) (by decide +kernel)
theorem wk_p61 : Cond.selects RX12 yX12_adds yX12_adds ∈ gwt := gw_l (i := 61) (by decide +kernel) (by decide +kernel)
theorem wk_1456 : Cond.methodLink RX12 240 yX12_adds ∈ gwt := gw_r (i := 1456) (by decide +kernel) (by decide +kernel)
theorem wk_1458 : Cond.instanceMethod yX12_adds ∈ gwt := gw_r (i := 1458) (by decide +kernel) (by decide +kernel)
theorem wk_1464 : Cond.code yX12_lowers cX12_lowers 2 none ∈ gwt := gw_r (i := 1464) (by decide +kernel) (by decide +kernel)
theorem wk_p62 : Cond.selects RX12 yX12_lowers yX12_lowers ∈ gwt := gw_l (i := 62) (by decide +kernel) (by decide +kernel)
theorem wk_1461 : Cond.methodLink RX12 106 yX12_lowers ∈ gwt := gw_r (i := 1461) (by decide +kernel) (by decide +kernel)
theorem wk_1463 : Cond.instanceMethod yX12_lowers ∈ gwt := gw_r (i := 1463) (by decide +kernel) (by decide +kernel)
theorem wk_1468 : Cond.code yX12_isEven cX12_isEven 2 (some .boolean) ∈ gwt := gw_r (i := 1468) (by decide +kernel) (by decide +kernel)
theorem wk_p63 : Cond.selects RX12 yX12_isEven yX12_isEven ∈ gwt := gw_l (i := 63) (by decide +kernel) (by decide +kernel)
theorem wk_1465 : Cond.methodLink RX12 89 yX12_isEven ∈ gwt := gw_r (i := 1465) (by decide +kernel) (by decide +kernel)
theorem wk_1467 : Cond.instanceMethod yX12_isEven ∈ gwt := gw_r (i := 1467) (by decide +kernel) (by decide +kernel)
theorem wk_1472 : Cond.code yX12_halves cX12_halves 4 none ∈ gwt := gw_r (i := 1472) (by decide +kernel) (by decide +kernel)
theorem wk_p64 : Cond.selects RX12 yX12_halves yX12_halves ∈ gwt := gw_l (i := 64) (by decide +kernel) (by decide +kernel)
theorem wk_1469 : Cond.methodLink RX12 93 yX12_halves ∈ gwt := gw_r (i := 1469) (by decide +kernel) (by decide +kernel)
theorem wk_1471 : Cond.instanceMethod yX12_halves ∈ gwt := gw_r (i := 1471) (by decide +kernel) (by decide +kernel)
theorem wk_1476 : Cond.code yX12_against cX12_against 4 (some .int) ∈ gwt := gw_r (i := 1476) (by decide +kernel) (by decide +kernel)
theorem wk_p65 : Cond.selects RX12 yX12_against yX12_against ∈ gwt := gw_l (i := 65) (by decide +kernel) (by decide +kernel)
theorem wk_1473 : Cond.methodLink RX12 96 yX12_against ∈ gwt := gw_r (i := 1473) (by decide +kernel) (by decide +kernel)
theorem wk_1475 : Cond.instanceMethod yX12_against ∈ gwt := gw_r (i := 1475) (by decide +kernel) (by decide +kernel)
theorem wk_1480 : Cond.code yX12_lessens cX12_lessens 6 none ∈ gwt := gw_r (i := 1480) (by decide +kernel) (by decide +kernel)
theorem wk_p66 : Cond.selects RX12 yX12_lessens yX12_lessens ∈ gwt := gw_l (i := 66) (by decide +kernel) (by decide +kernel)
theorem wk_1477 : Cond.methodLink RX12 100 yX12_lessens ∈ gwt := gw_r (i := 1477) (by decide +kernel) (by decide +kernel)
theorem wk_1479 : Cond.instanceMethod yX12_lessens ∈ gwt := gw_r (i := 1479) (by decide +kernel) (by decide +kernel)
theorem wk_1484 : Cond.code yX12_parts cX12_parts 13 none ∈ gwt := gw_r (i := 1484) (by decide +kernel) (by decide +kernel)
theorem wk_p67 : Cond.selects RX12 yX12_parts yX12_parts ∈ gwt := gw_l (i := 67) (by decide +kernel) (by decide +kernel)
theorem wk_1481 : Cond.methodLink RX12 103 yX12_parts ∈ gwt := gw_r (i := 1481) (by decide +kernel) (by decide +kernel)
theorem wk_1483 : Cond.instanceMethod yX12_parts ∈ gwt := gw_r (i := 1483) (by decide +kernel) (by decide +kernel)
theorem wk_1488 : Cond.code yX12_turns cX12_turns 5 (some .int) ∈ gwt := gw_r (i := 1488) (by decide +kernel) (by decide +kernel)
theorem wk_1487 : Cond.selects RX12 yX12_turns yX12_turns ∈ gwt := gw_r (i := 1487) (by decide +kernel) (by decide +kernel)
theorem wk_1485 : Cond.methodLink RL 114 yX12_turns ∈ gwt := gw_r (i := 1485) (by decide +kernel) (by decide +kernel)
theorem wk_1486 : Cond.instanceMethod yX12_turns ∈ gwt := gw_r (i := 1486) (by decide +kernel) (by decide +kernel)
theorem wk_1492 : Cond.code yX12_girl cX12_girl 2 (some .int) ∈ gwt := gw_r (i := 1492) (by decide +kernel) (by decide +kernel)
theorem wk_1491 : Cond.selects RX12 yX12_girl yX12_girl ∈ gwt := gw_r (i := 1491) (by decide +kernel) (by decide +kernel)
theorem wk_1489 : Cond.methodLink RL 118 yX12_girl ∈ gwt := gw_r (i := 1489) (by decide +kernel) (by decide +kernel)
theorem wk_1490 : Cond.instanceMethod yX12_girl ∈ gwt := gw_r (i := 1490) (by decide +kernel) (by decide +kernel)
theorem wk_1496 : Cond.code yX12_gets cX12_gets 1 (some .int) ∈ gwt := gw_r (i := 1496) (by decide +kernel) (by decide +kernel)
theorem wk_1495 : Cond.selects RX12 yX12_gets yX12_gets ∈ gwt := gw_r (i := 1495) (by decide +kernel) (by decide +kernel)
theorem wk_1493 : Cond.methodLink RL 122 yX12_gets ∈ gwt := gw_r (i := 1493) (by decide +kernel) (by decide +kernel)
theorem wk_1494 : Cond.instanceMethod yX12_gets ∈ gwt := gw_r (i := 1494) (by decide +kernel) (by decide +kernel)
theorem wk_1500 : Cond.code yX12_getsOf cX12_getsOf 7 (some .int) ∈ gwt := gw_r (i := 1500) (by decide +kernel) (by decide +kernel)
theorem wk_p68 : Cond.selects RX12 yX12_getsOf yX12_getsOf ∈ gwt := gw_l (i := 68) (by decide +kernel) (by decide +kernel)
theorem wk_1497 : Cond.methodLink RX12 251 yX12_getsOf ∈ gwt := gw_r (i := 1497) (by decide +kernel) (by decide +kernel)
theorem wk_1499 : Cond.instanceMethod yX12_getsOf ∈ gwt := gw_r (i := 1499) (by decide +kernel) (by decide +kernel)
theorem wk_1504 : Cond.code yX12_share cX12_share 1 (some .int) ∈ gwt := gw_r (i := 1504) (by decide +kernel) (by decide +kernel)
theorem wk_1503 : Cond.selects RX12 yX12_share yX12_share ∈ gwt := gw_r (i := 1503) (by decide +kernel) (by decide +kernel)
theorem wk_1501 : Cond.methodLink RL 126 yX12_share ∈ gwt := gw_r (i := 1501) (by decide +kernel) (by decide +kernel)
theorem wk_1502 : Cond.instanceMethod yX12_share ∈ gwt := gw_r (i := 1502) (by decide +kernel) (by decide +kernel)
theorem wk_1505 : Cond.methodLink RX12 254 yX12_gets ∈ gwt := gw_r (i := 1505) (by decide +kernel) (by decide +kernel)
theorem wk_1509 : Cond.code yX12_weights cX12_weights 4 (some .int) ∈ gwt := gw_r (i := 1509) (by decide +kernel) (by decide +kernel)
theorem wk_p69 : Cond.selects RX12 yX12_weights yX12_weights ∈ gwt := gw_l (i := 69) (by decide +kernel) (by decide +kernel)
theorem wk_1506 : Cond.methodLink RX12 257 yX12_weights ∈ gwt := gw_r (i := 1506) (by decide +kernel) (by decide +kernel)
theorem wk_1508 : Cond.instanceMethod yX12_weights ∈ gwt := gw_r (i := 1508) (by decide +kernel) (by decide +kernel)
theorem wk_1513 : Cond.code yX12_told cX12_told 5 (some .int) ∈ gwt := gw_r (i := 1513) (by decide +kernel) (by decide +kernel)
theorem wk_p70 : Cond.selects RX12 yX12_told yX12_told ∈ gwt := gw_l (i := 70) (by decide +kernel) (by decide +kernel)
theorem wk_1510 : Cond.methodLink RX12 260 yX12_told ∈ gwt := gw_r (i := 1510) (by decide +kernel) (by decide +kernel)
theorem wk_1512 : Cond.instanceMethod yX12_told ∈ gwt := gw_r (i := 1512) (by decide +kernel) (by decide +kernel)
theorem wk_1517 : Cond.code yX12_teach cX12_teach 6 (some .int) ∈ gwt := gw_r (i := 1517) (by decide +kernel) (by decide +kernel)
theorem wk_1516 : Cond.selects RX12 yX12_teach yX12_teach ∈ gwt := gw_r (i := 1516) (by decide +kernel) (by decide +kernel)
theorem wk_1514 : Cond.methodLink RL 130 yX12_teach ∈ gwt := gw_r (i := 1514) (by decide +kernel) (by decide +kernel)
theorem wk_1515 : Cond.instanceMethod yX12_teach ∈ gwt := gw_r (i := 1515) (by decide +kernel) (by decide +kernel)
theorem wk_1521 : Cond.code yX12_band cX12_band 4 (some .int) ∈ gwt := gw_r (i := 1521) (by decide +kernel) (by decide +kernel)
theorem wk_1520 : Cond.selects RX12 yX12_band yX12_band ∈ gwt := gw_r (i := 1520) (by decide +kernel) (by decide +kernel)
theorem wk_1518 : Cond.methodLink RL 134 yX12_band ∈ gwt := gw_r (i := 1518) (by decide +kernel) (by decide +kernel)
theorem wk_1519 : Cond.instanceMethod yX12_band ∈ gwt := gw_r (i := 1519) (by decide +kernel) (by decide +kernel)
theorem wk_1525 : Cond.code yX12_heard cX12_heard 5 (some .int) ∈ gwt := gw_r (i := 1525) (by decide +kernel) (by decide +kernel)
theorem wk_1524 : Cond.selects RX12 yX12_heard yX12_heard ∈ gwt := gw_r (i := 1524) (by decide +kernel) (by decide +kernel)
theorem wk_1522 : Cond.methodLink RL 138 yX12_heard ∈ gwt := gw_r (i := 1522) (by decide +kernel) (by decide +kernel)
theorem wk_1523 : Cond.instanceMethod yX12_heard ∈ gwt := gw_r (i := 1523) (by decide +kernel) (by decide +kernel)
theorem wk_1530 : Cond.code yX12_anew cX12_anew 7 (some .int) ∈ gwt := gw_r (i := 1530) (by decide +kernel) (by decide +kernel)
theorem wk_1529 : Cond.selects RX12 yX12_anew yX12_anew ∈ gwt := gw_r (i := 1529) (by decide +kernel) (by decide +kernel)
theorem wk_1527 : Cond.methodLink RL 142 yX12_anew ∈ gwt := gw_r (i := 1527) (by decide +kernel) (by decide +kernel)
theorem wk_1528 : Cond.instanceMethod yX12_anew ∈ gwt := gw_r (i := 1528) (by decide +kernel) (by decide +kernel)
theorem wk_1534 : Cond.code yX12_pairs cX12_pairs 4 (some .int) ∈ gwt := gw_r (i := 1534) (by decide +kernel) (by decide +kernel)
theorem wk_p71 : Cond.selects RX12 yX12_pairs yX12_pairs ∈ gwt := gw_l (i := 71) (by decide +kernel) (by decide +kernel)
theorem wk_1531 : Cond.methodLink RX12 266 yX12_pairs ∈ gwt := gw_r (i := 1531) (by decide +kernel) (by decide +kernel)
theorem wk_1533 : Cond.instanceMethod yX12_pairs ∈ gwt := gw_r (i := 1533) (by decide +kernel) (by decide +kernel)
theorem wk_1538 : Cond.code yX12_type cX12_type 5 (some .int) ∈ gwt := gw_r (i := 1538) (by decide +kernel) (by decide +kernel)
theorem wk_1537 : Cond.selects RX12 yX12_type yX12_type ∈ gwt := gw_r (i := 1537) (by decide +kernel) (by decide +kernel)
theorem wk_1535 : Cond.methodLink RL 149 yX12_type ∈ gwt := gw_r (i := 1535) (by decide +kernel) (by decide +kernel)
theorem wk_1536 : Cond.instanceMethod yX12_type ∈ gwt := gw_r (i := 1536) (by decide +kernel) (by decide +kernel)
theorem wk_1544 : Cond.code yX12_erase cX12_erase 2 (some .int) ∈ gwt := gw_r (i := 1544) (by decide +kernel) (by decide +kernel)
theorem wk_1543 : Cond.selects RX12 yX12_erase yX12_erase ∈ gwt := gw_r (i := 1543) (by decide +kernel) (by decide +kernel)
theorem wk_1541 : Cond.methodLink RL 153 yX12_erase ∈ gwt := gw_r (i := 1541) (by decide +kernel) (by decide +kernel)
theorem wk_1542 : Cond.instanceMethod yX12_erase ∈ gwt := gw_r (i := 1542) (by decide +kernel) (by decide +kernel)
theorem wk_1548 : Cond.code yX12_shed cX12_shed 3 (some .int) ∈ gwt := gw_r (i := 1548) (by decide +kernel) (by decide +kernel)
theorem wk_1547 : Cond.selects RX12 yX12_shed yX12_shed ∈ gwt := gw_r (i := 1547) (by decide +kernel) (by decide +kernel)
theorem wk_1545 : Cond.methodLink RL 157 yX12_shed ∈ gwt := gw_r (i := 1545) (by decide +kernel) (by decide +kernel)
theorem wk_1546 : Cond.instanceMethod yX12_shed ∈ gwt := gw_r (i := 1546) (by decide +kernel) (by decide +kernel)
theorem wk_1552 : Cond.code yX12_readsText cX12_readsText 3 (some .boolean) ∈ gwt := gw_r (i := 1552) (by decide +kernel) (by decide +kernel)
theorem wk_p72 : Cond.selects RX12 yX12_readsText yX12_readsText ∈ gwt := gw_l (i := 72) (by decide +kernel) (by decide +kernel)
theorem wk_1549 : Cond.methodLink RX12 348 yX12_readsText ∈ gwt := gw_r (i := 1549) (by decide +kernel) (by decide +kernel)
theorem wk_1551 : Cond.instanceMethod yX12_readsText ∈ gwt := gw_r (i := 1551) (by decide +kernel) (by decide +kernel)
theorem wk_1556 : Cond.code yX12_scans cX12_scans 3 none ∈ gwt := gw_r (i := 1556) (by decide +kernel) (by decide +kernel)
theorem wk_p73 : Cond.selects RX12 yX12_scans yX12_scans ∈ gwt := gw_l (i := 73) (by decide +kernel) (by decide +kernel)
theorem wk_1553 : Cond.methodLink RX12 320 yX12_scans ∈ gwt := gw_r (i := 1553) (by decide +kernel) (by decide +kernel)
theorem wk_1555 : Cond.instanceMethod yX12_scans ∈ gwt := gw_r (i := 1555) (by decide +kernel) (by decide +kernel)
theorem wk_1560 : Cond.code yX12_isAt cX12_isAt 3 (some .boolean) ∈ gwt := gw_r (i := 1560) (by decide +kernel) (by decide +kernel)
theorem wk_p74 : Cond.selects RX12 yX12_isAt yX12_isAt ∈ gwt := gw_l (i := 74) (by decide +kernel) (by decide +kernel)
theorem wk_1557 : Cond.methodLink RX12 294 yX12_isAt ∈ gwt := gw_r (i := 1557) (by decide +kernel) (by decide +kernel)
theorem wk_1559 : Cond.instanceMethod yX12_isAt ∈ gwt := gw_r (i := 1559) (by decide +kernel) (by decide +kernel)
theorem wk_1565 : Cond.code yX12_wordOf cX12_wordOf 2 (some .int) ∈ gwt := gw_r (i := 1565) (by decide +kernel) (by decide +kernel)
theorem wk_1563 : Cond.methodLink RX12 307 yX12_wordOf ∈ gwt := gw_r (i := 1563) (by decide +kernel) (by decide +kernel)
theorem wk_1564 : Cond.static yX12_wordOf ∈ gwt := gw_r (i := 1564) (by decide +kernel) (by decide +kernel)
theorem wk_1575 : Cond.code yX12_mostOf cX12_mostOf 1 (some .int) ∈ gwt := gw_r (i := 1575) (by decide +kernel) (by decide +kernel)
theorem wk_1573 : Cond.methodLink RX12 323 yX12_mostOf ∈ gwt := gw_r (i := 1573) (by decide +kernel) (by decide +kernel)
theorem wk_1574 : Cond.static yX12_mostOf ∈ gwt := gw_r (i := 1574) (by decide +kernel) (by decide +kernel)
theorem wk_1578 : Cond.code yX12_fewestOf cX12_fewestOf 1 (some .int) ∈ gwt := gw_r (i := 1578) (by decide +kernel) (by decide +kernel)
theorem wk_1576 : Cond.methodLink RX12 314 yX12_fewestOf ∈ gwt := gw_r (i := 1576) (by decide +kernel) (by decide +kernel)
theorem wk_1577 : Cond.static yX12_fewestOf ∈ gwt := gw_r (i := 1577) (by decide +kernel) (by decide +kernel)
theorem wk_1582 : Cond.code yX12_tellsItem cX12_tellsItem 5 (some .int) ∈ gwt := gw_r (i := 1582) (by decide +kernel) (by decide +kernel)
theorem wk_p75 : Cond.selects RX12 yX12_tellsItem yX12_tellsItem ∈ gwt := gw_l (i := 75) (by decide +kernel) (by decide +kernel)
theorem wk_1579 : Cond.methodLink RX12 352 yX12_tellsItem ∈ gwt := gw_r (i := 1579) (by decide +kernel) (by decide +kernel)
theorem wk_1581 : Cond.instanceMethod yX12_tellsItem ∈ gwt := gw_r (i := 1581) (by decide +kernel) (by decide +kernel)
theorem wk_1583 : Cond.methodLink RX12 329 yX12_pillar ∈ gwt := gw_r (i := 1583) (by decide +kernel) (by decide +kernel)
theorem wk_1584 : Cond.methodLink RX12 332 yX12_weaver ∈ gwt := gw_r (i := 1584) (by decide +kernel) (by decide +kernel)
theorem wk_1585 : Cond.methodLink RX12 335 yX12_free ∈ gwt := gw_r (i := 1585) (by decide +kernel) (by decide +kernel)
theorem wk_1586 : Cond.methodLink RX12 339 yX12_far ∈ gwt := gw_r (i := 1586) (by decide +kernel) (by decide +kernel)
theorem wk_1590 : Cond.code yX12_tellsWord cX12_tellsWord 5 (some .int) ∈ gwt := gw_r (i := 1590) (by decide +kernel) (by decide +kernel)
theorem wk_p76 : Cond.selects RX12 yX12_tellsWord yX12_tellsWord ∈ gwt := gw_l (i := 76) (by decide +kernel) (by decide +kernel)
theorem wk_1587 : Cond.methodLink RX12 342 yX12_tellsWord ∈ gwt := gw_r (i := 1587) (by decide +kernel) (by decide +kernel)
theorem wk_1589 : Cond.instanceMethod yX12_tellsWord ∈ gwt := gw_r (i := 1589) (by decide +kernel) (by decide +kernel)
theorem wk_1591 : Cond.methodLink RX12 326 yX12_word ∈ gwt := gw_r (i := 1591) (by decide +kernel) (by decide +kernel)
theorem wk_1592 : Cond.methodLink RX12 345 yX12_like ∈ gwt := gw_r (i := 1592) (by decide +kernel) (by decide +kernel)
theorem wk_1596 : Cond.code yX12_image cX12_image 3 (some .int) ∈ gwt := gw_r (i := 1596) (by decide +kernel) (by decide +kernel)
theorem wk_1595 : Cond.selects RX12 yX12_image yX12_image ∈ gwt := gw_r (i := 1595) (by decide +kernel) (by decide +kernel)
theorem wk_1593 : Cond.methodLink RL 169 yX12_image ∈ gwt := gw_r (i := 1593) (by decide +kernel) (by decide +kernel)
theorem wk_1594 : Cond.instanceMethod yX12_image ∈ gwt := gw_r (i := 1594) (by decide +kernel) (by decide +kernel)
theorem wk_1600 : Cond.code yX12_from cX12_from 3 (some .int) ∈ gwt := gw_r (i := 1600) (by decide +kernel) (by decide +kernel)
theorem wk_1599 : Cond.selects RX12 yX12_from yX12_from ∈ gwt := gw_r (i := 1599) (by decide +kernel) (by decide +kernel)
theorem wk_1597 : Cond.methodLink RL 173 yX12_from ∈ gwt := gw_r (i := 1597) (by decide +kernel) (by decide +kernel)
theorem wk_1598 : Cond.instanceMethod yX12_from ∈ gwt := gw_r (i := 1598) (by decide +kernel) (by decide +kernel)
theorem wk_1604 : Cond.code yX12_count cX12_count 2 (some .int) ∈ gwt := gw_r (i := 1604) (by decide +kernel) (by decide +kernel)
theorem wk_1603 : Cond.selects RX12 yX12_count yX12_count ∈ gwt := gw_r (i := 1603) (by decide +kernel) (by decide +kernel)
theorem wk_1601 : Cond.methodLink RL 177 yX12_count ∈ gwt := gw_r (i := 1601) (by decide +kernel) (by decide +kernel)
theorem wk_1602 : Cond.instanceMethod yX12_count ∈ gwt := gw_r (i := 1602) (by decide +kernel) (by decide +kernel)
theorem wk_1608 : Cond.code yX12_countOf cX12_countOf 2 (some .int) ∈ gwt := gw_r (i := 1608) (by decide +kernel) (by decide +kernel)
theorem wk_p77 : Cond.selects RX12 yX12_countOf yX12_countOf ∈ gwt := gw_l (i := 77) (by decide +kernel) (by decide +kernel)
theorem wk_1605 : Cond.methodLink RX12 355 yX12_countOf ∈ gwt := gw_r (i := 1605) (by decide +kernel) (by decide +kernel)
theorem wk_1607 : Cond.instanceMethod yX12_countOf ∈ gwt := gw_r (i := 1607) (by decide +kernel) (by decide +kernel)
theorem wk_1612 : Cond.code yX12_digest cX12_digest 4 (some .long) ∈ gwt := gw_r (i := 1612) (by decide +kernel) (by decide +kernel)
theorem wk_1611 : Cond.selects RX12 yX12_digest yX12_digest ∈ gwt := gw_r (i := 1611) (by decide +kernel) (by decide +kernel)
theorem wk_1609 : Cond.methodLink RL 182 yX12_digest ∈ gwt := gw_r (i := 1609) (by decide +kernel) (by decide +kernel)
theorem wk_1610 : Cond.instanceMethod yX12_digest ∈ gwt := gw_r (i := 1610) (by decide +kernel) (by decide +kernel)
theorem wk_1617 : Cond.code yX12_mixed cX12_mixed 8 (some .long) ∈ gwt := gw_r (i := 1617) (by decide +kernel) (by decide +kernel)
theorem wk_1615 : Cond.methodLink RX12 362 yX12_mixed ∈ gwt := gw_r (i := 1615) (by decide +kernel) (by decide +kernel)
theorem wk_1616 : Cond.static yX12_mixed ∈ gwt := gw_r (i := 1616) (by decide +kernel) (by decide +kernel)
theorem wk_1618 : Cond.methodLink RX12 366 yX12_sign ∈ gwt := gw_r (i := 1618) (by decide +kernel) (by decide +kernel)
theorem wk_0 : Cond.initialized RL ∈ gwt := gw_r (i := 0) (by decide +kernel) (by decide +kernel)
theorem wk_15 : Cond.initialized RJ9 ∈ gwt := gw_r (i := 15) (by decide +kernel) (by decide +kernel)
theorem wk_16 : Cond.initialized RJ10 ∈ gwt := gw_r (i := 16) (by decide +kernel) (by decide +kernel)
theorem wk_22 : Cond.classLink RL 7 RX11 ∈ gwt := gw_r (i := 22) (by decide +kernel) (by decide +kernel)
theorem wk_23 : Cond.instantiable RX11 11 ∈ gwt := gw_r (i := 23) (by decide +kernel) (by decide +kernel)
theorem wk_24 : Cond.methodLink RL 9 yX11_init ∈ gwt := gw_r (i := 24) (by decide +kernel) (by decide +kernel)
theorem wk_25 : Cond.instanceMethod yX11_init ∈ gwt := gw_r (i := 25) (by decide +kernel) (by decide +kernel)
theorem wk_26 : Cond.code yX11_init cX11_init 1 none ∈ gwt := gw_r (i := 26) (by decide +kernel) (by decide +kernel)
theorem wk_27 : Cond.methodLink RX11 1 objectInit ∈ gwt := gw_r (i := 27) (by decide +kernel) (by decide +kernel)
theorem wk_28 : Cond.instanceMethod objectInit ∈ gwt := gw_r (i := 28) (by decide +kernel) (by decide +kernel)
theorem wk_29 : Cond.code objectInit ⟨#[0xb1]⟩ 1 none ∈ gwt := gw_r (i := 29) (by decide +kernel) (by decide +kernel)
theorem wk_30 : Cond.classLink RX11 7 RX7 ∈ gwt := gw_r (i := 30) (by decide +kernel) (by decide +kernel)
theorem wk_31 : Cond.instantiable RX7 7 ∈ gwt := gw_r (i := 31) (by decide +kernel) (by decide +kernel)
theorem wk_33 : Cond.instanceMethod yX7_init ∈ gwt := gw_r (i := 33) (by decide +kernel) (by decide +kernel)
theorem wk_34 : Cond.code yX7_init cX7_init 1 none ∈ gwt := gw_r (i := 34) (by decide +kernel) (by decide +kernel)
theorem wk_35 : Cond.methodLink RX7 1 objectInit ∈ gwt := gw_r (i := 35) (by decide +kernel) (by decide +kernel)
theorem wk_36 : Cond.classLink RX7 7 RX1 ∈ gwt := gw_r (i := 36) (by decide +kernel) (by decide +kernel)
theorem wk_37 : Cond.instantiable RX1 7 ∈ gwt := gw_r (i := 37) (by decide +kernel) (by decide +kernel)
theorem wk_38 : Cond.methodLink RX7 9 yX1_init ∈ gwt := gw_r (i := 38) (by decide +kernel) (by decide +kernel)
theorem wk_39 : Cond.instanceMethod yX1_init ∈ gwt := gw_r (i := 39) (by decide +kernel) (by decide +kernel)
theorem wk_40 : Cond.code yX1_init cX1_init 1 none ∈ gwt := gw_r (i := 40) (by decide +kernel) (by decide +kernel)
theorem wk_41 : Cond.methodLink RX1 3 objectInit ∈ gwt := gw_r (i := 41) (by decide +kernel) (by decide +kernel)
theorem wk_72 : Cond.arrayClass Jvm.ClassFile.FieldType.int ∈ gwt := gw_r (i := 72) (by decide +kernel) (by decide +kernel)
theorem wk_73 : Cond.classLink RX7 16 RX8 ∈ gwt := gw_r (i := 73) (by decide +kernel) (by decide +kernel)
theorem wk_74 : Cond.instantiable RX8 4 ∈ gwt := gw_r (i := 74) (by decide +kernel) (by decide +kernel)
theorem wk_76 : Cond.instanceMethod yX8_init ∈ gwt := gw_r (i := 76) (by decide +kernel) (by decide +kernel)
theorem wk_77 : Cond.code yX8_init cX8_init 1 none ∈ gwt := gw_r (i := 77) (by decide +kernel) (by decide +kernel)
theorem wk_78 : Cond.methodLink RX8 3 objectInit ∈ gwt := gw_r (i := 78) (by decide +kernel) (by decide +kernel)
theorem wk_94 : Cond.classLink RX7 23 RX3 ∈ gwt := gw_r (i := 94) (by decide +kernel) (by decide +kernel)
theorem wk_95 : Cond.instantiable RX3 10 ∈ gwt := gw_r (i := 95) (by decide +kernel) (by decide +kernel)
theorem wk_96 : Cond.methodLink RX7 25 yX3_init ∈ gwt := gw_r (i := 96) (by decide +kernel) (by decide +kernel)
theorem wk_97 : Cond.instanceMethod yX3_init ∈ gwt := gw_r (i := 97) (by decide +kernel) (by decide +kernel)
theorem wk_98 : Cond.code yX3_init cX3_init 1 none ∈ gwt := gw_r (i := 98) (by decide +kernel) (by decide +kernel)
theorem wk_99 : Cond.methodLink RX3 3 objectInit ∈ gwt := gw_r (i := 99) (by decide +kernel) (by decide +kernel)
theorem wk_175 : Cond.classLink RX11 25 RX5 ∈ gwt := gw_r (i := 175) (by decide +kernel) (by decide +kernel)
theorem wk_176 : Cond.instantiable RX5 3 ∈ gwt := gw_r (i := 176) (by decide +kernel) (by decide +kernel)
theorem wk_178 : Cond.instanceMethod yX5_init ∈ gwt := gw_r (i := 178) (by decide +kernel) (by decide +kernel)
theorem wk_179 : Cond.code yX5_init cX5_init 1 none ∈ gwt := gw_r (i := 179) (by decide +kernel) (by decide +kernel)
theorem wk_180 : Cond.methodLink RX5 3 objectInit ∈ gwt := gw_r (i := 180) (by decide +kernel) (by decide +kernel)
theorem wk_194 : Cond.classLink RX11 35 RX6 ∈ gwt := gw_r (i := 194) (by decide +kernel) (by decide +kernel)
theorem wk_195 : Cond.instantiable RX6 4 ∈ gwt := gw_r (i := 195) (by decide +kernel) (by decide +kernel)
theorem wk_197 : Cond.instanceMethod yX6_init ∈ gwt := gw_r (i := 197) (by decide +kernel) (by decide +kernel)
theorem wk_198 : Cond.code yX6_init cX6_init 1 none ∈ gwt := gw_r (i := 198) (by decide +kernel) (by decide +kernel)
theorem wk_199 : Cond.methodLink RX6 3 objectInit ∈ gwt := gw_r (i := 199) (by decide +kernel) (by decide +kernel)
theorem wk_213 : Cond.classLink RX11 42 RX0 ∈ gwt := gw_r (i := 213) (by decide +kernel) (by decide +kernel)
theorem wk_214 : Cond.instantiable RX0 9 ∈ gwt := gw_r (i := 214) (by decide +kernel) (by decide +kernel)
theorem wk_215 : Cond.methodLink RX11 44 yX0_init ∈ gwt := gw_r (i := 215) (by decide +kernel) (by decide +kernel)
theorem wk_216 : Cond.instanceMethod yX0_init ∈ gwt := gw_r (i := 216) (by decide +kernel) (by decide +kernel)
theorem wk_217 : Cond.code yX0_init cX0_init 2 none ∈ gwt := gw_r (i := 217) (by decide +kernel) (by decide +kernel)
theorem wk_218 : Cond.methodLink RX0 1 objectInit ∈ gwt := gw_r (i := 218) (by decide +kernel) (by decide +kernel)
theorem wk_219 : Cond.classLink RX0 9 "[[I" ∈ gwt := gw_r (i := 219) (by decide +kernel) (by decide +kernel)
theorem wk_221 : Cond.classLink RX0 23 RX4 ∈ gwt := gw_r (i := 221) (by decide +kernel) (by decide +kernel)
theorem wk_223 : Cond.instantiable RX4 2 ∈ gwt := gw_r (i := 223) (by decide +kernel) (by decide +kernel)
theorem wk_225 : Cond.instanceMethod yX4_init ∈ gwt := gw_r (i := 225) (by decide +kernel) (by decide +kernel)
theorem wk_226 : Cond.code yX4_init cX4_init 1 none ∈ gwt := gw_r (i := 226) (by decide +kernel) (by decide +kernel)
theorem wk_227 : Cond.methodLink RX4 5 objectInit ∈ gwt := gw_r (i := 227) (by decide +kernel) (by decide +kernel)
theorem wk_266 : Cond.classLink RX11 49 RX10 ∈ gwt := gw_r (i := 266) (by decide +kernel) (by decide +kernel)
theorem wk_267 : Cond.instantiable RX10 6 ∈ gwt := gw_r (i := 267) (by decide +kernel) (by decide +kernel)
theorem wk_269 : Cond.instanceMethod yX10_init ∈ gwt := gw_r (i := 269) (by decide +kernel) (by decide +kernel)
theorem wk_270 : Cond.code yX10_init cX10_init 1 none ∈ gwt := gw_r (i := 270) (by decide +kernel) (by decide +kernel)
theorem wk_271 : Cond.methodLink RX10 3 objectInit ∈ gwt := gw_r (i := 271) (by decide +kernel) (by decide +kernel)
theorem wk_292 : Cond.classLink RX11 56 RX9 ∈ gwt := gw_r (i := 292) (by decide +kernel) (by decide +kernel)
theorem wk_293 : Cond.instantiable RX9 10 ∈ gwt := gw_r (i := 293) (by decide +kernel) (by decide +kernel)
theorem wk_295 : Cond.instanceMethod yX9_init ∈ gwt := gw_r (i := 295) (by decide +kernel) (by decide +kernel)
theorem wk_296 : Cond.code yX9_init cX9_init 1 none ∈ gwt := gw_r (i := 296) (by decide +kernel) (by decide +kernel)
theorem wk_297 : Cond.methodLink RX9 5 objectInit ∈ gwt := gw_r (i := 297) (by decide +kernel) (by decide +kernel)
theorem wk_298 : Cond.classLink RX9 21 "[[I" ∈ gwt := gw_r (i := 298) (by decide +kernel) (by decide +kernel)
theorem wk_332 : Cond.classLink RX11 63 RX2 ∈ gwt := gw_r (i := 332) (by decide +kernel) (by decide +kernel)
theorem wk_333 : Cond.instantiable RX2 2 ∈ gwt := gw_r (i := 333) (by decide +kernel) (by decide +kernel)
theorem wk_334 : Cond.methodLink RX11 65 yX2_init ∈ gwt := gw_r (i := 334) (by decide +kernel) (by decide +kernel)
theorem wk_335 : Cond.instanceMethod yX2_init ∈ gwt := gw_r (i := 335) (by decide +kernel) (by decide +kernel)
theorem wk_336 : Cond.code yX2_init cX2_init 1 none ∈ gwt := gw_r (i := 336) (by decide +kernel) (by decide +kernel)
theorem wk_337 : Cond.methodLink RX2 1 objectInit ∈ gwt := gw_r (i := 337) (by decide +kernel) (by decide +kernel)
theorem wk_338 : Cond.classLink RX2 7 RX4 ∈ gwt := gw_r (i := 338) (by decide +kernel) (by decide +kernel)
theorem wk_575 : Cond.constant RJ6 265 (1431655765) ∈ gwt := gw_r (i := 575) (by decide +kernel) (by decide +kernel)
theorem wk_576 : Cond.constant RJ6 266 (858993459) ∈ gwt := gw_r (i := 576) (by decide +kernel) (by decide +kernel)
theorem wk_577 : Cond.constant RJ6 267 (252645135) ∈ gwt := gw_r (i := 577) (by decide +kernel) (by decide +kernel)
theorem wk_578 : Cond.methodLink RX5 66 Lib.Math.min.name ∈ gwt := gw_r (i := 578) (by decide +kernel) (by decide +kernel)
theorem wk_579 : Cond.static Lib.Math.min.name ∈ gwt := gw_r (i := 579) (by decide +kernel) (by decide +kernel)
theorem wk_580 : Cond.code Lib.Math.min.name Lib.Math.min.code 2 (some .int) ∈ gwt := gw_r (i := 580) (by decide +kernel) (by decide +kernel)
theorem wk_590 : Cond.methodLink RX3 60 Lib.Math.min.name ∈ gwt := gw_r (i := 590) (by decide +kernel) (by decide +kernel)
theorem wk_591 : Cond.methodLink RX3 66 Lib.Math.max.name ∈ gwt := gw_r (i := 591) (by decide +kernel) (by decide +kernel)
theorem wk_592 : Cond.static Lib.Math.max.name ∈ gwt := gw_r (i := 592) (by decide +kernel) (by decide +kernel)
theorem wk_593 : Cond.code Lib.Math.max.name Lib.Math.max.code 2 (some .int) ∈ gwt := gw_r (i := 593) (by decide +kernel) (by decide +kernel)
theorem wk_650 : Cond.constant RX6 47 (1000000007) ∈ gwt := gw_r (i := 650) (by decide +kernel) (by decide +kernel)
theorem wk_732 : Cond.methodLink RX4 23 arraycopyName ∈ gwt := gw_r (i := 732) (by decide +kernel) (by decide +kernel)
theorem wk_733 : Cond.static arraycopyName ∈ gwt := gw_r (i := 733) (by decide +kernel) (by decide +kernel)
theorem wk_734 : Cond.native arraycopyName ∈ gwt := gw_r (i := 734) (by decide +kernel) (by decide +kernel)
theorem wk_747 : Cond.constantLong RX4 29 (1073741823) ∈ gwt := gw_r (i := 747) (by decide +kernel) (by decide +kernel)
theorem wk_760 : Cond.methodLink RX4 31 Lib.Math.max.name ∈ gwt := gw_r (i := 760) (by decide +kernel) (by decide +kernel)
theorem wk_850 : Cond.methodLink RX10 37 Lib.Math.min.name ∈ gwt := gw_r (i := 850) (by decide +kernel) (by decide +kernel)
theorem wk_866 : Cond.methodLink RX10 54 arraycopyName ∈ gwt := gw_r (i := 866) (by decide +kernel) (by decide +kernel)
theorem wk_885 : Cond.constantLong RX9 34 (255) ∈ gwt := gw_r (i := 885) (by decide +kernel) (by decide +kernel)
theorem wk_996 : Cond.methodLink RX1 38 arraycopyName ∈ gwt := gw_r (i := 996) (by decide +kernel) (by decide +kernel)
theorem wk_1001 : Cond.methodLink RX8 25 arraycopyName ∈ gwt := gw_r (i := 1001) (by decide +kernel) (by decide +kernel)
theorem wk_1006 : Cond.methodLink RX3 46 arraycopyName ∈ gwt := gw_r (i := 1006) (by decide +kernel) (by decide +kernel)
theorem wk_1007 : Cond.methodLink RX7 51 arraycopyName ∈ gwt := gw_r (i := 1007) (by decide +kernel) (by decide +kernel)
theorem wk_1022 : Cond.methodLink RX9 131 Lib.Math.min.name ∈ gwt := gw_r (i := 1022) (by decide +kernel) (by decide +kernel)
theorem wk_1028 : Cond.arrayClass Jvm.ClassFile.FieldType.byte ∈ gwt := gw_r (i := 1028) (by decide +kernel) (by decide +kernel)
theorem wk_1065 : Cond.constantLong RJ13 314 (6148914691236517205) ∈ gwt := gw_r (i := 1065) (by decide +kernel) (by decide +kernel)
theorem wk_1066 : Cond.constantLong RJ13 316 (3689348814741910323) ∈ gwt := gw_r (i := 1066) (by decide +kernel) (by decide +kernel)
theorem wk_1067 : Cond.constantLong RJ13 318 (1085102592571150095) ∈ gwt := gw_r (i := 1067) (by decide +kernel) (by decide +kernel)
theorem wk_1072 : Cond.constantLong RX11 326 (523) ∈ gwt := gw_r (i := 1072) (by decide +kernel) (by decide +kernel)
theorem wk_1077 : Cond.constantLong RX11 344 (31) ∈ gwt := gw_r (i := 1077) (by decide +kernel) (by decide +kernel)
theorem wk_1105 : Cond.classLink RL 10 RX12 ∈ gwt := gw_r (i := 1105) (by decide +kernel) (by decide +kernel)
theorem wk_1106 : Cond.instantiable RX12 26 ∈ gwt := gw_r (i := 1106) (by decide +kernel) (by decide +kernel)
theorem wk_1107 : Cond.methodLink RL 12 yX12_init ∈ gwt := gw_r (i := 1107) (by decide +kernel) (by decide +kernel)
theorem wk_1108 : Cond.instanceMethod yX12_init ∈ gwt := gw_r (i := 1108) (by decide +kernel) (by decide +kernel)
theorem wk_1109 : Cond.code yX12_init cX12_init 1 none ∈ gwt := gw_r (i := 1109) (by decide +kernel) (by decide +kernel)
theorem wk_1110 : Cond.methodLink RX12 1 objectInit ∈ gwt := gw_r (i := 1110) (by decide +kernel) (by decide +kernel)
theorem wk_1119 : Cond.constantLong RX12 78 (1073741823) ∈ gwt := gw_r (i := 1119) (by decide +kernel) (by decide +kernel)
theorem wk_1203 : Cond.arrayClass Jvm.ClassFile.FieldType.boolean ∈ gwt := gw_r (i := 1203) (by decide +kernel) (by decide +kernel)
theorem wk_1222 : Cond.constantLong RX12 113 (63) ∈ gwt := gw_r (i := 1222) (by decide +kernel) (by decide +kernel)
theorem wk_1235 : Cond.constantLong RX12 125 (3) ∈ gwt := gw_r (i := 1235) (by decide +kernel) (by decide +kernel)
theorem wk_1252 : Cond.constantLong RX12 133 (11) ∈ gwt := gw_r (i := 1252) (by decide +kernel) (by decide +kernel)
theorem wk_1257 : Cond.constantLong RX12 135 (98) ∈ gwt := gw_r (i := 1257) (by decide +kernel) (by decide +kernel)
theorem wk_1312 : Cond.constant RX12 167 (1000000) ∈ gwt := gw_r (i := 1312) (by decide +kernel) (by decide +kernel)
theorem wk_1325 : Cond.constantLong RX12 179 (240) ∈ gwt := gw_r (i := 1325) (by decide +kernel) (by decide +kernel)
theorem wk_1349 : Cond.constantLong RX12 187 (5) ∈ gwt := gw_r (i := 1349) (by decide +kernel) (by decide +kernel)
theorem wk_1354 : Cond.constantLong RX12 189 (6) ∈ gwt := gw_r (i := 1354) (by decide +kernel) (by decide +kernel)
theorem wk_1358 : Cond.constantLong RX12 194 (9) ∈ gwt := gw_r (i := 1358) (by decide +kernel) (by decide +kernel)
theorem wk_1395 : Cond.constantLong RX12 218 (-1) ∈ gwt := gw_r (i := 1395) (by decide +kernel) (by decide +kernel)
theorem wk_1396 : Cond.constantLong RX12 220 (24) ∈ gwt := gw_r (i := 1396) (by decide +kernel) (by decide +kernel)
theorem wk_1405 : Cond.constant RX12 214 (1000000007) ∈ gwt := gw_r (i := 1405) (by decide +kernel) (by decide +kernel)
theorem wk_1430 : Cond.constantLong RX12 232 (99) ∈ gwt := gw_r (i := 1430) (by decide +kernel) (by decide +kernel)
theorem wk_1435 : Cond.constantLong RX12 243 (12) ∈ gwt := gw_r (i := 1435) (by decide +kernel) (by decide +kernel)
theorem wk_1460 : Cond.constant RX12 88 (1073741823) ∈ gwt := gw_r (i := 1460) (by decide +kernel) (by decide +kernel)
theorem wk_1526 : Cond.constantLong RX12 264 (60) ∈ gwt := gw_r (i := 1526) (by decide +kernel) (by decide +kernel)
theorem wk_1539 : Cond.constantLong RX12 269 (8) ∈ gwt := gw_r (i := 1539) (by decide +kernel) (by decide +kernel)
theorem wk_1540 : Cond.constantLong RX12 275 (255) ∈ gwt := gw_r (i := 1540) (by decide +kernel) (by decide +kernel)
theorem wk_1561 : Cond.constantLong RX12 303 (32) ∈ gwt := gw_r (i := 1561) (by decide +kernel) (by decide +kernel)
theorem wk_1562 : Cond.constantLong RX12 305 (97) ∈ gwt := gw_r (i := 1562) (by decide +kernel) (by decide +kernel)
theorem wk_1566 : Cond.constantLong RX12 280 (546713650) ∈ gwt := gw_r (i := 1566) (by decide +kernel) (by decide +kernel)
theorem wk_1567 : Cond.constantLong RX12 282 (777050290) ∈ gwt := gw_r (i := 1567) (by decide +kernel) (by decide +kernel)
theorem wk_1568 : Cond.constantLong RX12 284 (660876) ∈ gwt := gw_r (i := 1568) (by decide +kernel) (by decide +kernel)
theorem wk_1569 : Cond.constantLong RX12 286 (409067) ∈ gwt := gw_r (i := 1569) (by decide +kernel) (by decide +kernel)
theorem wk_1570 : Cond.constantLong RX12 288 (6194) ∈ gwt := gw_r (i := 1570) (by decide +kernel) (by decide +kernel)
theorem wk_1571 : Cond.constantLong RX12 290 (769604) ∈ gwt := gw_r (i := 1571) (by decide +kernel) (by decide +kernel)
theorem wk_1572 : Cond.constantLong RX12 292 (402789) ∈ gwt := gw_r (i := 1572) (by decide +kernel) (by decide +kernel)
theorem wk_1613 : Cond.constantLong RX12 360 (523) ∈ gwt := gw_r (i := 1613) (by decide +kernel) (by decide +kernel)
theorem wk_1614 : Cond.constantLong RX12 358 (31) ∈ gwt := gw_r (i := 1614) (by decide +kernel) (by decide +kernel)
theorem wk_1619 : Cond.constantLong RL 143 (4294967295) ∈ gwt := gw_r (i := 1619) (by decide +kernel) (by decide +kernel)

section
-- ===== PART A: goes FIRST, ahead of the names: the tables' words, and 'selects' of the private methods out of them =====
/-- a private method of a class that the tables say can be made, by its rows of tables_1 -/
def lw_okq (q : MethodName × Nat) : Prop := (q.1.cls ≠ "java/lang/invoke/MethodHandle" ∧ q.1.cls ≠ "java/lang/invoke/VarHandle") ∧ Cond.instantiable q.1.cls q.2 ∈ tables_1 ∧ Cond.privateMethod q.1 ∈ tables_1 ∧ Cond.instanceMethod q.1 ∈ tables_1
theorem lw_p0 : lw_okq (⟨"Manypens$Ints", "makeRoom", "(I)Z"⟩, 2) := ⟨⟨by decide +kernel, by decide +kernel⟩, List.mem_of_getElem? (i := 48) (by decide +kernel), List.mem_of_getElem? (i := 202) (by decide +kernel), List.mem_of_getElem? (i := 203) (by decide +kernel)⟩
theorem lw_p1 : lw_okq (⟨"Manypens$Longs", "makeRoom", "(I)Z"⟩, 2) := ⟨⟨by decide +kernel, by decide +kernel⟩, List.mem_of_getElem? (i := 174) (by decide +kernel), List.mem_of_getElem? (i := 226) (by decide +kernel), List.mem_of_getElem? (i := 227) (by decide +kernel)⟩
theorem lw_p2 : lw_okq (⟨"java/lang/Throwable", "fillInStackTrace", "(I)Ljava/lang/Throwable;"⟩, 6) := ⟨⟨by decide +kernel, by decide +kernel⟩, List.mem_of_getElem? (i := 293) (by decide +kernel), List.mem_of_getElem? (i := 291) (by decide +kernel), List.mem_of_getElem? (i := 292) (by decide +kernel)⟩
theorem lw_p3 : lw_okq (⟨"Manypens", "viewOf", "(I)LManypens$View;"⟩, 9) := ⟨⟨by decide +kernel, by decide +kernel⟩, List.mem_of_getElem? (i := 40) (by decide +kernel), List.mem_of_getElem? (i := 888) (by decide +kernel), List.mem_of_getElem? (i := 889) (by decide +kernel)⟩
theorem lw_p4 : lw_okq (⟨"Manypens$View", "judge", "(II)V"⟩, 14) := ⟨⟨by decide +kernel, by decide +kernel⟩, List.mem_of_getElem? (i := 715) (by decide +kernel), List.mem_of_getElem? (i := 903) (by decide +kernel), List.mem_of_getElem? (i := 904) (by decide +kernel)⟩
theorem lw_p5 : lw_okq (⟨"Manypens$View", "putInForce", "(I)V"⟩, 14) := ⟨⟨by decide +kernel, by decide +kernel⟩, List.mem_of_getElem? (i := 715) (by decide +kernel), List.mem_of_getElem? (i := 918) (by decide +kernel), List.mem_of_getElem? (i := 919) (by decide +kernel)⟩
theorem lw_p6 : lw_okq (⟨"Manypens$View", "gather", "([I)V"⟩, 14) := ⟨⟨by decide +kernel, by decide +kernel⟩, List.mem_of_getElem? (i := 715) (by decide +kernel), List.mem_of_getElem? (i := 922) (by decide +kernel), List.mem_of_getElem? (i := 923) (by decide +kernel)⟩
theorem lw_p7 : lw_okq (⟨"Manypens$View", "isInForce", "(LManypens$Edit;)Z"⟩, 14) := ⟨⟨by decide +kernel, by decide +kernel⟩, List.mem_of_getElem? (i := 715) (by decide +kernel), List.mem_of_getElem? (i := 947) (by decide +kernel), List.mem_of_getElem? (i := 948) (by decide +kernel)⟩
theorem lw_p8 : lw_okq (⟨"Manypens$View", "firstOf", "(LManypens$Edit;)I"⟩, 14) := ⟨⟨by decide +kernel, by decide +kernel⟩, List.mem_of_getElem? (i := 715) (by decide +kernel), List.mem_of_getElem? (i := 965) (by decide +kernel), List.mem_of_getElem? (i := 966) (by decide +kernel)⟩
theorem lw_p9 : lw_okq (⟨"Manypens$View", "endOf", "(LManypens$Edit;)I"⟩, 14) := ⟨⟨by decide +kernel, by decide +kernel⟩, List.mem_of_getElem? (i := 715) (by decide +kernel), List.mem_of_getElem? (i := 984) (by decide +kernel), List.mem_of_getElem? (i := 985) (by decide +kernel)⟩
theorem lw_p10 : lw_okq (⟨"Manypens$View", "lay", "(LManypens$Edit;II)V"⟩, 14) := ⟨⟨by decide +kernel, by decide +kernel⟩, List.mem_of_getElem? (i := 715) (by decide +kernel), List.mem_of_getElem? (i := 988) (by decide +kernel), List.mem_of_getElem? (i := 989) (by decide +kernel)⟩
theorem lw_p11 : lw_okq (⟨"Manypens$View", "hang", "(LManypens$Edit;II)V"⟩, 14) := ⟨⟨by decide +kernel, by decide +kernel⟩, List.mem_of_getElem? (i := 715) (by decide +kernel), List.mem_of_getElem? (i := 996) (by decide +kernel), List.mem_of_getElem? (i := 997) (by decide +kernel)⟩
theorem lw_p12 : lw_okq (⟨"Manypens$View", "isHungBehind", "(IILManypens$Edit;)Z"⟩, 14) := ⟨⟨by decide +kernel, by decide +kernel⟩, List.mem_of_getElem? (i := 715) (by decide +kernel), List.mem_of_getElem? (i := 1000) (by decide +kernel), List.mem_of_getElem? (i := 1001) (by decide +kernel)⟩
theorem lw_p13 : lw_okq (⟨"Manypens", "sumOn", "(JLManypens$View;)J"⟩, 9) := ⟨⟨by decide +kernel, by decide +kernel⟩, List.mem_of_getElem? (i := 40) (by decide +kernel), List.mem_of_getElem? (i := 1014) (by decide +kernel), List.mem_of_getElem? (i := 1015) (by decide +kernel)⟩
theorem lw_p14 : lw_okq (⟨"Manypens$Signs", "sumTo", "(J)J"⟩, 6) := ⟨⟨by decide +kernel, by decide +kernel⟩, List.mem_of_getElem? (i := 604) (by decide +kernel), List.mem_of_getElem? (i := 1046) (by decide +kernel), List.mem_of_getElem? (i := 1047) (by decide +kernel)⟩
theorem lw_p15 : lw_okq (⟨"Manypens$Signs", "sumOfWritten", "(JJ)J"⟩, 6) := ⟨⟨by decide +kernel, by decide +kernel⟩, List.mem_of_getElem? (i := 604) (by decide +kernel), List.mem_of_getElem? (i := 1056) (by decide +kernel), List.mem_of_getElem? (i := 1057) (by decide +kernel)⟩
def lw_privs_1 : List (MethodName × Nat) := [(⟨"Manypens$Ints", "makeRoom", "(I)Z"⟩, 2), (⟨"Manypens$Longs", "makeRoom", "(I)Z"⟩, 2), (⟨"java/lang/Throwable", "fillInStackTrace", "(I)Ljava/lang/Throwable;"⟩, 6), (⟨"Manypens", "viewOf", "(I)LManypens$View;"⟩, 9), (⟨"Manypens$View", "judge", "(II)V"⟩, 14), (⟨"Manypens$View", "putInForce", "(I)V"⟩, 14), (⟨"Manypens$View", "gather", "([I)V"⟩, 14), (⟨"Manypens$View", "isInForce", "(LManypens$Edit;)Z"⟩, 14), (⟨"Manypens$View", "firstOf", "(LManypens$Edit;)I"⟩, 14), (⟨"Manypens$View", "endOf", "(LManypens$Edit;)I"⟩, 14), (⟨"Manypens$View", "lay", "(LManypens$Edit;II)V"⟩, 14), (⟨"Manypens$View", "hang", "(LManypens$Edit;II)V"⟩, 14), (⟨"Manypens$View", "isHungBehind", "(IILManypens$Edit;)Z"⟩, 14), (⟨"Manypens", "sumOn", "(JLManypens$View;)J"⟩, 9), (⟨"Manypens$Signs", "sumTo", "(J)J"⟩, 6), (⟨"Manypens$Signs", "sumOfWritten", "(JJ)J"⟩, 6)]
theorem lw_r1 : ∀ q ∈ lw_privs_1, lw_okq q := List.forall_mem_cons.mpr ⟨lw_p0, List.forall_mem_cons.mpr ⟨lw_p1, List.forall_mem_cons.mpr ⟨lw_p2, List.forall_mem_cons.mpr ⟨lw_p3, List.forall_mem_cons.mpr ⟨lw_p4, List.forall_mem_cons.mpr ⟨lw_p5, List.forall_mem_cons.mpr ⟨lw_p6, List.forall_mem_cons.mpr ⟨lw_p7, List.forall_mem_cons.mpr ⟨lw_p8, List.forall_mem_cons.mpr ⟨lw_p9, List.forall_mem_cons.mpr ⟨lw_p10, List.forall_mem_cons.mpr ⟨lw_p11, List.forall_mem_cons.mpr ⟨lw_p12, List.forall_mem_cons.mpr ⟨lw_p13, List.forall_mem_cons.mpr ⟨lw_p14, List.forall_mem_cons.mpr ⟨lw_p15, fun _ h => absurd h List.not_mem_nil⟩⟩⟩⟩⟩⟩⟩⟩⟩⟩⟩⟩⟩⟩⟩⟩
theorem lw_p16 : lw_okq (⟨"Manypens", "hearAnew", "(I)V"⟩, 9) := ⟨⟨by decide +kernel, by decide +kernel⟩, List.mem_of_getElem? (i := 40) (by decide +kernel), List.mem_of_getElem? (i := 1082) (by decide +kernel), List.mem_of_getElem? (i := 1083) (by decide +kernel)⟩
theorem lw_p17 : lw_okq (⟨"Manypens$InTime", "timeAt", "(I)I"⟩, 3) := ⟨⟨by decide +kernel, by decide +kernel⟩, List.mem_of_getElem? (i := 830) (by decide +kernel), List.mem_of_getElem? (i := 1124) (by decide +kernel), List.mem_of_getElem? (i := 1125) (by decide +kernel)⟩
theorem lw_p18 : lw_okq (⟨"Manypens", "haveHeardSame", "(II)Z"⟩, 9) := ⟨⟨by decide +kernel, by decide +kernel⟩, List.mem_of_getElem? (i := 40) (by decide +kernel), List.mem_of_getElem? (i := 1148) (by decide +kernel), List.mem_of_getElem? (i := 1149) (by decide +kernel)⟩
theorem lw_p19 : lw_okq (⟨"Manypens", "needHand", "(I)V"⟩, 9) := ⟨⟨by decide +kernel, by decide +kernel⟩, List.mem_of_getElem? (i := 40) (by decide +kernel), List.mem_of_getElem? (i := 1193) (by decide +kernel), List.mem_of_getElem? (i := 1194) (by decide +kernel)⟩
theorem lw_p20 : lw_okq (⟨"Manypens", "needPlace", "(IJ)V"⟩, 9) := ⟨⟨by decide +kernel, by decide +kernel⟩, List.mem_of_getElem? (i := 40) (by decide +kernel), List.mem_of_getElem? (i := 1215) (by decide +kernel), List.mem_of_getElem? (i := 1216) (by decide +kernel)⟩
theorem lw_p21 : lw_okq (⟨"Manypens", "needTyped", "()V"⟩, 9) := ⟨⟨by decide +kernel, by decide +kernel⟩, List.mem_of_getElem? (i := 40) (by decide +kernel), List.mem_of_getElem? (i := 1235) (by decide +kernel), List.mem_of_getElem? (i := 1236) (by decide +kernel)⟩
theorem lw_p22 : lw_okq (⟨"Manypens", "needShort", "(J)V"⟩, 9) := ⟨⟨by decide +kernel, by decide +kernel⟩, List.mem_of_getElem? (i := 40) (by decide +kernel), List.mem_of_getElem? (i := 1255) (by decide +kernel), List.mem_of_getElem? (i := 1256) (by decide +kernel)⟩
theorem lw_p23 : lw_okq (⟨"Manypens", "needEdit", "(I)V"⟩, 9) := ⟨⟨by decide +kernel, by decide +kernel⟩, List.mem_of_getElem? (i := 40) (by decide +kernel), List.mem_of_getElem? (i := 1261) (by decide +kernel), List.mem_of_getElem? (i := 1262) (by decide +kernel)⟩
theorem lw_p24 : lw_okq (⟨"Manypens", "newEdit", "(I)LManypens$Edit;"⟩, 9) := ⟨⟨by decide +kernel, by decide +kernel⟩, List.mem_of_getElem? (i := 40) (by decide +kernel), List.mem_of_getElem? (i := 1266) (by decide +kernel), List.mem_of_getElem? (i := 1267) (by decide +kernel)⟩
theorem lw_p25 : lw_okq (⟨"Manypens", "useTyped", "(LManypens$Edit;J)V"⟩, 9) := ⟨⟨by decide +kernel, by decide +kernel⟩, List.mem_of_getElem? (i := 40) (by decide +kernel), List.mem_of_getElem? (i := 1277) (by decide +kernel), List.mem_of_getElem? (i := 1278) (by decide +kernel)⟩
theorem lw_p26 : lw_okq (⟨"Manypens", "makeChange", "(LManypens$Edit;)V"⟩, 9) := ⟨⟨by decide +kernel, by decide +kernel⟩, List.mem_of_getElem? (i := 40) (by decide +kernel), List.mem_of_getElem? (i := 1293) (by decide +kernel), List.mem_of_getElem? (i := 1294) (by decide +kernel)⟩
theorem lw_p27 : lw_okq (⟨"Manypens", "send", "(LManypens$Edit;)V"⟩, 9) := ⟨⟨by decide +kernel, by decide +kernel⟩, List.mem_of_getElem? (i := 40) (by decide +kernel), List.mem_of_getElem? (i := 1306) (by decide +kernel), List.mem_of_getElem? (i := 1307) (by decide +kernel)⟩
theorem lw_p28 : lw_okq (⟨"Manypens$Book", "addMark", "(LManypens$Edit;)V"⟩, 8) := ⟨⟨by decide +kernel, by decide +kernel⟩, List.mem_of_getElem? (i := 62) (by decide +kernel), List.mem_of_getElem? (i := 1315) (by decide +kernel), List.mem_of_getElem? (i := 1316) (by decide +kernel)⟩
theorem lw_p29 : lw_okq (⟨"Manypens$Hand", "setWaiting", "(LManypens$Edit;I)V"⟩, 13) := ⟨⟨by decide +kernel, by decide +kernel⟩, List.mem_of_getElem? (i := 713) (by decide +kernel), List.mem_of_getElem? (i := 1345) (by decide +kernel), List.mem_of_getElem? (i := 1346) (by decide +kernel)⟩
theorem lw_p30 : lw_okq (⟨"Manypens", "needLetters", "(LManypens$View;II)V"⟩, 9) := ⟨⟨by decide +kernel, by decide +kernel⟩, List.mem_of_getElem? (i := 40) (by decide +kernel), List.mem_of_getElem? (i := 1361) (by decide +kernel), List.mem_of_getElem? (i := 1362) (by decide +kernel)⟩
theorem lw_p31 : lw_okq (⟨"Manypens", "cutOut", "(III)LManypens$View;"⟩, 9) := ⟨⟨by decide +kernel, by decide +kernel⟩, List.mem_of_getElem? (i := 40) (by decide +kernel), List.mem_of_getElem? (i := 1366) (by decide +kernel), List.mem_of_getElem? (i := 1367) (by decide +kernel)⟩
def lw_privs_2 : List (MethodName × Nat) := [(⟨"Manypens", "hearAnew", "(I)V"⟩, 9), (⟨"Manypens$InTime", "timeAt", "(I)I"⟩, 3), (⟨"Manypens", "haveHeardSame", "(II)Z"⟩, 9), (⟨"Manypens", "needHand", "(I)V"⟩, 9), (⟨"Manypens", "needPlace", "(IJ)V"⟩, 9), (⟨"Manypens", "needTyped", "()V"⟩, 9), (⟨"Manypens", "needShort", "(J)V"⟩, 9), (⟨"Manypens", "needEdit", "(I)V"⟩, 9), (⟨"Manypens", "newEdit", "(I)LManypens$Edit;"⟩, 9), (⟨"Manypens", "useTyped", "(LManypens$Edit;J)V"⟩, 9), (⟨"Manypens", "makeChange", "(LManypens$Edit;)V"⟩, 9), (⟨"Manypens", "send", "(LManypens$Edit;)V"⟩, 9), (⟨"Manypens$Book", "addMark", "(LManypens$Edit;)V"⟩, 8), (⟨"Manypens$Hand", "setWaiting", "(LManypens$Edit;I)V"⟩, 13), (⟨"Manypens", "needLetters", "(LManypens$View;II)V"⟩, 9), (⟨"Manypens", "cutOut", "(III)LManypens$View;"⟩, 9)]
theorem lw_r2 : ∀ q ∈ lw_privs_2, lw_okq q := List.forall_mem_cons.mpr ⟨lw_p16, List.forall_mem_cons.mpr ⟨lw_p17, List.forall_mem_cons.mpr ⟨lw_p18, List.forall_mem_cons.mpr ⟨lw_p19, List.forall_mem_cons.mpr ⟨lw_p20, List.forall_mem_cons.mpr ⟨lw_p21, List.forall_mem_cons.mpr ⟨lw_p22, List.forall_mem_cons.mpr ⟨lw_p23, List.forall_mem_cons.mpr ⟨lw_p24, List.forall_mem_cons.mpr ⟨lw_p25, List.forall_mem_cons.mpr ⟨lw_p26, List.forall_mem_cons.mpr ⟨lw_p27, List.forall_mem_cons.mpr ⟨lw_p28, List.forall_mem_cons.mpr ⟨lw_p29, List.forall_mem_cons.mpr ⟨lw_p30, List.forall_mem_cons.mpr ⟨lw_p31, fun _ h => absurd h List.not_mem_nil⟩⟩⟩⟩⟩⟩⟩⟩⟩⟩⟩⟩⟩⟩⟩⟩
theorem lw_p32 : lw_okq (⟨"Manypens", "takeLetters", "(LManypens$Edit;LManypens$View;II)V"⟩, 9) := ⟨⟨by decide +kernel, by decide +kernel⟩, List.mem_of_getElem? (i := 40) (by decide +kernel), List.mem_of_getElem? (i := 1370) (by decide +kernel), List.mem_of_getElem? (i := 1371) (by decide +kernel)⟩
theorem lw_p33 : lw_okq (⟨"Manypens", "copyLetters", "(LManypens$Edit;LManypens$View;II)V"⟩, 9) := ⟨⟨by decide +kernel, by decide +kernel⟩, List.mem_of_getElem? (i := 40) (by decide +kernel), List.mem_of_getElem? (i := 1397) (by decide +kernel), List.mem_of_getElem? (i := 1398) (by decide +kernel)⟩
theorem lw_p34 : lw_okq (⟨"Manypens", "needKind", "(C)V"⟩, 9) := ⟨⟨by decide +kernel, by decide +kernel⟩, List.mem_of_getElem? (i := 40) (by decide +kernel), List.mem_of_getElem? (i := 1414) (by decide +kernel), List.mem_of_getElem? (i := 1415) (by decide +kernel)⟩
theorem lw_p35 : lw_okq (⟨"Manypens", "spanLetters", "(LManypens$Edit;LManypens$View;II)V"⟩, 9) := ⟨⟨by decide +kernel, by decide +kernel⟩, List.mem_of_getElem? (i := 40) (by decide +kernel), List.mem_of_getElem? (i := 1422) (by decide +kernel), List.mem_of_getElem? (i := 1423) (by decide +kernel)⟩
theorem lw_p36 : lw_okq (⟨"Manypens", "turn", "(ILManypens$Ints;LManypens$Ints;I)I"⟩, 9) := ⟨⟨by decide +kernel, by decide +kernel⟩, List.mem_of_getElem? (i := 40) (by decide +kernel), List.mem_of_getElem? (i := 1477) (by decide +kernel), List.mem_of_getElem? (i := 1478) (by decide +kernel)⟩
theorem lw_p37 : lw_okq (⟨"Manypens", "needLetter", "(LManypens$View;I)V"⟩, 9) := ⟨⟨by decide +kernel, by decide +kernel⟩, List.mem_of_getElem? (i := 40) (by decide +kernel), List.mem_of_getElem? (i := 1515) (by decide +kernel), List.mem_of_getElem? (i := 1516) (by decide +kernel)⟩
theorem lw_p38 : lw_okq (⟨"Manypens", "needOnWay", "(II)V"⟩, 9) := ⟨⟨by decide +kernel, by decide +kernel⟩, List.mem_of_getElem? (i := 40) (by decide +kernel), List.mem_of_getElem? (i := 1592) (by decide +kernel), List.mem_of_getElem? (i := 1593) (by decide +kernel)⟩
theorem lw_p39 : lw_okq (⟨"Manypens", "hearFrom", "(LManypens$Hand;LManypens$Edit;)I"⟩, 9) := ⟨⟨by decide +kernel, by decide +kernel⟩, List.mem_of_getElem? (i := 40) (by decide +kernel), List.mem_of_getElem? (i := 1620) (by decide +kernel), List.mem_of_getElem? (i := 1621) (by decide +kernel)⟩
theorem lw_p40 : lw_okq (⟨"Manypens", "hearAll", "(LManypens$Hand;LManypens$InTime;)I"⟩, 9) := ⟨⟨by decide +kernel, by decide +kernel⟩, List.mem_of_getElem? (i := 40) (by decide +kernel), List.mem_of_getElem? (i := 1653) (by decide +kernel), List.mem_of_getElem? (i := 1654) (by decide +kernel)⟩
theorem lw_p41 : lw_okq (⟨"Manypens", "needStep", "(II)V"⟩, 9) := ⟨⟨by decide +kernel, by decide +kernel⟩, List.mem_of_getElem? (i := 40) (by decide +kernel), List.mem_of_getElem? (i := 1706) (by decide +kernel), List.mem_of_getElem? (i := 1707) (by decide +kernel)⟩
theorem lw_p42 : lw_okq (⟨"Manypens", "goBack", "(II)V"⟩, 9) := ⟨⟨by decide +kernel, by decide +kernel⟩, List.mem_of_getElem? (i := 40) (by decide +kernel), List.mem_of_getElem? (i := 1711) (by decide +kernel), List.mem_of_getElem? (i := 1712) (by decide +kernel)⟩
theorem lw_p43 : lw_okq (⟨"Manypens", "haveAllHeardAll", "()Z"⟩, 9) := ⟨⟨by decide +kernel, by decide +kernel⟩, List.mem_of_getElem? (i := 40) (by decide +kernel), List.mem_of_getElem? (i := 1749) (by decide +kernel), List.mem_of_getElem? (i := 1750) (by decide +kernel)⟩
theorem lw_p44 : lw_okq (⟨"Manypens$View", "isSeen", "(J)Z"⟩, 14) := ⟨⟨by decide +kernel, by decide +kernel⟩, List.mem_of_getElem? (i := 715) (by decide +kernel), List.mem_of_getElem? (i := 1763) (by decide +kernel), List.mem_of_getElem? (i := 1764) (by decide +kernel)⟩
theorem lw_p45 : lw_okq (⟨"ManypensModel", "isWrong", "(I)Z"⟩, 8) := ⟨⟨by decide +kernel, by decide +kernel⟩, List.mem_of_getElem? (i := 1816) (by decide +kernel), List.mem_of_getElem? (i := 1977) (by decide +kernel), List.mem_of_getElem? (i := 1978) (by decide +kernel)⟩
theorem lw_p46 : lw_okq (⟨"ManypensModel", "textOf", "(LManypensModel$Hand;)[LManypensModel$Letter;"⟩, 8) := ⟨⟨by decide +kernel, by decide +kernel⟩, List.mem_of_getElem? (i := 1816) (by decide +kernel), List.mem_of_getElem? (i := 1992) (by decide +kernel), List.mem_of_getElem? (i := 1993) (by decide +kernel)⟩
theorem lw_p47 : lw_okq (⟨"ManypensModel", "text", "([I)[LManypensModel$Letter;"⟩, 8) := ⟨⟨by decide +kernel, by decide +kernel⟩, List.mem_of_getElem? (i := 1816) (by decide +kernel), List.mem_of_getElem? (i := 1996) (by decide +kernel), List.mem_of_getElem? (i := 1997) (by decide +kernel)⟩
def lw_privs_3 : List (MethodName × Nat) := [(⟨"Manypens", "takeLetters", "(LManypens$Edit;LManypens$View;II)V"⟩, 9), (⟨"Manypens", "copyLetters", "(LManypens$Edit;LManypens$View;II)V"⟩, 9), (⟨"Manypens", "needKind", "(C)V"⟩, 9), (⟨"Manypens", "spanLetters", "(LManypens$Edit;LManypens$View;II)V"⟩, 9), (⟨"Manypens", "turn", "(ILManypens$Ints;LManypens$Ints;I)I"⟩, 9), (⟨"Manypens", "needLetter", "(LManypens$View;I)V"⟩, 9), (⟨"Manypens", "needOnWay", "(II)V"⟩, 9), (⟨"Manypens", "hearFrom", "(LManypens$Hand;LManypens$Edit;)I"⟩, 9), (⟨"Manypens", "hearAll", "(LManypens$Hand;LManypens$InTime;)I"⟩, 9), (⟨"Manypens", "needStep", "(II)V"⟩, 9), (⟨"Manypens", "goBack", "(II)V"⟩, 9), (⟨"Manypens", "haveAllHeardAll", "()Z"⟩, 9), (⟨"Manypens$View", "isSeen", "(J)Z"⟩, 14), (⟨"ManypensModel", "isWrong", "(I)Z"⟩, 8), (⟨"ManypensModel", "textOf", "(LManypensModel$Hand;)[LManypensModel$Letter;"⟩, 8), (⟨"ManypensModel", "text", "([I)[LManypensModel$Letter;"⟩, 8)]
theorem lw_r3 : ∀ q ∈ lw_privs_3, lw_okq q := List.forall_mem_cons.mpr ⟨lw_p32, List.forall_mem_cons.mpr ⟨lw_p33, List.forall_mem_cons.mpr ⟨lw_p34, List.forall_mem_cons.mpr ⟨lw_p35, List.forall_mem_cons.mpr ⟨lw_p36, List.forall_mem_cons.mpr ⟨lw_p37, List.forall_mem_cons.mpr ⟨lw_p38, List.forall_mem_cons.mpr ⟨lw_p39, List.forall_mem_cons.mpr ⟨lw_p40, List.forall_mem_cons.mpr ⟨lw_p41, List.forall_mem_cons.mpr ⟨lw_p42, List.forall_mem_cons.mpr ⟨lw_p43, List.forall_mem_cons.mpr ⟨lw_p44, List.forall_mem_cons.mpr ⟨lw_p45, List.forall_mem_cons.mpr ⟨lw_p46, List.forall_mem_cons.mpr ⟨lw_p47, fun _ h => absurd h List.not_mem_nil⟩⟩⟩⟩⟩⟩⟩⟩⟩⟩⟩⟩⟩⟩⟩⟩
theorem lw_p48 : lw_okq (⟨"ManypensModel", "lays", "()V"⟩, 8) := ⟨⟨by decide +kernel, by decide +kernel⟩, List.mem_of_getElem? (i := 1816) (by decide +kernel), List.mem_of_getElem? (i := 2000) (by decide +kernel), List.mem_of_getElem? (i := 2001) (by decide +kernel)⟩
theorem lw_p49 : lw_okq (⟨"ManypensModel", "isSeen", "(LManypensModel$Letter;[I)Z"⟩, 8) := ⟨⟨by decide +kernel, by decide +kernel⟩, List.mem_of_getElem? (i := 1816) (by decide +kernel), List.mem_of_getElem? (i := 2004) (by decide +kernel), List.mem_of_getElem? (i := 2005) (by decide +kernel)⟩
theorem lw_p50 : lw_okq (⟨"ManypensModel", "isInForce", "(LManypensModel$Edit;[I)Z"⟩, 8) := ⟨⟨by decide +kernel, by decide +kernel⟩, List.mem_of_getElem? (i := 1816) (by decide +kernel), List.mem_of_getElem? (i := 2008) (by decide +kernel), List.mem_of_getElem? (i := 2009) (by decide +kernel)⟩
theorem lw_p51 : lw_okq (⟨"ManypensModel", "puts", "(LManypensModel$Hand;[LManypensModel$Letter;I)LManypensModel$Letter;"⟩, 8) := ⟨⟨by decide +kernel, by decide +kernel⟩, List.mem_of_getElem? (i := 1816) (by decide +kernel), List.mem_of_getElem? (i := 2015) (by decide +kernel), List.mem_of_getElem? (i := 2016) (by decide +kernel)⟩
theorem lw_p52 : lw_okq (⟨"ManypensModel", "edits", "(LManypensModel$Hand;)LManypensModel$Edit;"⟩, 8) := ⟨⟨by decide +kernel, by decide +kernel⟩, List.mem_of_getElem? (i := 1816) (by decide +kernel), List.mem_of_getElem? (i := 2019) (by decide +kernel), List.mem_of_getElem? (i := 2020) (by decide +kernel)⟩
theorem lw_p53 : lw_okq (⟨"ManypensModel", "makes", "(LManypensModel$Hand;)LManypensModel$Edit;"⟩, 8) := ⟨⟨by decide +kernel, by decide +kernel⟩, List.mem_of_getElem? (i := 1816) (by decide +kernel), List.mem_of_getElem? (i := 2023) (by decide +kernel), List.mem_of_getElem? (i := 2024) (by decide +kernel)⟩
theorem lw_p54 : lw_okq (⟨"ManypensModel", "adds", "(LManypensModel$Edit;LManypensModel$Letter;[CI)LManypensModel$Letter;"⟩, 8) := ⟨⟨by decide +kernel, by decide +kernel⟩, List.mem_of_getElem? (i := 1816) (by decide +kernel), List.mem_of_getElem? (i := 2092) (by decide +kernel), List.mem_of_getElem? (i := 2093) (by decide +kernel)⟩
theorem lw_p55 : lw_okq (⟨"ManypensModel", "hangs", "(LManypensModel$Letter;LManypensModel$Letter;)V"⟩, 8) := ⟨⟨by decide +kernel, by decide +kernel⟩, List.mem_of_getElem? (i := 1816) (by decide +kernel), List.mem_of_getElem? (i := 2096) (by decide +kernel), List.mem_of_getElem? (i := 2097) (by decide +kernel)⟩
theorem lw_p56 : lw_okq (⟨"ManypensModel", "longNow", "(LManypensModel$Hand;)I"⟩, 8) := ⟨⟨by decide +kernel, by decide +kernel⟩, List.mem_of_getElem? (i := 1816) (by decide +kernel), List.mem_of_getElem? (i := 2100) (by decide +kernel), List.mem_of_getElem? (i := 2101) (by decide +kernel)⟩
theorem lw_p57 : lw_okq (⟨"ManypensModel", "placeOf", "(LManypensModel$Hand;)I"⟩, 8) := ⟨⟨by decide +kernel, by decide +kernel⟩, List.mem_of_getElem? (i := 1816) (by decide +kernel), List.mem_of_getElem? (i := 2141) (by decide +kernel), List.mem_of_getElem? (i := 2142) (by decide +kernel)⟩
theorem lw_p58 : lw_okq (⟨"ManypensModel", "tells", "(LManypensModel$Hand;LManypensModel$Group;C)I"⟩, 8) := ⟨⟨by decide +kernel, by decide +kernel⟩, List.mem_of_getElem? (i := 1816) (by decide +kernel), List.mem_of_getElem? (i := 2160) (by decide +kernel), List.mem_of_getElem? (i := 2161) (by decide +kernel)⟩
theorem lw_p59 : lw_okq (⟨"ManypensModel", "isNone", "(I)Z"⟩, 8) := ⟨⟨by decide +kernel, by decide +kernel⟩, List.mem_of_getElem? (i := 1816) (by decide +kernel), List.mem_of_getElem? (i := 2172) (by decide +kernel), List.mem_of_getElem? (i := 2173) (by decide +kernel)⟩
theorem lw_p60 : lw_okq (⟨"ManypensModel", "letter", "(III)LManypensModel$Letter;"⟩, 8) := ⟨⟨by decide +kernel, by decide +kernel⟩, List.mem_of_getElem? (i := 1816) (by decide +kernel), List.mem_of_getElem? (i := 2184) (by decide +kernel), List.mem_of_getElem? (i := 2185) (by decide +kernel)⟩
theorem lw_p61 : lw_okq (⟨"ManypensModel", "hasMark", "(LManypensModel$Letter;C[I)Z"⟩, 8) := ⟨⟨by decide +kernel, by decide +kernel⟩, List.mem_of_getElem? (i := 1816) (by decide +kernel), List.mem_of_getElem? (i := 2196) (by decide +kernel), List.mem_of_getElem? (i := 2197) (by decide +kernel)⟩
theorem lw_p62 : lw_okq (⟨"ManypensModel", "marks", "(LManypensModel$Letter;[I)I"⟩, 8) := ⟨⟨by decide +kernel, by decide +kernel⟩, List.mem_of_getElem? (i := 1816) (by decide +kernel), List.mem_of_getElem? (i := 2207) (by decide +kernel), List.mem_of_getElem? (i := 2208) (by decide +kernel)⟩
theorem lw_p63 : lw_okq (⟨"ManypensModel", "hung", "(LManypensModel$Hand;[LManypensModel$Letter;)[LManypensModel$Edit;"⟩, 8) := ⟨⟨by decide +kernel, by decide +kernel⟩, List.mem_of_getElem? (i := 1816) (by decide +kernel), List.mem_of_getElem? (i := 2215) (by decide +kernel), List.mem_of_getElem? (i := 2216) (by decide +kernel)⟩
def lw_privs_4 : List (MethodName × Nat) := [(⟨"ManypensModel", "lays", "()V"⟩, 8), (⟨"ManypensModel", "isSeen", "(LManypensModel$Letter;[I)Z"⟩, 8), (⟨"ManypensModel", "isInForce", "(LManypensModel$Edit;[I)Z"⟩, 8), (⟨"ManypensModel", "puts", "(LManypensModel$Hand;[LManypensModel$Letter;I)LManypensModel$Letter;"⟩, 8), (⟨"ManypensModel", "edits", "(LManypensModel$Hand;)LManypensModel$Edit;"⟩, 8), (⟨"ManypensModel", "makes", "(LManypensModel$Hand;)LManypensModel$Edit;"⟩, 8), (⟨"ManypensModel", "adds", "(LManypensModel$Edit;LManypensModel$Letter;[CI)LManypensModel$Letter;"⟩, 8), (⟨"ManypensModel", "hangs", "(LManypensModel$Letter;LManypensModel$Letter;)V"⟩, 8), (⟨"ManypensModel", "longNow", "(LManypensModel$Hand;)I"⟩, 8), (⟨"ManypensModel", "placeOf", "(LManypensModel$Hand;)I"⟩, 8), (⟨"ManypensModel", "tells", "(LManypensModel$Hand;LManypensModel$Group;C)I"⟩, 8), (⟨"ManypensModel", "isNone", "(I)Z"⟩, 8), (⟨"ManypensModel", "letter", "(III)LManypensModel$Letter;"⟩, 8), (⟨"ManypensModel", "hasMark", "(LManypensModel$Letter;C[I)Z"⟩, 8), (⟨"ManypensModel", "marks", "(LManypensModel$Letter;[I)I"⟩, 8), (⟨"ManypensModel", "hung", "(LManypensModel$Hand;[LManypensModel$Letter;)[LManypensModel$Edit;"⟩, 8)]
theorem lw_r4 : ∀ q ∈ lw_privs_4, lw_okq q := List.forall_mem_cons.mpr ⟨lw_p48, List.forall_mem_cons.mpr ⟨lw_p49, List.forall_mem_cons.mpr ⟨lw_p50, List.forall_mem_cons.mpr ⟨lw_p51, List.forall_mem_cons.mpr ⟨lw_p52, List.forall_mem_cons.mpr ⟨lw_p53, List.forall_mem_cons.mpr ⟨lw_p54, List.forall_mem_cons.mpr ⟨lw_p55, List.forall_mem_cons.mpr ⟨lw_p56, List.forall_mem_cons.mpr ⟨lw_p57, List.forall_mem_cons.mpr ⟨lw_p58, List.forall_mem_cons.mpr ⟨lw_p59, List.forall_mem_cons.mpr ⟨lw_p60, List.forall_mem_cons.mpr ⟨lw_p61, List.forall_mem_cons.mpr ⟨lw_p62, List.forall_mem_cons.mpr ⟨lw_p63, fun _ h => absurd h List.not_mem_nil⟩⟩⟩⟩⟩⟩⟩⟩⟩⟩⟩⟩⟩⟩⟩⟩
theorem lw_p64 : lw_okq (⟨"ManypensModel", "isNoWay", "(II)Z"⟩, 8) := ⟨⟨by decide +kernel, by decide +kernel⟩, List.mem_of_getElem? (i := 1816) (by decide +kernel), List.mem_of_getElem? (i := 2242) (by decide +kernel), List.mem_of_getElem? (i := 2243) (by decide +kernel)⟩
theorem lw_p65 : lw_okq (⟨"ManypensModel", "hears", "(LManypensModel$Hand;LManypensModel$Edit;)I"⟩, 8) := ⟨⟨by decide +kernel, by decide +kernel⟩, List.mem_of_getElem? (i := 1816) (by decide +kernel), List.mem_of_getElem? (i := 2256) (by decide +kernel), List.mem_of_getElem? (i := 2257) (by decide +kernel)⟩
theorem lw_p66 : lw_okq (⟨"ManypensModel", "waitingOne", "(LManypensModel$Hand;)LManypensModel$Edit;"⟩, 8) := ⟨⟨by decide +kernel, by decide +kernel⟩, List.mem_of_getElem? (i := 1816) (by decide +kernel), List.mem_of_getElem? (i := 2263) (by decide +kernel), List.mem_of_getElem? (i := 2264) (by decide +kernel)⟩
theorem lw_p67 : lw_okq (⟨"ManypensModel", "hearsAll", "(LManypensModel$Hand;[I)I"⟩, 8) := ⟨⟨by decide +kernel, by decide +kernel⟩, List.mem_of_getElem? (i := 1816) (by decide +kernel), List.mem_of_getElem? (i := 2282) (by decide +kernel), List.mem_of_getElem? (i := 2283) (by decide +kernel)⟩
theorem lw_p68 : lw_okq (⟨"ManypensModel", "isNoPair", "(II)Z"⟩, 8) := ⟨⟨by decide +kernel, by decide +kernel⟩, List.mem_of_getElem? (i := 1816) (by decide +kernel), List.mem_of_getElem? (i := 2294) (by decide +kernel), List.mem_of_getElem? (i := 2295) (by decide +kernel)⟩
theorem lw_p69 : lw_okq (⟨"ManypensModel", "isNoStep", "(II)Z"⟩, 8) := ⟨⟨by decide +kernel, by decide +kernel⟩, List.mem_of_getElem? (i := 1816) (by decide +kernel), List.mem_of_getElem? (i := 2314) (by decide +kernel), List.mem_of_getElem? (i := 2315) (by decide +kernel)⟩
theorem lw_p70 : lw_okq (⟨"ManypensModel", "textThen", "(LManypensModel$Hand;I)[LManypensModel$Letter;"⟩, 8) := ⟨⟨by decide +kernel, by decide +kernel⟩, List.mem_of_getElem? (i := 1816) (by decide +kernel), List.mem_of_getElem? (i := 2318) (by decide +kernel), List.mem_of_getElem? (i := 2319) (by decide +kernel)⟩
theorem lw_p71 : lw_okq (⟨"ManypensModel", "areAlike", "(LManypensModel$Hand;LManypensModel$Hand;)Z"⟩, 8) := ⟨⟨by decide +kernel, by decide +kernel⟩, List.mem_of_getElem? (i := 1816) (by decide +kernel), List.mem_of_getElem? (i := 2334) (by decide +kernel), List.mem_of_getElem? (i := 2335) (by decide +kernel)⟩
def lw_privs_5 : List (MethodName × Nat) := [(⟨"ManypensModel", "isNoWay", "(II)Z"⟩, 8), (⟨"ManypensModel", "hears", "(LManypensModel$Hand;LManypensModel$Edit;)I"⟩, 8), (⟨"ManypensModel", "waitingOne", "(LManypensModel$Hand;)LManypensModel$Edit;"⟩, 8), (⟨"ManypensModel", "hearsAll", "(LManypensModel$Hand;[I)I"⟩, 8), (⟨"ManypensModel", "isNoPair", "(II)Z"⟩, 8), (⟨"ManypensModel", "isNoStep", "(II)Z"⟩, 8), (⟨"ManypensModel", "textThen", "(LManypensModel$Hand;I)[LManypensModel$Letter;"⟩, 8), (⟨"ManypensModel", "areAlike", "(LManypensModel$Hand;LManypensModel$Hand;)Z"⟩, 8)]
theorem lw_r5 : ∀ q ∈ lw_privs_5, lw_okq q := List.forall_mem_cons.mpr ⟨lw_p64, List.forall_mem_cons.mpr ⟨lw_p65, List.forall_mem_cons.mpr ⟨lw_p66, List.forall_mem_cons.mpr ⟨lw_p67, List.forall_mem_cons.mpr ⟨lw_p68, List.forall_mem_cons.mpr ⟨lw_p69, List.forall_mem_cons.mpr ⟨lw_p70, List.forall_mem_cons.mpr ⟨lw_p71, fun _ h => absurd h List.not_mem_nil⟩⟩⟩⟩⟩⟩⟩⟩
def lw_privs : List (MethodName × Nat) := lw_privs_1 ++ (lw_privs_2 ++ (lw_privs_3 ++ (lw_privs_4 ++ (lw_privs_5))))
def lw_tbl : List Cond := k2_sels lw_privs ++ tables_1
theorem lw_privs_ok : ∀ q ∈ lw_privs, lw_okq q := by
  show ∀ q ∈ lw_privs_1 ++ (lw_privs_2 ++ (lw_privs_3 ++ (lw_privs_4 ++ (lw_privs_5)))), lw_okq q
  exact List.forall_mem_append.mpr ⟨lw_r1, List.forall_mem_append.mpr ⟨lw_r2, List.forall_mem_append.mpr ⟨lw_r3, List.forall_mem_append.mpr ⟨lw_r4, lw_r5⟩⟩⟩⟩
/-- the streams that the claim lets the run draw from -/
abbrev lw_cs : List Choice := [Jvm.Choice.named "NaN.bits"]
theorem lw_bits : nanBits ∈ lw_cs := by first | decide | exact List.mem_cons_self | simp [lw_cs, nanBits]
-- ===== end of PART A; then your names; then what follows =====
end
section
/-! ===== BEGIN words of one list among another's, by their places ===== -/
theorem goodIn_r {big : List Cond} (ws : List Cond) (ps : List Nat) (hp : ws = ps.filterMap (fun i => big[i]?)) (h : ws.all goodWord = true) : GoodIn big ws := by
  intro w hw
  have h1 := List.all_eq_true.mp h w hw
  rw [hp] at hw
  obtain ⟨i, -, hi⟩ := List.mem_filterMap.mp hw
  have hm : w ∈ big := by first | exact List.mem_of_getElem? hi | exact List.getElem?_mem hi
  exact ⟨hm, good_of_word h1⟩
theorem goodIn_app {big a b : List Cond} (ha : GoodIn big a) (hb : GoodIn big b) : GoodIn big (a ++ b) := fun w h => (List.mem_append.mp h).elim (ha w) (hb w)
theorem goodIn_ca {big a b : List Cond} {c : Cond} (ha : GoodIn big (c :: a)) (hb : GoodIn big b) : GoodIn big (c :: (a ++ b)) := fun w h => (List.mem_cons.mp h).elim (fun e => ha w (List.mem_cons.mpr (Or.inl e))) (fun h => (List.mem_append.mp h).elim (fun h => ha w (List.mem_cons.mpr (Or.inr h))) (hb w))
theorem goodIn_sub {big ws : List Cond} (hm : ∀ w ∈ ws, w ∈ big) (h : ws.all goodWord = true) : GoodIn big ws := fun w hw => ⟨hm w hw, good_of_word (List.all_eq_true.mp h w hw)⟩
/-! ===== END ===== -/

/-! ===== BEGIN new T[n][m]: the outer array a place, the inner ones among the pooled ===== -/
/-- f, but v at every address of l -/
def vr_up {α : Type} (f : Nat → α) (l : List Nat) (v : α) : Nat → α := fun a => if a ∈ l then v else f a
theorem vr_up_in {α : Type} {f : Nat → α} {l : List Nat} {v : α} {a : Nat} (h : a ∈ l) : vr_up f l v a = v := if_pos h
theorem vr_up_ne {α : Type} {f : Nat → α} {l : List Nat} {v : α} {a : Nat} (h : a ∉ l) : vr_up f l v a = f a := if_neg h
theorem vr_rows {L l : List Nat} {f : Nat → va_E} {e : va_E} (h : ∀ a, a ∈ l → a ∉ L) : va_pl L f ++ l.map (fun a => (a, e)) = va_pl (L ++ l) (vr_up f l e) := by
  unfold va_pl
  rw [List.map_append]
  congr 1
  · apply List.map_congr_left
    intro a ha
    rw [vr_up_ne (fun q => h a q ha)]
  · apply List.map_congr_left
    intro a ha
    rw [vr_up_in ha]
theorem vr_lay {X rows : va_W} {x : Nat × va_E} {pl : va_W} {D : va_G} {cl : List vw_C} {H : Heap} (hP : va_P D cl (((X ++ pl) ++ [x]) ++ rows) H) : va_P D cl ((X ++ [x]) ++ (pl ++ rows)) H := by
  rw [List.append_assoc (X ++ pl)] at hP
  have h := va_P.swap hP
  rw [← List.append_assoc X] at h
  have h2 := va_P.swap h
  rw [List.append_assoc (X ++ [x])] at h2
  exact h2
theorem vr_layD {X rows : va_W} {x : Nat × va_E} {pl : va_W} {A : Nat → Prop} (hD : va_D A (((X ++ pl) ++ [x]) ++ rows)) : va_D A ((X ++ [x]) ++ (pl ++ rows)) := by
  rw [List.append_assoc (X ++ pl)] at hD
  have h := va_D.swap hD
  rw [← List.append_assoc X] at h
  have h2 := va_D.swap h
  rw [List.append_assoc (X ++ [x])] at h2
  exact h2
theorem vr_outer (c : ClassId) (N h0 : Nat) : ∀ i : Nat, Jvm.Free.Multi.outerC c N h0 i = arrV c N (fun j => va_rf (if j < i then some (h0 + 1 + j) else none))
  | 0 => by
    show ({ cls := c, slots := Array.replicate N .null, vm := .none } : Cell) = _
    rw [arrV_new]
    refine congrArg (arrV c N) (funext fun j => ?_)
    simp [va_rf]
  | i + 1 => by
    show (Jvm.Free.Multi.outerC c N h0 i).setSlot i (.ref (h0 + 1 + i)) = _
    rw [vr_outer c N h0 i, arrV_store]
    refine congrArg (arrV c N) (funext fun j => ?_)
    by_cases e : j = i
    · subst e
      simp [updV, va_rf]
    · by_cases h : j < i
      · simp [updV, e, h, Nat.lt_succ_of_lt h]
      · simp [updV, e, h, show ¬ j < i + 1 by omega]
/-- the tables let an array over arrays of this component be made -/
def va_AOA (ty : FieldType) (U : State) : Prop := (Cond.arrayOver (.array ty)).before #[] U = true
theorem va_AOA.use {ty : FieldType} {A : Array Value} {U : State} (h : va_AOA ty U) : (Cond.arrayOver (.array ty)).before A U = true := h
section VGM
variable {p : Program} {l : Launch} {e : Env} {R : Room} {s : State} {m : MethodId} {args : Array Value} {below : List Frame} {meth : Method} {c : Code} {H : Heap} {locs : List Loc} {cells slots : Nat} {Q : State → Prop}
variable {cc : ByteArray} {pc : Nat} {ls : Array Slot} {rest : List Value} {D : va_G} {cl : List vw_C} {A : Nat → Prop} {a : Nat} {tys : List (ClassId × FieldType)} {ws : va_W} {H0 : Heap}
theorem va_mna {X : va_W} {L : List Nat} {f : Nat → va_E} {cc : ByteArray} (hexec : p.tables.exec = Jvm.exec) (hb : c.code = cc) {own : String} {index : Nat} {ty : FieldType} {cy : ClassId} (hown : s.vm.findClass own = some m.cls) (hclink : (Cond.classLink own index ("[" ++ (FieldType.array ty).toString)).before args s = true) (hover : va_AOA ty s) (harr : (Cond.arrayClass ty).before args s = true) (hcy : s.vm.findClass (FieldType.array ty).toString = some cy)
    (hK : va_K D cl tys s) (hP : va_P D cl (X ++ va_pl L f) H) (hD : va_D A (X ++ va_pl L f)) (hS : va_S A H0 H locs) (hA : ∀ q, H0.size ≤ q → A q) {n k : Int32} {N' K' : Nat} {z : vp_A} (hn : ¬ n < 0) (hk : ¬ k < 0) (hN : n.toNatClampNeg = N') (hM : k.toNatClampNeg = K')
    (hb1 : N' * 4 ≤ 536870912) (hb2 : K' * componentBytes ty ≤ 536870912) (hb3 : K' ≤ 536870912) (hdf : fits ty (defaultValue ty) = true) (hdd : (defaultValue ty).isDefault = true) (hcells : cells + (1 + N') ≤ R.cells) (hslots : slots + (N' + N' * K') ≤ R.slots) (hz : ∀ c : ClassId, Jvm.Free.Multi.innerC c K' (defaultValue ty) = vp_cell c z) (hdg : decode cc pc = .ok (.multianewarray index 2, 4))
    (kk : ∀ (q : Nat) (r : Nat → Nat) (cA : ClassId) (H1 : Heap), (∀ i j : Nat, i < N' → j < N' → r i = r j → i = j) → (∀ i : Nat, i < N' → r i ∉ L) → va_K D cl (tys ++ [(cA, .array ty)]) s →
      va_P D cl ((X ++ [(q, .inl (cA, N', .inr (.inr (.inr (.inr (fun i => if i < N' then some (r i) else none))))))]) ++ va_pl (L ++ (List.range N').map r) (vr_up f ((List.range N').map r) (.inl (cy, z)))) H1 → va_D A ((X ++ [(q, .inl (cA, N', .inr (.inr (.inr (.inr (fun i => if i < N' then some (r i) else none))))))]) ++ va_pl (L ++ (List.range N').map r) (vr_up f ((List.range N').map r) (.inl (cy, z)))) → va_S A H0 H1 locs →
      W p l e R s m args below meth c H1 locs (cells + 1 + N') (slots + N' + N' * K') Q (F0 m (pc + 4) ls (.ref q :: rest))) : W p l e R s m args below meth c H locs cells slots Q (F0 m pc ls (.int k :: .int n :: rest)) := by
  subst hN
  subst hM
  intro T hT Xs
  obtain ⟨vm₁, cA, comp, -, fA, fC, hO, -, X', step⟩ := Xs.multianewarray2F hexec hown hclink (va_AOA.use hover) harr (g := F0 m pc ls (.int k :: .int n :: rest)) rfl (by rw [hb]; exact hdg) rfl hn hk hb1 hb2 hb3 hdf hdd hcells hslots
  have ec : some cy = some comp := hcy.symm.trans fC
  cases ec
  generalize hF : Jvm.Free.Multi.fill (T.setVm vm₁) cA cy n.toNatClampNeg k.toNatClampNeg (defaultValue ty) n.toNatClampNeg = F at X' step
  have hTh : (T.setVm vm₁).heap = H := hT
  obtain ⟨f1, f2, -, -⟩ := Jvm.Free.Multi.fill_facts (T.setVm vm₁) cA cy n.toNatClampNeg k.toNatClampNeg (defaultValue ty) n.toNatClampNeg
  rw [hF, hTh] at f1 f2
  have hold : ∀ x : Nat, x < H.size → F.heap[x]? = H[x]? := fun x hx => by
    have := Jvm.Free.Multi.fill_old (T.setVm vm₁) cA cy n.toNatClampNeg k.toNatClampNeg (defaultValue ty) (a := x) (by rw [hTh]; exact hx) n.toNatClampNeg
    rw [hF, hTh] at this
    exact this
  have hrow : ∀ j : Nat, j < n.toNatClampNeg → F.heap[H.size + 1 + j]? = some (vp_cell cy z) := fun j hj => by
    have := Jvm.Free.Multi.fill_inner (T.setVm vm₁) cA cy n.toNatClampNeg k.toNatClampNeg (defaultValue ty) n.toNatClampNeg j hj
    rw [hF, hTh, hz] at this
    exact this
  have hout : Jvm.Free.Multi.outerC cA n.toNatClampNeg H.size n.toNatClampNeg = vp_cell cA (n.toNatClampNeg, .inr (.inr (.inr (.inr (fun i => if i < n.toNatClampNeg then some (H.size + 1 + i) else none))))) := by
    rw [vp_cell_q]
    exact vr_outer cA n.toNatClampNeg H.size n.toNatClampNeg
  rw [hout] at f2
  have hlt : ∀ a, a ∈ L → a < H.size := fun a ha => by
    obtain ⟨k9, hk9⟩ := va_pl_get (X := X) (f := f) ha
    exact (hP k9 _ hk9).lt
  have hnl : ∀ i : Nat, i < n.toNatClampNeg → H.size + 1 + i ∉ L := fun i _ h => by
    have := hlt _ h
    omega
  have hnm : ∀ a, a ∈ (List.range n.toNatClampNeg).map (fun i => H.size + 1 + i) → a ∉ L := fun a ha h => by
    obtain ⟨i, -, rfl⟩ := List.mem_map.mp ha
    have := hlt _ h
    omega
  have hP0 : va_P D cl (X ++ va_pl L f) F.heap := hP.kept (fun k9 x hx => hold x.1 ((hP k9 x hx).lt))
  have hP1 : va_P D cl ((X ++ va_pl L f) ++ [(H.size, .inl (cA, n.toNatClampNeg, .inr (.inr (.inr (.inr (fun i => if i < n.toNatClampNeg then some (H.size + 1 + i) else none))))))]) F.heap := hP0.app (fun k9 x hx => by
    have h0 : k9 < 1 := (List.getElem?_eq_some_iff.mp hx).1
    rw [show k9 = 0 by omega] at hx
    cases hx
    exact f2)
  have hP2 : va_P D cl (((X ++ va_pl L f) ++ [(H.size, .inl (cA, n.toNatClampNeg, .inr (.inr (.inr (.inr (fun i => if i < n.toNatClampNeg then some (H.size + 1 + i) else none))))))]) ++ ((List.range n.toNatClampNeg).map (fun i => H.size + 1 + i)).map (fun a => (a, .inl (cy, z)))) F.heap := hP1.app (fun k9 x hx => by
    obtain ⟨a, ha, rfl⟩ := List.mem_map.mp (List.mem_of_getElem? hx)
    obtain ⟨i, hi, rfl⟩ := List.mem_map.mp ha
    exact hrow i (List.mem_range.mp hi))
  have hD2 : va_D A (((X ++ va_pl L f) ++ [(H.size, .inl (cA, n.toNatClampNeg, .inr (.inr (.inr (.inr (fun i => if i < n.toNatClampNeg then some (H.size + 1 + i) else none))))))]) ++ ((List.range n.toNatClampNeg).map (fun i => H.size + 1 + i)).map (fun a => (a, .inl (cy, z)))) := by
    have hD1 := hD.push (e := .inl (cA, n.toNatClampNeg, .inr (.inr (.inr (.inr (fun i => if i < n.toNatClampNeg then some (H.size + 1 + i) else none)))))) hP rfl (hA _ hS.1)
    generalize hW1 : (X ++ va_pl L f) ++ [(H.size, .inl (cA, n.toNatClampNeg, .inr (.inr (.inr (.inr (fun i => if i < n.toNatClampNeg then some (H.size + 1 + i) else none))))))] = W1 at hD1 hP1 ⊢
    have hle : ∀ (k9 : Nat) (x : Nat × va_E), W1[k9]? = some x → x.1 ≤ H.size := fun k9 x hx => by
      rw [← hW1] at hx
      by_cases hl : k9 < (X ++ va_pl L f).length
      · rw [List.getElem?_append_left hl] at hx
        exact Nat.le_of_lt ((hP k9 x hx).lt)
      · rw [List.getElem?_append_right (by omega)] at hx
        have h0 : k9 - (X ++ va_pl L f).length < 1 := (List.getElem?_eq_some_iff.mp hx).1
        rw [show k9 - (X ++ va_pl L f).length = 0 by omega] at hx
        cases hx
        exact Nat.le_refl _
    have hr : ∀ (k9 : Nat) (x : Nat × va_E), (((List.range n.toNatClampNeg).map (fun i => H.size + 1 + i)).map (fun a => ((a, .inl (cy, z)) : Nat × va_E)))[k9]? = some x → x.1 = H.size + 1 + k9 := fun k9 x hx => by
      rw [List.getElem?_map, List.getElem?_map] at hx
      by_cases h9 : k9 < n.toNatClampNeg
      · rw [List.getElem?_range h9] at hx
        cases hx
        rfl
      · have hn0 : (List.range n.toNatClampNeg)[k9]? = none := List.getElem?_eq_none (by rw [List.length_range]; omega)
        rw [hn0] at hx
        cases hx
    refine ⟨fun i j x y hi hj hxy => ?_, fun k9 x hx => ?_⟩
    · by_cases h1 : i < W1.length <;> by_cases h2 : j < W1.length
      · rw [List.getElem?_append_left h1] at hi
        rw [List.getElem?_append_left h2] at hj
        exact hD1.1 i j x y hi hj hxy
      · rw [List.getElem?_append_left h1] at hi
        rw [List.getElem?_append_right (by omega)] at hj
        have := hle _ _ hi
        have := hr _ _ hj
        omega
      · rw [List.getElem?_append_right (by omega)] at hi
        rw [List.getElem?_append_left h2] at hj
        have := hle _ _ hj
        have := hr _ _ hi
        omega
      · rw [List.getElem?_append_right (by omega)] at hi hj
        have := hr _ _ hi
        have := hr _ _ hj
        omega
    · by_cases h1 : k9 < W1.length
      · rw [List.getElem?_append_left h1] at hx
        exact hD1.2 k9 x hx
      · rw [List.getElem?_append_right (by omega)] at hx
        have := hr _ _ hx
        exact hA _ (by have := hS.1; omega)
  have hAr : ArrOfT s cA (.array ty) := fun N9 z9 => by
    obtain ⟨-, k9, hk9, cm9, hkk9⟩ := (hO 0 0 0).1
    exact ⟨(fun q hq => by cases hq), k9, hk9, cm9, hkk9⟩
  have hK2 : va_K D cl (tys ++ [(cA, .array ty)]) s := ⟨hK.1, fun k9 x hx => by
    by_cases hl : k9 < tys.length
    · rw [List.getElem?_append_left hl] at hx
      exact hK.2 k9 x hx
    · rw [List.getElem?_append_right (by omega)] at hx
      have h0 : k9 - tys.length < 1 := (List.getElem?_eq_some_iff.mp hx).1
      rw [show k9 - tys.length = 0 by omega] at hx
      cases hx
      exact ⟨hAr, fA⟩⟩
  obtain ⟨t, a1, b1⟩ := kk H.size (fun i => H.size + 1 + i) cA F.heap (fun i j _ _ h => by have h9 : H.size + 1 + i = H.size + 1 + j := h; omega) hnl hK2 (by rw [← vr_rows hnm]; exact vr_lay hP2) (by rw [← vr_rows hnm]; exact vr_layD hD2) ⟨by rw [f1]; have := hS.1; omega, fun x h1 h2 => (hold x (Nat.lt_of_lt_of_le h1 hS.1)).trans (hS.2.1 x h1 h2), hS.2.2⟩ F rfl X'
  refine ⟨t, step t ?_, b1⟩
  have e : T.heap.size = H.size := by rw [hT]
  rw [e]
  exact a1
end VGM
/-! ===== END ===== -/

/-! ===== BEGIN exceptions that leave a method, and their catching by the caller (launches without stack traces) ===== -/
section VXA
/-! The laws vx_back, vx_callV, vx_callS, vx_callSW, vx_throw0, vx_throwS follow proofs of the library, with one case more: JvmDerived/Free/Laws.lean (Back.of_free), Shelf42/LK1.lean (callV, callS), Shelf/KitTraced.lean (throwNew0V, throwNewS). -/
/-- where a method has thrown q: the class by its name, the cell, what was written, the world -/
def vx_T (XC : String → State → State → Prop) (st : State) (q : Addr) (t : State) (mc ms : Nat) (free : Addr → Prop) : Prop :=
  ∃ (E : String) (ce : Cell) (L : List Loc), XC E st t ∧ t.heap[q]? = some ce ∧ ce.vm = .none ∧ st.vm.findClass E = some ce.cls ∧ st.WarmedH t.vm ∧ st.sameButNew ({ t with vm := st.vm } : State) L mc ms ∧ ∀ z ∈ L, free z.base
def vx_Q (Qc : Array Value → State → Outcome → State → Prop) (XC : String → State → State → Prop) (mc ms : Nat) (free : Addr → Prop) : Array Value → State → Outcome → State → Prop := fun a st o t =>
  (Qc a st o t ∧ ∃ L, FrameEnd st o t L mc ms ∧ ∀ q ∈ L, free q.base) ∨ ∃ q, o = .threw q ∧ vx_T XC st q t mc ms free
/-- a callee that returns or throws -/
def vx_Met (l : Launch) (y : MethodName) (ws : List Cond) (rm : Room) (Pc : Array Value → State → Prop) (Qc : Array Value → State → Outcome → State → Prop) (XC : String → State → State → Prop) (mc ms : Nat) (free : Addr → Prop) : Prop :=
  MetFree l y (headSpec ws rm) Pc (fun _ _ _ _ _ => True) (vx_Q Qc XC mc ms free)
def vx_Post (XC : String → State → State → Prop) (mc ms : Nat) (free : Addr → Prop) : Pt → Array Value → Addr → Pt → Prop := fun A a q B =>
  ∃ (g : JFrame) (mk : MethodId) (t : State) (L : List Loc) (E : String) (ce : Cell), B.U.heap = t.heap ∧ B.U.vm = t.vm ∧ XC E (A.U.calling g mk a) t ∧ t.heap[q]? = some ce ∧ ce.vm = .none ∧ A.U.vm.findClass E = some ce.cls ∧ B.locs = A.locs ++ L ∧ (∀ z ∈ L, free z.base) ∧ B.cells = A.cells + mc ∧ B.slots = A.slots + ms
def vx_Back (l : Launch) (R : Room) (p : Program) (e : Env) (below : List Frame) (s : State) (sargs : Array Value) (y : MethodName) (len W9 : Nat)
    (Pre : Pt → Array Value → Prop) (Post : Pt → Array Value → Option Value → Pt → Prop) (PostX : Pt → Array Value → Addr → Pt → Prop) : Prop :=
  ∀ (m : MethodId) (meth : Method) (c : Code) (A : Pt) (g : JFrame) (ig : Instr) (mk : MethodId) (a : Array Value),
    Stand p l e R s m sargs below meth c A.U A.locs A.cells A.slots → g.method = m → g.locals.size = c.maxLocals → decode c.code g.pc = .ok (ig, len) →
    2 * g.monitorRoom + (g.stack.map fun v => v.category).sum ≤ W9 → A.U.methodNamed? y = some mk → Pre A a →
    (∃ (v : Option Value) (B : Pt), Stand p l e R s m sargs below meth c B.U B.locs B.cells B.slots ∧ Post A a v B ∧
      Steps p.tables e below (doInvoke e (A.U.setTop g) [] mk a).1 (B.U.setTop { g with pc := g.pc + len, stack := v.toList ++ g.stack })) ∨
    (∃ (q : Addr) (B : Pt), Stand p l e R s m sargs below meth c B.U B.locs B.cells B.slots ∧ PostX A a q B ∧
      Steps p.tables e below (doInvoke e (A.U.setTop g) [] mk a).1 ((B.U.setTop g).pushFrame (.throwing q)))
section Payer
variable {l : Launch} {R : Room} {p : Program} {e : Env} {below : List Frame} {s : State} {sargs : Array Value} {y : MethodName} {len W9 : Nat}
theorem vx_back {ws : List Cond} {rm : Room} {Pc : Array Value → State → Prop} {Qc : Array Value → State → Outcome → State → Prop} {XC : String → State → State → Prop} {mc ms : Nat} {free : Addr → Prop} {bytes : ByteArray} {maxL : Nat} {ret : Option FieldType}
    (hM : vx_Met l y ws rm Pc Qc XC mc ms free) (hblind : FrameBlind Pc) (hrc : rm.cells = mc) (hrs : rm.slots = ms)
    (hframes : rm.frames + 1 ≤ R.frames) (hlocals : W9 + (maxL + 11) + rm.locals ≤ R.locals)
    (hws : ∀ w ∈ ws, ∀ a' U, s.WarmedH U.vm → w.before a' U = true) (hcode : Cond.code y bytes maxL ret ∈ ws) (hinit : ∀ a' U, s.WarmedH U.vm → (Cond.initialized y.cls).before a' U = true) :
    vx_Back l R p e below s sargs y len W9 (PreOf R mc ms Pc) (PostOf Qc mc ms free) (vx_Post XC mc ms free) := by
  intro m meth c A g ig mk a X hg hsize hdg hW hn hp
  have h1 : (headSpec ws rm).pre.before a A.U = true := atoms_intro fun w hw => hws w hw _ _ X.warmed
  have h2 : (Cond.code y bytes maxL ret).before a A.U = true := hws _ hcode _ _ X.warmed
  have h3 : (Cond.initialized y.cls).before a A.U = true := hinit _ _ X.warmed
  have h4 : A.cells + (headSpec ws rm).room.cells ≤ R.cells := by rw [show (headSpec ws rm).room.cells = mc from hrc]; exact hp.1
  have h5 : A.slots + (headSpec ws rm).room.slots ≤ R.slots := by rw [show (headSpec ws rm).room.slots = ms from hrs]; exact hp.2.1
  have hPc : Pc a (A.U.calling g mk a) := hblind _ _ _ _ hp.2.2
  obtain ⟨U, Ls, c0, s0⟩ := A
  dsimp only [Pt.U, Pt.locs, Pt.cells, Pt.slots] at h1 h2 h3 h4 h5 X hn hPc ⊢
  obtain ⟨methY, cY, hmY, hcY, -, hlY, -, -, -, -⟩ := Cond.code_spec hn h2
  obtain ⟨kY, hkY, -⟩ := className_of_methodNamed hn
  have hinitY : kY.init = .initialized := Cond.initialized_spec (findClass_of_methodNamed hn) hkY h3
  have h : At U g.method c below := by rw [hg]; exact X.here
  have hlocals9 : W9 + (maxL + 11) + (headSpec ws rm).room.locals ≤ R.locals := hlocals
  have happ : (headSpec ws rm).appliesLoose y e.platform (U.calling g mk a) = true :=
    Spec.appliesLoose_calling (g := g) h hdg hn hkY hinitY
      (X.room_calling (g := g) (R' := (headSpec ws rm).room) hsize hmY hcY hframes (by rw [hlY]; omega) h4 h5) h1
  obtain ⟨mid, hmid⟩ := h.above
  have hfr : (U.setTop g).frames = (.java g :: mid) ++ below := by rw [State.frames_setTop' g h.top, hmid]; rfl
  obtain ⟨o, s₂, hsteps, -, hend, hq⟩ := Steps.callFree hM p X.admits X.cas X.clock (acts := []) hfr happ hPc trivial
  have hq' : vx_Q Qc XC mc ms free a (U.calling g mk a) o s₂ := hq
  rw [State.frames_setTop' g h.top] at hend
  obtain ⟨g₀, hg0⟩ := Option.isSome_iff_exists.mp h.top
  obtain ⟨r, hr⟩ := State.topJava?_eq_some.mp hg0
  have hr' : (({ U with heap := s₂.heap, slotsUsed := s₂.slotsUsed } : State).setVm s₂.vm).frames = .java g₀ :: r := hr
  rcases hq' with ⟨hqc, L, hfe, hL⟩ | ⟨q, rfl, E, ce, L, hx, hce, hcv, hcl, hW₂, hsm, hL⟩
  · obtain ⟨⟨v, rfl⟩, hW₂, e2, q2, q3, q4, q5, q6⟩ := id hfe
    have e3 : s₂ = ({ (U.calling g mk a).setFrames s₂.frames with heap := s₂.heap, slotsUsed := s₂.slotsUsed } : State).setVm s₂.vm := by
      have : s₂ = ({ s₂ with vm := (U.calling g mk a).vm } : State).setVm s₂.vm := rfl
      rw [e2] at this
      exact this
    obtain ⟨c₂, i₂, len₂, hc₂, hd₂, hf₂⟩ := hend
    have hW' : U.WarmedH s₂.vm := hW₂
    have hcc : c₂ = c := by
      have h1 : s₂.code? g.method = U.code? g.method := by
        rw [State.code?_eq, State.code?_eq, hW'.alike.method?]
      exact Option.some.inj (hc₂.symm.trans (h1.trans h.code))
    subst hcc
    have hlen : len₂ = len := by rw [hdg] at hd₂; cases hd₂; rfl
    subst hlen
    have hs₂ : s₂ = (({ U with heap := s₂.heap, slotsUsed := s₂.slotsUsed } : State).setVm s₂.vm).setTop { g with pc := g.pc + len₂, stack := v.toList ++ g.stack } := by
      refine e3.trans ?_
      rw [hf₂, State.calling_eq h.top, State.setFrames_setFrames, State.setTop_of_frames _ hr', hr]
      rfl
    have hsame : U.sameButNew ({ U with heap := s₂.heap, slotsUsed := s₂.slotsUsed } : State) L mc ms := by
      refine ⟨?_, q2, q3, q4, q5, q6⟩
      obtain ⟨t, ht, -⟩ := State.frames_cons hr
      show ({ U with heap := s₂.heap, slotsUsed := s₂.slotsUsed } : State) = { U.setFrames U.frames with heap := s₂.heap, slotsUsed := s₂.slotsUsed }
      rw [State.setFrames_self ht]
    subst hg
    refine Or.inl ⟨v, ⟨(({ U with heap := s₂.heap, slotsUsed := s₂.slotsUsed } : State).setVm s₂.vm), Ls ++ L, c0 + mc, s0 + ms⟩,
      ⟨X.admits, X.cas, X.clock, X.frames, X.room, X.hears, X.method, X.code, (X.here.setHeapUsed s₂.heap s₂.slotsUsed).setVm hW'.alike, X.tail, State.WarmedH.trans X.warmed hW', X.limits, X.bytes, X.same.trans (hsame.setVm s.vm)⟩,
      ⟨g, mk, s₂, L, rfl, rfl, hqc, rfl, hL, rfl, rfl⟩, ?_⟩
    show Steps p.tables e below _ ((({ U with heap := s₂.heap, slotsUsed := s₂.slotsUsed } : State).setVm s₂.vm).setTop { g with pc := g.pc + len₂, stack := v.toList ++ g.stack })
    rw [← hs₂]
    exact hsteps
  · obtain ⟨e2, q2, q3, q4, q5, q6⟩ := id hsm
    have e3 : s₂ = ({ (U.calling g mk a).setFrames s₂.frames with heap := s₂.heap, slotsUsed := s₂.slotsUsed } : State).setVm s₂.vm := by
      have : s₂ = ({ s₂ with vm := (U.calling g mk a).vm } : State).setVm s₂.vm := rfl
      rw [e2] at this
      exact this
    have hf₂ : s₂.frames = .throwing q :: .java g :: U.frames.tail := hend
    have hW' : U.WarmedH s₂.vm := hW₂
    have hs₂ : s₂ = ((({ U with heap := s₂.heap, slotsUsed := s₂.slotsUsed } : State).setVm s₂.vm).setTop g).pushFrame (.throwing q) := by
      refine e3.trans ?_
      rw [hf₂, State.calling_eq h.top, State.setFrames_setFrames, State.pushFrame, State.frames_setTop _ hr', State.setTop_of_frames _ hr', State.setFrames_setFrames, hr]
      rfl
    have hsame : U.sameButNew ({ U with heap := s₂.heap, slotsUsed := s₂.slotsUsed } : State) L mc ms := by
      refine ⟨?_, q2, q3, q4, q5, q6⟩
      obtain ⟨t, ht, -⟩ := State.frames_cons hr
      show ({ U with heap := s₂.heap, slotsUsed := s₂.slotsUsed } : State) = { U.setFrames U.frames with heap := s₂.heap, slotsUsed := s₂.slotsUsed }
      rw [State.setFrames_self ht]
    subst hg
    refine Or.inr ⟨q, ⟨(({ U with heap := s₂.heap, slotsUsed := s₂.slotsUsed } : State).setVm s₂.vm), Ls ++ L, c0 + mc, s0 + ms⟩,
      ⟨X.admits, X.cas, X.clock, X.frames, X.room, X.hears, X.method, X.code, (X.here.setHeapUsed s₂.heap s₂.slotsUsed).setVm hW'.alike, X.tail, State.WarmedH.trans X.warmed hW', X.limits, X.bytes, X.same.trans (hsame.setVm s.vm)⟩,
      ⟨g, mk, s₂, L, E, ce, rfl, rfl, hx, hce, hcv, hcl, rfl, hL, rfl, rfl⟩, ?_⟩
    show Steps p.tables e below _ (((({ U with heap := s₂.heap, slotsUsed := s₂.slotsUsed } : State).setVm s₂.vm).setTop g).pushFrame (.throwing q))
    rw [← hs₂]
    exact hsteps
end Payer
section Calls
variable {p : Program} {l : Launch} {e : Env} {R : Room} {s : State} {m : MethodId} {args : Array Value} {below : List Frame} {meth : Method} {c : Code} {T : State} {locs : List Loc} {cells slots : Nat}
theorem vx_callV (X : Stand p l e R s m args below meth c T locs cells slots) (hexec : p.tables.exec = Jvm.exec) {own C : String} {index : Nat} {y : MethodName} {bytes : ByteArray} {maxL : Nat} {ret : Option FieldType}
    (hown : s.vm.findClass own = some m.cls) (hlink : (Cond.methodLink own index y).before args s = true) (hinst : (Cond.instanceMethod y).before args s = true) (hsel : (Cond.selects C y y).before args s = true)
    (hcode : (Cond.code y bytes maxL ret).before args s = true) (hy : y.cls ≠ "java/lang/invoke/MethodHandle" ∧ y.cls ≠ "java/lang/invoke/VarHandle")
    {W9 : Nat} {Pre : Pt → Array Value → Prop} {Post : Pt → Array Value → Option Value → Pt → Prop} {PostX : Pt → Array Value → Addr → Pt → Prop} (hK : vx_Back l R p e below s args y 3 W9 Pre Post PostX)
    {b : Addr} {cellB : Cell} (hcell : T.heap[b]? = some cellB) (hobj : cellB.vm.isStatics = false) (hcls : s.vm.findClass C = some cellB.cls)
    {g : JFrame} (hg : g.method = m) (hsize : g.locals.size = c.maxLocals) {argsL rest : List Value} (hlen : ∀ sig, parseMethodDescriptor y.desc = some sig → argsL.length = sig.parameters.length)
    (hstack : g.stack = argsL.reverse ++ .ref b :: rest) (hW : 2 * g.monitorRoom + (rest.map fun v => v.category).sum ≤ W9) (hdg : decode c.code g.pc = .ok (.invokevirtual index, 3))
    (hpre : ∀ vm₁, s.WarmedH vm₁ → Pre ⟨T.setVm vm₁, locs, cells, slots⟩ (Value.ref b :: argsL).toArray) :
    (∃ (v : Option Value) (vm₁ : Vm) (B : Pt), s.WarmedH vm₁ ∧ Stand p l e R s m args below meth c B.U B.locs B.cells B.slots ∧ Post ⟨T.setVm vm₁, locs, cells, slots⟩ (Value.ref b :: argsL).toArray v B ∧
      ∀ target, Steps p.tables e below (B.U.setTop { g with pc := g.pc + 3, stack := v.toList ++ rest }) target → Steps p.tables e below (T.setTop g) target) ∨
    (∃ (q : Addr) (vm₁ : Vm) (B : Pt), s.WarmedH vm₁ ∧ Stand p l e R s m args below meth c B.U B.locs B.cells B.slots ∧ PostX ⟨T.setVm vm₁, locs, cells, slots⟩ (Value.ref b :: argsL).toArray q B ∧
      Steps p.tables e below (T.setTop g) ((B.U.setTop { g with stack := rest }).pushFrame (.throwing q))) := by
  obtain ⟨mk, methM, hnamed, hmethM, hstM, habM⟩ := Cond.instanceMethod_spec hinst
  obtain ⟨methM', cM, hmethM', -, -, -, -, -, -, hsigM⟩ := Cond.code_spec hnamed hcode
  cases hmethM.symm.trans hmethM'
  obtain ⟨c2, r2, m2, q1, q2, q3, q4, kP, hkP, hkPi⟩ := Cond.selects_spec hsel
  cases hcls.symm.trans q1
  cases (State.methodFound?_of_named hnamed hy).symm.trans q2
  cases hnamed.symm.trans q3
  have hselP : selectMethod e.platform s.vm cellB.cls mk = .method mk := by rw [Launch.admits_selectMethod X.admits]; exact q4
  obtain ⟨vm₁, X₁, hstep₁⟩ := X.invokevirtual hexec hown hlink hnamed hmethM hstM hkP hkPi hy (a := b) (cell := cellB) hcell
    (fun z h => by rw [h] at hobj; cases hobj) hselP hmethM habM hkP hkPi (g := g) hg (argsL := argsL) (rest := rest) (hlen _ hsigM) hstack hdg
  rcases hK m meth c ⟨T.setVm vm₁, locs, cells, slots⟩ { g with stack := rest } (.invokevirtual index) mk (Value.ref b :: argsL).toArray X₁ hg hsize hdg hW (X₁.named hnamed) (hpre vm₁ X₁.warmed) with ⟨v, B, X', hpost, hsteps⟩ | ⟨q, B, X', hpost, hsteps⟩
  · exact Or.inl ⟨v, vm₁, B, X₁.warmed, X', hpost, fun target h => hstep₁ _ fun acts => by rw [doInvoke_state]; exact hsteps.trans h⟩
  · exact Or.inr ⟨q, vm₁, B, X₁.warmed, X', hpost, hstep₁ _ fun acts => by rw [doInvoke_state]; exact hsteps⟩
theorem vx_callS (X : Stand p l e R s m args below meth c T locs cells slots) (hexec : p.tables.exec = Jvm.exec) {own : String} {index : Nat} {y : MethodName} {bytes : ByteArray} {maxL : Nat} {ret : Option FieldType}
    (hown : s.vm.findClass own = some m.cls) (hlink : (Cond.methodLink own index y).before args s = true) (hstat : (Cond.static y).before args s = true) (hinit : (Cond.initialized y.cls).before args s = true)
    (hcode : (Cond.code y bytes maxL ret).before args s = true) (hy : y.cls ≠ "java/lang/invoke/MethodHandle" ∧ y.cls ≠ "java/lang/invoke/VarHandle")
    {W9 : Nat} {Pre : Pt → Array Value → Prop} {Post : Pt → Array Value → Option Value → Pt → Prop} {PostX : Pt → Array Value → Addr → Pt → Prop} (hK : vx_Back l R p e below s args y 3 W9 Pre Post PostX)
    {g : JFrame} (hg : g.method = m) (hsize : g.locals.size = c.maxLocals) {argsL rest : List Value} (hlen : ∀ sig, parseMethodDescriptor y.desc = some sig → argsL.length = sig.parameters.length)
    (hstack : g.stack = argsL.reverse ++ rest) (hW : 2 * g.monitorRoom + (rest.map fun v => v.category).sum ≤ W9) (hdg : decode c.code g.pc = .ok (.invokestatic index, 3))
    (hpre : ∀ vm₁, s.WarmedH vm₁ → Pre ⟨T.setVm vm₁, locs, cells, slots⟩ argsL.toArray) :
    (∃ (v : Option Value) (vm₁ : Vm) (B : Pt), s.WarmedH vm₁ ∧ Stand p l e R s m args below meth c B.U B.locs B.cells B.slots ∧ Post ⟨T.setVm vm₁, locs, cells, slots⟩ argsL.toArray v B ∧
      ∀ target, Steps p.tables e below (B.U.setTop { g with pc := g.pc + 3, stack := v.toList ++ rest }) target → Steps p.tables e below (T.setTop g) target) ∨
    (∃ (q : Addr) (vm₁ : Vm) (B : Pt), s.WarmedH vm₁ ∧ Stand p l e R s m args below meth c B.U B.locs B.cells B.slots ∧ PostX ⟨T.setVm vm₁, locs, cells, slots⟩ argsL.toArray q B ∧
      Steps p.tables e below (T.setTop g) ((B.U.setTop { g with stack := rest }).pushFrame (.throwing q))) := by
  obtain ⟨mk, hnamed⟩ := Cond.code_named hcode
  obtain ⟨methM, cM, hmethM, -, -, -, -, -, -, hsigM⟩ := Cond.code_spec hnamed hcode
  have hstatic : methM.isStatic = true := Cond.static_spec hnamed hmethM hstat
  obtain ⟨kP, hkP, -⟩ := className_of_methodNamed hnamed
  have hinitP : kP.init = .initialized := Cond.initialized_spec (findClass_of_methodNamed hnamed) hkP hinit
  obtain ⟨vm₁, X₁, hstep₁⟩ := X.invokestatic hexec hown hlink hnamed hmethM hstatic hkP hinitP hy (g := g) hg (argsL := argsL) (rest := rest) (hlen _ hsigM) hstack hdg
  rcases hK m meth c ⟨T.setVm vm₁, locs, cells, slots⟩ { g with stack := rest } (.invokestatic index) mk argsL.toArray X₁ hg hsize hdg hW (X₁.named hnamed) (hpre vm₁ X₁.warmed) with ⟨v, B, X', hpost, hsteps⟩ | ⟨q, B, X', hpost, hsteps⟩
  · exact Or.inl ⟨v, vm₁, B, X₁.warmed, X', hpost, fun target h => hstep₁ _ fun acts => by rw [doInvoke_state]; exact hsteps.trans h⟩
  · exact Or.inr ⟨q, vm₁, B, X₁.warmed, X', hpost, hstep₁ _ fun acts => by rw [doInvoke_state]; exact hsteps⟩
end Calls
theorem vx_cls {s : State} {T : State} {vm₁ : Vm} {E : String} {k : ClassId} (hW : s.WarmedH vm₁) (h : (T.setVm vm₁).vm.findClass E = some k) : s.vm.findClass E = some k := by
  have h1 : vm₁.findClass E = some k := h
  rw [hW.alike.findClass] at h1
  exact h1
/-- the method's frame g, with q thrown over it -/
def vx_W (p : Program) (l : Launch) (e : Env) (R : Room) (s : State) (m : MethodId) (args : Array Value) (below : List Frame) (meth : Method) (c : Code) (H : Heap) (locs : List Loc) (cells slots : Nat) (Q : State → Prop) (g : JFrame) (q : Addr) : Prop :=
  ∀ T : State, T.heap = H → Stand p l e R s m args below meth c T locs cells slots → ∃ t, Steps p.tables e below ((T.setTop g).pushFrame (.throwing q)) t ∧ Q t
def vx_Run (p : Program) (l : Launch) (e : Env) (R : Room) (s : State) (m : MethodId) (args : Array Value) (below : List Frame) (meth : Method) (c : Code) (H : Heap) (locs : List Loc) (cells slots mc ms : Nat) (g : JFrame) (rest : List Value) (Qa : State → Outcome → State → Prop) (XC : String → State → State → Prop) (free : Addr → Prop) : Prop :=
  ∀ T : State, T.heap = H → Stand p l e R s m args below meth c T locs cells slots →
    (∃ (v : Option Value) (st₀ t T' : State) (L : List Loc), st₀.heap = H ∧ Stand p l e R s m args below meth c T' (locs ++ L) (cells + mc) (slots + ms) ∧ (∀ q ∈ L, free q.base) ∧ T'.heap = t.heap ∧ T'.vm = t.vm ∧ Qa st₀ (.returned v) t ∧
      Goes p e below T g T' { g with pc := g.pc + 3, stack := v.toList ++ rest }) ∨
    (∃ (q : Addr) (st₀ t T' : State) (L : List Loc) (E : String) (ce : Cell), st₀.heap = H ∧ Stand p l e R s m args below meth c T' (locs ++ L) (cells + mc) (slots + ms) ∧ (∀ z ∈ L, free z.base) ∧ T'.heap = t.heap ∧ T'.vm = t.vm ∧ XC E st₀ t ∧ t.heap[q]? = some ce ∧ ce.vm = .none ∧ s.vm.findClass E = some ce.cls ∧
      Steps p.tables e below (T.setTop g) ((T'.setTop { g with stack := rest }).pushFrame (.throwing q)))
def vx_X {S : Type} (px : S → Prop) (B : String → S → State → Prop) (A : Nat → Prop) : String → State → State → Prop := fun E st t => ∃ u : S, px u ∧ B E u t ∧ va_F A st t
section Runs
variable {p : Program} {l : Launch} {e : Env} {R : Room} {s : State} {m : MethodId} {args : Array Value} {below : List Frame} {meth : Method} {c : Code} {H : Heap} {locs : List Loc} {cells slots : Nat}
variable {y : MethodName} {bytes cc : ByteArray} {maxL nL mc ms n index : Nat} {ret : Option FieldType} {ws : List Cond} {rm : Room} {Pc : Array Value → State → Prop} {Qc : Array Value → State → Outcome → State → Prop} {XC : String → State → State → Prop} {free : Addr → Prop} {Ts : List Cond} {own C : String} {b : Addr} {As rest : List Value} {g : JFrame}
theorem vx_callBack (cb : CallB R s args own index y bytes maxL ret ws rm mc ms n) (hM : vx_Met l y ws rm Pc Qc XC mc ms free) (hbl : FrameBlind Pc) : vx_Back l R p e below s args y 3 8 (PreOf R mc ms Pc) (PostOf Qc mc ms free) (vx_Post XC mc ms free) := by
  obtain ⟨hrc, hrs, hfr, hlo, hws, hcw, -, hini, -⟩ := cb
  exact vx_back (bytes := bytes) (maxL := maxL) (ret := ret) hM hbl hrc hrs hfr hlo hws hcw (fun a' U hW => word_at hW (Or.inl (by first | rfl | simp [Cond.onTables, Cond.keeps, Cond.steady])) hini)
theorem vx_runV (S : CallFix p m c cc nL s args Ts own) (hM : vx_Met l y ws rm Pc Qc XC mc ms free) (cw : CallW R s args own C index y bytes maxL ret ws rm mc ms n) (hp : PreV s H C b Pc As)
    (hg : g.method = m) (hn : As.length = n) (hsize : g.locals.size = nL) (hstack : g.stack = As.reverse ++ .ref b :: rest) (hW : 2 * g.monitorRoom + (rest.map fun v => v.category).sum ≤ 8) (hdg : decode cc g.pc = .ok (.invokevirtual index, 3)) (hf : cells + mc ≤ R.cells ∧ slots + ms ≤ R.slots) :
    vx_Run p l e R s m args below meth c H locs cells slots mc ms g rest (Qc (Value.ref b :: As).toArray) XC free := by
  have hK : vx_Back l R p e below s args y 3 8 (PreOf R mc ms Pc) (PostOf Qc mc ms free) (vx_Post XC mc ms free) := vx_callBack cw.1 hM hp.1
  obtain ⟨⟨-, -, -, -, -, -, hcode, -, hy, hlen, hl⟩, hin, hse⟩ := cw
  obtain ⟨hx, hb, hml, ho, -⟩ := S
  obtain ⟨-, ⟨cellB, hcB, hoB, hclB⟩, hPc⟩ := hp
  intro T hT X
  rcases vx_callV X hx (C := C) (bytes := bytes) (maxL := maxL) (ret := ret) ho hl hin hse hcode hy hK (by rw [hT]; exact hcB) hoB hclB hg (hsize.trans hml.symm) (argsL := As) (rest := rest) (fun sig h => hn.trans (hlen sig h)) hstack hW (by rw [hb]; exact hdg)
    (fun vm₁ hW₁ => ⟨hf.1, hf.2, hPc (T.setVm vm₁) hT hW₁⟩) with ⟨v, vm₁, ⟨U', l2, c2, s2⟩, hW₁, X', ⟨g', mk, t, L, e1, e2, hq, h1, hL, h2, h3⟩, st⟩ | ⟨q, vm₁, ⟨U', l2, c2, s2⟩, hW₁, X', ⟨g', mk, t, L, E, ce, e1, e2, hq, hce, hcv, hcl, h1, hL, h2, h3⟩, st⟩
  · dsimp only [Pt.U, Pt.locs, Pt.cells, Pt.slots] at X' e1 e2 h1 h2 h3 st
    subst h1; subst h2; subst h3
    exact Or.inl ⟨v, (T.setVm vm₁).calling g' mk (Value.ref b :: As).toArray, t, U', L, hT, X', hL, e1, e2, hq, st⟩
  · dsimp only [Pt.U, Pt.locs, Pt.cells, Pt.slots] at X' e1 e2 h1 h2 h3 st hcl
    subst h1; subst h2; subst h3
    exact Or.inr ⟨q, (T.setVm vm₁).calling g' mk (Value.ref b :: As).toArray, t, U', L, E, ce, hT, X', hL, e1, e2, hq, hce, hcv, vx_cls hW₁ hcl, st⟩
theorem vx_runS (S : CallFix p m c cc nL s args Ts own) (hM : vx_Met l y ws rm Pc Qc XC mc ms free) (cw : CallB R s args own index y bytes maxL ret ws rm mc ms n ∧ (Cond.static y).before args s = true) (hp : PreS s H Pc As)
    (hg : g.method = m) (hn : As.length = n) (hsize : g.locals.size = nL) (hstack : g.stack = As.reverse ++ rest) (hW : 2 * g.monitorRoom + (rest.map fun v => v.category).sum ≤ 8) (hdg : decode cc g.pc = .ok (.invokestatic index, 3)) (hf : cells + mc ≤ R.cells ∧ slots + ms ≤ R.slots) :
    vx_Run p l e R s m args below meth c H locs cells slots mc ms g rest (Qc As.toArray) XC free := by
  have hK : vx_Back l R p e below s args y 3 8 (PreOf R mc ms Pc) (PostOf Qc mc ms free) (vx_Post XC mc ms free) := vx_callBack cw.1 hM hp.1
  obtain ⟨⟨-, -, -, -, -, -, hcode, hini, hy, hlen, hl⟩, hstt⟩ := cw
  obtain ⟨hx, hb, hml, ho, -⟩ := S
  intro T hT X
  rcases vx_callS X hx (bytes := bytes) (maxL := maxL) (ret := ret) ho hl hstt hini hcode hy hK hg (hsize.trans hml.symm) (argsL := As) (rest := rest) (fun sig h => hn.trans (hlen sig h)) hstack hW (by rw [hb]; exact hdg)
    (fun vm₁ hW₁ => ⟨hf.1, hf.2, hp.2 (T.setVm vm₁) hT hW₁⟩) with ⟨v, vm₁, ⟨U', l2, c2, s2⟩, hW₁, X', ⟨g', mk, t, L, e1, e2, hq, h1, hL, h2, h3⟩, st⟩ | ⟨q, vm₁, ⟨U', l2, c2, s2⟩, hW₁, X', ⟨g', mk, t, L, E, ce, e1, e2, hq, hce, hcv, hcl, h1, hL, h2, h3⟩, st⟩
  · dsimp only [Pt.U, Pt.locs, Pt.cells, Pt.slots] at X' e1 e2 h1 h2 h3 st
    subst h1; subst h2; subst h3
    exact Or.inl ⟨v, (T.setVm vm₁).calling g' mk As.toArray, t, U', L, hT, X', hL, e1, e2, hq, st⟩
  · dsimp only [Pt.U, Pt.locs, Pt.cells, Pt.slots] at X' e1 e2 h1 h2 h3 st hcl
    subst h1; subst h2; subst h3
    exact Or.inr ⟨q, (T.setVm vm₁).calling g' mk As.toArray, t, U', L, E, ce, hT, X', hL, e1, e2, hq, hce, hcv, vx_cls hW₁ hcl, st⟩
end Runs
section Rows
variable {p : Program} {l : Launch} {e : Env} {R : Room} {s : State} {m : MethodId} {args : Array Value} {below : List Frame} {meth : Method} {c : Code} {H : Heap} {locs : List Loc} {cells slots : Nat} {Q : State → Prop}
variable {mc ms : Nat} {free : Addr → Prop} {A0 A1 : Nat → Prop} {H0 : Heap} {a : Array Value} {pc : Nat} {ls : Array Slot} {st0 rest : List Value}
theorem vx_keep {st₀ t T' : State} {L : List Loc} (h0 : st₀.heap = H) (e1 : T'.heap = t.heap) (hS : va_S A0 H0 H locs) (hA : ∀ q, q < H.size → A1 q → A0 q) (hf : ∀ q, free q → A0 q) (hL : ∀ q ∈ L, free q.base) (hF : va_F A1 st₀ t) :
    H.size ≤ T'.heap.size ∧ (∀ q : Nat, q < H.size → ¬ A1 q → T'.heap[q]? = H[q]?) ∧ va_S A0 H0 T'.heap (locs ++ L) := by
  obtain ⟨hz, hk⟩ := hF
  rw [h0] at hz hk
  exact ⟨by rw [e1]; exact hz, fun q h1 h2 => by rw [e1]; exact hk q h1 h2,
    ⟨Nat.le_trans hS.1 (by rw [e1]; exact hz), fun q h1 h2 => by rw [e1, hk q (Nat.lt_of_lt_of_le h1 hS.1) (fun z => h2 (hA q (Nat.lt_of_lt_of_le h1 hS.1) z))]; exact hS.2.1 q h1 h2, fun q hq => by
      rcases List.mem_append.mp hq with h | h
      · exact hS.2.2 q h
      · exact hf _ (hL q h)⟩⟩
theorem vx_calli {S SX : Type} {post : Int32 → S → Prop} {px : SX → Prop} {B : S → State → Prop} {BX : String → SX → State → Prop} {AX : Nat → Prop} (hr : vx_Run p l e R s m args below meth c H locs cells slots mc ms (F0 m pc ls st0) rest (va_Qi post B A1 a) (vx_X px BX AX) free) (hS : va_S A0 H0 H locs) (hA : ∀ q, q < H.size → A1 q → A0 q) (hf : ∀ q, free q → A0 q) (hAX : ∀ q, q < H.size → AX q → A0 q)
    (kx : ∀ (E : String) (ce : Cell) (q9 : Addr) (u : SX) (t : State) (H1 : Heap) (locs1 : List Loc), t.heap = H1 → s.vm.Alike t.vm → px u → BX E u t → H.size ≤ H1.size → (∀ q : Nat, q < H.size → ¬ AX q → H1[q]? = H[q]?) → va_S A0 H0 H1 locs1 → H1[q9]? = some ce → ce.vm = .none → s.vm.findClass E = some ce.cls → vx_W p l e R s m args below meth c H1 locs1 (cells + mc) (slots + ms) Q (F0 m pc ls rest) q9)
    (kk : ∀ (r : Int32) (u : S) (t : State) (H1 : Heap) (locs1 : List Loc), t.heap = H1 → s.vm.Alike t.vm → post r u → B u t → H.size ≤ H1.size → (∀ q : Nat, q < H.size → ¬ A1 q → H1[q]? = H[q]?) → va_S A0 H0 H1 locs1 → W p l e R s m args below meth c H1 locs1 (cells + mc) (slots + ms) Q (F0 m (pc + 3) ls (.int r :: rest))) : W p l e R s m args below meth c H locs cells slots Q (F0 m pc ls st0) := by
  intro T hT X
  rcases hr T hT X with ⟨v, st₀, t, T', L, h0, X', hL, e1, e2, ⟨⟨r, u, hv, hp, hb⟩, hF⟩, st⟩ | ⟨q, st₀, t, T', L, E, ce, h0, X', hL, e1, e2, ⟨u, hp, hb, hF⟩, hce, hcv, hcl, st⟩
  · cases hv
    obtain ⟨k1, k2, k3⟩ := vx_keep h0 e1 hS hA hf hL hF
    obtain ⟨t2, a1, b1⟩ := kk r u t T'.heap (locs ++ L) e1.symm (by rw [← e2]; exact X'.warmed.alike) hp hb k1 k2 k3 T' rfl X'
    exact ⟨t2, st t2 a1, b1⟩
  · obtain ⟨k1, k2, k3⟩ := vx_keep h0 e1 hS hAX hf hL hF
    obtain ⟨t2, a1, b1⟩ := kx E ce q u t T'.heap (locs ++ L) e1.symm (by rw [← e2]; exact X'.warmed.alike) hp hb k1 k2 k3 (by rw [e1]; exact hce) hcv hcl T' rfl X'
    exact ⟨t2, st.trans a1, b1⟩
theorem vx_calll {S SX : Type} {post : Int64 → S → Prop} {px : SX → Prop} {B : S → State → Prop} {BX : String → SX → State → Prop} {AX : Nat → Prop} (hr : vx_Run p l e R s m args below meth c H locs cells slots mc ms (F0 m pc ls st0) rest (va_Ql post B A1 a) (vx_X px BX AX) free) (hS : va_S A0 H0 H locs) (hA : ∀ q, q < H.size → A1 q → A0 q) (hf : ∀ q, free q → A0 q) (hAX : ∀ q, q < H.size → AX q → A0 q)
    (kx : ∀ (E : String) (ce : Cell) (q9 : Addr) (u : SX) (t : State) (H1 : Heap) (locs1 : List Loc), t.heap = H1 → s.vm.Alike t.vm → px u → BX E u t → H.size ≤ H1.size → (∀ q : Nat, q < H.size → ¬ AX q → H1[q]? = H[q]?) → va_S A0 H0 H1 locs1 → H1[q9]? = some ce → ce.vm = .none → s.vm.findClass E = some ce.cls → vx_W p l e R s m args below meth c H1 locs1 (cells + mc) (slots + ms) Q (F0 m pc ls rest) q9)
    (kk : ∀ (r : Int64) (u : S) (t : State) (H1 : Heap) (locs1 : List Loc), t.heap = H1 → s.vm.Alike t.vm → post r u → B u t → H.size ≤ H1.size → (∀ q : Nat, q < H.size → ¬ A1 q → H1[q]? = H[q]?) → va_S A0 H0 H1 locs1 → W p l e R s m args below meth c H1 locs1 (cells + mc) (slots + ms) Q (F0 m (pc + 3) ls (.long r :: rest))) : W p l e R s m args below meth c H locs cells slots Q (F0 m pc ls st0) := by
  intro T hT X
  rcases hr T hT X with ⟨v, st₀, t, T', L, h0, X', hL, e1, e2, ⟨⟨r, u, hv, hp, hb⟩, hF⟩, st⟩ | ⟨q, st₀, t, T', L, E, ce, h0, X', hL, e1, e2, ⟨u, hp, hb, hF⟩, hce, hcv, hcl, st⟩
  · cases hv
    obtain ⟨k1, k2, k3⟩ := vx_keep h0 e1 hS hA hf hL hF
    obtain ⟨t2, a1, b1⟩ := kk r u t T'.heap (locs ++ L) e1.symm (by rw [← e2]; exact X'.warmed.alike) hp hb k1 k2 k3 T' rfl X'
    exact ⟨t2, st t2 a1, b1⟩
  · obtain ⟨k1, k2, k3⟩ := vx_keep h0 e1 hS hAX hf hL hF
    obtain ⟨t2, a1, b1⟩ := kx E ce q u t T'.heap (locs ++ L) e1.symm (by rw [← e2]; exact X'.warmed.alike) hp hb k1 k2 k3 (by rw [e1]; exact hce) hcv hcl T' rfl X'
    exact ⟨t2, st.trans a1, b1⟩
theorem vx_callf {S SX : Type} {post : UInt32 → S → Prop} {px : SX → Prop} {B : S → State → Prop} {BX : String → SX → State → Prop} {AX : Nat → Prop} (hr : vx_Run p l e R s m args below meth c H locs cells slots mc ms (F0 m pc ls st0) rest (va_Qf post B A1 a) (vx_X px BX AX) free) (hS : va_S A0 H0 H locs) (hA : ∀ q, q < H.size → A1 q → A0 q) (hf : ∀ q, free q → A0 q) (hAX : ∀ q, q < H.size → AX q → A0 q)
    (kx : ∀ (E : String) (ce : Cell) (q9 : Addr) (u : SX) (t : State) (H1 : Heap) (locs1 : List Loc), t.heap = H1 → s.vm.Alike t.vm → px u → BX E u t → H.size ≤ H1.size → (∀ q : Nat, q < H.size → ¬ AX q → H1[q]? = H[q]?) → va_S A0 H0 H1 locs1 → H1[q9]? = some ce → ce.vm = .none → s.vm.findClass E = some ce.cls → vx_W p l e R s m args below meth c H1 locs1 (cells + mc) (slots + ms) Q (F0 m pc ls rest) q9)
    (kk : ∀ (r : UInt32) (u : S) (t : State) (H1 : Heap) (locs1 : List Loc), t.heap = H1 → s.vm.Alike t.vm → post r u → B u t → H.size ≤ H1.size → (∀ q : Nat, q < H.size → ¬ A1 q → H1[q]? = H[q]?) → va_S A0 H0 H1 locs1 → W p l e R s m args below meth c H1 locs1 (cells + mc) (slots + ms) Q (F0 m (pc + 3) ls (.float r :: rest))) : W p l e R s m args below meth c H locs cells slots Q (F0 m pc ls st0) := by
  intro T hT X
  rcases hr T hT X with ⟨v, st₀, t, T', L, h0, X', hL, e1, e2, ⟨⟨r, u, hv, hp, hb⟩, hF⟩, st⟩ | ⟨q, st₀, t, T', L, E, ce, h0, X', hL, e1, e2, ⟨u, hp, hb, hF⟩, hce, hcv, hcl, st⟩
  · cases hv
    obtain ⟨k1, k2, k3⟩ := vx_keep h0 e1 hS hA hf hL hF
    obtain ⟨t2, a1, b1⟩ := kk r u t T'.heap (locs ++ L) e1.symm (by rw [← e2]; exact X'.warmed.alike) hp hb k1 k2 k3 T' rfl X'
    exact ⟨t2, st t2 a1, b1⟩
  · obtain ⟨k1, k2, k3⟩ := vx_keep h0 e1 hS hAX hf hL hF
    obtain ⟨t2, a1, b1⟩ := kx E ce q u t T'.heap (locs ++ L) e1.symm (by rw [← e2]; exact X'.warmed.alike) hp hb k1 k2 k3 (by rw [e1]; exact hce) hcv hcl T' rfl X'
    exact ⟨t2, st.trans a1, b1⟩
theorem vx_calld {S SX : Type} {post : UInt64 → S → Prop} {px : SX → Prop} {B : S → State → Prop} {BX : String → SX → State → Prop} {AX : Nat → Prop} (hr : vx_Run p l e R s m args below meth c H locs cells slots mc ms (F0 m pc ls st0) rest (va_Qd post B A1 a) (vx_X px BX AX) free) (hS : va_S A0 H0 H locs) (hA : ∀ q, q < H.size → A1 q → A0 q) (hf : ∀ q, free q → A0 q) (hAX : ∀ q, q < H.size → AX q → A0 q)
    (kx : ∀ (E : String) (ce : Cell) (q9 : Addr) (u : SX) (t : State) (H1 : Heap) (locs1 : List Loc), t.heap = H1 → s.vm.Alike t.vm → px u → BX E u t → H.size ≤ H1.size → (∀ q : Nat, q < H.size → ¬ AX q → H1[q]? = H[q]?) → va_S A0 H0 H1 locs1 → H1[q9]? = some ce → ce.vm = .none → s.vm.findClass E = some ce.cls → vx_W p l e R s m args below meth c H1 locs1 (cells + mc) (slots + ms) Q (F0 m pc ls rest) q9)
    (kk : ∀ (r : UInt64) (u : S) (t : State) (H1 : Heap) (locs1 : List Loc), t.heap = H1 → s.vm.Alike t.vm → post r u → B u t → H.size ≤ H1.size → (∀ q : Nat, q < H.size → ¬ A1 q → H1[q]? = H[q]?) → va_S A0 H0 H1 locs1 → W p l e R s m args below meth c H1 locs1 (cells + mc) (slots + ms) Q (F0 m (pc + 3) ls (.double r :: rest))) : W p l e R s m args below meth c H locs cells slots Q (F0 m pc ls st0) := by
  intro T hT X
  rcases hr T hT X with ⟨v, st₀, t, T', L, h0, X', hL, e1, e2, ⟨⟨r, u, hv, hp, hb⟩, hF⟩, st⟩ | ⟨q, st₀, t, T', L, E, ce, h0, X', hL, e1, e2, ⟨u, hp, hb, hF⟩, hce, hcv, hcl, st⟩
  · cases hv
    obtain ⟨k1, k2, k3⟩ := vx_keep h0 e1 hS hA hf hL hF
    obtain ⟨t2, a1, b1⟩ := kk r u t T'.heap (locs ++ L) e1.symm (by rw [← e2]; exact X'.warmed.alike) hp hb k1 k2 k3 T' rfl X'
    exact ⟨t2, st t2 a1, b1⟩
  · obtain ⟨k1, k2, k3⟩ := vx_keep h0 e1 hS hAX hf hL hF
    obtain ⟨t2, a1, b1⟩ := kx E ce q u t T'.heap (locs ++ L) e1.symm (by rw [← e2]; exact X'.warmed.alike) hp hb k1 k2 k3 (by rw [e1]; exact hce) hcv hcl T' rfl X'
    exact ⟨t2, st.trans a1, b1⟩
theorem vx_callv {S SX : Type} {post : S → Prop} {px : SX → Prop} {B : S → State → Prop} {BX : String → SX → State → Prop} {AX : Nat → Prop} (hr : vx_Run p l e R s m args below meth c H locs cells slots mc ms (F0 m pc ls st0) rest (va_Qv post B A1 a) (vx_X px BX AX) free) (hS : va_S A0 H0 H locs) (hA : ∀ q, q < H.size → A1 q → A0 q) (hf : ∀ q, free q → A0 q) (hAX : ∀ q, q < H.size → AX q → A0 q)
    (kx : ∀ (E : String) (ce : Cell) (q9 : Addr) (u : SX) (t : State) (H1 : Heap) (locs1 : List Loc), t.heap = H1 → s.vm.Alike t.vm → px u → BX E u t → H.size ≤ H1.size → (∀ q : Nat, q < H.size → ¬ AX q → H1[q]? = H[q]?) → va_S A0 H0 H1 locs1 → H1[q9]? = some ce → ce.vm = .none → s.vm.findClass E = some ce.cls → vx_W p l e R s m args below meth c H1 locs1 (cells + mc) (slots + ms) Q (F0 m pc ls rest) q9)
    (kk : ∀ (u : S) (t : State) (H1 : Heap) (locs1 : List Loc), t.heap = H1 → s.vm.Alike t.vm → post u → B u t → H.size ≤ H1.size → (∀ q : Nat, q < H.size → ¬ A1 q → H1[q]? = H[q]?) → va_S A0 H0 H1 locs1 → W p l e R s m args below meth c H1 locs1 (cells + mc) (slots + ms) Q (F0 m (pc + 3) ls (rest))) : W p l e R s m args below meth c H locs cells slots Q (F0 m pc ls st0) := by
  intro T hT X
  rcases hr T hT X with ⟨v, st₀, t, T', L, h0, X', hL, e1, e2, ⟨⟨u, hv, hp, hb⟩, hF⟩, st⟩ | ⟨q, st₀, t, T', L, E, ce, h0, X', hL, e1, e2, ⟨u, hp, hb, hF⟩, hce, hcv, hcl, st⟩
  · cases hv
    obtain ⟨k1, k2, k3⟩ := vx_keep h0 e1 hS hA hf hL hF
    obtain ⟨t2, a1, b1⟩ := kk u t T'.heap (locs ++ L) e1.symm (by rw [← e2]; exact X'.warmed.alike) hp hb k1 k2 k3 T' rfl X'
    exact ⟨t2, st t2 a1, b1⟩
  · obtain ⟨k1, k2, k3⟩ := vx_keep h0 e1 hS hAX hf hL hF
    obtain ⟨t2, a1, b1⟩ := kx E ce q u t T'.heap (locs ++ L) e1.symm (by rw [← e2]; exact X'.warmed.alike) hp hb k1 k2 k3 (by rw [e1]; exact hce) hcv hcl T' rfl X'
    exact ⟨t2, st.trans a1, b1⟩
/-- caught by the row x of this method's table; the rows ahead don't take it -/
theorem vx_catch {own name : String} {E : String} {ce : Cell} {q : Addr} (hown : s.vm.findClass own = some m.cls) (pre : List ExceptionTableEntry) (x : ExceptionTableEntry) (suf : List ExceptionTableEntry) (hsplit : c.exceptionTable.toList = pre ++ x :: suf)
    (hpass : ∀ z ∈ pre, covers z pc = false ∨ (z.catchType ≠ 0 ∧ ∃ nm : String, (Cond.classLink own z.catchType nm).before args s = true ∧ va_Nc E nm s)) (hx : covers x pc = true) (h0 : x.catchType ≠ 0)
    (hlink : (Cond.classLink own x.catchType name).before args s = true) (hcast : (Cond.castable E name).before args s = true) (hcell : H[q]? = some ce) (hv : ce.vm = .none) (hcl : s.vm.findClass E = some ce.cls)
    (kk : W p l e R s m args below meth c H locs cells slots Q (F0 m x.handlerPc ls [.ref q])) : vx_W p l e R s m args below meth c H locs cells slots Q (F0 m pc ls rest) q := by
  intro T hT X
  have hpl : e.platform.magicAccessors = ({} : Platform).magicAccessors := by rw [X.admits.platform]
  obtain ⟨c3, c4, hc3, hc4, hasg⟩ := Cond.castable_spec hcast
  cases Option.some.inj (hc3.symm.trans hcl)
  obtain ⟨c5, hc5, hcl5⟩ := Cond.classLink_spec hown hlink e.platform hpl
  cases Option.some.inj (hc4.symm.trans hc5)
  obtain ⟨vm', X', st⟩ := X.thenCaughtThrough q (g := F0 m pc ls rest) rfl (Steps.refl _) (by rw [hT]; exact hcell) (by rw [hv]; rfl) (by obtain ⟨k9, h9, -⟩ := Vm.findClass_spec hcl; exact ⟨k9, h9⟩) pre x suf hsplit
    (fun z hz => by
      rcases hpass z hz with h | ⟨hz0, nm, hl1, hn1⟩
      · exact Or.inl h
      · obtain ⟨c6, hc6, hcl6⟩ := Cond.classLink_spec hown hl1 e.platform hpl
        obtain ⟨a8, b8, h1, h2, h3⟩ := hn1
        cases Option.some.inj (h1.symm.trans hcl)
        cases Option.some.inj (h2.symm.trans hc6)
        exact Or.inr ⟨hz0, _, hcl6, h3⟩) hx (Or.inr ⟨h0, c4, hcl5, hasg⟩)
  obtain ⟨t, a1, b1⟩ := kk (T.setVm vm') hT X'
  exact ⟨t, st.trans a1, b1⟩
end Rows
section Ends
variable {p : Program} {l : Launch} {e : Env} {R : Room} {s : State} {m : MethodId} {args : Array Value} {below : List Frame} {meth : Method} {c : Code} {H : Heap} {locs : List Loc} {cells slots : Nat} {Q : State → Prop}
variable {mc ms : Nat} {free : Addr → Prop} {A0 A1 : Nat → Prop} {H0 : Heap} {a : Array Value} {ls : Array Slot} {st0 rest : List Value}
variable {Qc : Array Value → State → Outcome → State → Prop} {XC : String → State → State → Prop}
/-- what a body that may throw owes at its end -/
def vx_MQ (below : List Frame) (Qc : Array Value → State → Outcome → State → Prop) (XC : String → State → State → Prop) (a : Array Value) (s : State) (mc ms : Nat) (free : Addr → Prop) : State → Prop := fun t =>
  ∃ o, t.status = .running ∧ Ended t below o ∧ vx_Q Qc XC mc ms free a s o t
theorem vx_ret {g : JFrame} {mc ms : Nat} (k : W p l e R s m args below meth c H locs cells slots (MQ below Qc args s mc ms free) g) : W p l e R s m args below meth c H locs cells slots (vx_MQ below Qc XC args s mc ms free) g := by
  intro T hT X
  obtain ⟨t, a1, o, b1, b2, b3, b4⟩ := k T hT X
  exact ⟨t, a1, o, b1, b2, Or.inl ⟨b3, b4⟩⟩
/-- not caught here: it goes on to the caller -/
theorem vx_widen {g : JFrame} {q : Addr} {k n : Nat} (h1 : cells ≤ k) (h2 : slots ≤ n) (kk : vx_W p l e R s m args below meth c H locs k n Q g q) : vx_W p l e R s m args below meth c H locs cells slots Q g q := fun T hT X => kk T hT (stand_widen X h1 h2)
theorem vx_out {pc : Nat} {E : String} {ce : Cell} {q : Addr} {mc ms : Nat} (hout : ∀ x ∈ c.exceptionTable.toList, covers x pc = false) (hlocks : meth.locks = false) (hcell : H[q]? = some ce) (hv : ce.vm = .none) (hcl : s.vm.findClass E = some ce.cls)
    (hx : ∀ t : State, t.heap = H → s.vm.Alike t.vm → XC E s t) (hf : ∀ z ∈ locs, free z.base) (hc : cells ≤ mc) (hs : slots ≤ ms) :
    vx_W p l e R s m args below meth c H locs cells slots (vx_MQ below Qc XC args s mc ms free) (F0 m pc ls rest) q := by
  intro T hT X
  obtain ⟨st1, hrun, hend, hW, hsm⟩ := X.leaveThrown q (g := F0 m pc ls rest) rfl rfl rfl hout hlocks
  have hcell9 : (T.setFrames (.throwing q :: below)).heap[q]? = some ce := by
    show T.heap[q]? = some ce
    rw [hT]; exact hcell
  exact ⟨_, st1, .threw q, hrun, hend, Or.inr ⟨q, rfl, E, ce, locs, hx _ hT hW.alike, hcell9, hv, hcl, hW, hsm.mono hc hs, hf⟩⟩
theorem vx_frame {U : State} {k n : Nat} (h : s.sameButNew ({ U with vm := s.vm } : State) locs k n) : s.heap.size ≤ U.heap.size ∧ ∀ q : Nat, q < s.heap.size → (∀ z ∈ locs, z.base ≠ q) → U.heap[q]? = s.heap[q]? := by
  obtain ⟨-, h2, -, -, -, h6⟩ := h
  refine ⟨h2, fun q hq hz => ?_⟩
  obtain ⟨c9, e1, e2, e3, e4⟩ := h6 q _ (Array.getElem?_eq_getElem hq)
  have hs : c9.slots = (s.heap[q]).slots := Array.ext_getElem? fun i => e4 i fun hm => hz _ hm rfl
  have h9 : c9 = s.heap[q] := by
    rw [hs] at e2
    exact e2
  have e5 : U.heap[q]? = some c9 := e1
  rw [e5, h9, Array.getElem?_eq_getElem hq]
/-- the words of a throw but the four that speak of the heap -/
def vx_no (w : Cond) : Bool := decide (w ≠ .isRef (.static Bundle.tN "UNASSIGNED_STACK" Bundle.steD)) && decide (w ≠ .isRef (.static Bundle.tN "SUPPRESSED_SENTINEL" Bundle.listD)) && decide (w ≠ .laysStatic Bundle.tN "UNASSIGNED_STACK" Bundle.steD) && decide (w ≠ .laysStatic Bundle.tN "SUPPRESSED_SENTINEL" Bundle.listD)
def vx_at0 (own : String) (ic : Nat) (X : String) (names : List String) : List Cond := (Bundle.ownAtoms0 own ic X names).filter vx_no
def vx_atS (own : String) (ic : Nat) (X : String) (names : List String) : List Cond := (Bundle.ownAtoms own ic X names).filter vx_no
/-- a word that the tables alone decide, or a good one -/
def vx_ot (w : Cond) : Bool := w.onTables || goodWord w
theorem vx_ot_at {args a' : Array Value} {s U : State} {w : Cond} (hW : s.WarmedH U.vm) (hvm : s.vm = U.vm) (hg : vx_ot w = true) (h : w.before args s = true) : w.before a' U = true := by
  simp only [vx_ot, Bool.or_eq_true] at hg
  rcases hg with hg | hg
  · exact va_tabs hg hvm h
  · exact word_at hW (good_of_word hg) h
/-- a list's words: the good ones out of the method's own list, the others by premises of their own -/
theorem vx_hat {args : Array Value} {s : State} {L B : List Cond} (h1 : ∀ w ∈ L.filter goodWord, w.before args s = true) (h2 : ∀ w ∈ L.filter (fun w => !goodWord w), w ∈ B) (h3 : ∀ w ∈ B, w.before args s = true) : ∀ w ∈ L, w.before args s = true := by
  intro w hw
  by_cases g : goodWord w = true
  · exact h1 w (List.mem_filter.mpr ⟨hw, g⟩)
  · refine h3 w (h2 w (List.mem_filter.mpr ⟨hw, ?_⟩))
    show (!goodWord w) = true
    cases hgw : goodWord w
    · rfl
    · exact absurd hgw g
theorem vx_c {args : Array Value} {s : State} {w : Cond} {B : List Cond} (h : w.before args s = true) (t : ∀ w ∈ B, w.before args s = true) : ∀ w' ∈ w :: B, w'.before args s = true := fun w' h' => (List.mem_cons.mp h').elim (fun e => by rw [e]; exact h) (t w')
theorem vx_n {args : Array Value} {s : State} : ∀ w ∈ ([] : List Cond), w.before args s = true := fun _ h => nomatch h
theorem vx_own {args : Array Value} {s : State} {L : List Cond} (h1 : ∀ w ∈ L.filter vx_no, w.before args s = true)
    (hU : (Cond.isRef (.static Bundle.tN "UNASSIGNED_STACK" Bundle.steD)).before args s = true) (hN : (Cond.isRef (.static Bundle.tN "SUPPRESSED_SENTINEL" Bundle.listD)).before args s = true)
    (lU : (Cond.laysStatic Bundle.tN "UNASSIGNED_STACK" Bundle.steD).before args s = true) (lN : (Cond.laysStatic Bundle.tN "SUPPRESSED_SENTINEL" Bundle.listD).before args s = true) : ∀ w ∈ L, w.before args s = true := by
  intro w hw
  by_cases e1 : w = .isRef (.static Bundle.tN "UNASSIGNED_STACK" Bundle.steD)
  · rw [e1]; exact hU
  · by_cases e2 : w = .isRef (.static Bundle.tN "SUPPRESSED_SENTINEL" Bundle.listD)
    · rw [e2]; exact hN
    · by_cases e3 : w = .laysStatic Bundle.tN "UNASSIGNED_STACK" Bundle.steD
      · rw [e3]; exact lU
      · by_cases e4 : w = .laysStatic Bundle.tN "SUPPRESSED_SENTINEL" Bundle.listD
        · rw [e4]; exact lN
        · exact h1 w (List.mem_filter.mpr ⟨hw, by unfold vx_no; rw [decide_eq_true e1, decide_eq_true e2, decide_eq_true e3, decide_eq_true e4]; rfl⟩)
/-- where a static field lies, its class's statics cell in H -/
def vx_L (C n d : String) (A : Nat → Prop) (U : State) (H : Heap) : Prop := ∃ (c : ClassId) (k : Class) (i : Nat) (f : Field) (a : Nat) (cell : Cell), U.vm.findClass C = some c ∧ U.fieldFound? C n d = some (c, k, i, f) ∧ f.isStatic = true ∧ k.statics = some a ∧ H[a]? = some cell ∧ cell.vm.isStatics = true ∧ cell.cls = c ∧ f.slot < cell.slots.size ∧ k.staticTypes[f.slot]? = some f.type ∧ ¬ A a
theorem vx_L.moved {C n d : String} {A : Nat → Prop} {u U : State} {H : Heap} (hvm : u.vm.Alike U.vm) (h : vx_L C n d A u H) : vx_L C n d A U H := by
  obtain ⟨c, k, i, f, a, cell, h1, h2, h3, h4, h5, h6, h7, h8, h9, h10⟩ := h
  obtain ⟨k', hi', he⟩ := State.fieldFound?_setVm hvm h2
  exact ⟨c, k', i, f, a, cell, by rw [hvm.findClass]; exact h1, hi', h3, by rw [he]; exact h4, h5, h6, h7, h8, by rw [he]; exact h9, h10⟩
theorem vx_L.kept {C n d : String} {A : Nat → Prop} {U : State} {H H1 : Heap} (h : vx_L C n d A U H) (hq : ∀ a : Nat, a < H.size → ¬ A a → H1[a]? = H[a]?) : vx_L C n d A U H1 := by
  obtain ⟨c, k, i, f, a, cell, h1, h2, h3, h4, h5, h6, h7, h8, h9, h10⟩ := h
  exact ⟨c, k, i, f, a, cell, h1, h2, h3, h4, by rw [hq a (Array.getElem?_eq_some_iff.mp h5).1 h10]; exact h5, h6, h7, h8, h9, h10⟩
theorem vx_L.narrow {C n d : String} {A B : Nat → Prop} {U : State} {H : Heap} (h : vx_L C n d A U H) (hAB : ∀ q, B q → A q) : vx_L C n d B U H := by
  obtain ⟨c, k, i, f, a, cell, h1, h2, h3, h4, h5, h6, h7, h8, h9, h10⟩ := h
  exact ⟨c, k, i, f, a, cell, h1, h2, h3, h4, h5, h6, h7, h8, h9, fun z => h10 (hAB _ z)⟩
theorem vx_L.word {C n d : String} {A : Nat → Prop} {s : State} {args : Array Value} (h : vx_L C n d A s s.heap) : (Cond.laysStatic C n d).before args s = true := by
  obtain ⟨c, k, i, f, a, cell, h1, h2, h3, h4, h5, h6, h7, h8, h9, -⟩ := h
  show (Cond.laysStatic C n d).holds args s none s [] = true
  exact Cond.laysStatic_of h1 h2 h3 h4 h5 h6 h7 h8 h9
/-- .. and what it holds: null or some reference -/
def vx_Zq (C n d : String) (A : Nat → Prop) (U : State) (H : Heap) : Prop := va_Zq C n d A U H ∧ vx_L C n d A U H
theorem vx_Zq.moved {C n d : String} {A : Nat → Prop} {u U : State} {H : Heap} (hvm : u.vm.Alike U.vm) (h : vx_Zq C n d A u H) : vx_Zq C n d A U H := ⟨va_Zq.moved hvm h.1, vx_L.moved hvm h.2⟩
theorem vx_Zq.kept {C n d : String} {A : Nat → Prop} {U : State} {H H1 : Heap} (h : vx_Zq C n d A U H) (hq : ∀ a : Nat, a < H.size → ¬ A a → H1[a]? = H[a]?) : vx_Zq C n d A U H1 := ⟨va_Zq.kept h.1 hq, vx_L.kept h.2 hq⟩
theorem vx_Zq.narrow {C n d : String} {A B : Nat → Prop} {U : State} {H : Heap} (h : vx_Zq C n d A U H) (hAB : ∀ q, B q → A q) : vx_Zq C n d B U H := ⟨va_Zq.narrow h.1 hAB, vx_L.narrow h.2 hAB⟩
theorem vx_Zqof {args : Array Value} {s : State} {C n d : String} {A : Nat → Prop} (hl : (Cond.laysStatic C n d).before args s = true) (hini : (Cond.initialized C).before args s = true) (h : (Cond.isRef (.static C n d)).before args s = true) (hA : ∀ a : Nat, a < s.heap.size → ¬ A a) : vx_Zq C n d A s s.heap := by
  refine ⟨va_Zqof hl hini h hA, ?_⟩
  obtain ⟨c, k, i, f, a, cell, h1, h2, h3, h4, h5, h6, h7, h8, h9⟩ := Cond.laysStatic_spec hl
  exact ⟨c, k, i, f, a, cell, h1, h2, h3, h4, h5, h6, h7, h8, h9, hA a (Array.getElem?_eq_some_iff.mp h5).1⟩
theorem vx_isRef {C n d : String} {v : Value} {A : Nat → Prop} {s : State} {args : Array Value} (h : va_Z C n d v A s s.heap) (hv : v.isRef = true) : (Cond.isRef (.static C n d)).before args s = true := by
  obtain ⟨cf, kf, fi, f, a, cell, h1, h2, h3, h4, h5, h6, h7, -⟩ := h
  have he : (Term.static C n d).eval args s none [] s = some v := by
    simp [Term.eval, State.fieldNamed?, h1, h2, h4, h5, h6, h7]
  simp only [Cond.before, Cond.holds, Cond.value, he]
  cases v <;> simp_all [Value.isRef]
theorem vx_isRefq {C n d : String} {A : Nat → Prop} {s : State} {args : Array Value} (h : va_Zq C n d A s s.heap) : (Cond.isRef (.static C n d)).before args s = true := by
  rcases h with h | ⟨t, h⟩
  · exact vx_isRef h rfl
  · exact vx_isRef h rfl
/-- the same frame, seen from here: as if the method were called anew in this heap -/
theorem vx_rebase {T : State} (X : Stand p l e R s m args below meth c T locs cells slots) {R' : Room} (hf : R'.frames ≤ R.frames) (hl : R'.locals ≤ R.locals) (hc : cells + R'.cells ≤ R.cells) (hs : slots + R'.slots ≤ R.slots) :
    Stand p l e R' ((T.setVm s.vm).setFrames (.invoking m args :: below)) m args below meth c T [] 0 0 := by
  have htop : (T.setVm s.vm).topJava?.isSome := X.here.top
  have hF : ((T.setVm s.vm).setFrames (.invoking m args :: below)).frames = .invoking m args :: below := State.frames_setFrames _ (State.cur_lt_of_top htop)
  obtain ⟨g₀, hg0⟩ := Option.isSome_iff_exists.mp htop
  obtain ⟨r, hr⟩ := State.topJava?_eq_some.mp hg0
  have hl9 : e.platform.stackLimits (T.setVm s.vm).me = e.platform.stackLimits s.me := X.limits
  have hb9 : (T.setVm s.vm).me.stackBytes = s.me.stackBytes := X.bytes
  refine ⟨X.admits, X.cas, X.clock, hF, ?_, X.hears, X.method, X.code, X.here, X.tail, X.warmed, ?_, ?_, ?_⟩
  · have h := X.room
    have hU : ((T.setVm s.vm).setFrames (.invoking m args :: below)).localsInUse = s.localsInUse := by
      rw [State.localsInUse_invoking hF (meth := meth) (c := c) X.method X.code, State.localsInUse_invoking X.frames X.method X.code]
    simp only [State.hasRoom, Bool.and_eq_true, decide_eq_true_eq] at h ⊢
    obtain ⟨⟨⟨⟨h1, h2, h3, h4, h5, h6⟩, h7⟩, h8⟩, h9⟩ := h
    rw [X.frames, List.length_cons] at h2 h3
    have q1 := X.heapSize
    have q2 := X.used
    simp only [hF, hU, List.length_cons, State.stackLimits_setFrames, State.stackBytes_setFrames, hl9, hb9]
    refine ⟨⟨⟨⟨by omega, by omega, by omega, by omega, by omega, h6⟩, ?_⟩, ?_⟩, X.book⟩
    · show T.heap.size + R'.cells ≤ e.platform.maxCells
      omega
    · show T.slotsUsed + R'.slots ≤ e.platform.maxSlots
      omega
  · rw [State.stackLimits_setFrames]; rfl
  · rw [State.stackBytes_setFrames]; rfl
  · refine ⟨?_, Nat.le_refl _, Nat.le_refl _, ?_, ?_, fun a c9 h9 => ⟨c9, h9, rfl, rfl, fun _ _ => rfl⟩⟩
    · obtain ⟨t, ht, -⟩ := State.frames_cons hr
      show T.setVm s.vm = { ((T.setVm s.vm).setFrames (.invoking m args :: below)).setFrames (T.setVm s.vm).frames with heap := T.heap, slotsUsed := T.slotsUsed }
      rw [State.setFrames_setFrames, State.setFrames_self ht]
      rfl
    · show T.slotsUsed = T.slotsUsed + ((T.heap.toList.drop T.heap.size).map (·.slots.size)).sum
      rw [List.drop_eq_nil_of_le (Nat.le_of_eq Array.length_toList)]
      rfl
    · show ((T.heap.toList.drop T.heap.size).map (·.slots.size)).sum ≤ 0
      rw [List.drop_eq_nil_of_le (Nat.le_of_eq Array.length_toList)]
      exact Nat.le_refl _
/-- 'throw new E()': new; dup; invokespecial; athrow -/
theorem vx_throw0 {cc : ByteArray} {pc : Nat} (hexec : p.tables.exec = Jvm.exec) (hb : c.code = cc) (hl : l.stackTraces = false) {own cls : String} {names : List String} {ik ic mc ms : Nat} {A : Nat → Prop}
    (hown : s.vm.findClass own = some m.cls) (hcls : Bundle.fit cls = true) (hnames : ∀ n ∈ names, Bundle.fit n = true)
    (hk : (Cond.classLink own ik cls).before args s = true) (hini : (Cond.initialized cls).before args s = true) (hat : ∀ w ∈ vx_at0 own ic cls names, w.before args s = true)
    (hgood : ∀ w ∈ Cond.classLink own ik cls :: Cond.initialized cls :: vx_at0 own ic cls names, vx_ot w = true)
    (hU : vx_Zq Bundle.tN "UNASSIGNED_STACK" Bundle.steD A s s.heap) (hN : vx_Zq Bundle.tN "SUPPRESSED_SENTINEL" Bundle.listD A s s.heap) (hS : va_S A s.heap H locs) (hsize : ls.size = c.maxLocals)
    (d0 : decode cc pc = .ok (.new ik, 3)) (d3 : decode cc (pc + 3) = .ok (.dup, 1)) (d4 : decode cc (pc + 4) = .ok (.invokespecial ic, 3)) (d7 : decode cc (pc + 7) = .ok (.athrow, 1))
    (hout : ∀ x ∈ c.exceptionTable.toList, covers x (pc + 7) = false)
    (hRframes : names.length + 3 < R.frames) (hRlocals : (rest.map fun v => v.category).sum + (13 * (names.length + 1) + 42) ≤ R.locals) (hRcells : cells + 1 ≤ R.cells) (hRslots : slots + 6 ≤ R.slots) (hlocks : meth.locks = false)
    (hx : ∀ t : State, s.vm.Alike t.vm → H.size ≤ t.heap.size → (∀ q : Nat, q < H.size → t.heap[q]? = H[q]?) → XC cls s t)
    (hf : ∀ z ∈ locs, free z.base) (hc : cells + 1 ≤ mc) (hs : slots + 6 ≤ ms) :
    W p l e R s m args below meth c H locs cells slots (vx_MQ below Qc XC args s mc ms free) (F0 m pc ls rest) := by
  intro T hT X
  have htr : e.platform.stackTraces = false := (show e.platform.stackTraces = l.stackTraces by rw [X.admits.platform]).trans hl
  have Y := vx_rebase X (R' := { frames := R.frames, locals := R.locals, cells := 1, slots := 6 }) (Nat.le_refl _) (Nat.le_refl _) hRcells hRslots
  obtain ⟨s', hA⟩ : ∃ z, z = (T.setVm s.vm).setFrames (.invoking m args :: below) := ⟨_, rfl⟩
  rw [← hA] at Y
  have hvm : s'.vm = s.vm := by rw [hA]; rfl
  have hhp : s'.heap = H := by rw [hA]; exact hT
  have hW0 : s.WarmedH s'.vm := by rw [hvm]; exact State.WarmedH.refl s
  have hat' : ∀ w ∈ vx_at0 own ic cls names, w.before args s' = true := fun w hw => vx_ot_at hW0 hvm.symm (hgood w (List.mem_cons_of_mem _ (List.mem_cons_of_mem _ hw))) (hat w hw)
  have hk' : (Cond.classLink own ik cls).before args s' = true := vx_ot_at hW0 hvm.symm (hgood _ List.mem_cons_self) hk
  have hini' : (Cond.initialized cls).before args s' = true := vx_ot_at hW0 hvm.symm (hgood _ (List.mem_cons_of_mem _ List.mem_cons_self)) hini
  have hU' : vx_Zq Bundle.tN "UNASSIGNED_STACK" Bundle.steD A s' s'.heap := by rw [hhp]; exact vx_Zq.moved hW0.alike (hU.kept hS.2.1)
  have hN' : vx_Zq Bundle.tN "SUPPRESSED_SENTINEL" Bundle.listD A s' s'.heap := by rw [hhp]; exact vx_Zq.moved hW0.alike (hN.kept hS.2.1)
  have h : ∀ w ∈ Bundle.ownAtoms0 own ic cls names, w.before args s' = true := vx_own hat' (vx_isRefq hU'.1) (vx_isRefq hN'.1) hU'.2.word hN'.2.word
  have hown' : s'.vm.findClass own = some m.cls := by rw [hvm]; exact hown
  have hins : (Cond.instantiable cls 6).before args s' = true := h _ (by simp [Bundle.ownAtoms0])
  obtain ⟨vm₁, cX, kX, hfX, hkX, -, -, X₁, st1⟩ := Y.newCold hexec (own := own) (C := cls) (index := ik) (n := 6) hown' hk' hins hini'
    (g := F0 m pc ls rest) rfl (by rw [hb]; exact d0) (Nat.le_refl _) (Nat.le_refl _)
  generalize hT1 : (T.setVm vm₁).pushCell { cls := cX, slots := kX.instanceTypes.map defaultValue, vm := .none } = T1 at X₁ st1
  have hcat : (Value.ref T.heap.size).category = 1 := rfl
  have hcellA : T1.heap[T.heap.size]? = some (freshCell cX kX) := by rw [← hT1]; exact State.heap_pushCell_size _ _
  have d3' : decode c.code (pc + 3) = .ok (.dup, 1) := by rw [hb]; exact d3
  obtain ⟨U, hsteps, hrun, hend, hW, hsame, ce, hce, hO⟩ := X₁.ctorThrow0 hexec htr (own := own) (cls := cls) (names := names) (ic := ic) hown' hcls hnames h (fun x hx => nomatch hx) hfX hkX hcellA (by rw [hhp, hT]; exact Nat.le_refl _)
    (g := { method := m, pc := pc + 4, locals := ls, stack := .ref T.heap.size :: .ref T.heap.size :: rest, locked := none }) rfl hsize rfl rfl (rest := rest) rfl
    (by rw [hb]; exact d4) (by rw [hb]; exact d7) hout hRframes (by simp only [List.map_cons, List.sum_cons, hcat]; omega) hlocks
  obtain ⟨f1, f2⟩ := vx_frame hsame
  rw [hhp] at f1 f2
  have hWs : s.WarmedH U.vm := State.WarmedH.trans hW0 hW
  have hcl : s.vm.findClass cls = some ce.cls := by
    have h9 := hO.cls
    rw [hvm] at h9
    exact h9
  have hall : s.sameButNew ({ U with vm := s.vm } : State) locs mc ms := by
    subst hA
    obtain ⟨e1, e2⟩ := hsame
    rw [State.setFrames_setFrames] at e1
    have h2 : (T.setVm s.vm).sameButNew ({ U with vm := s.vm } : State) [] (0 + 1) (0 + 6) := ⟨e1, e2⟩
    have h3 := X.same.trans h2
    rw [List.append_nil] at h3
    exact h3.mono hc hs
  refine ⟨U, ?_, .threw T.heap.size, hrun, hend, Or.inr ⟨T.heap.size, rfl, cls, ce, locs, hx U hWs.alike f1 (fun q hq => f2 q hq (fun z hz => nomatch hz)), hce, hO.vm, hcl, hWs, hall, hf⟩⟩
  refine st1 _ ?_
  show Steps p.tables e below (T1.setTop { method := m, pc := pc + 3, locals := ls, stack := .ref T.heap.size :: rest, locked := none }) _
  jvm_step X₁.here [X₁.here.top, hexec, d3', Value.category]
  exact hsteps
/-- 'throw new E("text")': new; dup; ldc; invokespecial; athrow -/
theorem vx_throwS {cc : ByteArray} {pc : Nat} (hexec : p.tables.exec = Jvm.exec) (hb : c.code = cc) (hl : l.stackTraces = false) {own cls text : String} {names : List String} {ik is ic mc ms sa : Nat} {A : Nat → Prop}
    (hown : s.vm.findClass own = some m.cls) (hcls : Bundle.fit cls = true) (hnames : ∀ n ∈ names, Bundle.fit n = true)
    (hk : (Cond.classLink own ik cls).before args s = true) (hini : (Cond.initialized cls).before args s = true) (hstr : vk_R own is text sa s) (hat : ∀ w ∈ vx_atS own ic cls names, w.before args s = true)
    (hgood : ∀ w ∈ Cond.classLink own ik cls :: Cond.initialized cls :: vx_atS own ic cls names, vx_ot w = true)
    (hU : vx_Zq Bundle.tN "UNASSIGNED_STACK" Bundle.steD A s s.heap) (hN : vx_Zq Bundle.tN "SUPPRESSED_SENTINEL" Bundle.listD A s s.heap) (hS : va_S A s.heap H locs) (hsize : ls.size = c.maxLocals)
    (d0 : decode cc pc = .ok (.new ik, 3)) (d3 : decode cc (pc + 3) = .ok (.dup, 1)) (d4 : decode cc (pc + 4) = .ok (.ldc is, 2)) (d6 : decode cc (pc + 6) = .ok (.invokespecial ic, 3)) (d9 : decode cc (pc + 9) = .ok (.athrow, 1))
    (hout : ∀ x ∈ c.exceptionTable.toList, covers x (pc + 9) = false)
    (hRframes : names.length + 3 < R.frames) (hRlocals : (rest.map fun v => v.category).sum + (13 * (names.length + 1) + 43) ≤ R.locals) (hRcells : cells + 1 ≤ R.cells) (hRslots : slots + 6 ≤ R.slots) (hlocks : meth.locks = false)
    (hx : ∀ t : State, s.vm.Alike t.vm → H.size ≤ t.heap.size → (∀ q : Nat, q < H.size → t.heap[q]? = H[q]?) → XC cls s t)
    (hf : ∀ z ∈ locs, free z.base) (hc : cells + 1 ≤ mc) (hs : slots + 6 ≤ ms) :
    W p l e R s m args below meth c H locs cells slots (vx_MQ below Qc XC args s mc ms free) (F0 m pc ls rest) := by
  intro T hT X
  have htr : e.platform.stackTraces = false := (show e.platform.stackTraces = l.stackTraces by rw [X.admits.platform]).trans hl
  have Y := vx_rebase X (R' := { frames := R.frames, locals := R.locals, cells := 1, slots := 6 }) (Nat.le_refl _) (Nat.le_refl _) hRcells hRslots
  obtain ⟨s', hA⟩ : ∃ z, z = (T.setVm s.vm).setFrames (.invoking m args :: below) := ⟨_, rfl⟩
  rw [← hA] at Y
  have hvm : s'.vm = s.vm := by rw [hA]; rfl
  have hhp : s'.heap = H := by rw [hA]; exact hT
  have hW0 : s.WarmedH s'.vm := by rw [hvm]; exact State.WarmedH.refl s
  have hat' : ∀ w ∈ vx_atS own ic cls names, w.before args s' = true := fun w hw => vx_ot_at hW0 hvm.symm (hgood w (List.mem_cons_of_mem _ (List.mem_cons_of_mem _ hw))) (hat w hw)
  have hk' : (Cond.classLink own ik cls).before args s' = true := vx_ot_at hW0 hvm.symm (hgood _ List.mem_cons_self) hk
  have hini' : (Cond.initialized cls).before args s' = true := vx_ot_at hW0 hvm.symm (hgood _ (List.mem_cons_of_mem _ List.mem_cons_self)) hini
  have hU' : vx_Zq Bundle.tN "UNASSIGNED_STACK" Bundle.steD A s' s'.heap := by rw [hhp]; exact vx_Zq.moved hW0.alike (hU.kept hS.2.1)
  have hN' : vx_Zq Bundle.tN "SUPPRESSED_SENTINEL" Bundle.listD A s' s'.heap := by rw [hhp]; exact vx_Zq.moved hW0.alike (hN.kept hS.2.1)
  have h : ∀ w ∈ Bundle.ownAtoms own ic cls names, w.before args s' = true := vx_own hat' (vx_isRefq hU'.1) (vx_isRefq hN'.1) hU'.2.word hN'.2.word
  have hown' : s'.vm.findClass own = some m.cls := by rw [hvm]; exact hown
  have hins : (Cond.instantiable cls 6).before args s' = true := h _ (by simp [Bundle.ownAtoms])
  obtain ⟨vm₁, cX, kX, hfX, hkX, -, -, X₁, st1⟩ := Y.newCold hexec (own := own) (C := cls) (index := ik) (n := 6) hown' hk' hins hini'
    (g := F0 m pc ls rest) rfl (by rw [hb]; exact d0) (Nat.le_refl _) (Nat.le_refl _)
  generalize hT1 : (T.setVm vm₁).pushCell { cls := cX, slots := kX.instanceTypes.map defaultValue, vm := .none } = T1 at X₁ st1
  have hcat : (Value.ref T.heap.size).category = 1 := rfl
  have hcellA : T1.heap[T.heap.size]? = some (freshCell cX kX) := by rw [← hT1]; exact State.heap_pushCell_size _ _
  have d3' : decode c.code (pc + 3) = .ok (.dup, 1) := by rw [hb]; exact d3
  have d4' : decode c.code (pc + 4) = .ok (.ldc is, 2) := by rw [hb]; exact d4
  have hstr' : vk_R own is text sa s' := vk_R.warm hW0 hstr
  obtain ⟨U, hsteps, hrun, hend, hW, hsame, ce, hce, hO⟩ := X₁.ctorThrowS hexec htr (own := own) (cls := cls) (names := names) (ic := ic) hown' hcls hnames h (fun x hx => nomatch hx) hfX hkX hcellA (by rw [hhp, hT]; exact Nat.le_refl _) (msg := .ref sa) rfl
    (g := { method := m, pc := pc + 6, locals := ls, stack := .ref sa :: .ref T.heap.size :: .ref T.heap.size :: rest, locked := none }) rfl hsize rfl rfl (rest := rest) rfl
    (by rw [hb]; exact d6) (by rw [hb]; exact d9) hout hRframes (by simp only [List.map_cons, List.sum_cons, hcat]; omega) hlocks
  obtain ⟨f1, f2⟩ := vx_frame hsame
  rw [hhp] at f1 f2
  have hWs : s.WarmedH U.vm := State.WarmedH.trans hW0 hW
  have hcl : s.vm.findClass cls = some ce.cls := by
    have h9 := hO.cls
    rw [hvm] at h9
    exact h9
  have hall : s.sameButNew ({ U with vm := s.vm } : State) locs mc ms := by
    subst hA
    obtain ⟨e1, e2⟩ := hsame
    rw [State.setFrames_setFrames] at e1
    have h2 : (T.setVm s.vm).sameButNew ({ U with vm := s.vm } : State) [] (0 + 1) (0 + 6) := ⟨e1, e2⟩
    have h3 := X.same.trans h2
    rw [List.append_nil] at h3
    exact h3.mono hc hs
  refine ⟨U, ?_, .threw T.heap.size, hrun, hend, Or.inr ⟨T.heap.size, rfl, cls, ce, locs, hx U hWs.alike f1 (fun q hq => f2 q hq (fun z hz => nomatch hz)), hce, hO.vm, hcl, hWs, hall, hf⟩⟩
  refine st1 _ ?_
  show Steps p.tables e below (T1.setTop { method := m, pc := pc + 3, locals := ls, stack := .ref T.heap.size :: rest, locked := none }) _
  jvm_step X₁.here [X₁.here.top, hexec, d3', Value.category]
  exact X₁.ldcString hexec (own := own) (text := text) (index := is) (a := sa) hown' hstr'.1 hstr'.2
    (g := { method := m, pc := pc + 4, locals := ls, stack := .ref T.heap.size :: .ref T.heap.size :: rest, locked := none }) rfl d4' _ hsteps
/-- 'throw new E("text")', the text by a wide index -/
theorem vx_throwSW {cc : ByteArray} {pc : Nat} (hexec : p.tables.exec = Jvm.exec) (hb : c.code = cc) (hl : l.stackTraces = false) {own cls text : String} {names : List String} {ik is ic mc ms sa : Nat} {A : Nat → Prop}
    (hown : s.vm.findClass own = some m.cls) (hcls : Bundle.fit cls = true) (hnames : ∀ n ∈ names, Bundle.fit n = true)
    (hk : (Cond.classLink own ik cls).before args s = true) (hini : (Cond.initialized cls).before args s = true) (hstr : vk_R own is text sa s) (hat : ∀ w ∈ vx_atS own ic cls names, w.before args s = true)
    (hgood : ∀ w ∈ Cond.classLink own ik cls :: Cond.initialized cls :: vx_atS own ic cls names, vx_ot w = true)
    (hU : vx_Zq Bundle.tN "UNASSIGNED_STACK" Bundle.steD A s s.heap) (hN : vx_Zq Bundle.tN "SUPPRESSED_SENTINEL" Bundle.listD A s s.heap) (hS : va_S A s.heap H locs) (hsize : ls.size = c.maxLocals)
    (d0 : decode cc pc = .ok (.new ik, 3)) (d3 : decode cc (pc + 3) = .ok (.dup, 1)) (d4 : decode cc (pc + 4) = .ok (.ldc_w is, 3)) (d7 : decode cc (pc + 7) = .ok (.invokespecial ic, 3)) (d10 : decode cc (pc + 10) = .ok (.athrow, 1))
    (hout : ∀ x ∈ c.exceptionTable.toList, covers x (pc + 10) = false)
    (hRframes : names.length + 3 < R.frames) (hRlocals : (rest.map fun v => v.category).sum + (13 * (names.length + 1) + 43) ≤ R.locals) (hRcells : cells + 1 ≤ R.cells) (hRslots : slots + 6 ≤ R.slots) (hlocks : meth.locks = false)
    (hx : ∀ t : State, s.vm.Alike t.vm → H.size ≤ t.heap.size → (∀ q : Nat, q < H.size → t.heap[q]? = H[q]?) → XC cls s t)
    (hf : ∀ z ∈ locs, free z.base) (hc : cells + 1 ≤ mc) (hs : slots + 6 ≤ ms) :
    W p l e R s m args below meth c H locs cells slots (vx_MQ below Qc XC args s mc ms free) (F0 m pc ls rest) := by
  intro T hT X
  have htr : e.platform.stackTraces = false := (show e.platform.stackTraces = l.stackTraces by rw [X.admits.platform]).trans hl
  have Y := vx_rebase X (R' := { frames := R.frames, locals := R.locals, cells := 1, slots := 6 }) (Nat.le_refl _) (Nat.le_refl _) hRcells hRslots
  obtain ⟨s', hA⟩ : ∃ z, z = (T.setVm s.vm).setFrames (.invoking m args :: below) := ⟨_, rfl⟩
  rw [← hA] at Y
  have hvm : s'.vm = s.vm := by rw [hA]; rfl
  have hhp : s'.heap = H := by rw [hA]; exact hT
  have hW0 : s.WarmedH s'.vm := by rw [hvm]; exact State.WarmedH.refl s
  have hat' : ∀ w ∈ vx_atS own ic cls names, w.before args s' = true := fun w hw => vx_ot_at hW0 hvm.symm (hgood w (List.mem_cons_of_mem _ (List.mem_cons_of_mem _ hw))) (hat w hw)
  have hk' : (Cond.classLink own ik cls).before args s' = true := vx_ot_at hW0 hvm.symm (hgood _ List.mem_cons_self) hk
  have hini' : (Cond.initialized cls).before args s' = true := vx_ot_at hW0 hvm.symm (hgood _ (List.mem_cons_of_mem _ List.mem_cons_self)) hini
  have hU' : vx_Zq Bundle.tN "UNASSIGNED_STACK" Bundle.steD A s' s'.heap := by rw [hhp]; exact vx_Zq.moved hW0.alike (hU.kept hS.2.1)
  have hN' : vx_Zq Bundle.tN "SUPPRESSED_SENTINEL" Bundle.listD A s' s'.heap := by rw [hhp]; exact vx_Zq.moved hW0.alike (hN.kept hS.2.1)
  have h : ∀ w ∈ Bundle.ownAtoms own ic cls names, w.before args s' = true := vx_own hat' (vx_isRefq hU'.1) (vx_isRefq hN'.1) hU'.2.word hN'.2.word
  have hown' : s'.vm.findClass own = some m.cls := by rw [hvm]; exact hown
  have hins : (Cond.instantiable cls 6).before args s' = true := h _ (by simp [Bundle.ownAtoms])
  obtain ⟨vm₁, cX, kX, hfX, hkX, -, -, X₁, st1⟩ := Y.newCold hexec (own := own) (C := cls) (index := ik) (n := 6) hown' hk' hins hini'
    (g := F0 m pc ls rest) rfl (by rw [hb]; exact d0) (Nat.le_refl _) (Nat.le_refl _)
  generalize hT1 : (T.setVm vm₁).pushCell { cls := cX, slots := kX.instanceTypes.map defaultValue, vm := .none } = T1 at X₁ st1
  have hcat : (Value.ref T.heap.size).category = 1 := rfl
  have hcellA : T1.heap[T.heap.size]? = some (freshCell cX kX) := by rw [← hT1]; exact State.heap_pushCell_size _ _
  have d3' : decode c.code (pc + 3) = .ok (.dup, 1) := by rw [hb]; exact d3
  have d4' : decode c.code (pc + 4) = .ok (.ldc_w is, 3) := by rw [hb]; exact d4
  have hstr' : vk_R own is text sa s' := vk_R.warm hW0 hstr
  obtain ⟨U, hsteps, hrun, hend, hW, hsame, ce, hce, hO⟩ := X₁.ctorThrowS hexec htr (own := own) (cls := cls) (names := names) (ic := ic) hown' hcls hnames h (fun x hx => nomatch hx) hfX hkX hcellA (by rw [hhp, hT]; exact Nat.le_refl _) (msg := .ref sa) rfl
    (g := { method := m, pc := pc + 7, locals := ls, stack := .ref sa :: .ref T.heap.size :: .ref T.heap.size :: rest, locked := none }) rfl hsize rfl rfl (rest := rest) rfl
    (by rw [hb]; exact d7) (by rw [hb]; exact d10) hout hRframes (by simp only [List.map_cons, List.sum_cons, hcat]; omega) hlocks
  obtain ⟨f1, f2⟩ := vx_frame hsame
  rw [hhp] at f1 f2
  have hWs : s.WarmedH U.vm := State.WarmedH.trans hW0 hW
  have hcl : s.vm.findClass cls = some ce.cls := by
    have h9 := hO.cls
    rw [hvm] at h9
    exact h9
  have hall : s.sameButNew ({ U with vm := s.vm } : State) locs mc ms := by
    subst hA
    obtain ⟨e1, e2⟩ := hsame
    rw [State.setFrames_setFrames] at e1
    have h2 : (T.setVm s.vm).sameButNew ({ U with vm := s.vm } : State) [] (0 + 1) (0 + 6) := ⟨e1, e2⟩
    have h3 := X.same.trans h2
    rw [List.append_nil] at h3
    exact h3.mono hc hs
  refine ⟨U, ?_, .threw T.heap.size, hrun, hend, Or.inr ⟨T.heap.size, rfl, cls, ce, locs, hx U hWs.alike f1 (fun q hq => f2 q hq (fun z hz => nomatch hz)), hce, hO.vm, hcl, hWs, hall, hf⟩⟩
  refine st1 _ ?_
  show Steps p.tables e below (T1.setTop { method := m, pc := pc + 3, locals := ls, stack := .ref T.heap.size :: rest, locked := none }) _
  jvm_step X₁.here [X₁.here.top, hexec, d3', Value.category]
  exact X₁.ldcStringW hexec (own := own) (text := text) (index := is) (a := sa) hown' hstr'.1 hstr'.2
    (g := { method := m, pc := pc + 4, locals := ls, stack := .ref T.heap.size :: .ref T.heap.size :: rest, locked := none }) rfl d4' _ hsteps
end Ends
section Bodies
variable {l : Launch}
theorem vx_ofW {y : MethodName} {ws ws' : List Cond} {rm : Room} {Pc : Array Value → State → Prop} {Qc : Array Value → State → Outcome → State → Prop} {XC : String → State → State → Prop} {mc ms : Nat} {free : Addr → Prop} {cc : ByteArray} {maxL : Nat} {ret : Option FieldType}
    (hy : plainName y.cls = true) (hw : ws = Cond.code y cc maxL ret :: ws')
    (body : ∀ p e s m args below meth c s₁, BodyLoose p l y (headSpec ws rm) cc maxL ret e s m args below meth c s₁ → c.maxLocals = maxL → (∀ x ∈ c.exceptionTable.toList, False) → Pc args s →
      W p l e (headSpec ws rm).room s m args below meth c s.heap [] 0 0 (vx_MQ below Qc XC args s mc ms free) (entryFrame m args maxL)) : vx_Met l y ws rm Pc Qc XC mc ms free := by
  refine MetFree.of_bodyS (code := cc) (maxLocals := maxL) (ret := ret) hy ?_ ?_
  · intro args s m h hn
    obtain ⟨meth, c, h1, h2, h3, h4, h5, h6, -, -⟩ := Cond.code_spec hn (atoms_spec (ws := ws) h _ (by rw [hw]; exact List.mem_cons_self))
    exact ⟨meth, c, h1, h2, h3, h4, h5, h6⟩
  · intro p e s m args below meth c s₁ B hml hP _
    have hh0 : s₁.heap = s.heap := by rw [B.state]; rfl
    have ht : ∀ x ∈ c.exceptionTable.toList, False := by
      obtain ⟨meth9, c9, h1, h2, -, -, -, -, h7, -⟩ := Cond.code_spec B.named (atoms_spec (ws := ws) B.pre _ (by rw [hw]; exact List.mem_cons_self))
      cases Option.some.inj (h1.symm.trans B.method)
      cases Option.some.inj (h2.symm.trans (Stand.of_body B).code)
      intro x hx
      rw [Array.isEmpty_iff.mp h7] at hx
      cases hx
    obtain ⟨t, a1, o, b1, b2, b3⟩ := body p e s m args below meth c s₁ B hml ht hP s₁ hh0 (Stand.of_body B)
    exact ⟨t, o, a1, b1, b2, b3⟩
/-- the table of a body with handlers -/
theorem vx_table {p : Program} {x y : MethodName} {S : Spec} {cc bytes : ByteArray} {maxL maxL' : Nat} {ret ret' : Option FieldType} {e : Env} {s s₁ : State} {m : MethodId} {args : Array Value} {below : List Frame} {meth : Method} {c : Code} {hh : List (Nat × Nat × Nat × Nat)}
    (B : BodyLoose p l y S cc maxL ret e s m args below meth c s₁) (h : (Cond.codeWith y bytes maxL' ret' hh).before args s = true) : c.exceptionTable.toList = tableOf hh := by
  obtain ⟨m9, meth9, c9, hn9, h1, h2, -, -, h6, -⟩ := Cond.codeWith_spec h
  cases Option.some.inj (hn9.symm.trans B.named)
  cases Option.some.inj (h1.symm.trans B.method)
  cases Option.some.inj (h2.symm.trans (Stand.of_body B).code)
  rw [← h6, table_eq]
end Bodies
end VXA
/-! ===== END ===== -/
/-! ===== BEGIN a static call of a method with an exception table ===== -/
section VXS
variable {p : Program} {l : Launch} {e : Env} {R : Room} {s : State} {m : MethodId} {args : Array Value} {below : List Frame} {meth : Method} {c : Code} {T : State} {H : Heap} {locs : List Loc} {cells slots : Nat}
abbrev vx_CSW (R : Room) (s : State) (args : Array Value) (own : String) (index : Nat) (y : MethodName) (bytes : ByteArray) (maxL : Nat) (ret : Option FieldType) (hh : List (Nat × Nat × Nat × Nat)) (ws : List Cond) (rm : Room) (mc ms n : Nat) : Prop :=
  (rm.cells = mc ∧ rm.slots = ms ∧ rm.frames + 1 ≤ R.frames ∧ 8 + (maxL + 11) + rm.locals ≤ R.locals ∧ (∀ w ∈ ws, ∀ (a' : Array Value) (U : State), s.WarmedH U.vm → w.before a' U = true) ∧ Cond.codeWith y bytes maxL ret hh ∈ ws) ∧
  (Cond.codeWith y bytes maxL ret hh).before args s = true ∧ (Cond.initialized y.cls).before args s = true ∧ (y.cls ≠ "java/lang/invoke/MethodHandle" ∧ y.cls ≠ "java/lang/invoke/VarHandle") ∧
  (∀ sig, parseMethodDescriptor y.desc = some sig → n = sig.parameters.length) ∧ (Cond.methodLink own index y).before args s = true ∧ (Cond.static y).before args s = true
theorem vx_cwSW {own : String} {index maxL mc ms : Nat} {y : MethodName} {bytes : ByteArray} {ret : Option FieldType} {hh : List (Nat × Nat × Nat × Nat)} {Ts ws ws' : List Cond} {rm : Room} (n : Nat) (ht : ∀ w ∈ Ts, w.before args s = true) (hT : GoodIn Ts (va_wsS own index y ws)) (hw : ws = Cond.codeWith y bytes maxL ret hh :: ws') (hrc : rm.cells = mc) (hrs : rm.slots = ms)
    (hd : y.cls ≠ "java/lang/invoke/MethodHandle" ∧ y.cls ≠ "java/lang/invoke/VarHandle" ∧ (parseMethodDescriptor y.desc).map (fun d => d.parameters.length) = some n) (hR : rm.frames + 1 ≤ R.frames ∧ 8 + (maxL + 11) + rm.locals ≤ R.locals) :
    vx_CSW R s args own index y bytes maxL ret hh ws rm mc ms n := by
  have ok : ∀ w ∈ va_wsS own index y ws, w.before args s = true := fun w h => ht w (hT w h).1
  have hG : GoodIn Ts ws := fun w h => hT w (by unfold va_wsS; exact List.mem_append_right _ h)
  have hc : Cond.codeWith y bytes maxL ret hh ∈ ws := by rw [hw]; exact List.mem_cons_self
  refine ⟨⟨hrc, hrs, hR.1, hR.2, pay_in ht hG, hc⟩, ht _ (hG _ hc).1, ok _ (by simp [va_wsS]), ⟨hd.1, hd.2.1⟩, fun sig h => ?_, ok _ (by simp [va_wsS]), ok _ (by simp [va_wsS])⟩
  have h2 := hd.2.2
  rw [h] at h2
  exact (Option.some.inj h2).symm
theorem vx_callSW (X : Stand p l e R s m args below meth c T locs cells slots) (hexec : p.tables.exec = Jvm.exec) {own : String} {index : Nat} {y : MethodName} {bytes : ByteArray} {maxL : Nat} {ret : Option FieldType} {hh : List (Nat × Nat × Nat × Nat)}
    (hown : s.vm.findClass own = some m.cls) (hlink : (Cond.methodLink own index y).before args s = true) (hstat : (Cond.static y).before args s = true) (hinit : (Cond.initialized y.cls).before args s = true)
    (hcode : (Cond.codeWith y bytes maxL ret hh).before args s = true) (hy : y.cls ≠ "java/lang/invoke/MethodHandle" ∧ y.cls ≠ "java/lang/invoke/VarHandle")
    {W9 : Nat} {Pre : Pt → Array Value → Prop} {Post : Pt → Array Value → Option Value → Pt → Prop} (hK : Back l R p e below s args y 3 W9 Pre Post)
    {g : JFrame} (hg : g.method = m) (hsize : g.locals.size = c.maxLocals) {argsL rest : List Value} (hlen : ∀ sig, parseMethodDescriptor y.desc = some sig → argsL.length = sig.parameters.length)
    (hstack : g.stack = argsL.reverse ++ rest) (hW : 2 * g.monitorRoom + (rest.map fun v => v.category).sum ≤ W9) (hdg : decode c.code g.pc = .ok (.invokestatic index, 3))
    (hpre : ∀ vm₁, s.WarmedH vm₁ → Pre ⟨T.setVm vm₁, locs, cells, slots⟩ argsL.toArray) :
    ∃ (v : Option Value) (vm₁ : Vm) (B : Pt), s.WarmedH vm₁ ∧ Stand p l e R s m args below meth c B.U B.locs B.cells B.slots ∧ Post ⟨T.setVm vm₁, locs, cells, slots⟩ argsL.toArray v B ∧
      ∀ target, Steps p.tables e below (B.U.setTop { g with pc := g.pc + 3, stack := v.toList ++ rest }) target → Steps p.tables e below (T.setTop g) target := by
  obtain ⟨mk, methM, cM, hnamed, hmethM, -, -, -, -, -, -, hsigM⟩ := Cond.codeWith_spec hcode
  have hstatic : methM.isStatic = true := Cond.static_spec hnamed hmethM hstat
  obtain ⟨kP, hkP, -⟩ := className_of_methodNamed hnamed
  have hinitP : kP.init = .initialized := Cond.initialized_spec (findClass_of_methodNamed hnamed) hkP hinit
  obtain ⟨vm₁, X₁, hstep₁⟩ := X.invokestatic hexec hown hlink hnamed hmethM hstatic hkP hinitP hy (g := g) hg (argsL := argsL) (rest := rest) (hlen _ hsigM) hstack hdg
  obtain ⟨v, B, X', hpost, hsteps⟩ := hK m meth c ⟨T.setVm vm₁, locs, cells, slots⟩ { g with stack := rest } (.invokestatic index) mk argsL.toArray X₁ hg hsize hdg hW (X₁.named hnamed) (hpre vm₁ X₁.warmed)
  exact ⟨v, vm₁, B, X₁.warmed, X', hpost, fun target h => hstep₁ _ fun acts => by rw [doInvoke_state]; exact hsteps.trans h⟩
theorem vx_runSW {y : MethodName} {bytes cc : ByteArray} {maxL nL mc ms n index : Nat} {ret : Option FieldType} {hh : List (Nat × Nat × Nat × Nat)} {ws : List Cond} {rm : Room} {Pc : Array Value → State → Prop} {Qc : Array Value → State → Outcome → State → Prop} {free : Addr → Prop} {Ts : List Cond} {own : String} {As rest : List Value} {g : JFrame}
    (S : CallFix p m c cc nL s args Ts own) (hM : Met l y ws rm Pc Qc mc ms free) (cw : vx_CSW R s args own index y bytes maxL ret hh ws rm mc ms n) (hp : PreS s H Pc As)
    (hg : g.method = m) (hn : As.length = n) (hsize : g.locals.size = nL) (hstack : g.stack = As.reverse ++ rest) (hW : 2 * g.monitorRoom + (rest.map fun v => v.category).sum ≤ 8) (hdg : decode cc g.pc = .ok (.invokestatic index, 3)) (hf : cells + mc ≤ R.cells ∧ slots + ms ≤ R.slots) :
    va_Run p l e R s m args below meth c H locs cells slots mc ms g rest (Qc As.toArray) (free) := by
  obtain ⟨⟨hrc, hrs, hfr, hlo, hws, hcw⟩, hcode, hini, hy, hlen, hl, hstt⟩ := cw
  have hK : Back l R p e below s args y 3 8 (PreOf R mc ms Pc) (PostOf Qc mc ms free) := va_backW (hh := hh) (bytes := bytes) (maxL := maxL) (ret := ret) hM hp.1 hrc hrs hfr hlo hws hcw (fun a' U hW => word_at hW (Or.inl (by first | rfl | simp [Cond.onTables, Cond.keeps, Cond.steady])) hini)
  obtain ⟨hx, hb, hml, ho, -⟩ := S
  intro T hT X
  obtain ⟨v, vm₁, ⟨U', l2, c2, s2⟩, hW₁, X', ⟨g', mk, t, L, e1, e2, hq, h1, hL, h2, h3⟩, st⟩ := vx_callSW X hx (hh := hh) (bytes := bytes) (maxL := maxL) (ret := ret) ho hl hstt hini hcode hy hK hg (hsize.trans hml.symm) (argsL := As) (rest := rest) (fun sig h => hn.trans (hlen sig h)) hstack hW (by rw [hb]; exact hdg)
    (fun vm₁ hW₁ => ⟨hf.1, hf.2, hp.2 (T.setVm vm₁) hT hW₁⟩)
  dsimp only [Pt.U, Pt.locs, Pt.cells, Pt.slots] at X' e1 e2 h1 h2 h3 st
  subst h1; subst h2; subst h3
  exact ⟨v, (T.setVm vm₁).calling g' mk As.toArray, t, U', L, hT, X', hL, e1, e2, hq, st⟩
/-- not caught here, past rows that name other classes: it goes on to the caller -/
theorem vx_outP {p : Program} {l : Launch} {e : Env} {R : Room} {s : State} {m : MethodId} {args : Array Value} {below : List Frame} {meth : Method} {c : Code} {H : Heap} {locs : List Loc} {cells slots : Nat} {free : Addr → Prop} {ls : Array Slot} {rest : List Value} {Qc : Array Value → State → Outcome → State → Prop} {XC : String → State → State → Prop}
    {pc : Nat} {own E : String} {ce : Cell} {q : Addr} {mc ms : Nat} (hown : s.vm.findClass own = some m.cls) (hlocks : meth.locks = false)
    (hpass : ∀ z ∈ c.exceptionTable.toList, covers z pc = false ∨ (z.catchType ≠ 0 ∧ ∃ nm : String, (Cond.classLink own z.catchType nm).before args s = true ∧ va_Nc E nm s)) (hcell : H[q]? = some ce) (hv : ce.vm = .none) (hcl : s.vm.findClass E = some ce.cls)
    (hx : ∀ t : State, t.heap = H → s.vm.Alike t.vm → XC E s t) (hf : ∀ z ∈ locs, free z.base) (hc : cells ≤ mc) (hs : slots ≤ ms) :
    vx_W p l e R s m args below meth c H locs cells slots (vx_MQ below Qc XC args s mc ms free) (F0 m pc ls rest) q := by
  intro T hT X
  have hpl : e.platform.magicAccessors = ({} : Platform).magicAccessors := by rw [X.admits.platform]
  obtain ⟨vm', hW', X', st⟩ := X.outThrough hlocks q (g := F0 m pc ls rest) rfl rfl rfl (cell := ce) (by rw [hT]; exact hcell) (by rw [hv]; rfl)
    (by obtain ⟨k9, h9, -⟩ := Vm.findClass_spec hcl; exact ⟨k9, h9⟩) (fun z hz => by
      rcases hpass z hz with h | ⟨hz0, nm, hl1, hn1⟩
      · exact Or.inl h
      · obtain ⟨c6, hc6, hcl6⟩ := Cond.classLink_spec hown hl1 e.platform hpl
        obtain ⟨a8, b8, h1, h2, h3⟩ := hn1
        cases Option.some.inj (h1.symm.trans hcl)
        cases Option.some.inj (h2.symm.trans hc6)
        exact Or.inr ⟨hz0, _, hcl6, h3⟩)
  obtain ⟨g₀, hfr⟩ := X'.frames_eq
  have hcell9 : ((T.setVm vm').setFrames (.throwing q :: below)).heap[q]? = some ce := by
    show T.heap[q]? = some ce
    rw [hT]; exact hcell
  have hend : Ended ((T.setVm vm').setFrames (.throwing q :: below)) below (.threw q) := State.frames_setFrames _ (State.cur_lt_of_frames hfr)
  refine ⟨(T.setVm vm').setFrames (.throwing q :: below), ?_, .threw q, X'.here.running, hend, Or.inr ⟨q, rfl, E, ce, locs, hx _ hT (X'.ends _).1.alike, hcell9, hv, hcl, (X'.ends _).1, (X'.ends _).2.mono hc hs, hf⟩⟩
  rw [X.pushThrowing_eq]
  exact st
/-- a thing of a world lies in the heap -/
theorem vx_lt {D : va_G} {cl : List vw_C} {ws : va_W} {H1 : Heap} (h : va_P D cl ws H1) {k : Nat} {q : Nat × va_E} (hk : ws[k]? = some q) : q.1 < H1.size := (h k q hk).lt
end VXS
/-! ===== END ===== -/
/-! ===== BEGIN methods with a table of their own: called by a name, returning or throwing ===== -/
section VXH
/-! vx_backW, vx_callVX, vx_callSX, vx_callVW, vx_runVW, vx_runVX, vx_runSX, vx_ofWH follow the same proofs as their sisters above (Free/Laws.lean, Shelf42/LK1.lean); vx_outP calls Shelf42/NT130.lean (outThrough). -/
section
variable {l : Launch} {R : Room} {p : Program} {e : Env} {below : List Frame} {s : State} {sargs : Array Value} {y : MethodName} {len W9 : Nat}
theorem vx_backW {ws : List Cond} {rm : Room} {Pc : Array Value → State → Prop} {Qc : Array Value → State → Outcome → State → Prop} {XC : String → State → State → Prop} {mc ms : Nat} {free : Addr → Prop} {bytes : ByteArray} {maxL : Nat} {ret : Option FieldType} {hh : List (Nat × Nat × Nat × Nat)}
    (hM : vx_Met l y ws rm Pc Qc XC mc ms free) (hblind : FrameBlind Pc) (hrc : rm.cells = mc) (hrs : rm.slots = ms)
    (hframes : rm.frames + 1 ≤ R.frames) (hlocals : W9 + (maxL + 11) + rm.locals ≤ R.locals)
    (hws : ∀ w ∈ ws, ∀ a' U, s.WarmedH U.vm → w.before a' U = true) (hcode : Cond.codeWith y bytes maxL ret hh ∈ ws) (hinit : ∀ a' U, s.WarmedH U.vm → (Cond.initialized y.cls).before a' U = true) :
    vx_Back l R p e below s sargs y len W9 (PreOf R mc ms Pc) (PostOf Qc mc ms free) (vx_Post XC mc ms free) := by
  intro m meth c A g ig mk a X hg hsize hdg hW hn hp
  have h1 : (headSpec ws rm).pre.before a A.U = true := atoms_intro fun w hw => hws w hw _ _ X.warmed
  have h2 : (Cond.codeWith y bytes maxL ret hh).before a A.U = true := hws _ hcode _ _ X.warmed
  have h3 : (Cond.initialized y.cls).before a A.U = true := hinit _ _ X.warmed
  have h4 : A.cells + (headSpec ws rm).room.cells ≤ R.cells := by rw [show (headSpec ws rm).room.cells = mc from hrc]; exact hp.1
  have h5 : A.slots + (headSpec ws rm).room.slots ≤ R.slots := by rw [show (headSpec ws rm).room.slots = ms from hrs]; exact hp.2.1
  have hPc : Pc a (A.U.calling g mk a) := hblind _ _ _ _ hp.2.2
  obtain ⟨U, Ls, c0, s0⟩ := A
  dsimp only [Pt.U, Pt.locs, Pt.cells, Pt.slots] at h1 h2 h3 h4 h5 X hn hPc ⊢
  obtain ⟨m9, methY, cY, hn9, hmY, hcY, -, hlY, -⟩ := Cond.codeWith_spec h2
  cases Option.some.inj (hn9.symm.trans hn)
  obtain ⟨kY, hkY, -⟩ := className_of_methodNamed hn
  have hinitY : kY.init = .initialized := Cond.initialized_spec (findClass_of_methodNamed hn) hkY h3
  have h : At U g.method c below := by rw [hg]; exact X.here
  have hlocals9 : W9 + (maxL + 11) + (headSpec ws rm).room.locals ≤ R.locals := hlocals
  have happ : (headSpec ws rm).appliesLoose y e.platform (U.calling g mk a) = true :=
    Spec.appliesLoose_calling (g := g) h hdg hn hkY hinitY
      (X.room_calling (g := g) (R' := (headSpec ws rm).room) hsize hmY hcY hframes (by rw [hlY]; omega) h4 h5) h1
  obtain ⟨mid, hmid⟩ := h.above
  have hfr : (U.setTop g).frames = (.java g :: mid) ++ below := by rw [State.frames_setTop' g h.top, hmid]; rfl
  obtain ⟨o, s₂, hsteps, -, hend, hq⟩ := Steps.callFree hM p X.admits X.cas X.clock (acts := []) hfr happ hPc trivial
  have hq' : vx_Q Qc XC mc ms free a (U.calling g mk a) o s₂ := hq
  rw [State.frames_setTop' g h.top] at hend
  obtain ⟨g₀, hg0⟩ := Option.isSome_iff_exists.mp h.top
  obtain ⟨r, hr⟩ := State.topJava?_eq_some.mp hg0
  have hr' : (({ U with heap := s₂.heap, slotsUsed := s₂.slotsUsed } : State).setVm s₂.vm).frames = .java g₀ :: r := hr
  rcases hq' with ⟨hqc, L, hfe, hL⟩ | ⟨q, rfl, E, ce, L, hx, hce, hcv, hcl, hW₂, hsm, hL⟩
  · obtain ⟨⟨v, rfl⟩, hW₂, e2, q2, q3, q4, q5, q6⟩ := id hfe
    have e3 : s₂ = ({ (U.calling g mk a).setFrames s₂.frames with heap := s₂.heap, slotsUsed := s₂.slotsUsed } : State).setVm s₂.vm := by
      have : s₂ = ({ s₂ with vm := (U.calling g mk a).vm } : State).setVm s₂.vm := rfl
      rw [e2] at this
      exact this
    obtain ⟨c₂, i₂, len₂, hc₂, hd₂, hf₂⟩ := hend
    have hW' : U.WarmedH s₂.vm := hW₂
    have hcc : c₂ = c := by
      have h1 : s₂.code? g.method = U.code? g.method := by
        rw [State.code?_eq, State.code?_eq, hW'.alike.method?]
      exact Option.some.inj (hc₂.symm.trans (h1.trans h.code))
    subst hcc
    have hlen : len₂ = len := by rw [hdg] at hd₂; cases hd₂; rfl
    subst hlen
    have hs₂ : s₂ = (({ U with heap := s₂.heap, slotsUsed := s₂.slotsUsed } : State).setVm s₂.vm).setTop { g with pc := g.pc + len₂, stack := v.toList ++ g.stack } := by
      refine e3.trans ?_
      rw [hf₂, State.calling_eq h.top, State.setFrames_setFrames, State.setTop_of_frames _ hr', hr]
      rfl
    have hsame : U.sameButNew ({ U with heap := s₂.heap, slotsUsed := s₂.slotsUsed } : State) L mc ms := by
      refine ⟨?_, q2, q3, q4, q5, q6⟩
      obtain ⟨t, ht, -⟩ := State.frames_cons hr
      show ({ U with heap := s₂.heap, slotsUsed := s₂.slotsUsed } : State) = { U.setFrames U.frames with heap := s₂.heap, slotsUsed := s₂.slotsUsed }
      rw [State.setFrames_self ht]
    subst hg
    refine Or.inl ⟨v, ⟨(({ U with heap := s₂.heap, slotsUsed := s₂.slotsUsed } : State).setVm s₂.vm), Ls ++ L, c0 + mc, s0 + ms⟩,
      ⟨X.admits, X.cas, X.clock, X.frames, X.room, X.hears, X.method, X.code, (X.here.setHeapUsed s₂.heap s₂.slotsUsed).setVm hW'.alike, X.tail, State.WarmedH.trans X.warmed hW', X.limits, X.bytes, X.same.trans (hsame.setVm s.vm)⟩,
      ⟨g, mk, s₂, L, rfl, rfl, hqc, rfl, hL, rfl, rfl⟩, ?_⟩
    show Steps p.tables e below _ ((({ U with heap := s₂.heap, slotsUsed := s₂.slotsUsed } : State).setVm s₂.vm).setTop { g with pc := g.pc + len₂, stack := v.toList ++ g.stack })
    rw [← hs₂]
    exact hsteps
  · obtain ⟨e2, q2, q3, q4, q5, q6⟩ := id hsm
    have e3 : s₂ = ({ (U.calling g mk a).setFrames s₂.frames with heap := s₂.heap, slotsUsed := s₂.slotsUsed } : State).setVm s₂.vm := by
      have : s₂ = ({ s₂ with vm := (U.calling g mk a).vm } : State).setVm s₂.vm := rfl
      rw [e2] at this
      exact this
    have hf₂ : s₂.frames = .throwing q :: .java g :: U.frames.tail := hend
    have hW' : U.WarmedH s₂.vm := hW₂
    have hs₂ : s₂ = ((({ U with heap := s₂.heap, slotsUsed := s₂.slotsUsed } : State).setVm s₂.vm).setTop g).pushFrame (.throwing q) := by
      refine e3.trans ?_
      rw [hf₂, State.calling_eq h.top, State.setFrames_setFrames, State.pushFrame, State.frames_setTop _ hr', State.setTop_of_frames _ hr', State.setFrames_setFrames, hr]
      rfl
    have hsame : U.sameButNew ({ U with heap := s₂.heap, slotsUsed := s₂.slotsUsed } : State) L mc ms := by
      refine ⟨?_, q2, q3, q4, q5, q6⟩
      obtain ⟨t, ht, -⟩ := State.frames_cons hr
      show ({ U with heap := s₂.heap, slotsUsed := s₂.slotsUsed } : State) = { U.setFrames U.frames with heap := s₂.heap, slotsUsed := s₂.slotsUsed }
      rw [State.setFrames_self ht]
    subst hg
    refine Or.inr ⟨q, ⟨(({ U with heap := s₂.heap, slotsUsed := s₂.slotsUsed } : State).setVm s₂.vm), Ls ++ L, c0 + mc, s0 + ms⟩,
      ⟨X.admits, X.cas, X.clock, X.frames, X.room, X.hears, X.method, X.code, (X.here.setHeapUsed s₂.heap s₂.slotsUsed).setVm hW'.alike, X.tail, State.WarmedH.trans X.warmed hW', X.limits, X.bytes, X.same.trans (hsame.setVm s.vm)⟩,
      ⟨g, mk, s₂, L, E, ce, rfl, rfl, hx, hce, hcv, hcl, rfl, hL, rfl, rfl⟩, ?_⟩
    show Steps p.tables e below _ (((({ U with heap := s₂.heap, slotsUsed := s₂.slotsUsed } : State).setVm s₂.vm).setTop g).pushFrame (.throwing q))
    rw [← hs₂]
    exact hsteps
end
variable {p : Program} {l : Launch} {e : Env} {R : Room} {s : State} {m : MethodId} {args : Array Value} {below : List Frame} {meth : Method} {c : Code} {T : State} {H : Heap} {locs : List Loc} {cells slots : Nat}
theorem vx_callVX (X : Stand p l e R s m args below meth c T locs cells slots) (hexec : p.tables.exec = Jvm.exec) {own C : String} {index : Nat} {y : MethodName} {bytes : ByteArray} {maxL : Nat} {ret : Option FieldType} {hh : List (Nat × Nat × Nat × Nat)}
    (hown : s.vm.findClass own = some m.cls) (hlink : (Cond.methodLink own index y).before args s = true) (hinst : (Cond.instanceMethod y).before args s = true) (hsel : (Cond.selects C y y).before args s = true)
    (hcode : (Cond.codeWith y bytes maxL ret hh).before args s = true) (hy : y.cls ≠ "java/lang/invoke/MethodHandle" ∧ y.cls ≠ "java/lang/invoke/VarHandle")
    {W9 : Nat} {Pre : Pt → Array Value → Prop} {Post : Pt → Array Value → Option Value → Pt → Prop} {PostX : Pt → Array Value → Addr → Pt → Prop} (hK : vx_Back l R p e below s args y 3 W9 Pre Post PostX)
    {b : Addr} {cellB : Cell} (hcell : T.heap[b]? = some cellB) (hobj : cellB.vm.isStatics = false) (hcls : s.vm.findClass C = some cellB.cls)
    {g : JFrame} (hg : g.method = m) (hsize : g.locals.size = c.maxLocals) {argsL rest : List Value} (hlen : ∀ sig, parseMethodDescriptor y.desc = some sig → argsL.length = sig.parameters.length)
    (hstack : g.stack = argsL.reverse ++ .ref b :: rest) (hW : 2 * g.monitorRoom + (rest.map fun v => v.category).sum ≤ W9) (hdg : decode c.code g.pc = .ok (.invokevirtual index, 3))
    (hpre : ∀ vm₁, s.WarmedH vm₁ → Pre ⟨T.setVm vm₁, locs, cells, slots⟩ (Value.ref b :: argsL).toArray) :
    (∃ (v : Option Value) (vm₁ : Vm) (B : Pt), s.WarmedH vm₁ ∧ Stand p l e R s m args below meth c B.U B.locs B.cells B.slots ∧ Post ⟨T.setVm vm₁, locs, cells, slots⟩ (Value.ref b :: argsL).toArray v B ∧
      ∀ target, Steps p.tables e below (B.U.setTop { g with pc := g.pc + 3, stack := v.toList ++ rest }) target → Steps p.tables e below (T.setTop g) target) ∨
    (∃ (q : Addr) (vm₁ : Vm) (B : Pt), s.WarmedH vm₁ ∧ Stand p l e R s m args below meth c B.U B.locs B.cells B.slots ∧ PostX ⟨T.setVm vm₁, locs, cells, slots⟩ (Value.ref b :: argsL).toArray q B ∧
      Steps p.tables e below (T.setTop g) ((B.U.setTop { g with stack := rest }).pushFrame (.throwing q))) := by
  obtain ⟨mk, methM, hnamed, hmethM, hstM, habM⟩ := Cond.instanceMethod_spec hinst
  obtain ⟨m8, methM', cM, hn8, hmethM', -, -, -, -, -, -, hsigM⟩ := Cond.codeWith_spec hcode
  cases Option.some.inj (hn8.symm.trans hnamed)
  cases hmethM.symm.trans hmethM'
  obtain ⟨c2, r2, m2, q1, q2, q3, q4, kP, hkP, hkPi⟩ := Cond.selects_spec hsel
  cases hcls.symm.trans q1
  cases (State.methodFound?_of_named hnamed hy).symm.trans q2
  cases hnamed.symm.trans q3
  have hselP : selectMethod e.platform s.vm cellB.cls mk = .method mk := by rw [Launch.admits_selectMethod X.admits]; exact q4
  obtain ⟨vm₁, X₁, hstep₁⟩ := X.invokevirtual hexec hown hlink hnamed hmethM hstM hkP hkPi hy (a := b) (cell := cellB) hcell
    (fun z h => by rw [h] at hobj; cases hobj) hselP hmethM habM hkP hkPi (g := g) hg (argsL := argsL) (rest := rest) (hlen _ hsigM) hstack hdg
  rcases hK m meth c ⟨T.setVm vm₁, locs, cells, slots⟩ { g with stack := rest } (.invokevirtual index) mk (Value.ref b :: argsL).toArray X₁ hg hsize hdg hW (X₁.named hnamed) (hpre vm₁ X₁.warmed) with ⟨v, B, X', hpost, hsteps⟩ | ⟨q, B, X', hpost, hsteps⟩
  · exact Or.inl ⟨v, vm₁, B, X₁.warmed, X', hpost, fun target h => hstep₁ _ fun acts => by rw [doInvoke_state]; exact hsteps.trans h⟩
  · exact Or.inr ⟨q, vm₁, B, X₁.warmed, X', hpost, hstep₁ _ fun acts => by rw [doInvoke_state]; exact hsteps⟩
theorem vx_callSX (X : Stand p l e R s m args below meth c T locs cells slots) (hexec : p.tables.exec = Jvm.exec) {own : String} {index : Nat} {y : MethodName} {bytes : ByteArray} {maxL : Nat} {ret : Option FieldType} {hh : List (Nat × Nat × Nat × Nat)}
    (hown : s.vm.findClass own = some m.cls) (hlink : (Cond.methodLink own index y).before args s = true) (hstat : (Cond.static y).before args s = true) (hinit : (Cond.initialized y.cls).before args s = true)
    (hcode : (Cond.codeWith y bytes maxL ret hh).before args s = true) (hy : y.cls ≠ "java/lang/invoke/MethodHandle" ∧ y.cls ≠ "java/lang/invoke/VarHandle")
    {W9 : Nat} {Pre : Pt → Array Value → Prop} {Post : Pt → Array Value → Option Value → Pt → Prop} {PostX : Pt → Array Value → Addr → Pt → Prop} (hK : vx_Back l R p e below s args y 3 W9 Pre Post PostX)
    {g : JFrame} (hg : g.method = m) (hsize : g.locals.size = c.maxLocals) {argsL rest : List Value} (hlen : ∀ sig, parseMethodDescriptor y.desc = some sig → argsL.length = sig.parameters.length)
    (hstack : g.stack = argsL.reverse ++ rest) (hW : 2 * g.monitorRoom + (rest.map fun v => v.category).sum ≤ W9) (hdg : decode c.code g.pc = .ok (.invokestatic index, 3))
    (hpre : ∀ vm₁, s.WarmedH vm₁ → Pre ⟨T.setVm vm₁, locs, cells, slots⟩ argsL.toArray) :
    (∃ (v : Option Value) (vm₁ : Vm) (B : Pt), s.WarmedH vm₁ ∧ Stand p l e R s m args below meth c B.U B.locs B.cells B.slots ∧ Post ⟨T.setVm vm₁, locs, cells, slots⟩ argsL.toArray v B ∧
      ∀ target, Steps p.tables e below (B.U.setTop { g with pc := g.pc + 3, stack := v.toList ++ rest }) target → Steps p.tables e below (T.setTop g) target) ∨
    (∃ (q : Addr) (vm₁ : Vm) (B : Pt), s.WarmedH vm₁ ∧ Stand p l e R s m args below meth c B.U B.locs B.cells B.slots ∧ PostX ⟨T.setVm vm₁, locs, cells, slots⟩ argsL.toArray q B ∧
      Steps p.tables e below (T.setTop g) ((B.U.setTop { g with stack := rest }).pushFrame (.throwing q))) := by
  obtain ⟨mk, methM, cM, hnamed, hmethM, -, -, -, -, -, -, hsigM⟩ := Cond.codeWith_spec hcode
  have hstatic : methM.isStatic = true := Cond.static_spec hnamed hmethM hstat
  obtain ⟨kP, hkP, -⟩ := className_of_methodNamed hnamed
  have hinitP : kP.init = .initialized := Cond.initialized_spec (findClass_of_methodNamed hnamed) hkP hinit
  obtain ⟨vm₁, X₁, hstep₁⟩ := X.invokestatic hexec hown hlink hnamed hmethM hstatic hkP hinitP hy (g := g) hg (argsL := argsL) (rest := rest) (hlen _ hsigM) hstack hdg
  rcases hK m meth c ⟨T.setVm vm₁, locs, cells, slots⟩ { g with stack := rest } (.invokestatic index) mk argsL.toArray X₁ hg hsize hdg hW (X₁.named hnamed) (hpre vm₁ X₁.warmed) with ⟨v, B, X', hpost, hsteps⟩ | ⟨q, B, X', hpost, hsteps⟩
  · exact Or.inl ⟨v, vm₁, B, X₁.warmed, X', hpost, fun target h => hstep₁ _ fun acts => by rw [doInvoke_state]; exact hsteps.trans h⟩
  · exact Or.inr ⟨q, vm₁, B, X₁.warmed, X', hpost, hstep₁ _ fun acts => by rw [doInvoke_state]; exact hsteps⟩
theorem vx_callVW (X : Stand p l e R s m args below meth c T locs cells slots) (hexec : p.tables.exec = Jvm.exec) {own C : String} {index : Nat} {y : MethodName} {bytes : ByteArray} {maxL : Nat} {ret : Option FieldType} {hh : List (Nat × Nat × Nat × Nat)}
    (hown : s.vm.findClass own = some m.cls) (hlink : (Cond.methodLink own index y).before args s = true) (hinst : (Cond.instanceMethod y).before args s = true) (hsel : (Cond.selects C y y).before args s = true)
    (hcode : (Cond.codeWith y bytes maxL ret hh).before args s = true) (hy : y.cls ≠ "java/lang/invoke/MethodHandle" ∧ y.cls ≠ "java/lang/invoke/VarHandle")
    {W9 : Nat} {Pre : Pt → Array Value → Prop} {Post : Pt → Array Value → Option Value → Pt → Prop} (hK : Back l R p e below s args y 3 W9 Pre Post)
    {b : Addr} {cellB : Cell} (hcell : T.heap[b]? = some cellB) (hobj : cellB.vm.isStatics = false) (hcls : s.vm.findClass C = some cellB.cls)
    {g : JFrame} (hg : g.method = m) (hsize : g.locals.size = c.maxLocals) {argsL rest : List Value} (hlen : ∀ sig, parseMethodDescriptor y.desc = some sig → argsL.length = sig.parameters.length)
    (hstack : g.stack = argsL.reverse ++ .ref b :: rest) (hW : 2 * g.monitorRoom + (rest.map fun v => v.category).sum ≤ W9) (hdg : decode c.code g.pc = .ok (.invokevirtual index, 3))
    (hpre : ∀ vm₁, s.WarmedH vm₁ → Pre ⟨T.setVm vm₁, locs, cells, slots⟩ (Value.ref b :: argsL).toArray) :
    ∃ (v : Option Value) (vm₁ : Vm) (B : Pt), s.WarmedH vm₁ ∧ Stand p l e R s m args below meth c B.U B.locs B.cells B.slots ∧ Post ⟨T.setVm vm₁, locs, cells, slots⟩ (Value.ref b :: argsL).toArray v B ∧
      ∀ target, Steps p.tables e below (B.U.setTop { g with pc := g.pc + 3, stack := v.toList ++ rest }) target → Steps p.tables e below (T.setTop g) target := by
  obtain ⟨mk, methM, hnamed, hmethM, hstM, habM⟩ := Cond.instanceMethod_spec hinst
  obtain ⟨m8, methM', cM, hn8, hmethM', -, -, -, -, -, -, hsigM⟩ := Cond.codeWith_spec hcode
  cases Option.some.inj (hn8.symm.trans hnamed)
  cases hmethM.symm.trans hmethM'
  obtain ⟨c2, r2, m2, q1, q2, q3, q4, kP, hkP, hkPi⟩ := Cond.selects_spec hsel
  cases hcls.symm.trans q1
  cases (State.methodFound?_of_named hnamed hy).symm.trans q2
  cases hnamed.symm.trans q3
  have hselP : selectMethod e.platform s.vm cellB.cls mk = .method mk := by rw [Launch.admits_selectMethod X.admits]; exact q4
  obtain ⟨vm₁, X₁, hstep₁⟩ := X.invokevirtual hexec hown hlink hnamed hmethM hstM hkP hkPi hy (a := b) (cell := cellB) hcell
    (fun z h => by rw [h] at hobj; cases hobj) hselP hmethM habM hkP hkPi (g := g) hg (argsL := argsL) (rest := rest) (hlen _ hsigM) hstack hdg
  obtain ⟨v, B, X', hpost, hsteps⟩ := hK m meth c ⟨T.setVm vm₁, locs, cells, slots⟩ { g with stack := rest } (.invokevirtual index) mk (Value.ref b :: argsL).toArray X₁ hg hsize hdg hW (X₁.named hnamed) (hpre vm₁ X₁.warmed)
  exact ⟨v, vm₁, B, X₁.warmed, X', hpost, fun target h => hstep₁ _ fun acts => by rw [doInvoke_state]; exact hsteps.trans h⟩
abbrev vx_CVW (R : Room) (s : State) (args : Array Value) (own C : String) (index : Nat) (y : MethodName) (bytes : ByteArray) (maxL : Nat) (ret : Option FieldType) (hh : List (Nat × Nat × Nat × Nat)) (ws : List Cond) (rm : Room) (mc ms n : Nat) : Prop :=
  (rm.cells = mc ∧ rm.slots = ms ∧ rm.frames + 1 ≤ R.frames ∧ 8 + (maxL + 11) + rm.locals ≤ R.locals ∧ (∀ w ∈ ws, ∀ (a' : Array Value) (U : State), s.WarmedH U.vm → w.before a' U = true) ∧ Cond.codeWith y bytes maxL ret hh ∈ ws) ∧
  (Cond.codeWith y bytes maxL ret hh).before args s = true ∧ (Cond.initialized y.cls).before args s = true ∧ (y.cls ≠ "java/lang/invoke/MethodHandle" ∧ y.cls ≠ "java/lang/invoke/VarHandle") ∧
  (∀ sig, parseMethodDescriptor y.desc = some sig → n = sig.parameters.length) ∧ (Cond.methodLink own index y).before args s = true ∧ (Cond.instanceMethod y).before args s = true ∧ (Cond.selects C y y).before args s = true
theorem vx_cwVW {own C : String} {index maxL mc ms : Nat} {y : MethodName} {bytes : ByteArray} {ret : Option FieldType} {hh : List (Nat × Nat × Nat × Nat)} {Ts ws ws' : List Cond} {rm : Room} (n : Nat) (ht : ∀ w ∈ Ts, w.before args s = true) (hT : GoodIn Ts (wsV own index C y ws)) (hw : ws = Cond.codeWith y bytes maxL ret hh :: ws') (hrc : rm.cells = mc) (hrs : rm.slots = ms)
    (hd : y.cls = C ∧ y.cls ≠ "java/lang/invoke/MethodHandle" ∧ y.cls ≠ "java/lang/invoke/VarHandle" ∧ (parseMethodDescriptor y.desc).map (fun d => d.parameters.length) = some n) (hR : rm.frames + 1 ≤ R.frames ∧ 8 + (maxL + 11) + rm.locals ≤ R.locals) :
    vx_CVW R s args own C index y bytes maxL ret hh ws rm mc ms n := by
  obtain ⟨hC, hd⟩ := hd
  subst hC
  have ok : ∀ w ∈ wsV own index y.cls y ws, w.before args s = true := fun w h => ht w (hT w h).1
  have hG : GoodIn Ts ws := fun w h => hT w (by unfold wsV; exact List.mem_append_right _ h)
  have hc : Cond.codeWith y bytes maxL ret hh ∈ ws := by rw [hw]; exact List.mem_cons_self
  refine ⟨⟨hrc, hrs, hR.1, hR.2, pay_in ht hG, hc⟩, ht _ (hG _ hc).1, ok _ (by simp [wsV]), ⟨hd.1, hd.2.1⟩, fun sig h => ?_, ok _ (by simp [wsV]), ok _ (by simp [wsV]), ok _ (by simp [wsV])⟩
  have h2 := hd.2.2
  rw [h] at h2
  exact (Option.some.inj h2).symm
theorem vx_runVW {y : MethodName} {bytes cc : ByteArray} {maxL nL mc ms n index : Nat} {ret : Option FieldType} {hh : List (Nat × Nat × Nat × Nat)} {ws : List Cond} {rm : Room} {Pc : Array Value → State → Prop} {Qc : Array Value → State → Outcome → State → Prop} {free : Addr → Prop} {Ts : List Cond} {own C : String} {b : Addr} {As rest : List Value} {g : JFrame}
    (S : CallFix p m c cc nL s args Ts own) (hM : Met l y ws rm Pc Qc mc ms free) (cw : vx_CVW R s args own C index y bytes maxL ret hh ws rm mc ms n) (hp : PreV s H C b Pc As)
    (hg : g.method = m) (hn : As.length = n) (hsize : g.locals.size = nL) (hstack : g.stack = As.reverse ++ .ref b :: rest) (hW : 2 * g.monitorRoom + (rest.map fun v => v.category).sum ≤ 8) (hdg : decode cc g.pc = .ok (.invokevirtual index, 3)) (hf : cells + mc ≤ R.cells ∧ slots + ms ≤ R.slots) :
    va_Run p l e R s m args below meth c H locs cells slots mc ms g rest (Qc (Value.ref b :: As).toArray) free := by
  obtain ⟨⟨hrc, hrs, hfr, hlo, hws, hcw⟩, hcode, hini, hy, hlen, hl, hin, hse⟩ := cw
  have hK : Back l R p e below s args y 3 8 (PreOf R mc ms Pc) (PostOf Qc mc ms free) := va_backW (hh := hh) (bytes := bytes) (maxL := maxL) (ret := ret) hM hp.1 hrc hrs hfr hlo hws hcw (fun a' U hW => word_at hW (Or.inl (by first | rfl | simp [Cond.onTables, Cond.keeps, Cond.steady])) hini)
  obtain ⟨hx, hb, hml, ho, -⟩ := S
  obtain ⟨-, ⟨cellB, hcB, hoB, hclB⟩, hPc⟩ := hp
  intro T hT X
  obtain ⟨v, vm₁, ⟨U', l2, c2, s2⟩, hW₁, X', ⟨g', mk, t, L, e1, e2, hq, h1, hL, h2, h3⟩, st⟩ := vx_callVW X hx (C := C) (hh := hh) (bytes := bytes) (maxL := maxL) (ret := ret) ho hl hin hse hcode hy hK (by rw [hT]; exact hcB) hoB hclB hg (hsize.trans hml.symm) (argsL := As) (rest := rest) (fun sig h => hn.trans (hlen sig h)) hstack hW (by rw [hb]; exact hdg)
    (fun vm₁ hW₁ => ⟨hf.1, hf.2, hPc (T.setVm vm₁) hT hW₁⟩)
  dsimp only [Pt.U, Pt.locs, Pt.cells, Pt.slots] at X' e1 e2 h1 h2 h3 st
  subst h1; subst h2; subst h3
  exact ⟨v, (T.setVm vm₁).calling g' mk (Value.ref b :: As).toArray, t, U', L, hT, X', hL, e1, e2, hq, st⟩
section
variable {y : MethodName} {bytes cc : ByteArray} {maxL nL mc ms n index : Nat} {ret : Option FieldType} {ws : List Cond} {rm : Room} {Pc : Array Value → State → Prop} {Qc : Array Value → State → Outcome → State → Prop} {XC : String → State → State → Prop} {free : Addr → Prop} {Ts : List Cond} {own C : String} {b : Addr} {As rest : List Value} {g : JFrame}
theorem vx_runVX {hh : List (Nat × Nat × Nat × Nat)} (S : CallFix p m c cc nL s args Ts own) (hM : vx_Met l y ws rm Pc Qc XC mc ms free) (cw : vx_CVW R s args own C index y bytes maxL ret hh ws rm mc ms n) (hp : PreV s H C b Pc As)
    (hg : g.method = m) (hn : As.length = n) (hsize : g.locals.size = nL) (hstack : g.stack = As.reverse ++ .ref b :: rest) (hW : 2 * g.monitorRoom + (rest.map fun v => v.category).sum ≤ 8) (hdg : decode cc g.pc = .ok (.invokevirtual index, 3)) (hf : cells + mc ≤ R.cells ∧ slots + ms ≤ R.slots) :
    vx_Run p l e R s m args below meth c H locs cells slots mc ms g rest (Qc (Value.ref b :: As).toArray) XC free := by
  obtain ⟨⟨hrc, hrs, hfr, hlo, hws, hcw⟩, hcode, hini, hy, hlen, hl, hin, hse⟩ := cw
  have hK : vx_Back l R p e below s args y 3 8 (PreOf R mc ms Pc) (PostOf Qc mc ms free) (vx_Post XC mc ms free) := vx_backW (hh := hh) (bytes := bytes) (maxL := maxL) (ret := ret) hM hp.1 hrc hrs hfr hlo hws hcw (fun a' U hW => word_at hW (Or.inl (by first | rfl | simp [Cond.onTables, Cond.keeps, Cond.steady])) hini)
  obtain ⟨hx, hb, hml, ho, -⟩ := S
  obtain ⟨-, ⟨cellB, hcB, hoB, hclB⟩, hPc⟩ := hp
  intro T hT X
  rcases vx_callVX X hx (C := C) (hh := hh) (bytes := bytes) (maxL := maxL) (ret := ret) ho hl hin hse hcode hy hK (by rw [hT]; exact hcB) hoB hclB hg (hsize.trans hml.symm) (argsL := As) (rest := rest) (fun sig h => hn.trans (hlen sig h)) hstack hW (by rw [hb]; exact hdg)
    (fun vm₁ hW₁ => ⟨hf.1, hf.2, hPc (T.setVm vm₁) hT hW₁⟩) with ⟨v, vm₁, ⟨U', l2, c2, s2⟩, hW₁, X', ⟨g', mk, t, L, e1, e2, hq, h1, hL, h2, h3⟩, st⟩ | ⟨q, vm₁, ⟨U', l2, c2, s2⟩, hW₁, X', ⟨g', mk, t, L, E, ce, e1, e2, hq, hce, hcv, hcl, h1, hL, h2, h3⟩, st⟩
  · dsimp only [Pt.U, Pt.locs, Pt.cells, Pt.slots] at X' e1 e2 h1 h2 h3 st
    subst h1; subst h2; subst h3
    exact Or.inl ⟨v, (T.setVm vm₁).calling g' mk (Value.ref b :: As).toArray, t, U', L, hT, X', hL, e1, e2, hq, st⟩
  · dsimp only [Pt.U, Pt.locs, Pt.cells, Pt.slots] at X' e1 e2 h1 h2 h3 st hcl
    subst h1; subst h2; subst h3
    exact Or.inr ⟨q, (T.setVm vm₁).calling g' mk (Value.ref b :: As).toArray, t, U', L, E, ce, hT, X', hL, e1, e2, hq, hce, hcv, vx_cls hW₁ hcl, st⟩
theorem vx_runSX {hh : List (Nat × Nat × Nat × Nat)} (S : CallFix p m c cc nL s args Ts own) (hM : vx_Met l y ws rm Pc Qc XC mc ms free) (cw : vx_CSW R s args own index y bytes maxL ret hh ws rm mc ms n) (hp : PreS s H Pc As)
    (hg : g.method = m) (hn : As.length = n) (hsize : g.locals.size = nL) (hstack : g.stack = As.reverse ++ rest) (hW : 2 * g.monitorRoom + (rest.map fun v => v.category).sum ≤ 8) (hdg : decode cc g.pc = .ok (.invokestatic index, 3)) (hf : cells + mc ≤ R.cells ∧ slots + ms ≤ R.slots) :
    vx_Run p l e R s m args below meth c H locs cells slots mc ms g rest (Qc As.toArray) XC free := by
  obtain ⟨⟨hrc, hrs, hfr, hlo, hws, hcw⟩, hcode, hini, hy, hlen, hl, hstt⟩ := cw
  have hK : vx_Back l R p e below s args y 3 8 (PreOf R mc ms Pc) (PostOf Qc mc ms free) (vx_Post XC mc ms free) := vx_backW (hh := hh) (bytes := bytes) (maxL := maxL) (ret := ret) hM hp.1 hrc hrs hfr hlo hws hcw (fun a' U hW => word_at hW (Or.inl (by first | rfl | simp [Cond.onTables, Cond.keeps, Cond.steady])) hini)
  obtain ⟨hx, hb, hml, ho, -⟩ := S
  intro T hT X
  rcases vx_callSX X hx (hh := hh) (bytes := bytes) (maxL := maxL) (ret := ret) ho hl hstt hini hcode hy hK hg (hsize.trans hml.symm) (argsL := As) (rest := rest) (fun sig h => hn.trans (hlen sig h)) hstack hW (by rw [hb]; exact hdg)
    (fun vm₁ hW₁ => ⟨hf.1, hf.2, hp.2 (T.setVm vm₁) hT hW₁⟩) with ⟨v, vm₁, ⟨U', l2, c2, s2⟩, hW₁, X', ⟨g', mk, t, L, e1, e2, hq, h1, hL, h2, h3⟩, st⟩ | ⟨q, vm₁, ⟨U', l2, c2, s2⟩, hW₁, X', ⟨g', mk, t, L, E, ce, e1, e2, hq, hce, hcv, hcl, h1, hL, h2, h3⟩, st⟩
  · dsimp only [Pt.U, Pt.locs, Pt.cells, Pt.slots] at X' e1 e2 h1 h2 h3 st
    subst h1; subst h2; subst h3
    exact Or.inl ⟨v, (T.setVm vm₁).calling g' mk As.toArray, t, U', L, hT, X', hL, e1, e2, hq, st⟩
  · dsimp only [Pt.U, Pt.locs, Pt.cells, Pt.slots] at X' e1 e2 h1 h2 h3 st hcl
    subst h1; subst h2; subst h3
    exact Or.inr ⟨q, (T.setVm vm₁).calling g' mk As.toArray, t, U', L, E, ce, hT, X', hL, e1, e2, hq, hce, hcv, vx_cls hW₁ hcl, st⟩
end
end VXH
theorem vx_ofWH {l : Launch} {y : MethodName} {ws ws' : List Cond} {rm : Room} {Pc : Array Value → State → Prop} {Qc : Array Value → State → Outcome → State → Prop} {XC : String → State → State → Prop} {mc ms : Nat} {free : Addr → Prop} {cc : ByteArray} {maxL : Nat} {ret : Option FieldType} {hh : List (Nat × Nat × Nat × Nat)}
    (hy : plainName y.cls = true) (hw : ws = Cond.codeWith y cc maxL ret hh :: ws')
    (body : ∀ p e s m args below meth c s₁, BodyLoose p l y (headSpec ws rm) cc maxL ret e s m args below meth c s₁ → c.maxLocals = maxL → Pc args s →
      W p l e (headSpec ws rm).room s m args below meth c s.heap [] 0 0 (vx_MQ below Qc XC args s mc ms free) (entryFrame m args maxL)) : vx_Met l y ws rm Pc Qc XC mc ms free := by
  refine MetFree.of_bodyS (code := cc) (maxLocals := maxL) (ret := ret) hy ?_ ?_
  · intro args s m h hn
    obtain ⟨m9, meth, c, hn9, h1, h2, h3, h4, -, h5, h6, -⟩ := Cond.codeWith_spec (atoms_spec (ws := ws) h _ (by rw [hw]; exact List.mem_cons_self))
    cases hn.symm.trans hn9
    exact ⟨meth, c, h1, h2, h3, h4, h5, h6⟩
  · intro p e s m args below meth c s₁ B hml hP _
    have hh0 : s₁.heap = s.heap := by rw [B.state]; rfl
    obtain ⟨t, a1, o, b1, b2, b3⟩ := body p e s m args below meth c s₁ B hml hP s₁ hh0 (Stand.of_body B)
    exact ⟨t, o, a1, b1, b2, b3⟩
/-! ===== END ===== -/

/-! ===== BEGIN what the machine throws by itself, no traces kept ===== -/
section VXM
set_option maxHeartbeats 1000000 in
/-- the machine throws cls with the message text, no traces kept: from its note over the frame g to 'throwing' over the same frame (follows the proofs of Stand.vmThrowsMessage, Shelf/KitTracedVmS.lean, and Stand.throwsMessageColdBareV, StandMessageColdV.lean, without the step out of the frame) -/
theorem vx_vmAt {p : Program} {l : Launch} {e : Env} {R : Room} {s : State} {m₀ : MethodId} {args : Array Value} {below : List Frame} {meth : Method} {c : Code} {W : State} {locs : List Loc} {cells slots : Nat}
    (X : Stand p l e R s m₀ args below meth c W locs cells slots) (hexec : p.tables.exec = Jvm.exec) (htr : e.platform.stackTraces = false) {cls : String} {names : List String} {text : String}
    (hcls : Bundle.fit cls = true) (hnames : ∀ n ∈ names, Bundle.fit n = true) (hsoe : (cls == "java/lang/StackOverflowError") = false) (hoom : (cls == "java/lang/OutOfMemoryError") = false)
    (h : ∀ a ∈ Bundle.messageArmAtoms cls names, a.before args s = true)
    (hlocs : ∀ x ∈ locs, ∀ cell, s.heap[x.base]? = some cell → cell.vm.isStatics = false)
    (htext : (text == notModelled) = false) (hlimit : ¬ (stringBytes (stringToUtf16 text)).size > e.platform.arrayLengthLimit) (hheap : ¬ (stringBytes (stringToUtf16 text)).size * componentBytes .byte > e.platform.maxHeapBytes)
    {g : JFrame} (hg : g.method = m₀) (hsize : g.locals.size = c.maxLocals)
    (hRframes : names.length + 4 < R.frames) (hRlocals : 2 * g.monitorRoom + (g.stack.map fun v => v.category).sum + 10240 ≤ R.locals) (hshort : 13 * names.length + 55 ≤ 10240)
    (hRcells : cells + 3 ≤ R.cells) (hRslots : slots + ((stringBytes (stringToUtf16 text)).size + 4 + 6) ≤ R.slots) (hlocks : meth.locks = false) :
    ∃ (S : State) (q : Addr) (ce : Cell), (∀ target, Steps p.tables e below ((S.setTop g).pushFrame (.throwing q)) target → Steps p.tables e below ((W.setTop g).pushFrame (.throwNew cls (some text) none)) target) ∧
      Stand p l e R s m₀ args below meth c S locs (cells + 3) (slots + ((stringBytes (stringToUtf16 text)).size + 4 + 6)) ∧ S.heap[q]? = some ce ∧ s.vm.findClass cls = some ce.cls ∧ ce.vm = .none := by
  have howns : e.platform.frameOwnsMonitors = true := by rw [X.admits.platform]
  have hfin : e.platform.finalization = false := by rw [X.admits.platform]
  have hpl : e.platform.magicAccessors = ({} : Platform).magicAccessors := by rw [X.admits.platform]
  have a : ∀ x, x ∈ Bundle.messageArmAtoms cls names → x.holds args s none s [] = true := fun x hx => h x hx
  obtain ⟨T, Z0, L, -, Y⟩ := ThrowableC.of_atoms (args := args) howns hfin hpl (fun x hx => h x (by simp [Bundle.messageArmAtoms, hx]))
  obtain ⟨Z, M, LZ, LM, hnZ⟩ := Init0T.ofS_atoms (args := args) hpl L Y (fun x hx => h x (by simp [Bundle.messageArmAtoms, hx]))
  obtain ⟨P1, Ps, hlen, L1, hL, hP1m, hlink1, hlink⟩ := Bundle.chainS (args := args) hpl hnZ names cls hcls hnames (fun x hx => h x (by simp [Bundle.messageArmAtoms, hx]))
  obtain ⟨Zs, LZs, hn4, hfitv, hfitc⟩ := StringT.of_atoms (args := args) (fun x hx => h x (by simp [Bundle.messageArmAtoms, hx]))
  have hfound : s.vm.findClass cls = some P1.m.cls := findClass_of_methodNamed hP1m
  obtain ⟨c1, kX, hc1, hk, hord, -, -, hn6⟩ := Cond.instantiable_spec (a (.instantiable cls 6) (by simp [Bundle.messageArmAtoms]))
  cases Option.some.inj (hc1.symm.trans hfound)
  have hinit := Cond.initialized_spec hfound hk (a (.initialized cls) (by simp [Bundle.messageArmAtoms]))
  have hctor : kX.findMethod "<init>" "(Ljava/lang/String;)V" = some P1.m.idx := findMethod_of_methodNamed hP1m hk
  have hsel0 : selectMethod e.platform s.vm P1.m.cls T.fill0 = .method T.fill0 := by
    obtain ⟨c2, r2, m2, q1, q2, q3, q4, -⟩ := Cond.selects_spec (a (.selects cls Bundle.tFill0 Bundle.tFill0) (by simp [Bundle.messageArmAtoms]))
    cases Option.some.inj (q1.symm.trans hfound)
    cases Option.some.inj (q2.symm.trans (State.methodFound?_of_named Y.fill0 (by decide)))
    cases Option.some.inj (q3.symm.trans Y.fill0)
    rw [Launch.admits_selectMethod X.admits]; exact q4
  have hselF : selectMethod e.platform s.vm P1.m.cls T.fill = .method T.fill := by
    obtain ⟨c2, r2, m2, q1, q2, q3, q4, -⟩ := Cond.selects_spec (a (.selects cls Bundle.tFill Bundle.tFill) (by simp [Bundle.messageArmAtoms]))
    cases Option.some.inj (q1.symm.trans hfound)
    cases Option.some.inj (q2.symm.trans (State.methodFound?_of_named Y.fill (by decide)))
    cases Option.some.inj (q3.symm.trans Y.fill)
    rw [Launch.admits_selectMethod X.admits]; exact q4
  obtain ⟨cellS0, hcS0, hiss⟩ := Y.statics
  obtain ⟨u0, hu0⟩ := Cond.staticRefV Y.unassigned L.unassignedStatic L.statics hcS0 hiss (a (.isRef (.static Bundle.tN "UNASSIGNED_STACK" Bundle.steD)) (by simp [Bundle.messageArmAtoms]))
  obtain ⟨sen, hsen⟩ := Cond.staticRefV Y.sentinel L.sentinelStatic L.statics hcS0 hiss (a (.isRef (.static Bundle.tN "SUPPRESSED_SENTINEL" Bundle.listD)) (by simp [Bundle.messageArmAtoms]))
  obtain ⟨ci198, i198, fB, hk198, hg198, ha198, hsB, -, hnB, htB, hffB⟩ := Cond.ownField (t := .object "java/lang/Object") Y.found L.cls (by decide +kernel) (a (.fieldLink Bundle.tN 198 Bundle.tN "backtrace" "Ljava/lang/Object;") (by simp [Bundle.messageArmAtoms])) (a (.lays Bundle.tN Bundle.tN "backtrace" "Ljava/lang/Object;") (by simp [Bundle.messageArmAtoms])) e.platform hpl
  obtain ⟨cellS, hcS', heS, -, hkeep⟩ := X.same.2.2.2.2.2 T.aS cellS0 hcS0
  have hcellS : W.heap[T.aS]? = some cellS := hcS'
  have hout' : ∀ i, (⟨T.aS, i⟩ : Loc) ∉ locs := fun i hmem => by
    have := hlocs _ hmem cellS0 hcS0
    rw [hiss] at this; cases this
  have hknownS : cellS.vm ≠ .unknown := by
    rw [heS]; intro hu
    rw [show cellS0.vm = .unknown from hu] at hiss
    cases hiss
  have hvU : cellS.slots[T.fUnassigned.slot]? = some u0.v := by rw [hkeep _ (hout' _)]; exact hu0
  have hvSen : cellS.slots[T.fSentinel.slot]? = some sen.v := by rw [hkeep _ (hout' _)]; exact hsen
  obtain ⟨iM, hffM⟩ := Y.msg
  obtain ⟨tyC, dC, hdC, hdnC⟩ := Cond.laysAt hfound hk Y.cause (a (.lays cls Bundle.tN "cause" "Ljava/lang/Throwable;") (by simp [Bundle.messageArmAtoms]))
  obtain ⟨tyS, dS, hdS, hdnS⟩ := Cond.laysAt hfound hk Y.stack (a (.lays cls Bundle.tN "stackTrace" Bundle.steD) (by simp [Bundle.messageArmAtoms]))
  obtain ⟨tyP, dP, hdP, hdnP⟩ := Cond.laysAt hfound hk Y.supp (a (.lays cls Bundle.tN "suppressedExceptions" Bundle.listD) (by simp [Bundle.messageArmAtoms]))
  obtain ⟨tyM, dM, hdM, hdnM⟩ := Cond.laysAt hfound hk hffM (a (.lays cls Bundle.tN "detailMessage" "Ljava/lang/String;") (by simp [Bundle.messageArmAtoms]))
  obtain ⟨tyB, dB, hdB, hdnB⟩ := Cond.laysAt hfound hk hffB (a (.lays cls Bundle.tN "backtrace" "Ljava/lang/Object;") (by simp [Bundle.messageArmAtoms]))
  have bC := Cond.laysApart hdB hdC hdnB hdnC (by rw [hnB, Y.causeName]; decide)
  have bS := Cond.laysApart hdB hdS hdnB hdnS (by rw [hnB, Y.stackName]; decide)
  have bP := Cond.laysApart hdB hdP hdnB hdnP (by rw [hnB, Y.suppName]; decide)
  have hbk : ((preparedCellV T.toThrowableT (freshCell P1.m.cls kX) (W.heap.size + 2) u0 sen).withEntry W.cur).slots[fB.slot]? = some .null := by
    have := fresh_default (c := P1.m.cls) tyB
    rw [htB] at this
    simpa [preparedCellV, Cell.setSlot, Cell.withEntry, Array.getElem?_setIfInBounds, bC, bS, bP, bC.symm, bS.symm, bP.symm, defaultValue] using this
  have tkC := Takes.of_laid (v := .ref (W.heap.size + 2)) hk hord tyC (by rw [Y.causeType]; rfl)
  have tkS := Takes.of_laid (v := u0.v) hk hord tyS (by rw [Y.stackType]; exact fits_refV_array _ u0)
  have tkP := Takes.of_laid (v := sen.v) hk hord tyP (by rw [Y.suppType]; exact fits_refV_object _ sen)
  have tkM := Takes.of_laid (v := .ref (W.heap.size + 1)) hk hord tyM (by rw [Y.msgType]; rfl)
  have hskip : SkipFacts T e.platform s (fun u => u) u0 ((preparedCellV T.toThrowableT (freshCell P1.m.cls kX) (W.heap.size + 2) u0 sen).withEntry W.cur) := ⟨{ ci198 := ci198, i198 := i198, fBack := fB }, ⟨hk198, hg198, ha198, hsB⟩, hbk, fun _ _ => rfl⟩
  have h0 : At W g.method c below := by rw [hg]; exact X.here
  obtain ⟨hbeyond, hfreeW⟩ := X.vmMayThrow hsize (.throwNew cls (some text) none) (fun f hf => by cases hf) rfl hRlocals
  have hfr' : W.frames.length + Ps.length + 4 < (e.platform.stackLimits W.me).1 := by have := X.framesAbove hRframes; omega
  have hwd' : (stackUse (.java g :: W.frames.tail)).2 + 13 * Ps.length + 55 ≤ (e.platform.stackLimits W.me).2 := by have := X.stackAbove hsize (K := 13 * Ps.length + 55) (by omega); omega
  have hslots : W.slotsUsed + (stringBytes (stringToUtf16 text)).size + Zs.kS.instanceTypes.size + kX.instanceTypes.size ≤ e.platform.maxSlots := by
    have := X.slotsAbove hRslots
    rw [hn4, hn6]
    omega
  obtain ⟨vm', hW', st⟩ := Steps.vmThrowsMessageColdByV p (s₀ := s) (S := W) (g := g) h0 hexec T L Z LZ M LM X.warmed (t := W.cur) rfl Zs LZs P1 L1 Ps hL hlink1 hlink hsoe hoom hfound hk hinit hord hctor
    (Launch.admits_hotImplicitExceptions X.admits) hbeyond hfreeW htext hlimit hheap (X.cellsAbove hRcells) hslots (hfitv _) (hfitc _)
    (Nn := fun u => u) heapOnly_id (fun _ _ => rfl) (fun _ => rfl) (fun u x y => setCell_twice _ _ _ _) (fun _ => Nat.le_refl _) (cN := ((preparedCellV T.toThrowableT (freshCell P1.m.cls kX) (W.heap.size + 2) u0 sen).withEntry W.cur))
    hsel0 hcellS hknownS hvU tkS (fun _ hu => hu) (fun _ hu => hu) rfl rfl rfl (by simp [preparedCellV, Cell.setSlot, Cell.withEntry]) hskip (fun _ _ hA hW _ hroom _ hrest => L.nativeOff p htr hA hW hroom hrest) hselF hvSen tkC tkP tkM Y.objLocals rfl hfr' hwd'
  rw [plainBareV_eq T.toThrowableT (W.heap.size + 2) u0 sen (.ref (W.heap.size + 1)) W.cur rfl rfl] at st
  obtain ⟨-, -, w3, w4, -, -, -⟩ := withThrown_facts e.platform W Zs text P1.m.cls kX
  have X3 := ((X.pushed (bytesOf Zs.cB (stringToUtf16 text))).pushed (stringAt Zs.cS Zs.kS Zs.fv Zs.fc (stringToUtf16 text) W.heap.size)).pushed (freshCell P1.m.cls kX)
  rw [← withString_eq] at X3
  have X4 := X3.noted hW'
  have ha : (W.heap.size + 2) < ((withThrown W Zs text P1.m.cls kX).setVm vm').heap.size := by show _ < (withThrown W Zs text P1.m.cls kX).heap.size; rw [w3]; omega
  have hcell : ((withThrown W Zs text P1.m.cls kX).setVm vm').heap[(W.heap.size + 2)]? = some (freshCell P1.m.cls kX) := w4
  have X5 := ((((X4.stored hcell T.fCause.slot (.ref (W.heap.size + 2))).storedAgain ha T.fStack.slot u0.v).storedAgain ha T.fSupp.slot sen.v).storedAgain ha T.fStack.slot u0.v).storedAgain ha T.fMsg.slot (.ref (W.heap.size + 1))
  obtain ⟨g₁, hfrM⟩ := X5.frames_eq
  have hU : ((((withThrown W Zs text P1.m.cls kX).setVm vm').setCell (W.heap.size + 2) (plainBareV T.toThrowableT (freshCell P1.m.cls kX) (W.heap.size + 2) u0 sen (.ref (W.heap.size + 1)))).setTop g).pushFrame (.throwing (W.heap.size + 2)) = (((withThrown W Zs text P1.m.cls kX).setVm vm').setCell (W.heap.size + 2) (plainBareV T.toThrowableT (freshCell P1.m.cls kX) (W.heap.size + 2) u0 sen (.ref (W.heap.size + 1)))).setFrames (.throwing (W.heap.size + 2) :: .java g :: below) := by
    rw [State.pushFrame, State.frames_setTop _ hfrM, State.setTop_of_frames _ hfrM, State.setFrames_setFrames]
  have b1 : (bytesOf Zs.cB (stringToUtf16 text)).slots.size = (stringBytes (stringToUtf16 text)).size := by
    rw [(Cell.writeAll_facts _ _).2.2]; simp [bytes0]
  have b2 : (stringAt Zs.cS Zs.kS Zs.fv Zs.fc (stringToUtf16 text) W.heap.size).slots.size = 4 := by simp [string0, Cell.setSlot, hn4]
  have b3 : (freshCell P1.m.cls kX).slots.size = 6 := by simp [hn6]
  rw [b1, b2, b3] at X5
  have e9 : slots + (stringBytes (stringToUtf16 text)).size + 4 + 6 = slots + ((stringBytes (stringToUtf16 text)).size + 4 + 6) := by omega
  rw [e9] at X5
  simp only [List.append_assoc, List.cons_append, List.nil_append] at X5
  refine ⟨((withThrown W Zs text P1.m.cls kX).setVm vm').setCell (W.heap.size + 2) (plainBareV T.toThrowableT (freshCell P1.m.cls kX) (W.heap.size + 2) u0 sen (.ref (W.heap.size + 1))), W.heap.size + 2, _, fun target ht => st _ (by rw [X.tail, ← hU]; exact ht),
    X5.forget (fun y hy => ?_), heapAt_setCell_self _ ha, hfound, rfl⟩
  simp only [List.mem_cons, List.not_mem_nil, or_false] at hy
  have hge : s.heap.size ≤ W.heap.size := X.same.2.1
  rcases hy with rfl | rfl | rfl | rfl | rfl <;> exact Nat.le_trans hge (Nat.le_add_right _ 2)
set_option maxHeartbeats 1000000 in
/-- the machine throws NullPointerException, no traces kept: from its note over the frame g to 'throwing' over the same frame (follows the proof of Stand.vmThrowsNpe, Shelf42/KT2.lean; throwsNpeColdBareVAt, Shelf42/NT91.lean, called) -/
theorem vx_npeAt {p : Program} {l : Launch} {e : Env} {R : Room} {s : State} {m₀ : MethodId} {args : Array Value} {below : List Frame} {meth : Method} {c : Code} {W : State} {locs : List Loc} {cells slots : Nat}
    (X : Stand p l e R s m₀ args below meth c W locs cells slots) (hexec : p.tables.exec = Jvm.exec) (htr : e.platform.stackTraces = false) {n : Nat}
    (h : ∀ a ∈ Bundle.npeArmAtoms n, a.before args s = true)
    (hlocs : ∀ x ∈ locs, ∀ cell, s.heap[x.base]? = some cell → cell.vm.isStatics = false)
    {g : JFrame} (hg : g.method = m₀) (hsize : g.locals.size = c.maxLocals)
    (hRframes : 7 < R.frames) (hRlocals : 2 * g.monitorRoom + (g.stack.map fun v => v.category).sum + 10240 ≤ R.locals)
    (hRcells : cells + 1 ≤ R.cells) (hRslots : slots + n ≤ R.slots) (hlocks : meth.locks = false) :
    ∃ (S : State) (q : Addr) (ce : Cell), (∀ target, Steps p.tables e below ((S.setTop g).pushFrame (.throwing q)) target → Steps p.tables e below ((W.setTop g).pushFrame (.throwNew "java/lang/NullPointerException" none none)) target) ∧
      Stand p l e R s m₀ args below meth c S locs (cells + 1) (slots + n) ∧ S.heap[q]? = some ce ∧ s.vm.findClass "java/lang/NullPointerException" = some ce.cls ∧ ce.vm = .none := by
  have howns : e.platform.frameOwnsMonitors = true := by rw [X.admits.platform]
  have hfin : e.platform.finalization = false := by rw [X.admits.platform]
  have hpl : e.platform.magicAccessors = ({} : Platform).magicAccessors := by rw [X.admits.platform]
  have hpl2 : e.platform.arrayCloneIsPublic = true := by rw [X.admits.platform]
  have a' : ∀ x, x ∈ Bundle.npeArmAtoms n → x.holds args s none s [] = true := fun x hx => h x hx
  obtain ⟨T, Z, L, LZ, Y⟩ := ThrowableC.of_atoms (args := args) howns hfin hpl (fun x hx => h x (by simp [Bundle.npeArmAtoms, hx]))
  obtain ⟨N, LN, hcN, hnNF, hordN, hffS⟩ := NpeC.of_atoms (args := args) hpl hpl2 L Y (fun x hx => h x (by simp [Bundle.npeArmAtoms, hx]))
  obtain ⟨P1, L1, hP1m, hP1s⟩ := PassC.of_atoms (args := args) (s := s) hpl (X := Bundle.nN) (Y := Bundle.rN) (by decide) (by decide) LibCode.NullPointerException.Init0.at_0 LibCode.NullPointerException.Init0.at_1 LibCode.NullPointerException.Init0.at_4 (fun x hx => h x (by simp [Bundle.npeArmAtoms, hx]))
  obtain ⟨PR, LR, hPRm, hPRs⟩ := PassC.of_atoms (args := args) (s := s) hpl (X := Bundle.rN) (Y := Bundle.eN) (by decide) (by decide) LibCode.RuntimeException.Init0.at_0 LibCode.RuntimeException.Init0.at_1 LibCode.RuntimeException.Init0.at_4 (fun x hx => h x (by simp [Bundle.npeArmAtoms, hx]))
  obtain ⟨PE, LEx, hPEm, hPEs⟩ := PassC.of_atoms (args := args) (s := s) hpl (X := Bundle.eN) (Y := Bundle.tN) (by decide) (by decide) LibCode.Exception.Init0.at_0 LibCode.Exception.Init0.at_1 LibCode.Exception.Init0.at_4 (fun x hx => h x (by simp [Bundle.npeArmAtoms, hx]))
  have hfound : s.vm.findClass Bundle.nN = some P1.m.cls := findClass_of_methodNamed hP1m
  have ecls : N.cN = P1.m.cls := Option.some.inj (hcN.symm.trans hfound)
  have hk : s.vm.classes[P1.m.cls]? = some N.kN := by rw [← ecls]; exact LN.cls
  have hinit := Cond.initialized_spec hfound hk (a' (.initialized Bundle.nN) (by simp [Bundle.npeArmAtoms]))
  have hctor : N.kN.findMethod "<init>" "()V" = some P1.m.idx := findMethod_of_methodNamed hP1m hk
  obtain ⟨c1, k1, hc1, hk1, -, -, -, hn⟩ := Cond.instantiable_spec (a' (.instantiable Bundle.nN n) (by simp [Bundle.npeArmAtoms]))
  cases Option.some.inj (hc1.symm.trans hfound)
  cases Option.some.inj (hk1.symm.trans hk)
  have hfsz : (freshCell P1.m.cls N.kN).slots.size = n := by simp [hn]
  have hlink1 : P1.sup = PR.m := Option.some.inj (hP1s.symm.trans hPRm)
  have hlinkR : PR.sup = PE.m := Option.some.inj (hPRs.symm.trans hPEm)
  have hlinkE : PE.sup = Z.m T.toThrowableT := Option.some.inj (hPEs.symm.trans Y.init0)
  have hLs : ∀ P, P ∈ [PR, PE] → P.Links0 e.platform s := fun P hP => by
    simp only [List.mem_cons, List.not_mem_nil, or_false] at hP
    rcases hP with rfl | rfl
    · exact LR
    · exact LEx
  have hsel0 : selectMethod e.platform s.vm P1.m.cls T.fill0 = .method T.fill0 := by
    obtain ⟨c2, r2, m2, q1, q2, q3, q4, -⟩ := Cond.selects_spec (a' (.selects Bundle.nN Bundle.tFill0 Bundle.tFill0) (by simp [Bundle.npeArmAtoms]))
    cases Option.some.inj (q1.symm.trans hfound)
    cases Option.some.inj (q2.symm.trans (State.methodFound?_of_named Y.fill0 (by decide)))
    cases Option.some.inj (q3.symm.trans Y.fill0)
    rw [Launch.admits_selectMethod X.admits]; exact q4
  have hselF : selectMethod e.platform s.vm P1.m.cls T.fill = .method N.fill := by
    obtain ⟨c2, r2, m2, q1, q2, q3, q4, -⟩ := Cond.selects_spec (a' (.selects Bundle.nN Bundle.tFill Bundle.nFill) (by simp [Bundle.npeArmAtoms]))
    cases Option.some.inj (q1.symm.trans hfound)
    cases Option.some.inj (q2.symm.trans (State.methodFound?_of_named Y.fill (by decide)))
    cases Option.some.inj (q3.symm.trans hnNF)
    rw [Launch.admits_selectMethod X.admits]; exact q4
  obtain ⟨cellS0, hcS0, hiss⟩ := Y.statics
  obtain ⟨u0, hu0⟩ := Cond.staticRefV Y.unassigned L.unassignedStatic L.statics hcS0 hiss (a' (.isRef (.static Bundle.tN "UNASSIGNED_STACK" Bundle.steD)) (by simp [Bundle.npeArmAtoms]))
  obtain ⟨sen, hsen⟩ := Cond.staticRefV Y.sentinel L.sentinelStatic L.statics hcS0 hiss (a' (.isRef (.static Bundle.tN "SUPPRESSED_SENTINEL" Bundle.listD)) (by simp [Bundle.npeArmAtoms]))
  obtain ⟨ci198, i198, fB, hk198, hg198, ha198, hsB, -, hnB, htB, hffB⟩ := Cond.ownField (t := .object "java/lang/Object") Y.found L.cls (by decide +kernel) (a' (.fieldLink Bundle.tN 198 Bundle.tN "backtrace" Bundle.objD) (by simp [Bundle.npeArmAtoms])) (a' (.lays Bundle.tN Bundle.tN "backtrace" Bundle.objD) (by simp [Bundle.npeArmAtoms])) e.platform hpl
  obtain ⟨cellS, hcS', heS, -, hkeep⟩ := X.same.2.2.2.2.2 T.aS cellS0 hcS0
  have hcellS : W.heap[T.aS]? = some cellS := hcS'
  have hout' : ∀ i, (⟨T.aS, i⟩ : Loc) ∉ locs := fun i hmem => by
    have := hlocs _ hmem cellS0 hcS0
    rw [hiss] at this; cases this
  have hknownS : cellS.vm ≠ .unknown := by
    rw [heS]; intro hu
    rw [show cellS0.vm = .unknown from hu] at hiss
    cases hiss
  have hvU : cellS.slots[T.fUnassigned.slot]? = some u0.v := by rw [hkeep _ (hout' _)]; exact hu0
  have hvSen : cellS.slots[T.fSentinel.slot]? = some sen.v := by rw [hkeep _ (hout' _)]; exact hsen
  obtain ⟨tyC, dC, hdC, hdnC⟩ := Cond.laysAt hfound hk Y.cause (a' (.lays Bundle.nN Bundle.tN "cause" "Ljava/lang/Throwable;") (by simp [Bundle.npeArmAtoms]))
  obtain ⟨tyS, dS, hdS, hdnS⟩ := Cond.laysAt hfound hk Y.stack (a' (.lays Bundle.nN Bundle.tN "stackTrace" Bundle.steD) (by simp [Bundle.npeArmAtoms]))
  obtain ⟨tyP, dP, hdP, hdnP⟩ := Cond.laysAt hfound hk Y.supp (a' (.lays Bundle.nN Bundle.tN "suppressedExceptions" Bundle.listD) (by simp [Bundle.npeArmAtoms]))
  obtain ⟨tyX, dX, hdX, hdnX⟩ := Cond.laysAt hfound hk hffS (a' (.lays Bundle.nN Bundle.nN "extendedMessageState" "I") (by simp [Bundle.npeArmAtoms, Bundle.npeAtoms]))
  obtain ⟨hnX, htX⟩ := State.fieldFound?_type hffS (t := .int) (by decide +kernel)
  have xC := Cond.laysApart hdC hdX hdnC hdnX (by rw [hnX, Y.causeName]; decide)
  have xS := Cond.laysApart hdS hdX hdnS hdnX (by rw [hnX, Y.stackName]; decide)
  have xP := Cond.laysApart hdP hdX hdnP hdnX (by rw [hnX, Y.suppName]; decide)
  have hv0 : (freshCell P1.m.cls N.kN).slots[N.fState.slot]? = some (.int 0) := by
    have := fresh_default (c := P1.m.cls) tyX
    rw [htX] at this; exact this
  obtain ⟨tyB, dB, hdB, hdnB⟩ := Cond.laysAt hfound hk hffB (a' (.lays Bundle.nN Bundle.tN "backtrace" Bundle.objD) (by simp [Bundle.npeArmAtoms]))
  have bC := Cond.laysApart hdB hdC hdnB hdnC (by rw [hnB, Y.causeName]; decide)
  have bS := Cond.laysApart hdB hdS hdnB hdnS (by rw [hnB, Y.stackName]; decide)
  have bP := Cond.laysApart hdB hdP hdnB hdnP (by rw [hnB, Y.suppName]; decide)
  have bX := Cond.laysApart hdB hdX hdnB hdnX (by rw [hnB, hnX]; decide)
  have hbk : ((npeCell N.toNpeT (preparedCellV T.toThrowableT (freshCell P1.m.cls N.kN) W.heap.size u0 sen) W.cur).withEntry W.cur).slots[fB.slot]? = some .null := by
    have := fresh_default (c := P1.m.cls) tyB
    rw [htB] at this
    simpa [npeCell, preparedCellV, Cell.setSlot, Cell.withEntry, Array.getElem?_setIfInBounds, bC, bS, bP, bX, bC.symm, bS.symm, bP.symm, bX.symm, defaultValue] using this
  have tkC := Takes.of_laid (v := .ref W.heap.size) hk hordN tyC (by rw [Y.causeType]; rfl)
  have tkS := Takes.of_laid (v := u0.v) hk hordN tyS (by rw [Y.stackType]; exact fits_refV_array _ u0)
  have tkP := Takes.of_laid (v := sen.v) hk hordN tyP (by rw [Y.suppType]; exact fits_refV_object _ sen)
  have tkX := Takes.of_laid (v := .int 1) hk hordN tyX (by rw [htX]; rfl)
  have hskip : SkipFacts T e.platform s (fun u => u) u0 ((npeCell N.toNpeT (preparedCellV T.toThrowableT (freshCell P1.m.cls N.kN) W.heap.size u0 sen) W.cur).withEntry W.cur) := ⟨{ ci198 := ci198, i198 := i198, fBack := fB }, ⟨hk198, hg198, ha198, hsB⟩, hbk, fun _ _ => rfl⟩
  obtain ⟨vm', X3, st, -⟩ := X.throwsNpeColdBareVAt hexec hg hsize T L Z LZ N LN P1 L1 [PR, PE] hLs hlink1 ⟨hlinkR, hlinkE, trivial⟩ hfound hk hinit hordN hctor hsel0 hselF hcellS hknownS hvU hvSen
    hv0 xC xS xP tkC tkS tkP tkX Y.objLocals hskip (fun _ _ hA hW _ hroom _ hrest => L.nativeOff p htr hA hW hroom hrest) (by simpa using hRframes) hRlocals (by simp) hRcells (by rw [hn]; exact hRslots)
  have hlt : W.heap.size < ((W.pushCell (freshCell P1.m.cls N.kN)).setVm vm').heap.size := by
    show W.heap.size < (W.pushCell (freshCell P1.m.cls N.kN)).heap.size
    rw [State.heap_size_pushCell]; omega
  rw [hfsz] at X3
  obtain ⟨g₁, hfrM⟩ := X3.frames_eq
  have hU : ((((W.pushCell (freshCell P1.m.cls N.kN)).setVm vm').setCell W.heap.size (npeBareV T.toThrowableT N.toNpeT (freshCell P1.m.cls N.kN) W.heap.size u0 sen)).setTop g).pushFrame (.throwing W.heap.size) = (((W.pushCell (freshCell P1.m.cls N.kN)).setVm vm').setCell W.heap.size (npeBareV T.toThrowableT N.toNpeT (freshCell P1.m.cls N.kN) W.heap.size u0 sen)).setFrames (.throwing W.heap.size :: .java g :: below) := by
    rw [State.pushFrame, State.frames_setTop _ hfrM, State.setTop_of_frames _ hfrM, State.setFrames_setFrames]
  refine ⟨_, W.heap.size, _, fun target ht => st.trans (by rw [← hU]; exact ht), X3.forget (fun y hy => ?_), heapAt_setCell_self _ hlt, hfound, rfl⟩
  simp only [List.mem_cons, List.not_mem_nil, or_false] at hy
  have hge : s.heap.size ≤ W.heap.size := X.same.2.1
  rcases hy with rfl | rfl | rfl | rfl | rfl <;> exact hge
/-- the words of a machine's NullPointerException, but the four that speak of the heap -/
def vx_atN (n : Nat) : List Cond := (Bundle.npeArmAtoms n).filter vx_no
/-- the words of a machine's throw with a message, but the four that speak of the heap -/
def vx_atM (X : String) (names : List String) : List Cond := (Bundle.messageArmAtoms X names).filter vx_no
section
variable {p : Program} {l : Launch} {e : Env} {R : Room} {s : State} {m : MethodId} {args : Array Value} {below : List Frame} {meth : Method} {c : Code} {H : Heap} {locs : List Loc} {cells slots : Nat}
/-- a frame seen from a rebased start, seen from the first start again -/
theorem vx_back9 {T S : State} {R' : Room} {k n : Nat} (X : Stand p l e R s m args below meth c T locs cells slots) (Y : Stand p l e R' ((T.setVm s.vm).setFrames (.invoking m args :: below)) m args below meth c T [] 0 0) (Z : Stand p l e R' ((T.setVm s.vm).setFrames (.invoking m args :: below)) m args below meth c S [] k n) :
    Stand p l e R s m args below meth c S locs (cells + k) (slots + n) := by
  have hW0 : s.WarmedH ((T.setVm s.vm).setFrames (.invoking m args :: below)).vm := State.WarmedH.refl s
  refine { admits := X.admits, cas := X.cas, clock := X.clock, frames := X.frames, room := X.room, hears := X.hears, method := X.method, code := X.code, here := Z.here, tail := Z.tail, warmed := State.WarmedH.trans hW0 Z.warmed, limits := Z.limits.trans (Y.limits.symm.trans X.limits), bytes := Z.bytes.trans (Y.bytes.symm.trans X.bytes), same := ?_ }
  obtain ⟨e1, e2⟩ := Z.same
  rw [State.setFrames_setFrames] at e1
  have h2 : (T.setVm s.vm).sameButNew (S.setVm s.vm) [] k n := ⟨e1, e2⟩
  have h3 := X.same.trans h2
  rw [List.append_nil] at h3
  exact h3
/-- from the machine's note that E is thrown here with this text -/
def vx_Note (p : Program) (l : Launch) (e : Env) (R : Room) (s : State) (m : MethodId) (args : Array Value) (below : List Frame) (meth : Method) (c : Code) (H : Heap) (locs : List Loc) (cells slots : Nat) (Q : State → Prop) (g : JFrame) (E text : String) : Prop :=
  ∀ T : State, T.heap = H → Stand p l e R s m args below meth c T locs cells slots → ∃ t, Steps p.tables e below ((T.setTop g).pushFrame (.throwNew E (some text) none)) t ∧ Q t
theorem vx_vm {pc : Nat} {ls : Array Slot} {rest : List Value} {Q : State → Prop} (hexec : p.tables.exec = Jvm.exec) (hl : l.stackTraces = false) {cls text : String} {names : List String} {nb : Nat} {A : Nat → Prop}
    (hcls : Bundle.fit cls = true) (hnames : ∀ n ∈ names, Bundle.fit n = true) (hsoe : (cls == "java/lang/StackOverflowError") = false) (hoom : (cls == "java/lang/OutOfMemoryError") = false)
    (hat : ∀ w ∈ vx_atM cls names, w.before args s = true) (hgood : ∀ w ∈ vx_atM cls names, vx_ot w = true)
    (hU : vx_Zq Bundle.tN "UNASSIGNED_STACK" Bundle.steD A s s.heap) (hN : vx_Zq Bundle.tN "SUPPRESSED_SENTINEL" Bundle.listD A s s.heap) (hS : va_S A s.heap H locs) (hsize : ls.size = c.maxLocals)
    (htext : (text == notModelled) = false) (hnb : (stringBytes (stringToUtf16 text)).size ≤ nb) (hnb1 : nb ≤ 1000)
    (hRframes : names.length + 4 < R.frames) (hRlocals : (rest.map fun v => v.category).sum + 10240 ≤ R.locals) (hshort : 13 * names.length + 55 ≤ 10240) (hRcells : cells + 3 ≤ R.cells) (hRslots : slots + (nb + 10) ≤ R.slots) (hlocks : meth.locks = false)
    (k : ∀ (H1 : Heap) (q9 : Addr) (ce : Cell), H.size ≤ H1.size → (∀ q : Nat, q < H.size → H1[q]? = H[q]?) → va_S A s.heap H1 locs → H1[q9]? = some ce → ce.vm = .none → s.vm.findClass cls = some ce.cls → vx_W p l e R s m args below meth c H1 locs (cells + 3) (slots + (nb + 10)) Q (F0 m pc ls rest) q9) :
    vx_Note p l e R s m args below meth c H locs cells slots Q (F0 m pc ls rest) cls text := by
  intro T hT X
  have htr : e.platform.stackTraces = false := (show e.platform.stackTraces = l.stackTraces by rw [X.admits.platform]).trans hl
  have Y := vx_rebase X (R' := { frames := R.frames, locals := R.locals, cells := 3, slots := nb + 10 }) (Nat.le_refl _) (Nat.le_refl _) hRcells hRslots
  have hhp : ((T.setVm s.vm).setFrames (.invoking m args :: below)).heap = H := hT
  have hW0 : s.WarmedH ((T.setVm s.vm).setFrames (.invoking m args :: below)).vm := State.WarmedH.refl s
  have hat' : ∀ w ∈ vx_atM cls names, w.before args ((T.setVm s.vm).setFrames (.invoking m args :: below)) = true := fun w hw => vx_ot_at hW0 rfl (hgood w hw) (hat w hw)
  have hU' : vx_Zq Bundle.tN "UNASSIGNED_STACK" Bundle.steD A ((T.setVm s.vm).setFrames (.invoking m args :: below)) ((T.setVm s.vm).setFrames (.invoking m args :: below)).heap := by rw [hhp]; exact vx_Zq.moved hW0.alike (hU.kept hS.2.1)
  have hN' : vx_Zq Bundle.tN "SUPPRESSED_SENTINEL" Bundle.listD A ((T.setVm s.vm).setFrames (.invoking m args :: below)) ((T.setVm s.vm).setFrames (.invoking m args :: below)).heap := by rw [hhp]; exact vx_Zq.moved hW0.alike (hN.kept hS.2.1)
  obtain ⟨S, q, ce, st, Z, hce, hcl', hv⟩ := vx_vmAt Y hexec htr (cls := cls) (names := names) (text := text) hcls hnames hsoe hoom (vx_own hat' (vx_isRefq hU'.1) (vx_isRefq hN'.1) hU'.2.word hN'.2.word) (fun x hx => nomatch hx) htext
    (by rw [Launch.admits_arrayLengthLimit X.admits]; omega) (by rw [Launch.admits_maxHeapBytes X.admits]; simp only [componentBytes]; omega)
    (g := F0 m pc ls rest) rfl hsize hRframes (by show 2 * 0 + (rest.map fun v => v.category).sum + 10240 ≤ R.locals; omega) hshort (by show 0 + 3 ≤ 3; omega) (by show 0 + (_ + 4 + 6) ≤ nb + 10; omega) hlocks
  obtain ⟨f1, f2⟩ := vx_frame Z.same
  have f1' : H.size ≤ S.heap.size := by rw [← hT]; exact f1
  have f2' : ∀ q : Nat, q < H.size → S.heap[q]? = H[q]? := fun q hq => by
    rw [← hT]
    exact f2 q (by rw [← hT] at hq; exact hq) (fun z hz => nomatch hz)
  have X5 := vx_back9 X Y Z
  have X6 : Stand p l e R s m args below meth c S locs (cells + 3) (slots + (nb + 10)) := { X5 with same := X5.same.mono (by omega) (by omega) }
  obtain ⟨t, a1, b1⟩ := k S.heap q ce f1' f2' ⟨Nat.le_trans hS.1 f1', fun q h1 h2 => (f2' q (Nat.lt_of_lt_of_le h1 hS.1)).trans (hS.2.1 q h1 h2), hS.2.2⟩ hce hv hcl' S rfl X6
  exact ⟨t, st t a1, b1⟩
/-- from the machine's note that NullPointerException is thrown here -/
def vx_NoteN (p : Program) (l : Launch) (e : Env) (R : Room) (s : State) (m : MethodId) (args : Array Value) (below : List Frame) (meth : Method) (c : Code) (H : Heap) (locs : List Loc) (cells slots : Nat) (Q : State → Prop) (g : JFrame) : Prop :=
  ∀ T : State, T.heap = H → Stand p l e R s m args below meth c T locs cells slots → ∃ t, Steps p.tables e below ((T.setTop g).pushFrame (.throwNew "java/lang/NullPointerException" none none)) t ∧ Q t
theorem vx_npe {pc : Nat} {ls : Array Slot} {rest : List Value} {Q : State → Prop} (hexec : p.tables.exec = Jvm.exec) (hl : l.stackTraces = false) {nb : Nat} {A : Nat → Prop}
    (hat : ∀ w ∈ vx_atN nb, w.before args s = true) (hgood : ∀ w ∈ vx_atN nb, vx_ot w = true)
    (hU : vx_Zq Bundle.tN "UNASSIGNED_STACK" Bundle.steD A s s.heap) (hN : vx_Zq Bundle.tN "SUPPRESSED_SENTINEL" Bundle.listD A s s.heap) (hS : va_S A s.heap H locs) (hsize : ls.size = c.maxLocals)
    (hRframes : 7 < R.frames) (hRlocals : (rest.map fun v => v.category).sum + 10240 ≤ R.locals) (hRcells : cells + 1 ≤ R.cells) (hRslots : slots + nb ≤ R.slots) (hlocks : meth.locks = false)
    (k : ∀ (H1 : Heap) (q9 : Addr) (ce : Cell), H.size ≤ H1.size → (∀ q : Nat, q < H.size → H1[q]? = H[q]?) → va_S A s.heap H1 locs → H1[q9]? = some ce → ce.vm = .none → s.vm.findClass "java/lang/NullPointerException" = some ce.cls → vx_W p l e R s m args below meth c H1 locs (cells + 1) (slots + nb) Q (F0 m pc ls rest) q9) :
    vx_NoteN p l e R s m args below meth c H locs cells slots Q (F0 m pc ls rest) := by
  intro T hT X
  have htr : e.platform.stackTraces = false := (show e.platform.stackTraces = l.stackTraces by rw [X.admits.platform]).trans hl
  have Y := vx_rebase X (R' := { frames := R.frames, locals := R.locals, cells := 1, slots := nb }) (Nat.le_refl _) (Nat.le_refl _) hRcells hRslots
  have hhp : ((T.setVm s.vm).setFrames (.invoking m args :: below)).heap = H := hT
  have hW0 : s.WarmedH ((T.setVm s.vm).setFrames (.invoking m args :: below)).vm := State.WarmedH.refl s
  have hat' : ∀ w ∈ vx_atN nb, w.before args ((T.setVm s.vm).setFrames (.invoking m args :: below)) = true := fun w hw => vx_ot_at hW0 rfl (hgood w hw) (hat w hw)
  have hU' : vx_Zq Bundle.tN "UNASSIGNED_STACK" Bundle.steD A ((T.setVm s.vm).setFrames (.invoking m args :: below)) ((T.setVm s.vm).setFrames (.invoking m args :: below)).heap := by rw [hhp]; exact vx_Zq.moved hW0.alike (hU.kept hS.2.1)
  have hN' : vx_Zq Bundle.tN "SUPPRESSED_SENTINEL" Bundle.listD A ((T.setVm s.vm).setFrames (.invoking m args :: below)) ((T.setVm s.vm).setFrames (.invoking m args :: below)).heap := by rw [hhp]; exact vx_Zq.moved hW0.alike (hN.kept hS.2.1)
  obtain ⟨S, q, ce, st, Z, hce, hcl', hv⟩ := vx_npeAt Y hexec htr (n := nb) (vx_own hat' (vx_isRefq hU'.1) (vx_isRefq hN'.1) hU'.2.word hN'.2.word) (fun x hx => nomatch hx)
    (g := F0 m pc ls rest) rfl hsize hRframes (by show 2 * 0 + (rest.map fun v => v.category).sum + 10240 ≤ R.locals; omega) (by show 0 + 1 ≤ 1; omega) (by show 0 + nb ≤ nb; omega) hlocks
  obtain ⟨f1, f2⟩ := vx_frame Z.same
  have f1' : H.size ≤ S.heap.size := by rw [← hT]; exact f1
  have f2' : ∀ q : Nat, q < H.size → S.heap[q]? = H[q]? := fun q hq => by
    rw [← hT]
    exact f2 q (by rw [← hT] at hq; exact hq) (fun z hz => nomatch hz)
  have X5 := vx_back9 X Y Z
  have X6 : Stand p l e R s m args below meth c S locs (cells + 1) (slots + nb) := { X5 with same := X5.same.mono (by omega) (by omega) }
  obtain ⟨t, a1, b1⟩ := k S.heap q ce f1' f2' ⟨Nat.le_trans hS.1 f1', fun q h1 h2 => (f2' q (Nat.lt_of_lt_of_le h1 hS.1)).trans (hS.2.1 q h1 h2), hS.2.2⟩ hce hv hcl' S rfl X6
  exact ⟨t, st t a1, b1⟩
variable {Q : State → Prop} {cc : ByteArray} {pc : Nat} {ls : Array Slot} {rest : List Value}
theorem vx_idivZ (hexec : p.tables.exec = Jvm.exec) (hb : c.code = cc) {a b : Int32} (h0 : b = 0) (d : decode cc pc = .ok (.idiv, 1)) (k : vx_Note p l e R s m args below meth c H locs cells slots Q (F0 m pc ls rest) "java/lang/ArithmeticException" "/ by zero") :
    W p l e R s m args below meth c H locs cells slots Q (F0 m pc ls (.int b :: .int a :: rest)) := by
  intro T hT X
  obtain ⟨t, st, q⟩ := k T hT X
  exact ⟨t, X.idivZero hexec (g := F0 m pc ls (.int b :: .int a :: rest)) rfl (a := a) (rest := rest) (by rw [h0]) (by rw [hb]; exact d) t st, q⟩
theorem vx_iremZ (hexec : p.tables.exec = Jvm.exec) (hb : c.code = cc) {a b : Int32} (h0 : b = 0) (d : decode cc pc = .ok (.irem, 1)) (k : vx_Note p l e R s m args below meth c H locs cells slots Q (F0 m pc ls rest) "java/lang/ArithmeticException" "/ by zero") :
    W p l e R s m args below meth c H locs cells slots Q (F0 m pc ls (.int b :: .int a :: rest)) := by
  intro T hT X
  obtain ⟨t, st, q⟩ := k T hT X
  exact ⟨t, X.iremZero hexec (g := F0 m pc ls (.int b :: .int a :: rest)) rfl (a := a) (rest := rest) (by rw [h0]) (by rw [hb]; exact d) t st, q⟩
theorem vx_ldivZ (hexec : p.tables.exec = Jvm.exec) (hb : c.code = cc) {a b : Int64} (h0 : b = 0) (d : decode cc pc = .ok (.ldiv, 1)) (k : vx_Note p l e R s m args below meth c H locs cells slots Q (F0 m pc ls rest) "java/lang/ArithmeticException" "/ by zero") :
    W p l e R s m args below meth c H locs cells slots Q (F0 m pc ls (.long b :: .long a :: rest)) := by
  intro T hT X
  obtain ⟨t, st, q⟩ := k T hT X
  exact ⟨t, X.ldivZero hexec (g := F0 m pc ls (.long b :: .long a :: rest)) rfl (a := a) (rest := rest) (by rw [h0]) (by rw [hb]; exact d) t st, q⟩
theorem vx_lremZ (hexec : p.tables.exec = Jvm.exec) (hb : c.code = cc) {a b : Int64} (h0 : b = 0) (d : decode cc pc = .ok (.lrem, 1)) (k : vx_Note p l e R s m args below meth c H locs cells slots Q (F0 m pc ls rest) "java/lang/ArithmeticException" "/ by zero") :
    W p l e R s m args below meth c H locs cells slots Q (F0 m pc ls (.long b :: .long a :: rest)) := by
  intro T hT X
  obtain ⟨t, st, q⟩ := k T hT X
  exact ⟨t, X.lremZero hexec (g := F0 m pc ls (.long b :: .long a :: rest)) rfl (a := a) (rest := rest) (by rw [h0]) (by rw [hb]; exact d) t st, q⟩
theorem vx_ialdZ {D : va_G} {cl : List vw_C} {ws : va_W} {tys : List (ClassId × FieldType)} {a : Nat} (hexec : p.tables.exec = Jvm.exec) (hb : c.code = cc) (hK : va_K D cl tys s) (hP : va_P D cl ws H) (q0 t0 : Nat) {cA : ClassId} {n : Nat} {f : Nat → Int32} (ha : ws[q0]? = some (a, .inl (cA, n, .inl f))) (ht : tys[t0]? = some (cA, .int)) {i : Int32} (hout : ¬ vp_in i n) (hdg : decode cc pc = .ok (.iaload, 1))
    (k : ∀ tx : String, tx = (toString "Index " ++ toString i ++ toString " out of bounds for length " ++ toString n : String) → vx_Note p l e R s m args below meth c H locs cells slots Q (F0 m pc ls rest) "java/lang/ArrayIndexOutOfBoundsException" tx) : W p l e R s m args below meth c H locs cells slots Q (F0 m pc ls (.int i :: .ref a :: rest)) := by
  intro T hT X
  obtain ⟨t, st, q⟩ := k _ rfl T hT X
  refine ⟨t, ?_, q⟩
  have h1 := X.ialoadOut hexec (by rw [hT]; exact hP q0 _ ha) ((hK.2 t0 _ ht).1 n (fun j => .int (f j))) (j := i) (by show (i < 0 ∨ (arrV _ _ _).slots.size ≤ _); rw [arrV_size]; exact Classical.byContradiction hout) (g := F0 m pc ls (.int i :: .ref a :: rest)) rfl (rest := rest) rfl (by rw [hb]; exact hdg) t
  simp only [arrV_size] at h1
  exact h1 st
theorem vx_iastZ {D : va_G} {cl : List vw_C} {ws : va_W} {tys : List (ClassId × FieldType)} {a : Nat} (hexec : p.tables.exec = Jvm.exec) (hb : c.code = cc) (hK : va_K D cl tys s) (hP : va_P D cl ws H) (q0 t0 : Nat) {cA : ClassId} {n : Nat} {f : Nat → Int32} (ha : ws[q0]? = some (a, .inl (cA, n, .inl f))) (ht : tys[t0]? = some (cA, .int)) {i : Int32} {x : Int32} (hout : ¬ vp_in i n) (hdg : decode cc pc = .ok (.iastore, 1))
    (k : ∀ tx : String, tx = (toString "Index " ++ toString i ++ toString " out of bounds for length " ++ toString n : String) → vx_Note p l e R s m args below meth c H locs cells slots Q (F0 m pc ls rest) "java/lang/ArrayIndexOutOfBoundsException" tx) : W p l e R s m args below meth c H locs cells slots Q (F0 m pc ls (.int x :: .int i :: .ref a :: rest)) := by
  intro T hT X
  obtain ⟨t, st, q⟩ := k _ rfl T hT X
  refine ⟨t, ?_, q⟩
  have h1 := X.iastoreOut hexec (by rw [hT]; exact hP q0 _ ha) ((hK.2 t0 _ ht).1 n (fun j => .int (f j))) (j := i) (by show (i < 0 ∨ (arrV _ _ _).slots.size ≤ _); rw [arrV_size]; exact Classical.byContradiction hout) (g := F0 m pc ls (.int x :: .int i :: .ref a :: rest)) rfl (rest := rest) rfl (by rw [hb]; exact hdg) t
  simp only [arrV_size] at h1
  exact h1 st
theorem vx_baldZ {D : va_G} {cl : List vw_C} {ws : va_W} {tys : List (ClassId × FieldType)} {a : Nat} (hexec : p.tables.exec = Jvm.exec) (hb : c.code = cc) (hK : va_K D cl tys s) (hP : va_P D cl ws H) (q0 t0 : Nat) {cA : ClassId} {n : Nat} {f : Nat → Int32} (ha : ws[q0]? = some (a, .inl (cA, n, .inl f))) (ht : tys[t0]? = some (cA, .byte)) {i : Int32} (hout : ¬ vp_in i n) (hdg : decode cc pc = .ok (.baload, 1))
    (k : ∀ tx : String, tx = (toString "Index " ++ toString i ++ toString " out of bounds for length " ++ toString n : String) → vx_Note p l e R s m args below meth c H locs cells slots Q (F0 m pc ls rest) "java/lang/ArrayIndexOutOfBoundsException" tx) : W p l e R s m args below meth c H locs cells slots Q (F0 m pc ls (.int i :: .ref a :: rest)) := by
  intro T hT X
  obtain ⟨t, st, q⟩ := k _ rfl T hT X
  refine ⟨t, ?_, q⟩
  have h1 := X.baloadOut hexec (by rw [hT]; exact hP q0 _ ha) ((hK.2 t0 _ ht).1 n (fun j => .int (f j))) (j := i) (by show (i < 0 ∨ (arrV _ _ _).slots.size ≤ _); rw [arrV_size]; exact Classical.byContradiction hout) (g := F0 m pc ls (.int i :: .ref a :: rest)) rfl (rest := rest) rfl (by rw [hb]; exact hdg) t
  simp only [arrV_size] at h1
  exact h1 st
theorem vx_bastZ {D : va_G} {cl : List vw_C} {ws : va_W} {tys : List (ClassId × FieldType)} {a : Nat} (hexec : p.tables.exec = Jvm.exec) (hb : c.code = cc) (hK : va_K D cl tys s) (hP : va_P D cl ws H) (q0 t0 : Nat) {cA : ClassId} {n : Nat} {f : Nat → Int32} (ha : ws[q0]? = some (a, .inl (cA, n, .inl f))) (ht : tys[t0]? = some (cA, .byte)) {i : Int32} {x : Int32} (hout : ¬ vp_in i n) (hdg : decode cc pc = .ok (.bastore, 1))
    (k : ∀ tx : String, tx = (toString "Index " ++ toString i ++ toString " out of bounds for length " ++ toString n : String) → vx_Note p l e R s m args below meth c H locs cells slots Q (F0 m pc ls rest) "java/lang/ArrayIndexOutOfBoundsException" tx) : W p l e R s m args below meth c H locs cells slots Q (F0 m pc ls (.int x :: .int i :: .ref a :: rest)) := by
  intro T hT X
  obtain ⟨t, st, q⟩ := k _ rfl T hT X
  refine ⟨t, ?_, q⟩
  have h1 := X.bastoreOut hexec (by rw [hT]; exact hP q0 _ ha) ((hK.2 t0 _ ht).1 n (fun j => .int (f j))) (j := i) (by show (i < 0 ∨ (arrV _ _ _).slots.size ≤ _); rw [arrV_size]; exact Classical.byContradiction hout) (g := F0 m pc ls (.int x :: .int i :: .ref a :: rest)) rfl (rest := rest) rfl (by rw [hb]; exact hdg) t
  simp only [arrV_size] at h1
  exact h1 st
theorem vx_zaldZ {D : va_G} {cl : List vw_C} {ws : va_W} {tys : List (ClassId × FieldType)} {a : Nat} (hexec : p.tables.exec = Jvm.exec) (hb : c.code = cc) (hK : va_K D cl tys s) (hP : va_P D cl ws H) (q0 t0 : Nat) {cA : ClassId} {n : Nat} {f : Nat → Int32} (ha : ws[q0]? = some (a, .inl (cA, n, .inl f))) (ht : tys[t0]? = some (cA, .boolean)) {i : Int32} (hout : ¬ vp_in i n) (hdg : decode cc pc = .ok (.baload, 1))
    (k : ∀ tx : String, tx = (toString "Index " ++ toString i ++ toString " out of bounds for length " ++ toString n : String) → vx_Note p l e R s m args below meth c H locs cells slots Q (F0 m pc ls rest) "java/lang/ArrayIndexOutOfBoundsException" tx) : W p l e R s m args below meth c H locs cells slots Q (F0 m pc ls (.int i :: .ref a :: rest)) := by
  intro T hT X
  obtain ⟨t, st, q⟩ := k _ rfl T hT X
  refine ⟨t, ?_, q⟩
  have h1 := X.baloadOut hexec (by rw [hT]; exact hP q0 _ ha) ((hK.2 t0 _ ht).1 n (fun j => .int (f j))) (j := i) (by show (i < 0 ∨ (arrV _ _ _).slots.size ≤ _); rw [arrV_size]; exact Classical.byContradiction hout) (g := F0 m pc ls (.int i :: .ref a :: rest)) rfl (rest := rest) rfl (by rw [hb]; exact hdg) t
  simp only [arrV_size] at h1
  exact h1 st
theorem vx_zastZ {D : va_G} {cl : List vw_C} {ws : va_W} {tys : List (ClassId × FieldType)} {a : Nat} (hexec : p.tables.exec = Jvm.exec) (hb : c.code = cc) (hK : va_K D cl tys s) (hP : va_P D cl ws H) (q0 t0 : Nat) {cA : ClassId} {n : Nat} {f : Nat → Int32} (ha : ws[q0]? = some (a, .inl (cA, n, .inl f))) (ht : tys[t0]? = some (cA, .boolean)) {i : Int32} {x : Int32} (hout : ¬ vp_in i n) (hdg : decode cc pc = .ok (.bastore, 1))
    (k : ∀ tx : String, tx = (toString "Index " ++ toString i ++ toString " out of bounds for length " ++ toString n : String) → vx_Note p l e R s m args below meth c H locs cells slots Q (F0 m pc ls rest) "java/lang/ArrayIndexOutOfBoundsException" tx) : W p l e R s m args below meth c H locs cells slots Q (F0 m pc ls (.int x :: .int i :: .ref a :: rest)) := by
  intro T hT X
  obtain ⟨t, st, q⟩ := k _ rfl T hT X
  refine ⟨t, ?_, q⟩
  have h1 := X.bastoreOut hexec (by rw [hT]; exact hP q0 _ ha) ((hK.2 t0 _ ht).1 n (fun j => .int (f j))) (j := i) (by show (i < 0 ∨ (arrV _ _ _).slots.size ≤ _); rw [arrV_size]; exact Classical.byContradiction hout) (g := F0 m pc ls (.int x :: .int i :: .ref a :: rest)) rfl (rest := rest) rfl (by rw [hb]; exact hdg) t
  simp only [arrV_size] at h1
  exact h1 st
theorem vx_caldZ {D : va_G} {cl : List vw_C} {ws : va_W} {tys : List (ClassId × FieldType)} {a : Nat} (hexec : p.tables.exec = Jvm.exec) (hb : c.code = cc) (hK : va_K D cl tys s) (hP : va_P D cl ws H) (q0 t0 : Nat) {cA : ClassId} {n : Nat} {f : Nat → Int32} (ha : ws[q0]? = some (a, .inl (cA, n, .inl f))) (ht : tys[t0]? = some (cA, .char)) {i : Int32} (hout : ¬ vp_in i n) (hdg : decode cc pc = .ok (.caload, 1))
    (k : ∀ tx : String, tx = (toString "Index " ++ toString i ++ toString " out of bounds for length " ++ toString n : String) → vx_Note p l e R s m args below meth c H locs cells slots Q (F0 m pc ls rest) "java/lang/ArrayIndexOutOfBoundsException" tx) : W p l e R s m args below meth c H locs cells slots Q (F0 m pc ls (.int i :: .ref a :: rest)) := by
  intro T hT X
  obtain ⟨t, st, q⟩ := k _ rfl T hT X
  refine ⟨t, ?_, q⟩
  have h1 := X.caloadOut hexec (by rw [hT]; exact hP q0 _ ha) ((hK.2 t0 _ ht).1 n (fun j => .int (f j))) (j := i) (by show (i < 0 ∨ (arrV _ _ _).slots.size ≤ _); rw [arrV_size]; exact Classical.byContradiction hout) (g := F0 m pc ls (.int i :: .ref a :: rest)) rfl (rest := rest) rfl (by rw [hb]; exact hdg) t
  simp only [arrV_size] at h1
  exact h1 st
theorem vx_castZ {D : va_G} {cl : List vw_C} {ws : va_W} {tys : List (ClassId × FieldType)} {a : Nat} (hexec : p.tables.exec = Jvm.exec) (hb : c.code = cc) (hK : va_K D cl tys s) (hP : va_P D cl ws H) (q0 t0 : Nat) {cA : ClassId} {n : Nat} {f : Nat → Int32} (ha : ws[q0]? = some (a, .inl (cA, n, .inl f))) (ht : tys[t0]? = some (cA, .char)) {i : Int32} {x : Int32} (hout : ¬ vp_in i n) (hdg : decode cc pc = .ok (.castore, 1))
    (k : ∀ tx : String, tx = (toString "Index " ++ toString i ++ toString " out of bounds for length " ++ toString n : String) → vx_Note p l e R s m args below meth c H locs cells slots Q (F0 m pc ls rest) "java/lang/ArrayIndexOutOfBoundsException" tx) : W p l e R s m args below meth c H locs cells slots Q (F0 m pc ls (.int x :: .int i :: .ref a :: rest)) := by
  intro T hT X
  obtain ⟨t, st, q⟩ := k _ rfl T hT X
  refine ⟨t, ?_, q⟩
  have h1 := X.castoreOut hexec (by rw [hT]; exact hP q0 _ ha) ((hK.2 t0 _ ht).1 n (fun j => .int (f j))) (j := i) (by show (i < 0 ∨ (arrV _ _ _).slots.size ≤ _); rw [arrV_size]; exact Classical.byContradiction hout) (g := F0 m pc ls (.int x :: .int i :: .ref a :: rest)) rfl (rest := rest) rfl (by rw [hb]; exact hdg) t
  simp only [arrV_size] at h1
  exact h1 st
theorem vx_saldZ {D : va_G} {cl : List vw_C} {ws : va_W} {tys : List (ClassId × FieldType)} {a : Nat} (hexec : p.tables.exec = Jvm.exec) (hb : c.code = cc) (hK : va_K D cl tys s) (hP : va_P D cl ws H) (q0 t0 : Nat) {cA : ClassId} {n : Nat} {f : Nat → Int32} (ha : ws[q0]? = some (a, .inl (cA, n, .inl f))) (ht : tys[t0]? = some (cA, .short)) {i : Int32} (hout : ¬ vp_in i n) (hdg : decode cc pc = .ok (.saload, 1))
    (k : ∀ tx : String, tx = (toString "Index " ++ toString i ++ toString " out of bounds for length " ++ toString n : String) → vx_Note p l e R s m args below meth c H locs cells slots Q (F0 m pc ls rest) "java/lang/ArrayIndexOutOfBoundsException" tx) : W p l e R s m args below meth c H locs cells slots Q (F0 m pc ls (.int i :: .ref a :: rest)) := by
  intro T hT X
  obtain ⟨t, st, q⟩ := k _ rfl T hT X
  refine ⟨t, ?_, q⟩
  have h1 := X.saloadOut hexec (by rw [hT]; exact hP q0 _ ha) ((hK.2 t0 _ ht).1 n (fun j => .int (f j))) (j := i) (by show (i < 0 ∨ (arrV _ _ _).slots.size ≤ _); rw [arrV_size]; exact Classical.byContradiction hout) (g := F0 m pc ls (.int i :: .ref a :: rest)) rfl (rest := rest) rfl (by rw [hb]; exact hdg) t
  simp only [arrV_size] at h1
  exact h1 st
theorem vx_sastZ {D : va_G} {cl : List vw_C} {ws : va_W} {tys : List (ClassId × FieldType)} {a : Nat} (hexec : p.tables.exec = Jvm.exec) (hb : c.code = cc) (hK : va_K D cl tys s) (hP : va_P D cl ws H) (q0 t0 : Nat) {cA : ClassId} {n : Nat} {f : Nat → Int32} (ha : ws[q0]? = some (a, .inl (cA, n, .inl f))) (ht : tys[t0]? = some (cA, .short)) {i : Int32} {x : Int32} (hout : ¬ vp_in i n) (hdg : decode cc pc = .ok (.sastore, 1))
    (k : ∀ tx : String, tx = (toString "Index " ++ toString i ++ toString " out of bounds for length " ++ toString n : String) → vx_Note p l e R s m args below meth c H locs cells slots Q (F0 m pc ls rest) "java/lang/ArrayIndexOutOfBoundsException" tx) : W p l e R s m args below meth c H locs cells slots Q (F0 m pc ls (.int x :: .int i :: .ref a :: rest)) := by
  intro T hT X
  obtain ⟨t, st, q⟩ := k _ rfl T hT X
  refine ⟨t, ?_, q⟩
  have h1 := X.sastoreOut hexec (by rw [hT]; exact hP q0 _ ha) ((hK.2 t0 _ ht).1 n (fun j => .int (f j))) (j := i) (by show (i < 0 ∨ (arrV _ _ _).slots.size ≤ _); rw [arrV_size]; exact Classical.byContradiction hout) (g := F0 m pc ls (.int x :: .int i :: .ref a :: rest)) rfl (rest := rest) rfl (by rw [hb]; exact hdg) t
  simp only [arrV_size] at h1
  exact h1 st
theorem vx_laldZ {D : va_G} {cl : List vw_C} {ws : va_W} {tys : List (ClassId × FieldType)} {a : Nat} (hexec : p.tables.exec = Jvm.exec) (hb : c.code = cc) (hK : va_K D cl tys s) (hP : va_P D cl ws H) (q0 t0 : Nat) {cA : ClassId} {n : Nat} {f : Nat → Int64} (ha : ws[q0]? = some (a, .inl (cA, n, .inr (.inl f)))) (ht : tys[t0]? = some (cA, .long)) {i : Int32} (hout : ¬ vp_in i n) (hdg : decode cc pc = .ok (.laload, 1))
    (k : ∀ tx : String, tx = (toString "Index " ++ toString i ++ toString " out of bounds for length " ++ toString n : String) → vx_Note p l e R s m args below meth c H locs cells slots Q (F0 m pc ls rest) "java/lang/ArrayIndexOutOfBoundsException" tx) : W p l e R s m args below meth c H locs cells slots Q (F0 m pc ls (.int i :: .ref a :: rest)) := by
  intro T hT X
  obtain ⟨t, st, q⟩ := k _ rfl T hT X
  refine ⟨t, ?_, q⟩
  have h1 := X.laloadOut hexec (by rw [hT]; exact hP q0 _ ha) ((hK.2 t0 _ ht).1 n (fun j => .long (f j))) (j := i) (by show (i < 0 ∨ (arrV _ _ _).slots.size ≤ _); rw [arrV_size]; exact Classical.byContradiction hout) (g := F0 m pc ls (.int i :: .ref a :: rest)) rfl (rest := rest) rfl (by rw [hb]; exact hdg) t
  simp only [arrV_size] at h1
  exact h1 st
theorem vx_lastZ {D : va_G} {cl : List vw_C} {ws : va_W} {tys : List (ClassId × FieldType)} {a : Nat} (hexec : p.tables.exec = Jvm.exec) (hb : c.code = cc) (hK : va_K D cl tys s) (hP : va_P D cl ws H) (q0 t0 : Nat) {cA : ClassId} {n : Nat} {f : Nat → Int64} (ha : ws[q0]? = some (a, .inl (cA, n, .inr (.inl f)))) (ht : tys[t0]? = some (cA, .long)) {i : Int32} {x : Int64} (hout : ¬ vp_in i n) (hdg : decode cc pc = .ok (.lastore, 1))
    (k : ∀ tx : String, tx = (toString "Index " ++ toString i ++ toString " out of bounds for length " ++ toString n : String) → vx_Note p l e R s m args below meth c H locs cells slots Q (F0 m pc ls rest) "java/lang/ArrayIndexOutOfBoundsException" tx) : W p l e R s m args below meth c H locs cells slots Q (F0 m pc ls (.long x :: .int i :: .ref a :: rest)) := by
  intro T hT X
  obtain ⟨t, st, q⟩ := k _ rfl T hT X
  refine ⟨t, ?_, q⟩
  have h1 := X.lastoreOut hexec (by rw [hT]; exact hP q0 _ ha) ((hK.2 t0 _ ht).1 n (fun j => .long (f j))) (j := i) (by show (i < 0 ∨ (arrV _ _ _).slots.size ≤ _); rw [arrV_size]; exact Classical.byContradiction hout) (g := F0 m pc ls (.long x :: .int i :: .ref a :: rest)) rfl (rest := rest) rfl (by rw [hb]; exact hdg) t
  simp only [arrV_size] at h1
  exact h1 st
theorem vx_faldZ {D : va_G} {cl : List vw_C} {ws : va_W} {tys : List (ClassId × FieldType)} {a : Nat} (hexec : p.tables.exec = Jvm.exec) (hb : c.code = cc) (hK : va_K D cl tys s) (hP : va_P D cl ws H) (q0 t0 : Nat) {cA : ClassId} {n : Nat} {f : Nat → UInt32} (ha : ws[q0]? = some (a, .inl (cA, n, .inr (.inr (.inl f))))) (ht : tys[t0]? = some (cA, .float)) {i : Int32} (hout : ¬ vp_in i n) (hdg : decode cc pc = .ok (.faload, 1))
    (k : ∀ tx : String, tx = (toString "Index " ++ toString i ++ toString " out of bounds for length " ++ toString n : String) → vx_Note p l e R s m args below meth c H locs cells slots Q (F0 m pc ls rest) "java/lang/ArrayIndexOutOfBoundsException" tx) : W p l e R s m args below meth c H locs cells slots Q (F0 m pc ls (.int i :: .ref a :: rest)) := by
  intro T hT X
  obtain ⟨t, st, q⟩ := k _ rfl T hT X
  refine ⟨t, ?_, q⟩
  have h1 := X.faloadOut hexec (by rw [hT]; exact hP q0 _ ha) ((hK.2 t0 _ ht).1 n (fun j => .float (f j))) (j := i) (by show (i < 0 ∨ (arrV _ _ _).slots.size ≤ _); rw [arrV_size]; exact Classical.byContradiction hout) (g := F0 m pc ls (.int i :: .ref a :: rest)) rfl (rest := rest) rfl (by rw [hb]; exact hdg) t
  simp only [arrV_size] at h1
  exact h1 st
theorem vx_fastZ {D : va_G} {cl : List vw_C} {ws : va_W} {tys : List (ClassId × FieldType)} {a : Nat} (hexec : p.tables.exec = Jvm.exec) (hb : c.code = cc) (hK : va_K D cl tys s) (hP : va_P D cl ws H) (q0 t0 : Nat) {cA : ClassId} {n : Nat} {f : Nat → UInt32} (ha : ws[q0]? = some (a, .inl (cA, n, .inr (.inr (.inl f))))) (ht : tys[t0]? = some (cA, .float)) {i : Int32} {x : UInt32} (hout : ¬ vp_in i n) (hdg : decode cc pc = .ok (.fastore, 1))
    (k : ∀ tx : String, tx = (toString "Index " ++ toString i ++ toString " out of bounds for length " ++ toString n : String) → vx_Note p l e R s m args below meth c H locs cells slots Q (F0 m pc ls rest) "java/lang/ArrayIndexOutOfBoundsException" tx) : W p l e R s m args below meth c H locs cells slots Q (F0 m pc ls (.float x :: .int i :: .ref a :: rest)) := by
  intro T hT X
  obtain ⟨t, st, q⟩ := k _ rfl T hT X
  refine ⟨t, ?_, q⟩
  have h1 := X.fastoreOut hexec (by rw [hT]; exact hP q0 _ ha) ((hK.2 t0 _ ht).1 n (fun j => .float (f j))) (j := i) (by show (i < 0 ∨ (arrV _ _ _).slots.size ≤ _); rw [arrV_size]; exact Classical.byContradiction hout) (g := F0 m pc ls (.float x :: .int i :: .ref a :: rest)) rfl (rest := rest) rfl (by rw [hb]; exact hdg) t
  simp only [arrV_size] at h1
  exact h1 st
theorem vx_daldZ {D : va_G} {cl : List vw_C} {ws : va_W} {tys : List (ClassId × FieldType)} {a : Nat} (hexec : p.tables.exec = Jvm.exec) (hb : c.code = cc) (hK : va_K D cl tys s) (hP : va_P D cl ws H) (q0 t0 : Nat) {cA : ClassId} {n : Nat} {f : Nat → UInt64} (ha : ws[q0]? = some (a, .inl (cA, n, .inr (.inr (.inr (.inl f)))))) (ht : tys[t0]? = some (cA, .double)) {i : Int32} (hout : ¬ vp_in i n) (hdg : decode cc pc = .ok (.daload, 1))
    (k : ∀ tx : String, tx = (toString "Index " ++ toString i ++ toString " out of bounds for length " ++ toString n : String) → vx_Note p l e R s m args below meth c H locs cells slots Q (F0 m pc ls rest) "java/lang/ArrayIndexOutOfBoundsException" tx) : W p l e R s m args below meth c H locs cells slots Q (F0 m pc ls (.int i :: .ref a :: rest)) := by
  intro T hT X
  obtain ⟨t, st, q⟩ := k _ rfl T hT X
  refine ⟨t, ?_, q⟩
  have h1 := X.daloadOut hexec (by rw [hT]; exact hP q0 _ ha) ((hK.2 t0 _ ht).1 n (fun j => .double (f j))) (j := i) (by show (i < 0 ∨ (arrV _ _ _).slots.size ≤ _); rw [arrV_size]; exact Classical.byContradiction hout) (g := F0 m pc ls (.int i :: .ref a :: rest)) rfl (rest := rest) rfl (by rw [hb]; exact hdg) t
  simp only [arrV_size] at h1
  exact h1 st
theorem vx_dastZ {D : va_G} {cl : List vw_C} {ws : va_W} {tys : List (ClassId × FieldType)} {a : Nat} (hexec : p.tables.exec = Jvm.exec) (hb : c.code = cc) (hK : va_K D cl tys s) (hP : va_P D cl ws H) (q0 t0 : Nat) {cA : ClassId} {n : Nat} {f : Nat → UInt64} (ha : ws[q0]? = some (a, .inl (cA, n, .inr (.inr (.inr (.inl f)))))) (ht : tys[t0]? = some (cA, .double)) {i : Int32} {x : UInt64} (hout : ¬ vp_in i n) (hdg : decode cc pc = .ok (.dastore, 1))
    (k : ∀ tx : String, tx = (toString "Index " ++ toString i ++ toString " out of bounds for length " ++ toString n : String) → vx_Note p l e R s m args below meth c H locs cells slots Q (F0 m pc ls rest) "java/lang/ArrayIndexOutOfBoundsException" tx) : W p l e R s m args below meth c H locs cells slots Q (F0 m pc ls (.double x :: .int i :: .ref a :: rest)) := by
  intro T hT X
  obtain ⟨t, st, q⟩ := k _ rfl T hT X
  refine ⟨t, ?_, q⟩
  have h1 := X.dastoreOut hexec (by rw [hT]; exact hP q0 _ ha) ((hK.2 t0 _ ht).1 n (fun j => .double (f j))) (j := i) (by show (i < 0 ∨ (arrV _ _ _).slots.size ≤ _); rw [arrV_size]; exact Classical.byContradiction hout) (g := F0 m pc ls (.double x :: .int i :: .ref a :: rest)) rfl (rest := rest) rfl (by rw [hb]; exact hdg) t
  simp only [arrV_size] at h1
  exact h1 st
theorem vx_arraylengthN (hexec : p.tables.exec = Jvm.exec) (hb : c.code = cc) (hdg : decode cc pc = .ok (.arraylength, 1)) (k : vx_NoteN p l e R s m args below meth c H locs cells slots Q (F0 m pc ls rest)) : W p l e R s m args below meth c H locs cells slots Q (F0 m pc ls (.null :: rest)) := by
  intro T hT X
  obtain ⟨t, st, q⟩ := k T hT X
  exact ⟨t, X.arraylengthNull hexec (g := F0 m pc ls (.null :: rest)) rfl (rest := rest) rfl (by rw [hb]; exact hdg) t st, q⟩
theorem vx_ialoadN (hexec : p.tables.exec = Jvm.exec) (hb : c.code = cc) {i : Int32} (hdg : decode cc pc = .ok (.iaload, 1)) (k : vx_NoteN p l e R s m args below meth c H locs cells slots Q (F0 m pc ls rest)) : W p l e R s m args below meth c H locs cells slots Q (F0 m pc ls (.int i :: .null :: rest)) := by
  intro T hT X
  obtain ⟨t, st, q⟩ := k T hT X
  exact ⟨t, X.ialoadNull hexec (g := F0 m pc ls (.int i :: .null :: rest)) rfl (rest := rest) rfl (by rw [hb]; exact hdg) t st, q⟩
theorem vx_laloadN (hexec : p.tables.exec = Jvm.exec) (hb : c.code = cc) {i : Int32} (hdg : decode cc pc = .ok (.laload, 1)) (k : vx_NoteN p l e R s m args below meth c H locs cells slots Q (F0 m pc ls rest)) : W p l e R s m args below meth c H locs cells slots Q (F0 m pc ls (.int i :: .null :: rest)) := by
  intro T hT X
  obtain ⟨t, st, q⟩ := k T hT X
  exact ⟨t, X.laloadNull hexec (g := F0 m pc ls (.int i :: .null :: rest)) rfl (rest := rest) rfl (by rw [hb]; exact hdg) t st, q⟩
theorem vx_faloadN (hexec : p.tables.exec = Jvm.exec) (hb : c.code = cc) {i : Int32} (hdg : decode cc pc = .ok (.faload, 1)) (k : vx_NoteN p l e R s m args below meth c H locs cells slots Q (F0 m pc ls rest)) : W p l e R s m args below meth c H locs cells slots Q (F0 m pc ls (.int i :: .null :: rest)) := by
  intro T hT X
  obtain ⟨t, st, q⟩ := k T hT X
  exact ⟨t, X.faloadNull hexec (g := F0 m pc ls (.int i :: .null :: rest)) rfl (rest := rest) rfl (by rw [hb]; exact hdg) t st, q⟩
theorem vx_daloadN (hexec : p.tables.exec = Jvm.exec) (hb : c.code = cc) {i : Int32} (hdg : decode cc pc = .ok (.daload, 1)) (k : vx_NoteN p l e R s m args below meth c H locs cells slots Q (F0 m pc ls rest)) : W p l e R s m args below meth c H locs cells slots Q (F0 m pc ls (.int i :: .null :: rest)) := by
  intro T hT X
  obtain ⟨t, st, q⟩ := k T hT X
  exact ⟨t, X.daloadNull hexec (g := F0 m pc ls (.int i :: .null :: rest)) rfl (rest := rest) rfl (by rw [hb]; exact hdg) t st, q⟩
theorem vx_aaloadN (hexec : p.tables.exec = Jvm.exec) (hb : c.code = cc) {i : Int32} (hdg : decode cc pc = .ok (.aaload, 1)) (k : vx_NoteN p l e R s m args below meth c H locs cells slots Q (F0 m pc ls rest)) : W p l e R s m args below meth c H locs cells slots Q (F0 m pc ls (.int i :: .null :: rest)) := by
  intro T hT X
  obtain ⟨t, st, q⟩ := k T hT X
  exact ⟨t, X.aaloadNull hexec (g := F0 m pc ls (.int i :: .null :: rest)) rfl (rest := rest) rfl (by rw [hb]; exact hdg) t st, q⟩
theorem vx_baloadN (hexec : p.tables.exec = Jvm.exec) (hb : c.code = cc) {i : Int32} (hdg : decode cc pc = .ok (.baload, 1)) (k : vx_NoteN p l e R s m args below meth c H locs cells slots Q (F0 m pc ls rest)) : W p l e R s m args below meth c H locs cells slots Q (F0 m pc ls (.int i :: .null :: rest)) := by
  intro T hT X
  obtain ⟨t, st, q⟩ := k T hT X
  exact ⟨t, X.baloadNull hexec (g := F0 m pc ls (.int i :: .null :: rest)) rfl (rest := rest) rfl (by rw [hb]; exact hdg) t st, q⟩
theorem vx_caloadN (hexec : p.tables.exec = Jvm.exec) (hb : c.code = cc) {i : Int32} (hdg : decode cc pc = .ok (.caload, 1)) (k : vx_NoteN p l e R s m args below meth c H locs cells slots Q (F0 m pc ls rest)) : W p l e R s m args below meth c H locs cells slots Q (F0 m pc ls (.int i :: .null :: rest)) := by
  intro T hT X
  obtain ⟨t, st, q⟩ := k T hT X
  exact ⟨t, X.caloadNull hexec (g := F0 m pc ls (.int i :: .null :: rest)) rfl (rest := rest) rfl (by rw [hb]; exact hdg) t st, q⟩
theorem vx_saloadN (hexec : p.tables.exec = Jvm.exec) (hb : c.code = cc) {i : Int32} (hdg : decode cc pc = .ok (.saload, 1)) (k : vx_NoteN p l e R s m args below meth c H locs cells slots Q (F0 m pc ls rest)) : W p l e R s m args below meth c H locs cells slots Q (F0 m pc ls (.int i :: .null :: rest)) := by
  intro T hT X
  obtain ⟨t, st, q⟩ := k T hT X
  exact ⟨t, X.saloadNull hexec (g := F0 m pc ls (.int i :: .null :: rest)) rfl (rest := rest) rfl (by rw [hb]; exact hdg) t st, q⟩
theorem vx_iastoreN (hexec : p.tables.exec = Jvm.exec) (hb : c.code = cc) {x : Int32} {i : Int32} (hdg : decode cc pc = .ok (.iastore, 1)) (k : vx_NoteN p l e R s m args below meth c H locs cells slots Q (F0 m pc ls rest)) : W p l e R s m args below meth c H locs cells slots Q (F0 m pc ls (.int x :: .int i :: .null :: rest)) := by
  intro T hT X
  obtain ⟨t, st, q⟩ := k T hT X
  exact ⟨t, X.iastoreNull hexec (g := F0 m pc ls (.int x :: .int i :: .null :: rest)) rfl (rest := rest) rfl (by rw [hb]; exact hdg) t st, q⟩
theorem vx_lastoreN (hexec : p.tables.exec = Jvm.exec) (hb : c.code = cc) {x : Int64} {i : Int32} (hdg : decode cc pc = .ok (.lastore, 1)) (k : vx_NoteN p l e R s m args below meth c H locs cells slots Q (F0 m pc ls rest)) : W p l e R s m args below meth c H locs cells slots Q (F0 m pc ls (.long x :: .int i :: .null :: rest)) := by
  intro T hT X
  obtain ⟨t, st, q⟩ := k T hT X
  exact ⟨t, X.lastoreNull hexec (g := F0 m pc ls (.long x :: .int i :: .null :: rest)) rfl (rest := rest) rfl (by rw [hb]; exact hdg) t st, q⟩
theorem vx_fastoreN (hexec : p.tables.exec = Jvm.exec) (hb : c.code = cc) {x : UInt32} {i : Int32} (hdg : decode cc pc = .ok (.fastore, 1)) (k : vx_NoteN p l e R s m args below meth c H locs cells slots Q (F0 m pc ls rest)) : W p l e R s m args below meth c H locs cells slots Q (F0 m pc ls (.float x :: .int i :: .null :: rest)) := by
  intro T hT X
  obtain ⟨t, st, q⟩ := k T hT X
  exact ⟨t, X.fastoreNull hexec (g := F0 m pc ls (.float x :: .int i :: .null :: rest)) rfl (rest := rest) rfl (by rw [hb]; exact hdg) t st, q⟩
theorem vx_dastoreN (hexec : p.tables.exec = Jvm.exec) (hb : c.code = cc) {x : UInt64} {i : Int32} (hdg : decode cc pc = .ok (.dastore, 1)) (k : vx_NoteN p l e R s m args below meth c H locs cells slots Q (F0 m pc ls rest)) : W p l e R s m args below meth c H locs cells slots Q (F0 m pc ls (.double x :: .int i :: .null :: rest)) := by
  intro T hT X
  obtain ⟨t, st, q⟩ := k T hT X
  exact ⟨t, X.dastoreNull hexec (g := F0 m pc ls (.double x :: .int i :: .null :: rest)) rfl (rest := rest) rfl (by rw [hb]; exact hdg) t st, q⟩
theorem vx_bastoreN (hexec : p.tables.exec = Jvm.exec) (hb : c.code = cc) {x : Int32} {i : Int32} (hdg : decode cc pc = .ok (.bastore, 1)) (k : vx_NoteN p l e R s m args below meth c H locs cells slots Q (F0 m pc ls rest)) : W p l e R s m args below meth c H locs cells slots Q (F0 m pc ls (.int x :: .int i :: .null :: rest)) := by
  intro T hT X
  obtain ⟨t, st, q⟩ := k T hT X
  exact ⟨t, X.bastoreNull hexec (g := F0 m pc ls (.int x :: .int i :: .null :: rest)) rfl (rest := rest) rfl (by rw [hb]; exact hdg) t st, q⟩
theorem vx_castoreN (hexec : p.tables.exec = Jvm.exec) (hb : c.code = cc) {x : Int32} {i : Int32} (hdg : decode cc pc = .ok (.castore, 1)) (k : vx_NoteN p l e R s m args below meth c H locs cells slots Q (F0 m pc ls rest)) : W p l e R s m args below meth c H locs cells slots Q (F0 m pc ls (.int x :: .int i :: .null :: rest)) := by
  intro T hT X
  obtain ⟨t, st, q⟩ := k T hT X
  exact ⟨t, X.castoreNull hexec (g := F0 m pc ls (.int x :: .int i :: .null :: rest)) rfl (rest := rest) rfl (by rw [hb]; exact hdg) t st, q⟩
theorem vx_sastoreN (hexec : p.tables.exec = Jvm.exec) (hb : c.code = cc) {x : Int32} {i : Int32} (hdg : decode cc pc = .ok (.sastore, 1)) (k : vx_NoteN p l e R s m args below meth c H locs cells slots Q (F0 m pc ls rest)) : W p l e R s m args below meth c H locs cells slots Q (F0 m pc ls (.int x :: .int i :: .null :: rest)) := by
  intro T hT X
  obtain ⟨t, st, q⟩ := k T hT X
  exact ⟨t, X.sastoreNull hexec (g := F0 m pc ls (.int x :: .int i :: .null :: rest)) rfl (rest := rest) rfl (by rw [hb]; exact hdg) t st, q⟩
theorem vx_invokeN {own C : String} {index maxL : Nat} {y : MethodName} {bytes : ByteArray} {ret : Option FieldType} (hexec : p.tables.exec = Jvm.exec) (hb : c.code = cc) (hown : s.vm.findClass own = some m.cls) (hlink : (Cond.methodLink own index y).before args s = true) (hinst : (Cond.instanceMethod y).before args s = true) (hcode : (Cond.code y bytes maxL ret).before args s = true) (hsel : (Cond.selects C y y).before args s = true)
    (hx : y.cls ≠ "java/lang/invoke/MethodHandle" ∧ y.cls ≠ "java/lang/invoke/VarHandle") {As : List Value} (hlen : (parseMethodDescriptor y.desc).map (fun d => d.parameters.length) = some As.length) (hdg : decode cc pc = .ok (.invokevirtual index, 3))
    (k : vx_NoteN p l e R s m args below meth c H locs cells slots Q (F0 m pc ls rest)) {st0 : List Value} (hst : st0 = As.reverse ++ .null :: rest) : W p l e R s m args below meth c H locs cells slots Q (F0 m pc ls st0) := by
  intro T hT X
  obtain ⟨r0, r, hn, hrm, hstR, hsigR⟩ := va_Decl.of hinst hcode
  obtain ⟨c2, r2, m2, q1, q2, q3, q4, kP, hkP, hkPi⟩ := Cond.selects_spec hsel
  cases hn.symm.trans q3
  have hl9 : As.length = r.sig.parameters.length := by
    rw [hsigR] at hlen
    exact (Option.some.inj hlen).symm
  obtain ⟨vm', X1, st1⟩ := X.invokevirtualNull hexec hown hlink hn hrm hstR hkP hkPi hx (g := F0 m pc ls st0) rfl (argsL := As) (rest := rest) hl9 hst (by rw [hb]; exact hdg)
  obtain ⟨t, st, q⟩ := k (T.setVm vm') hT X1
  exact ⟨t, st1 t st, q⟩
theorem vx_newarrayZ {atype : ArrayType} (hexec : p.tables.exec = Jvm.exec) (hb : c.code = cc) {n : Int32} (h0 : n < 0) (hdg : decode cc pc = .ok (.newarray atype, 2)) (k : ∀ tx : String, tx = toString n → vx_Note p l e R s m args below meth c H locs cells slots Q (F0 m pc ls rest) "java/lang/NegativeArraySizeException" tx) : W p l e R s m args below meth c H locs cells slots Q (F0 m pc ls (.int n :: rest)) := by
  intro T hT X
  obtain ⟨t, st, q⟩ := k _ rfl T hT X
  exact ⟨t, X.newarrayNegative hexec (g := F0 m pc ls (.int n :: rest)) rfl h0 (rest := rest) rfl (by rw [hb]; exact hdg) t st, q⟩
end
end VXM
/-! ===== END ===== -/
end
section
/-! The abstract machine: values packed into numbers (16 * payload + tag), contents and locals as numbers with places of 72 bits, evaluated by the kernel -/
section SY
noncomputable def sy_nth {α : Type} (d : α) (l : List α) : Nat → α := List.rec (motive := fun _ => Nat → α) (fun _ => d) (fun a _ ih n => Nat.rec (motive := fun _ => α) a (fun m _ => ih m) n) l
noncomputable def sy_drop {α : Type} (l : List α) : Nat → List α := List.rec (motive := fun _ => Nat → List α) (fun _ => []) (fun a t ih n => Nat.rec (motive := fun _ => List α) (a :: t) (fun m _ => ih m) n) l
noncomputable def sy_pad {α : Type} (d x : α) (n : Nat) : List α := Nat.rec (motive := fun _ => List α) [x] (fun _ r => d :: r) n
noncomputable def sy_put {α : Type} (d x : α) (l : List α) : Nat → List α := List.rec (motive := fun _ => Nat → List α) (fun n => sy_pad d x n) (fun a t ih n => Nat.rec (motive := fun _ => List α) (x :: t) (fun m _ => a :: ih m) n) l
noncomputable def sy_force {α : Type} (n : Nat) (f : Nat → α) : α := Nat.rec (motive := fun _ => α) (f 0) (fun m _ => f (Nat.succ m)) n
noncomputable def sy_len {α : Type} (l : List α) : Nat := List.rec (motive := fun _ => Nat) 0 (fun _ _ n => Nat.succ n) l
noncomputable def sy_take {α : Type} (l : List α) : Nat → List α := List.rec (motive := fun _ => Nat → List α) (fun _ => []) (fun a _ ih n => Nat.rec (motive := fun _ => List α) [] (fun m _ => a :: ih m) n) l
/-- the first n, turned round, ahead of acc -/
noncomputable def sy_rev (l : List Nat) : Nat → List Nat → List Nat := List.rec (motive := fun _ => Nat → List Nat → List Nat) (fun _ acc => acc) (fun a _ ih n acc => Nat.rec (motive := fun _ => List Nat) acc (fun m _ => ih m (a :: acc)) n) l
def sy_rd (c i : Nat) : Nat := Nat.mod (Nat.shiftRight c (Nat.mul 72 i)) 4722366482869645213696
def sy_wr (c i v : Nat) : Nat := Nat.xor c (Nat.shiftLeft (Nat.xor (sy_rd c i) v) (Nat.mul 72 i))
def sy_tg (v : Nat) : Nat := Nat.mod v 16
def sy_py (v : Nat) : Nat := Nat.div v 16
def sy_pk (t n : Nat) : Nat := Nat.add (Nat.mul 16 n) t
/-- a place in the code: pc, operation, two numbers -/
abbrev sy_E : Type := Nat × Nat × Nat × Nat
/-- what is known of the script's ints: 0 the int lies within, 1 its char lies within, 2 its low six bits are (the bounds shifted by 2^31) -/
abbrev sy_T : Type := List (Nat × Nat × Nat)
/-- a cell: 2 * class (an object) or 2 * type + 1 (an array); its length; its content -/
abbrev sy_O : Type := Nat × Nat × Nat
abbrev sy_U0 : Type := sy_O
abbrev sy_U1 : Type := sy_U0 × sy_U0
abbrev sy_U2 : Type := sy_U1 × sy_U1
abbrev sy_U3 : Type := sy_U2 × sy_U2
abbrev sy_U4 : Type := sy_U3 × sy_U3
abbrev sy_U5 : Type := sy_U4 × sy_U4
abbrev sy_U6 : Type := sy_U5 × sy_U5
abbrev sy_U7 : Type := sy_U6 × sy_U6
abbrev sy_U8 : Type := sy_U7 × sy_U7
abbrev sy_U9 : Type := sy_U8 × sy_U8
abbrev sy_H : Type := Nat × sy_U9
/-- kind; a number; locals; stack; heap; cells; slots -/
abbrev sy_X : Type := Nat × Nat × Nat × List Nat × sy_H × Nat × Nat
/-- code; locals; handlers (from, to, place, class); 1 + the class of the one it is called on -/
abbrev sy_M : Type := List sy_E × Nat × List (Nat × Nat × Nat × Nat) × Nat
def sy_o0 : sy_O := (0, 0, 0)
def sy_bt (i q : Nat) : Bool := Nat.beq (Nat.mod (Nat.div i q) 2) 1
noncomputable def sy_gl {α : Type} (q : Nat) (g : Nat → α → sy_O) (i : Nat) (t : α × α) : sy_O := cond (sy_bt i q) (g i t.2) (g i t.1)
noncomputable def sy_pl {α : Type} (q : Nat) (g : Nat → sy_O → α → α) (i : Nat) (x : sy_O) (t : α × α) : α × α := cond (sy_bt i q) (t.1, g i x t.2) (g i x t.1, t.2)
def sy_g0 (_ : Nat) (t : sy_U0) : sy_O := t
def sy_q0 (_ : Nat) (x : sy_O) (_ : sy_U0) : sy_U0 := x
noncomputable def sy_g1 : Nat → sy_U1 → sy_O := sy_gl 1 sy_g0
noncomputable def sy_q1 : Nat → sy_O → sy_U1 → sy_U1 := sy_pl 1 sy_q0
noncomputable def sy_g2 : Nat → sy_U2 → sy_O := sy_gl 2 sy_g1
noncomputable def sy_q2 : Nat → sy_O → sy_U2 → sy_U2 := sy_pl 2 sy_q1
noncomputable def sy_g3 : Nat → sy_U3 → sy_O := sy_gl 4 sy_g2
noncomputable def sy_q3 : Nat → sy_O → sy_U3 → sy_U3 := sy_pl 4 sy_q2
noncomputable def sy_g4 : Nat → sy_U4 → sy_O := sy_gl 8 sy_g3
noncomputable def sy_q4 : Nat → sy_O → sy_U4 → sy_U4 := sy_pl 8 sy_q3
noncomputable def sy_g5 : Nat → sy_U5 → sy_O := sy_gl 16 sy_g4
noncomputable def sy_q5 : Nat → sy_O → sy_U5 → sy_U5 := sy_pl 16 sy_q4
noncomputable def sy_g6 : Nat → sy_U6 → sy_O := sy_gl 32 sy_g5
noncomputable def sy_q6 : Nat → sy_O → sy_U6 → sy_U6 := sy_pl 32 sy_q5
noncomputable def sy_g7 : Nat → sy_U7 → sy_O := sy_gl 64 sy_g6
noncomputable def sy_q7 : Nat → sy_O → sy_U7 → sy_U7 := sy_pl 64 sy_q6
noncomputable def sy_g8 : Nat → sy_U8 → sy_O := sy_gl 128 sy_g7
noncomputable def sy_q8 : Nat → sy_O → sy_U8 → sy_U8 := sy_pl 128 sy_q7
noncomputable def sy_g9 : Nat → sy_U9 → sy_O := sy_gl 256 sy_g8
noncomputable def sy_q9 : Nat → sy_O → sy_U9 → sy_U9 := sy_pl 256 sy_q8
noncomputable def sy_hg (t : sy_U9) (i : Nat) : sy_O := sy_g9 i t
noncomputable def sy_hp (t : sy_U9) (i : Nat) (x : sy_O) : sy_U9 := sy_q9 i x t
def sy_z0 : sy_U0 := sy_o0
def sy_z1 : sy_U1 := (sy_z0, sy_z0)
def sy_z2 : sy_U2 := (sy_z1, sy_z1)
def sy_z3 : sy_U3 := (sy_z2, sy_z2)
def sy_z4 : sy_U4 := (sy_z3, sy_z3)
def sy_z5 : sy_U5 := (sy_z4, sy_z4)
def sy_z6 : sy_U6 := (sy_z5, sy_z5)
def sy_z7 : sy_U7 := (sy_z6, sy_z6)
def sy_z8 : sy_U8 := (sy_z7, sy_z7)
def sy_z9 : sy_U9 := (sy_z8, sy_z8)
noncomputable def sy_no (a : Nat) : sy_X := (0, a, 0, [], (0, sy_z9), 0, 0)
noncomputable def sy_go (L : Nat) (st : List Nat) (h : sy_H) (c s : Nat) : sy_X := (1, 0, L, st, h, c, s)
/-- 0 int, 1 long, 2 reference, 3 float, 4 double -/
noncomputable def sy_ty (v : Nat) : Nat := Nat.mod (Nat.shiftRight 11068045922228388624 (Nat.mul 4 (sy_tg v))) 16
noncomputable def sy_ct (v : Nat) : Nat := Nat.mod (Nat.shiftRight 1229782938515743009 (Nat.mul 4 (sy_tg v))) 16
/-- pop one -/
noncomputable def sy_hd (st : List Nat) : Nat := List.rec (motive := fun _ => Nat) 0 (fun v _ _ => v) st
noncomputable def sy_tl (st : List Nat) : List Nat := List.rec (motive := fun _ => List Nat) [] (fun _ r _ => r) st
noncomputable def sy_isc (st : List Nat) : Bool := List.rec (motive := fun _ => Bool) false (fun _ _ _ => true) st
noncomputable def sy_p1 (st : List Nat) (f : Nat → List Nat → sy_X) : sy_X := cond (sy_isc st) (f (sy_hd st) (sy_tl st)) (sy_no 0)
noncomputable def sy_if (b : Bool) (x : sy_X) : sy_X := cond b x (sy_no 0)
abbrev sy_F : Type := sy_T → Nat → Nat → Nat → List Nat → sy_H → Nat → Nat → sy_X
noncomputable def sy_push : sy_F := fun _ x _ L st h c s => sy_go L (x :: st) h c s
noncomputable def sy_load (ty : Nat) : sy_F := fun _ x _ L st h c s =>
  Nat.rec (motive := fun _ => sy_X) (sy_no 0) (fun v _ => sy_if (Nat.beq (sy_ty v) ty) (sy_go L (v :: st) h c s)) (sy_rd L x)
noncomputable def sy_clr (L i : Nat) : Nat := Nat.rec (motive := fun _ => Nat) L (fun j _ => Nat.rec (motive := fun _ => Nat) L (fun v _ => cond (Nat.beq (sy_ct v) 2) (sy_wr L j 0) L) (sy_rd L j)) i
noncomputable def sy_sto (L i v : Nat) : Nat := sy_wr (sy_clr L i) i (Nat.succ v)
noncomputable def sy_sto2 (L i v : Nat) : Nat := sy_wr (sy_sto L i v) (Nat.succ i) 0
/-- a store of one slot; the method's locals bound x by the table -/
noncomputable def sy_stor (ty : Nat) : sy_F := fun _ x _ L st h c s => sy_p1 st fun v r => sy_if (Nat.beq (sy_ty v) ty) (sy_force (sy_sto L x v) fun L => sy_go L r h c s)
noncomputable def sy_stor2 (ty : Nat) : sy_F := fun _ x _ L st h c s => sy_p1 st fun v r => sy_if (Nat.beq (sy_ty v) ty) (sy_force (sy_sto2 L x v) fun L => sy_go L r h c s)
noncomputable def sy_iinc : sy_F := fun _ x y L st h c s =>
  Nat.rec (motive := fun _ => sy_X) (sy_no 0) (fun v _ => sy_if (Nat.beq (sy_tg v) 0) (sy_force (sy_sto L x (sy_pk 0 (Nat.mod (Nat.add (sy_py v) (Nat.add y 4294934528)) 4294967296))) fun L => sy_go L st h c s)) (sy_rd L x)
noncomputable def sy_bin (t : Nat) (f : Nat → Nat → Nat) : sy_F := fun _ _ _ L st h c s => sy_p1 st fun b r => sy_p1 r fun a r =>
  sy_if (cond (Nat.beq (sy_tg a) t) (Nat.beq (sy_tg b) t) false) (sy_force (sy_pk t (f (sy_py a) (sy_py b))) fun v => sy_go L (v :: r) h c s)
noncomputable def sy_tok (tk : sy_T) (k : Nat) : Nat × Nat × Nat := sy_nth (9, 0, 0) tk k
noncomputable def sy_iand : sy_F := fun tk _ _ L st h c s => sy_p1 st fun b r => sy_p1 r fun a r =>
  cond (Nat.beq (sy_tg a) 0) (sy_if (Nat.beq (sy_tg b) 0) (sy_force (sy_pk 0 (Nat.land (sy_py a) (sy_py b))) fun v => sy_go L (v :: r) h c s))
    (sy_if (cond (Nat.beq (sy_tg a) 6) (cond (Nat.beq b 1008) (Nat.beq (sy_tok tk (sy_py a)).1 2) false) false) (sy_force (sy_pk 0 (sy_tok tk (sy_py a)).2.1) fun v => sy_go L (v :: r) h c s))
noncomputable def sy_i2l : sy_F := fun _ _ _ L st h c s => sy_p1 st fun a r =>
  cond (Nat.beq (sy_tg a) 0) (sy_force (sy_pk 1 (cond (Nat.ble 2147483648 (Nat.mod (sy_py a) 4294967296)) (Nat.add (Nat.mod (sy_py a) 4294967296) 18446744069414584320) (Nat.mod (sy_py a) 4294967296))) fun v => sy_go L (v :: r) h c s)
    (sy_if (Nat.beq (sy_tg a) 6) (sy_force (Nat.succ a) fun v => sy_go L (v :: r) h c s))
noncomputable def sy_l2i : sy_F := fun _ _ _ L st h c s => sy_p1 st fun a r => sy_if (Nat.beq (sy_tg a) 1) (sy_force (sy_pk 0 (Nat.mod (sy_py a) 4294967296)) fun v => sy_go L (v :: r) h c s)
noncomputable def sy_i2c : sy_F := fun tk _ _ L st h c s => sy_p1 st fun a r =>
  cond (Nat.beq (sy_tg a) 0) (sy_force (sy_pk 0 (Nat.mod (sy_py a) 65536)) fun v => sy_go L (v :: r) h c s)
    (sy_if (cond (Nat.beq (sy_tg a) 6) (Nat.beq (sy_tok tk (sy_py a)).1 1) false)
      (cond (Nat.beq (sy_tok tk (sy_py a)).2.1 (sy_tok tk (sy_py a)).2.2) (sy_force (sy_pk 0 (Nat.sub (sy_tok tk (sy_py a)).2.1 2147483648)) fun v => sy_go L (v :: r) h c s)
        (sy_force (Nat.add a 2) fun v => sy_go L (v :: r) h c s)))
/-- the bounds of an int, shifted by 2^31; of a long, by 2^63 -/
noncomputable def sy_iv (tk : sy_T) (v : Nat) : Nat × Nat :=
  sy_nth (0, 18446744073709551615) [(Nat.mod (Nat.add (sy_py v) 2147483648) 4294967296, Nat.mod (Nat.add (sy_py v) 2147483648) 4294967296), (Nat.mod (Nat.add (sy_py v) 9223372036854775808) 18446744073709551616, Nat.mod (Nat.add (sy_py v) 9223372036854775808) 18446744073709551616), (0, 0), (0, 0), (0, 0), (0, 0),
    cond (Nat.beq (sy_tok tk (sy_py v)).1 0) (sy_tok tk (sy_py v)).2 (0, 4294967295),
    cond (Nat.beq (sy_tok tk (sy_py v)).1 0) (Nat.add (sy_tok tk (sy_py v)).2.1 9223372034707292160, Nat.add (sy_tok tk (sy_py v)).2.2 9223372034707292160) (9223372034707292160, 9223372039002259455),
    cond (Nat.beq (sy_tok tk (sy_py v)).1 1) (sy_tok tk (sy_py v)).2 (2147483648, 2147549183)] (sy_tg v)
/-- 0 no, 1 yes, 2 + token + 16 * pivot: not known -/
noncomputable def sy_unk (a b : Nat) (pa pb : Nat) : Nat := cond (Nat.ble 6 (sy_tg a)) (Nat.add 2 (Nat.add (sy_py a) (Nat.mul 16 pa))) (Nat.add 2 (Nat.add (sy_py b) (Nat.mul 16 pb)))
noncomputable def sy_lt (tk : sy_T) (a b : Nat) : Nat :=
  cond (Nat.ble (Nat.succ (sy_iv tk a).2) (sy_iv tk b).1) 1 (cond (Nat.ble (sy_iv tk b).2 (sy_iv tk a).1) 0 (sy_unk a b (sy_iv tk b).1 (Nat.succ (sy_iv tk a).1)))
noncomputable def sy_eq (tk : sy_T) (a b : Nat) : Nat :=
  cond (Nat.ble (Nat.succ (sy_iv tk a).2) (sy_iv tk b).1) 0 (cond (Nat.ble (Nat.succ (sy_iv tk b).2) (sy_iv tk a).1) 0
    (cond (cond (Nat.beq (sy_iv tk a).1 (sy_iv tk a).2) (cond (Nat.beq (sy_iv tk b).1 (sy_iv tk b).2) (Nat.beq (sy_iv tk a).1 (sy_iv tk b).1) false) false) 1
      (cond (Nat.ble 6 (sy_tg a)) (sy_unk a b (cond (Nat.ble (sy_iv tk b).1 (sy_iv tk a).1) (Nat.succ (sy_iv tk a).1) (sy_iv tk b).1) 0)
        (sy_unk a b 0 (cond (Nat.ble (sy_iv tk a).1 (sy_iv tk b).1) (Nat.succ (sy_iv tk b).1) (sy_iv tk a).1)))))
noncomputable def sy_fork (r : Nat) (yes no : sy_X) : sy_X := Nat.rec (motive := fun _ => sy_X) no (fun m _ => Nat.rec (motive := fun _ => sy_X) yes (fun k _ => sy_no (Nat.succ k)) m) r
noncomputable def sy_jmp (x L : Nat) (st : List Nat) (h : sy_H) (c s : Nat) : sy_X := (2, x, L, st, h, c, s)
/-- compare and jump: which of the two rows, with or without the turn of yes and no, and of the operands -/
noncomputable def sy_br (q : sy_T → Nat → Nat → Nat) (neg : Bool) (tk : sy_T) (x L : Nat) (a b : Nat) (r : List Nat) (h : sy_H) (c s : Nat) : sy_X :=
  sy_if (cond (Nat.beq (sy_ty a) 0) (Nat.beq (sy_ty b) 0) false) (sy_fork (q tk a b) (cond neg (sy_go L r h c s) (sy_jmp x L r h c s)) (cond neg (sy_jmp x L r h c s) (sy_go L r h c s)))
noncomputable def sy_gt (tk : sy_T) (a b : Nat) : Nat := sy_lt tk b a
noncomputable def sy_ifc (q : sy_T → Nat → Nat → Nat) (neg : Bool) : sy_F := fun tk x _ L st h c s => sy_p1 st fun a r => sy_br q neg tk x L a 0 r h c s
noncomputable def sy_icmp (q : sy_T → Nat → Nat → Nat) (neg : Bool) : sy_F := fun tk x _ L st h c s => sy_p1 st fun b r => sy_p1 r fun a r => sy_br q neg tk x L a b r h c s
noncomputable def sy_lcmp : sy_F := fun tk _ _ L st h c s => sy_p1 st fun b r => sy_p1 r fun a r =>
  sy_if (cond (Nat.beq (sy_ty a) 1) (Nat.beq (sy_ty b) 1) false) (sy_fork (sy_lt tk a b) (sy_go L (68719476720 :: r) h c s) (sy_fork (sy_lt tk b a) (sy_go L (16 :: r) h c s) (sy_go L (0 :: r) h c s)))
noncomputable def sy_dup : sy_F := fun _ _ _ L st h c s => sy_p1 st fun a r => sy_if (Nat.beq (sy_ct a) 1) (sy_go L (a :: a :: r) h c s)
noncomputable def sy_pop : sy_F := fun _ _ _ L st h c s => sy_p1 st fun a r => sy_if (Nat.beq (sy_ct a) 1) (sy_go L r h c s)
/-- a reference or null (no token) -/
noncomputable def sy_isr (v : Nat) : Bool := cond (Nat.beq v 4) true (Nat.beq (sy_tg v) 5)
noncomputable def sy_acmp (neg : Bool) : sy_F := fun _ x _ L st h c s => sy_p1 st fun b r => sy_p1 r fun a r =>
  sy_if (cond (sy_isr a) (sy_isr b) false) (cond (cond neg (cond (Nat.beq a b) false true) (Nat.beq a b)) (sy_jmp x L r h c s) (sy_go L r h c s))
noncomputable def sy_nul (neg : Bool) : sy_F := fun _ x _ L st h c s => sy_p1 st fun a r =>
  sy_if (sy_isr a) (cond (cond neg (Nat.beq (sy_tg a) 5) (Nat.beq (sy_tg a) 4)) (sy_jmp x L r h c s) (sy_go L r h c s))
noncomputable def sy_goto : sy_F := fun _ x _ L st h c s => sy_jmp x L st h c s
noncomputable def sy_retv : sy_F := fun _ _ _ L st h c s => sy_if (cond (sy_isc st) false true) (3, 0, L, [], h, c, s)
/-- the cell of a reference -/
noncomputable def sy_cell (h : sy_H) (v : Nat) (f : Nat → Nat → Nat → sy_X) : sy_X := sy_if (cond (Nat.beq (sy_tg v) 5) (Nat.ble (Nat.succ (sy_py v)) h.1) false) (Prod.rec (motive := fun _ => sy_X) (fun k r => Prod.rec (motive := fun _ => sy_X) (fun n d => sy_force d fun d => f k n d) r) (sy_hg h.2 (sy_py v)))
noncomputable def sy_getf : sy_F := fun _ x _ L st h c s => sy_p1 st fun a r => sy_cell h a fun k n d =>
  sy_if (cond (Nat.beq k (Nat.mul 2 (Nat.div x 64))) (Nat.ble (Nat.succ (Nat.mod x 64)) n) false) (sy_force (sy_rd d (Nat.mod x 64)) fun v => sy_go L (v :: r) h c s)
/-- v may stand in a field of the type y (5 boolean, 6 char) -/
noncomputable def sy_okf (y v : Nat) : Bool := sy_nth false [Nat.beq (sy_ty v) 0, Nat.beq (sy_ty v) 1, Nat.beq (sy_ty v) 2, Nat.beq (sy_ty v) 3, Nat.beq (sy_ty v) 4, cond (Nat.beq v 0) true (Nat.beq v 16), cond (Nat.beq (sy_tg v) 8) true (cond (Nat.beq (sy_tg v) 0) (Nat.ble (sy_py v) 65535) false)] y
noncomputable def sy_ret : sy_F := fun _ _ y L st h c s => sy_p1 st fun a r => sy_if (cond (sy_isc r) false (sy_okf y a)) (4, a, L, [], h, c, s)
/-- x: class and place; y: the type of what is stored -/
noncomputable def sy_putf : sy_F := fun _ x y L st h c s => sy_p1 st fun v r => sy_p1 r fun a r => sy_cell h a fun k n d =>
  sy_if (cond (Nat.beq k (Nat.mul 2 (Nat.div x 64))) (cond (Nat.ble (Nat.succ (Nat.mod x 64)) n) (sy_okf (Nat.mod y 8) v) false) false)
    (sy_force (sy_wr d (Nat.mod x 64) v) fun d => sy_go L r (h.1, sy_hp h.2 (sy_py a) (k, n, d)) c s)
/-- x: class; y: its fields at the start; the index stands in the table of classes -/
noncomputable def sy_alloc (h : sy_H) (L : Nat) (r : List Nat) (c s : Nat) (k n d : Nat) : sy_X :=
  sy_if (Nat.ble (Nat.succ h.1) 511) (sy_force (sy_pk 5 h.1) fun v => sy_force h.1 fun m => sy_force (Nat.add c 1) fun c => sy_force (Nat.add s n) fun s => sy_go L (v :: r) (Nat.succ m, sy_hp h.2 m (k, n, d)) c s)
noncomputable def sy_new (F : Nat → Nat × Nat) : sy_F := fun _ x _ L st h c s => sy_alloc h L st c s (Nat.mul 2 x) (F x).1 (F x).2
noncomputable def sy_newa : sy_F := fun _ x _ L st h c s => sy_p1 st fun v r => sy_if (cond (Nat.beq (sy_tg v) 0) (Nat.ble (sy_py v) 65535) false) (sy_alloc h L r c s (Nat.succ (Nat.mul 2 x)) (sy_py v) 0)
noncomputable def sy_alen (tk : sy_T) (len : Nat) : sy_F := fun _ _ _ L st h c s => sy_p1 st fun a r =>
  cond (Nat.beq (sy_tg a) 9) (sy_go L (sy_pk 0 len :: r) h c s) (sy_cell h a fun k n _ => sy_if (cond (Nat.beq (Nat.mod k 2) 1) (cond (Nat.ble n 65535) (Nat.ble k 25) false) false) (sy_force (sy_pk 0 n) fun v => sy_go L (v :: r) h c s))
/-- what a place of an array of type t holds: nothing stored is the type's own nought -/
noncomputable def sy_dv (t : Nat) : Nat := sy_nth 4 [0, 1, 0, 0, 0, 3] t
noncomputable def sy_elt (t w : Nat) : Nat := Nat.rec (motive := fun _ => Nat) (sy_dv t) (fun m _ => Nat.succ m) w
/-- an index, or a fork on it -/
noncomputable def sy_ix (tk : sy_T) (i n : Nat) (f : Nat → sy_X) : sy_X :=
  cond (Nat.beq (sy_tg i) 0) (sy_if (cond (Nat.ble (Nat.succ (sy_py i)) n) (Nat.ble n 65535) false) (f (sy_py i)))
    (cond (Nat.beq (sy_tg i) 6) (cond (Nat.beq (sy_iv tk i).1 (sy_iv tk i).2) (sy_no 0) (sy_no (Nat.succ (Nat.add (sy_py i) (Nat.mul 16 (Nat.succ (sy_iv tk i).1)))))) (sy_no 0))
noncomputable def sy_ald (t et ty : Nat) : sy_F := fun tk _ _ L st h c s => sy_p1 st fun i r => sy_p1 r fun a r =>
  sy_cell h a fun k n d => sy_if (Nat.beq k (Nat.succ (Nat.mul 2 t))) (sy_ix tk i n fun j => sy_force (sy_elt et (sy_rd d j)) fun v => sy_if (Nat.beq (sy_ty v) ty) (sy_go L (v :: r) h c s))
/-- of an array of references: x its type -/
noncomputable def sy_aald : sy_F := fun tk _ _ L st h c s => sy_p1 st fun i r => sy_p1 r fun a r =>
  sy_cell h a fun k n d => sy_if (cond (Nat.beq (Nat.mod k 2) 1) (cond (Nat.ble 13 k) (Nat.ble k 25) false) false) (sy_ix tk i n fun j => sy_force (sy_elt 6 (sy_rd d j)) fun v => sy_if (sy_isr v) (sy_go L (v :: r) h c s))
/-- of ints: the script too -/
noncomputable def sy_iald (len : Nat) : sy_F := fun tk x y L st h c s => sy_p1 st fun i r => sy_p1 r fun a r' =>
  cond (Nat.beq (sy_tg a) 9)
    (sy_if (cond (Nat.beq (sy_tg i) 0) (Nat.ble (Nat.succ (sy_py i)) len) false) (List.rec (motive := fun _ => sy_X) (8, 0, L, st, h, c, s) (fun _ _ _ =>
      cond (cond (Nat.beq (sy_tok tk (sy_py i)).1 0) (Nat.beq (sy_tok tk (sy_py i)).2.1 (sy_tok tk (sy_py i)).2.2) false) (sy_force (sy_pk 0 (Nat.mod (Nat.add (sy_tok tk (sy_py i)).2.1 2147483648) 4294967296)) fun v => sy_go L (v :: r') h c s)
        (sy_force (sy_pk 6 (sy_py i)) fun v => sy_go L (v :: r') h c s)) tk))
    (sy_ald 0 0 0 tk x y L st h c s)
noncomputable def sy_ast (t ty : Nat) : sy_F := fun tk _ _ L st h c s => sy_p1 st fun v r => sy_p1 r fun i r => sy_p1 r fun a r =>
  sy_cell h a fun k n d => sy_if (cond (Nat.beq k (Nat.succ (Nat.mul 2 t))) (Nat.beq (sy_ty v) ty) false) (sy_ix tk i n fun j => sy_force (sy_wr d j v) fun d => sy_go L r (h.1, sy_hp h.2 (sy_py a) (k, n, d)) c s)
/-- of chars: an int that is one, or a token that is one -/
noncomputable def sy_cast : sy_F := fun tk _ _ L st h c s => sy_p1 st fun v r => sy_p1 r fun i r => sy_p1 r fun a r =>
  sy_cell h a fun k n d => sy_if (cond (Nat.beq k 7) (cond (Nat.beq (sy_tg v) 8) true (cond (Nat.beq (sy_tg v) 0) (Nat.ble (sy_py v) 65535) false)) false) (sy_ix tk i n fun j => sy_force (sy_wr d j v) fun d => sy_go L r (h.1, sy_hp h.2 (sy_py a) (k, n, d)) c s)
/-- of references: T gives the class whose objects the array's type holds -/
noncomputable def sy_aast (T : Nat → Nat) : sy_F := fun tk _ _ L st h c s => sy_p1 st fun v r => sy_p1 r fun i r => sy_p1 r fun a r =>
  sy_cell h a fun k n d => sy_if (cond (Nat.beq (Nat.mod k 2) 1) (cond (Nat.ble 13 k) (Nat.ble k 23) false) false)
    (cond (Nat.beq v 4) (sy_ix tk i n fun j => sy_force (sy_wr d j 4) fun d => sy_go L r (h.1, sy_hp h.2 (sy_py a) (k, n, d)) c s)
      (sy_cell h v fun k2 _ _ => sy_if (Nat.beq k2 (Nat.mul 2 (T (Nat.div k 2)))) (sy_ix tk i n fun j => sy_force (sy_wr d j v) fun d => sy_go L r (h.1, sy_hp h.2 (sy_py a) (k, n, d)) c s)))
noncomputable def sy_castA : sy_F := fun _ x _ L st h c s => sy_p1 st fun a r => sy_cell h a fun k _ _ => sy_if (Nat.beq k (Nat.succ (Nat.mul 2 x))) (sy_go L (a :: r) h c s)
noncomputable def sy_cats (l : List Nat) : Nat := List.rec (motive := fun _ => Nat) 0 (fun v _ n => Nat.add (sy_ct v) n) l
noncomputable def sy_clone : sy_F := fun _ _ _ L st h c s => sy_p1 st fun a r => sy_cell h a fun k n d => sy_if (cond (Nat.beq k 1) (Nat.ble (sy_cats r) 50) false) (sy_alloc h L r c s k n d)
/-- the constructor of Object -/
noncomputable def sy_obin : sy_F := fun _ _ _ L st h c s => sy_p1 st fun a r => sy_if (cond (Nat.beq (sy_tg a) 5) (Nat.ble (sy_cats r) 50) false) (sy_go L r h c s)
/-- n ints of d, from sp on, into e, from dp on -/
noncomputable def sy_cpy (d sp dp n e : Nat) : Nat := Nat.rec (motive := fun _ => Nat) e (fun j r => sy_wr r (Nat.add dp j) (sy_rd d (Nat.add sp j))) n
noncomputable def sy_acpy : sy_F := fun _ _ _ L st h c s => sy_p1 st fun n r => sy_p1 r fun dp r => sy_p1 r fun b r => sy_p1 r fun sp r => sy_p1 r fun a r =>
  sy_cell h a fun k1 n1 d1 => sy_cell h b fun k2 n2 d2 =>
    sy_if (cond (Nat.beq k1 1) (cond (Nat.beq k2 1) (cond (Nat.beq (sy_tg n) 0) (cond (Nat.beq (sy_tg dp) 0) (Nat.beq (sy_tg sp) 0) false) false) false) false)
      (sy_if (cond (Nat.ble n1 65535) (cond (Nat.ble n2 65535) (cond (Nat.ble (Nat.add (sy_py sp) (sy_py n)) n1) (cond (Nat.ble (Nat.add (sy_py dp) (sy_py n)) n2) (Nat.ble (sy_cats r) 50) false) false) false) false)
        (sy_force (sy_cpy d1 (sy_py sp) (sy_py dp) (sy_py n) d2) fun d => sy_go L r (h.1, sy_hp h.2 (sy_py b) (k2, n2, d)) c s))
/-- the rows of boolean[n][m]: behind the outer array -/
noncomputable def sy_rows (m : Nat) (K : Nat) (n : Nat) (t : sy_U9) : sy_U9 := Nat.rec (motive := fun _ => sy_U9) t (fun j r => sy_hp r (Nat.add (Nat.succ m) j) (5, K, 0)) n
noncomputable def sy_refs (m : Nat) (n : Nat) : Nat := Nat.rec (motive := fun _ => Nat) 0 (fun j r => sy_wr r j (sy_pk 5 (Nat.add (Nat.succ m) j))) n
noncomputable def sy_mna : sy_F := fun _ x _ L st h c s => sy_p1 st fun k r => sy_p1 r fun n r =>
  sy_if (cond (Nat.beq (sy_tg k) 0) (cond (Nat.beq (sy_tg n) 0) (cond (Nat.ble (sy_py k) 65535) (Nat.ble (Nat.add (Nat.succ h.1) (sy_py n)) 511) false) false) false)
    (sy_force (sy_pk 5 h.1) fun v => sy_force h.1 fun m => sy_force (sy_refs m (sy_py n)) fun d => sy_force (Nat.add (Nat.add c 1) (sy_py n)) fun c => sy_force (Nat.add (Nat.add s (sy_py n)) (Nat.mul (sy_py n) (sy_py k))) fun s =>
      sy_go L (v :: r) (Nat.add (Nat.succ m) (sy_py n), sy_rows m (sy_py k) (sy_py n) (sy_hp h.2 m (Nat.succ (Nat.mul 2 x), sy_py n, d))) c s)
/-- a call: x the method, y how many it takes from the stack -/
noncomputable def sy_call : sy_F := fun _ x _ L st h c s => (5, x, L, st, h, c, s)
noncomputable def sy_thr : sy_F := fun _ x _ L _ h c s => (6, x, L, [], h, Nat.add c 1, Nat.add s 6)
/-- the law's switch: x the place of its first row's list; a row each K, then the default -/
noncomputable def sy_tsw (sw : List Nat) (df : Nat) : sy_F := fun _ _ _ L st h c s => sy_p1 st fun a r => sy_if (cond (Nat.beq (sy_tg a) 0) (Nat.ble (sy_py a) 63) false) (sy_force (sy_nth df sw (sy_py a)) fun x => sy_jmp x L r h c s)
end SY
end
section
/-! printed by wip/p1/gen.py: the classes, fields, code of the methods that are reached -/
section SYT
def RX0 : String := "Manypens$Book"
def TX0 : u_T := fun k => match k with
  | 0 => ("Manypens$Book", "none", "LManypens$Edit;", true)
  | 1 => ("Manypens$Book", "edits", "[LManypens$Edit;", true)
  | 2 => ("Manypens$Book", "made", "[I", true)
  | 3 => ("Manypens$Book", "base", "[I", true)
  | 4 => ("Manypens$Book", "pieces", "LManypens$Pieces;", true)
  | 5 => ("Manypens$Book", "signs", "LManypens$Signs;", true)
  | 6 => ("Manypens$Book", "marks", "LManypens$Ints;", true)
  | _ => ("Manypens$Book", "comments", "LManypens$Ints;", true)
def tyX0 : Nat → FieldType := fun k => match k with
  | 0 => .object "Manypens$Edit"
  | 1 => .array (.object "Manypens$Edit")
  | 2 => .array .int
  | 3 => .array .int
  | 4 => .object "Manypens$Pieces"
  | 5 => .object "Manypens$Signs"
  | 6 => .object "Manypens$Ints"
  | _ => .object "Manypens$Ints"
abbrev wsX00 : List Cond := u_ws RX0 TX0 8
theorem nmX0 : ∀ a, a < 8 → ∀ b, b < 8 → a ≠ b → (TX0 a).2.1 ≠ (TX0 b).2.1 := by decide +kernel
theorem tyX0_ok : ∀ k, k < 8 → parseFieldDescriptor (TX0 k).2.2.1 = some (tyX0 k) := by decide +kernel
def RX1 : String := "Manypens$Edit"
def TX1 : u_T := fun k => match k with
  | 0 => ("Manypens$Edit", "hand", "I", true)
  | 1 => ("Manypens$Edit", "number", "I", true)
  | 2 => ("Manypens$Edit", "id", "I", true)
  | 3 => ("Manypens$Edit", "time", "I", true)
  | 4 => ("Manypens$Edit", "leaning", "[I", true)
  | 5 => ("Manypens$Edit", "group", "I", false)
  | 6 => ("Manypens$Edit", "turning", "I", false)
  | 7 => ("Manypens$Edit", "origin", "J", false)
  | 8 => ("Manypens$Edit", "firstLetter", "J", false)
  | 9 => ("Manypens$Edit", "letters", "J", false)
  | 10 => ("Manypens$Edit", "mark", "I", false)
  | 11 => ("Manypens$Edit", "isOn", "Z", false)
  | 12 => ("Manypens$Edit", "isComment", "Z", false)
  | 13 => ("Manypens$Edit", "code", "I", false)
  | 14 => ("Manypens$Edit", "from", "J", false)
  | 15 => ("Manypens$Edit", "to", "J", false)
  | _ => ("Manypens$Edit", "isToWithin", "Z", false)
def tyX1 : Nat → FieldType := fun k => match k with
  | 0 => .int
  | 1 => .int
  | 2 => .int
  | 3 => .int
  | 4 => .array .int
  | 5 => .int
  | 6 => .int
  | 7 => .long
  | 8 => .long
  | 9 => .long
  | 10 => .int
  | 11 => .boolean
  | 12 => .boolean
  | 13 => .int
  | 14 => .long
  | 15 => .long
  | _ => .boolean
abbrev wsX10 : List Cond := u_ws RX1 TX1 17
theorem nmX1 : ∀ a, a < 17 → ∀ b, b < 17 → a ≠ b → (TX1 a).2.1 ≠ (TX1 b).2.1 := by decide +kernel
theorem tyX1_ok : ∀ k, k < 17 → parseFieldDescriptor (TX1 k).2.2.1 = some (tyX1 k) := by decide +kernel
def RX2 : String := "Manypens$Hand"
def TX2 : u_T := fun k => match k with
  | 0 => ("Manypens$Hand", "view", "LManypens$View;", true)
  | 1 => ("Manypens$Hand", "isStale", "Z", false)
  | 2 => ("Manypens$Hand", "heard", "[I", true)
  | 3 => ("Manypens$Hand", "latest", "I", false)
  | 4 => ("Manypens$Hand", "past", "LManypens$Ints;", true)
  | 5 => ("Manypens$Hand", "way", "LManypens$Ints;", true)
  | 6 => ("Manypens$Hand", "waits", "[I", true)
  | 7 => ("Manypens$Hand", "undoable", "LManypens$Ints;", true)
  | 8 => ("Manypens$Hand", "redoable", "LManypens$Ints;", true)
  | 9 => ("Manypens$Hand", "sizes", "LManypens$Ints;", true)
  | 10 => ("Manypens$Hand", "isOpen", "Z", false)
  | 11 => ("Manypens$Hand", "opened", "I", false)
  | _ => ("Manypens$Hand", "cursor", "J", false)
def tyX2 : Nat → FieldType := fun k => match k with
  | 0 => .object "Manypens$View"
  | 1 => .boolean
  | 2 => .array .int
  | 3 => .int
  | 4 => .object "Manypens$Ints"
  | 5 => .object "Manypens$Ints"
  | 6 => .array .int
  | 7 => .object "Manypens$Ints"
  | 8 => .object "Manypens$Ints"
  | 9 => .object "Manypens$Ints"
  | 10 => .boolean
  | 11 => .int
  | _ => .long
abbrev wsX20 : List Cond := u_ws RX2 TX2 13
theorem nmX2 : ∀ a, a < 13 → ∀ b, b < 13 → a ≠ b → (TX2 a).2.1 ≠ (TX2 b).2.1 := by decide +kernel
theorem tyX2_ok : ∀ k, k < 13 → parseFieldDescriptor (TX2 k).2.2.1 = some (tyX2 k) := by decide +kernel
def RX3 : String := "Manypens$InTime"
def TX3 : u_T := fun k => match k with
  | 0 => ("Manypens$InTime", "book", "LManypens$Book;", true)
  | 1 => ("Manypens$InTime", "at", "[I", true)
  | _ => ("Manypens$InTime", "end", "[I", true)
def tyX3 : Nat → FieldType := fun k => match k with
  | 0 => .object "Manypens$Book"
  | 1 => .array .int
  | _ => .array .int
abbrev wsX30 : List Cond := u_ws RX3 TX3 3
theorem nmX3 : ∀ a, a < 3 → ∀ b, b < 3 → a ≠ b → (TX3 a).2.1 ≠ (TX3 b).2.1 := by decide +kernel
theorem tyX3_ok : ∀ k, k < 3 → parseFieldDescriptor (TX3 k).2.2.1 = some (tyX3 k) := by decide +kernel
def RX4 : String := "Manypens$Ints"
def TX4 : u_T := fun k => match k with
  | 0 => ("Manypens$Ints", "all", "[I", false)
  | _ => ("Manypens$Ints", "size", "I", false)
def tyX4 : Nat → FieldType := fun k => match k with
  | 0 => .array .int
  | _ => .int
abbrev wsX40 : List Cond := u_ws RX4 TX4 2
theorem nmX4 : ∀ a, a < 2 → ∀ b, b < 2 → a ≠ b → (TX4 a).2.1 ≠ (TX4 b).2.1 := by decide +kernel
theorem tyX4_ok : ∀ k, k < 2 → parseFieldDescriptor (TX4 k).2.2.1 = some (tyX4 k) := by decide +kernel
def RX5 : String := "Manypens$Longs"
def TX5 : u_T := fun k => match k with
  | 0 => ("Manypens$Longs", "all", "[J", false)
  | _ => ("Manypens$Longs", "size", "I", false)
def tyX5 : Nat → FieldType := fun k => match k with
  | 0 => .array .long
  | _ => .int
abbrev wsX50 : List Cond := u_ws RX5 TX5 2
theorem nmX5 : ∀ a, a < 2 → ∀ b, b < 2 → a ≠ b → (TX5 a).2.1 ≠ (TX5 b).2.1 := by decide +kernel
theorem tyX5_ok : ∀ k, k < 2 → parseFieldDescriptor (TX5 k).2.2.1 = some (tyX5 k) := by decide +kernel
def RX6 : String := "Manypens$Pieces"
def TX6 : u_T := fun k => match k with
  | 0 => ("Manypens$Pieces", "firsts", "LManypens$Longs;", true)
  | 1 => ("Manypens$Pieces", "sizes", "LManypens$Longs;", true)
  | 2 => ("Manypens$Pieces", "makers", "LManypens$Ints;", true)
  | 3 => ("Manypens$Pieces", "takers", "LManypens$Longs;", true)
  | 4 => ("Manypens$Pieces", "sorted", "LManypens$Ints;", true)
  | _ => ("Manypens$Pieces", "starts", "LManypens$Longs;", true)
def tyX6 : Nat → FieldType := fun k => match k with
  | 0 => .object "Manypens$Longs"
  | 1 => .object "Manypens$Longs"
  | 2 => .object "Manypens$Ints"
  | 3 => .object "Manypens$Longs"
  | 4 => .object "Manypens$Ints"
  | _ => .object "Manypens$Longs"
abbrev wsX60 : List Cond := u_ws RX6 TX6 6
theorem nmX6 : ∀ a, a < 6 → ∀ b, b < 6 → a ≠ b → (TX6 a).2.1 ≠ (TX6 b).2.1 := by decide +kernel
theorem tyX6_ok : ∀ k, k < 6 → parseFieldDescriptor (TX6 k).2.2.1 = some (tyX6 k) := by decide +kernel
def RX7 : String := "Manypens$Row"
def TX7 : u_T := fun k => match k with
  | 0 => ("Manypens$Row", "book", "LManypens$Book;", true)
  | 1 => ("Manypens$Row", "pieces", "LManypens$Pieces;", true)
  | 2 => ("Manypens$Row", "next", "LManypens$Ints;", true)
  | 3 => ("Manypens$Row", "ahead", "LManypens$Longs;", true)
  | 4 => ("Manypens$Row", "links", "I", false)
  | 5 => ("Manypens$Row", "size", "J", false)
  | _ => ("Manypens$Row", "changes", "I", false)
def tyX7 : Nat → FieldType := fun k => match k with
  | 0 => .object "Manypens$Book"
  | 1 => .object "Manypens$Pieces"
  | 2 => .object "Manypens$Ints"
  | 3 => .object "Manypens$Longs"
  | 4 => .int
  | 5 => .long
  | _ => .int
abbrev wsX70 : List Cond := u_ws RX7 TX7 7
theorem nmX7 : ∀ a, a < 7 → ∀ b, b < 7 → a ≠ b → (TX7 a).2.1 ≠ (TX7 b).2.1 := by decide +kernel
theorem tyX7_ok : ∀ k, k < 7 → parseFieldDescriptor (TX7 k).2.2.1 = some (tyX7 k) := by decide +kernel
def RX8 : String := "Manypens$Signs"
def TX8 : u_T := fun k => match k with
  | 0 => ("Manypens$Signs", "written", "LManypens$Ints;", true)
  | 1 => ("Manypens$Signs", "starts", "LManypens$Longs;", true)
  | 2 => ("Manypens$Signs", "sources", "LManypens$Longs;", true)
  | 3 => ("Manypens$Signs", "shifts", "LManypens$Longs;", true)
  | 4 => ("Manypens$Signs", "many", "J", false)
  | _ => ("Manypens$Signs", "sum", "J", false)
def tyX8 : Nat → FieldType := fun k => match k with
  | 0 => .object "Manypens$Ints"
  | 1 => .object "Manypens$Longs"
  | 2 => .object "Manypens$Longs"
  | 3 => .object "Manypens$Longs"
  | 4 => .long
  | _ => .long
abbrev wsX80 : List Cond := u_ws RX8 TX8 6
theorem nmX8 : ∀ a, a < 6 → ∀ b, b < 6 → a ≠ b → (TX8 a).2.1 ≠ (TX8 b).2.1 := by decide +kernel
theorem tyX8_ok : ∀ k, k < 6 → parseFieldDescriptor (TX8 k).2.2.1 = some (tyX8 k) := by decide +kernel
def RX9 : String := "Manypens$View"
def TX9 : u_T := fun k => match k with
  | 0 => ("Manypens$View", "book", "LManypens$Book;", true)
  | 1 => ("Manypens$View", "row", "LManypens$Row;", true)
  | 2 => ("Manypens$View", "inForce", "[J", true)
  | 3 => ("Manypens$View", "isOff", "[I", true)
  | 4 => ("Manypens$View", "text", "LManypens$Ints;", true)
  | 5 => ("Manypens$View", "places", "LManypens$Longs;", true)
  | 6 => ("Manypens$View", "aheads", "LManypens$Longs;", true)
  | 7 => ("Manypens$View", "marks", "LManypens$Ints;", true)
  | 8 => ("Manypens$View", "hung", "LManypens$Ints;", true)
  | 9 => ("Manypens$View", "firsts", "LManypens$Ints;", true)
  | 10 => ("Manypens$View", "ends", "LManypens$Ints;", true)
  | 11 => ("Manypens$View", "size", "J", false)
  | 12 => ("Manypens$View", "kept", "J", false)
  | _ => ("Manypens$View", "changes", "I", false)
def tyX9 : Nat → FieldType := fun k => match k with
  | 0 => .object "Manypens$Book"
  | 1 => .object "Manypens$Row"
  | 2 => .array .long
  | 3 => .array .int
  | 4 => .object "Manypens$Ints"
  | 5 => .object "Manypens$Longs"
  | 6 => .object "Manypens$Longs"
  | 7 => .object "Manypens$Ints"
  | 8 => .object "Manypens$Ints"
  | 9 => .object "Manypens$Ints"
  | 10 => .object "Manypens$Ints"
  | 11 => .long
  | 12 => .long
  | _ => .int
abbrev wsX90 : List Cond := u_ws RX9 TX9 14
theorem nmX9 : ∀ a, a < 14 → ∀ b, b < 14 → a ≠ b → (TX9 a).2.1 ≠ (TX9 b).2.1 := by decide +kernel
theorem tyX9_ok : ∀ k, k < 14 → parseFieldDescriptor (TX9 k).2.2.1 = some (tyX9 k) := by decide +kernel
def RX10 : String := "Manypens"
def TX10 : u_T := fun k => match k with
  | 0 => ("Manypens", "typed", "LManypens$Ints;", true)
  | 1 => ("Manypens", "book", "LManypens$Book;", true)
  | 2 => ("Manypens", "row", "LManypens$Row;", true)
  | 3 => ("Manypens", "hands", "[LManypens$Hand;", true)
  | 4 => ("Manypens", "past", "LManypens$View;", true)
  | 5 => ("Manypens", "heardThen", "[I", true)
  | 6 => ("Manypens", "anew", "LManypens$View;", true)
  | 7 => ("Manypens", "forOne", "LManypens$InTime;", true)
  | _ => ("Manypens", "forOther", "LManypens$InTime;", true)
def tyX10 : Nat → FieldType := fun k => match k with
  | 0 => .object "Manypens$Ints"
  | 1 => .object "Manypens$Book"
  | 2 => .object "Manypens$Row"
  | 3 => .array (.object "Manypens$Hand")
  | 4 => .object "Manypens$View"
  | 5 => .array .int
  | 6 => .object "Manypens$View"
  | 7 => .object "Manypens$InTime"
  | _ => .object "Manypens$InTime"
abbrev wsX100 : List Cond := u_ws RX10 TX10 9
theorem nmX10 : ∀ a, a < 9 → ∀ b, b < 9 → a ≠ b → (TX10 a).2.1 ≠ (TX10 b).2.1 := by decide +kernel
theorem tyX10_ok : ∀ k, k < 9 → parseFieldDescriptor (TX10 k).2.2.1 = some (tyX10 k) := by decide +kernel
def RX11 : String := "ManypensModel$Edit"
def TX11 : u_T := fun k => match k with
  | 0 => ("ManypensModel$Edit", "hand", "I", true)
  | 1 => ("ManypensModel$Edit", "number", "I", true)
  | 2 => ("ManypensModel$Edit", "time", "I", true)
  | 3 => ("ManypensModel$Edit", "leans", "[I", true)
  | 4 => ("ManypensModel$Edit", "kind", "C", false)
  | 5 => ("ManypensModel$Edit", "group", "LManypensModel$Group;", false)
  | 6 => ("ManypensModel$Edit", "from", "LManypensModel$Letter;", false)
  | 7 => ("ManypensModel$Edit", "to", "LManypensModel$Letter;", false)
  | 8 => ("ManypensModel$Edit", "beyond", "LManypensModel$Letter;", false)
  | 9 => ("ManypensModel$Edit", "mark", "C", false)
  | 10 => ("ManypensModel$Edit", "isOn", "Z", false)
  | 11 => ("ManypensModel$Edit", "isGrowing", "Z", false)
  | _ => ("ManypensModel$Edit", "code", "I", false)
def tyX11 : Nat → FieldType := fun k => match k with
  | 0 => .int
  | 1 => .int
  | 2 => .int
  | 3 => .array .int
  | 4 => .char
  | 5 => .object "ManypensModel$Group"
  | 6 => .object "ManypensModel$Letter"
  | 7 => .object "ManypensModel$Letter"
  | 8 => .object "ManypensModel$Letter"
  | 9 => .char
  | 10 => .boolean
  | 11 => .boolean
  | _ => .int
abbrev wsX110 : List Cond := u_ws RX11 TX11 13
theorem nmX11 : ∀ a, a < 13 → ∀ b, b < 13 → a ≠ b → (TX11 a).2.1 ≠ (TX11 b).2.1 := by decide +kernel
theorem tyX11_ok : ∀ k, k < 13 → parseFieldDescriptor (TX11 k).2.2.1 = some (tyX11 k) := by decide +kernel
def RX12 : String := "ManypensModel$Group"
def TX12 : u_T := fun k => match k with
  | 0 => ("ManypensModel$Group", "has", "[Z", true)
  | _ => ("ManypensModel$Group", "many", "I", false)
def tyX12 : Nat → FieldType := fun k => match k with
  | 0 => .array .boolean
  | _ => .int
abbrev wsX120 : List Cond := u_ws RX12 TX12 2
theorem nmX12 : ∀ a, a < 2 → ∀ b, b < 2 → a ≠ b → (TX12 a).2.1 ≠ (TX12 b).2.1 := by decide +kernel
theorem tyX12_ok : ∀ k, k < 2 → parseFieldDescriptor (TX12 k).2.2.1 = some (tyX12 k) := by decide +kernel
def RX13 : String := "ManypensModel$Hand"
def TX13 : u_T := fun k => match k with
  | 0 => ("ManypensModel$Hand", "number", "I", true)
  | 1 => ("ManypensModel$Hand", "edits", "[LManypensModel$Edit;", true)
  | 2 => ("ManypensModel$Hand", "made", "I", false)
  | 3 => ("ManypensModel$Hand", "time", "I", false)
  | 4 => ("ManypensModel$Hand", "ways", "I", false)
  | 5 => ("ManypensModel$Hand", "steps", "I", false)
  | 6 => ("ManypensModel$Hand", "undos", "I", false)
  | 7 => ("ManypensModel$Hand", "redos", "I", false)
  | 8 => ("ManypensModel$Hand", "heard", "[I", true)
  | 9 => ("ManypensModel$Hand", "base", "[I", true)
  | 10 => ("ManypensModel$Hand", "way", "[LManypensModel$Edit;", false)
  | 11 => ("ManypensModel$Hand", "step", "[LManypensModel$Edit;", false)
  | 12 => ("ManypensModel$Hand", "waits", "[[Z", true)
  | 13 => ("ManypensModel$Hand", "undo", "[LManypensModel$Group;", true)
  | 14 => ("ManypensModel$Hand", "redo", "[LManypensModel$Group;", true)
  | 15 => ("ManypensModel$Hand", "open", "LManypensModel$Group;", false)
  | 16 => ("ManypensModel$Hand", "isOpen", "Z", false)
  | _ => ("ManypensModel$Hand", "cursor", "LManypensModel$Letter;", false)
def tyX13 : Nat → FieldType := fun k => match k with
  | 0 => .int
  | 1 => .array (.object "ManypensModel$Edit")
  | 2 => .int
  | 3 => .int
  | 4 => .int
  | 5 => .int
  | 6 => .int
  | 7 => .int
  | 8 => .array .int
  | 9 => .array .int
  | 10 => .array (.object "ManypensModel$Edit")
  | 11 => .array (.object "ManypensModel$Edit")
  | 12 => .array (.array .boolean)
  | 13 => .array (.object "ManypensModel$Group")
  | 14 => .array (.object "ManypensModel$Group")
  | 15 => .object "ManypensModel$Group"
  | 16 => .boolean
  | _ => .object "ManypensModel$Letter"
abbrev wsX130 : List Cond := u_ws RX13 TX13 18
theorem nmX13 : ∀ a, a < 18 → ∀ b, b < 18 → a ≠ b → (TX13 a).2.1 ≠ (TX13 b).2.1 := by decide +kernel
theorem tyX13_ok : ∀ k, k < 18 → parseFieldDescriptor (TX13 k).2.2.1 = some (tyX13 k) := by decide +kernel
def RX14 : String := "ManypensModel$Letter"
def TX14 : u_T := fun k => match k with
  | 0 => ("ManypensModel$Letter", "by", "LManypensModel$Edit;", true)
  | 1 => ("ManypensModel$Letter", "sign", "C", true)
  | 2 => ("ManypensModel$Letter", "behind", "LManypensModel$Letter;", false)
  | 3 => ("ManypensModel$Letter", "first", "LManypensModel$Letter;", false)
  | 4 => ("ManypensModel$Letter", "next", "LManypensModel$Letter;", false)
  | 5 => ("ManypensModel$Letter", "at", "I", false)
  | 6 => ("ManypensModel$Letter", "isForgotten", "Z", false)
  | 7 => ("ManypensModel$Letter", "takers", "[LManypensModel$Edit;", false)
  | _ => ("ManypensModel$Letter", "taken", "I", false)
def tyX14 : Nat → FieldType := fun k => match k with
  | 0 => .object "ManypensModel$Edit"
  | 1 => .char
  | 2 => .object "ManypensModel$Letter"
  | 3 => .object "ManypensModel$Letter"
  | 4 => .object "ManypensModel$Letter"
  | 5 => .int
  | 6 => .boolean
  | 7 => .array (.object "ManypensModel$Edit")
  | _ => .int
abbrev wsX140 : List Cond := u_ws RX14 TX14 9
theorem nmX14 : ∀ a, a < 9 → ∀ b, b < 9 → a ≠ b → (TX14 a).2.1 ≠ (TX14 b).2.1 := by decide +kernel
theorem tyX14_ok : ∀ k, k < 9 → parseFieldDescriptor (TX14 k).2.2.1 = some (tyX14 k) := by decide +kernel
def RX15 : String := "ManypensModel"
def TX15 : u_T := fun k => match k with
  | 0 => ("ManypensModel", "hands", "[LManypensModel$Hand;", true)
  | 1 => ("ManypensModel", "begin", "LManypensModel$Letter;", true)
  | 2 => ("ManypensModel", "row", "[LManypensModel$Letter;", false)
  | 3 => ("ManypensModel", "letters", "I", false)
  | 4 => ("ManypensModel", "typedMany", "I", false)
  | 5 => ("ManypensModel", "thrown", "I", false)
  | 6 => ("ManypensModel", "isRow", "Z", false)
  | _ => ("ManypensModel", "typed", "[C", true)
def tyX15 : Nat → FieldType := fun k => match k with
  | 0 => .array (.object "ManypensModel$Hand")
  | 1 => .object "ManypensModel$Letter"
  | 2 => .array (.object "ManypensModel$Letter")
  | 3 => .int
  | 4 => .int
  | 5 => .int
  | 6 => .boolean
  | _ => .array .char
abbrev wsX150 : List Cond := u_ws RX15 TX15 8
theorem nmX15 : ∀ a, a < 8 → ∀ b, b < 8 → a ≠ b → (TX15 a).2.1 ≠ (TX15 b).2.1 := by decide +kernel
theorem tyX15_ok : ∀ k, k < 8 → parseFieldDescriptor (TX15 k).2.2.1 = some (tyX15 k) := by decide +kernel
abbrev sy_cl : List vw_C := [(RX0, TX0, 8), (RX1, TX1, 17), (RX2, TX2, 13), (RX3, TX3, 3), (RX4, TX4, 2), (RX5, TX5, 2), (RX6, TX6, 6), (RX7, TX7, 7), (RX8, TX8, 6), (RX9, TX9, 14), (RX10, TX10, 9), (RX11, TX11, 13), (RX12, TX12, 2), (RX13, TX13, 18), (RX14, TX14, 9), (RX15, TX15, 8)]
noncomputable def sy_fi (k : Nat) : Nat × Nat := sy_nth (0, 0) [(8, 209496998905353079680888503312072278779618354967872766961518542111270256138089155257171265724816196485937889868000717581886860587224043892657176830803972), (17, 12953744211667879574562445252045104495513253553030689179476724110073507898386758202079692655582855804165555571166044143725754401556527703373472618664111024220389474889266097015226590060600899185113963730408073560868168548821201754552319050917845765120772342829989755048097376240567782730609330122713589499888132923458232254464), (13, 123003155723136208567847447683223664415731869180715065944930703622926894714398620206899917739383140078649617261325817162579002548490461884254320451119169481704272288260282449704945102239842639926687537234657304469543518498500925655632357139037293448791089741828), (3, 89202980794122492566161762556524924604776452), (2, 4), (2, 4), (6, 9394170331095332911559911680102987256071352145875033440418312502493339206804047397908911996280094887478558724), (7, 2348542582773833227889480596789337027375682970157486544936037763293522740590460211610242363137738644880621572), (6, 2348542582773833227889977920025746814017838352405633365776138219444320088307900675587135522634751178256154628), (14, 123003155723136208567873494614602101346490015664381623266149995250036270954305350521429557350292776793006582720656021368390497633093725258084163539390205090817840724208118631684741939781583620350744239291480340948588980102517954541193238860867848146108601597956), (9, 989321605892418136242219581077494113220206284908159431935031842726556773193088987223376874501110269113647856969789373553891398027095005557452071480994796715559084265425600516), (13, 989321605892418136242219581077494113220206284908159431935031842726556773193088987223374885208164629967079235440796786270530996202402613185788187132521062315014509207318691840), (2, 4), (18, 1155512596125385269765799592641029651509139454687527597607284732041411284728226279947758087338152972983727561817568497507331054322338997347334159240473559732329919620390556535131581797522712842335485501475778061266949269677207850968584910290606104295375688330630033141957880543599143881641042901988620223212598413848643345597732590547272747882693415366270856915153059840), (9, 209496998905353079680844140596966345741865090946756146526930647560141855915538318081151236150611823646805364148666950890203528473033778430501622535684100), (8, 209496998905353079680844140596966345741865090946756146526930647558152562969899171512529285908857866057656747873366825338712396985098427711937950370496516)] k
noncomputable def sy_at (t : Nat) : Nat := sy_nth 99 [99, 99, 99, 99, 99, 99, 1, 2, 11, 12, 13, 14] t
-- ManypensLaw.law([I)I
set_option maxRecDepth 100000 in
noncomputable def zc_0 : List sy_E := [(0, 67, 10, 8), (3, 37, 0, 0), (4, 82, 1, 2545), (7, 22, 1, 0), (8, 67, 15, 160), (11, 37, 0, 0), (12, 82, 154, 2593), (15, 22, 2, 0), (16, 1, 16, 2), (17, 68, 1, 11), (19, 22, 3, 0), (20, 1, 16, 2), (21, 68, 5, 7), (23, 21, 4, 0), (25, 1, 0, 1), (26, 17, 5, 0), (28, 11, 5, 0), (30, 16, 0, 0), (31, 70, 0, 0), (32, 2, 112, 135), (34, 27, 0, 0), (35, 49, 1918, 3137), (38, 16, 0, 0), (39, 11, 5, 0), (41, 71, 0, 0), (42, 2, 1008, 191), (44, 29, 0, 0), (45, 90, 0, 0), (236, 16, 1, 0), (237, 16, 0, 0), (238, 11, 5, 0), (240, 1, 16, 2), (241, 26, 0, 0), (242, 71, 0, 0), (243, 35, 0, 0), (244, 16, 3, 0), (245, 84, 149, 2611), (248, 17, 6, 0), (250, 16, 2, 0), (251, 16, 0, 0), (252, 11, 5, 0), (254, 1, 16, 2), (255, 26, 0, 0), (256, 71, 0, 0), (257, 35, 0, 0), (258, 80, 214, 2690), (261, 17, 7, 0), (263, 16, 2, 0), (264, 80, 213, 2705), (267, 11, 6, 0), (269, 45, 53, 274), (272, 0, 0, 0), (273, 0, 0, 0), (274, 11, 6, 0), (276, 40, 64, 291), (279, 16, 3, 0), (280, 1, 0, 1), (281, 72, 0, 0), (282, 11, 7, 0), (284, 33, 0, 0), (285, 36, 0, 0), (286, 39, 64, 291), (289, 0, 0, 0), (290, 0, 0, 0), (291, 55, 1916, 3131), (294, 16, 1, 0), (295, 80, 11, 2753), (298, 16, 2, 0), (299, 80, 166, 2801), (302, 45, 1916, 3131), (305, 0, 0, 0), (306, 0, 0, 0), (307, 16, 1, 0), (308, 16, 0, 0), (309, 11, 5, 0), (311, 1, 16, 2), (312, 26, 0, 0), (313, 71, 0, 0), (314, 16, 0, 0), (315, 11, 5, 0), (317, 1, 32, 3), (318, 26, 0, 0), (319, 71, 0, 0), (320, 16, 3, 0), (321, 84, 139, 2820), (324, 17, 6, 0), (326, 16, 2, 0), (327, 16, 0, 0), (328, 11, 5, 0), (330, 1, 16, 2), (331, 26, 0, 0), (332, 71, 0, 0), (333, 16, 0, 0), (334, 11, 5, 0), (336, 1, 32, 3), (337, 26, 0, 0), (338, 71, 0, 0), (339, 80, 199, 2867), (342, 17, 7, 0), (344, 16, 2, 0), (345, 80, 213, 2705), (348, 11, 6, 0), (350, 45, 105, 355), (353, 0, 0, 0), (354, 0, 0, 0), (355, 11, 6, 0), (357, 40, 116, 372), (360, 0, 0, 0), (361, 0, 0, 0), (362, 0, 0, 0), (363, 0, 0, 0), (365, 0, 0, 0), (366, 0, 0, 0), (367, 0, 0, 0), (370, 0, 0, 0), (371, 0, 0, 0), (372, 55, 1916, 3131), (375, 16, 1, 0), (376, 16, 0, 0), (377, 11, 5, 0), (379, 1, 16, 2), (380, 26, 0, 0), (381, 71, 0, 0), (382, 16, 0, 0), (383, 11, 5, 0), (385, 1, 32, 3), (386, 26, 0, 0), (387, 71, 0, 0), (388, 16, 0, 0), (389, 11, 5, 0), (391, 1, 48, 4), (392, 26, 0, 0), (393, 71, 0, 0), (394, 16, 3, 0), (395, 84, 148, 2885), (398, 17, 6, 0), (400, 16, 2, 0), (401, 16, 0, 0), (402, 11, 5, 0), (404, 1, 16, 2), (405, 26, 0, 0), (406, 71, 0, 0), (407, 16, 0, 0), (408, 11, 5, 0), (410, 1, 32, 3), (411, 26, 0, 0), (412, 71, 0, 0), (413, 16, 0, 0), (414, 11, 5, 0), (416, 1, 48, 4), (417, 26, 0, 0), (418, 71, 0, 0), (419, 80, 209, 2932), (422, 17, 7, 0), (424, 16, 2, 0), (425, 80, 213, 2705), (428, 11, 6, 0), (430, 45, 160, 435), (433, 0, 0, 0), (434, 0, 0, 0), (435, 11, 6, 0), (437, 40, 171, 452), (440, 0, 0, 0), (441, 0, 0, 0), (442, 0, 0, 0), (443, 0, 0, 0), (445, 0, 0, 0), (446, 0, 0, 0), (447, 0, 0, 0), (450, 0, 0, 0), (451, 0, 0, 0), (452, 55, 1916, 3131), (455, 16, 1, 0), (456, 16, 0, 0), (457, 11, 5, 0), (459, 1, 16, 2), (460, 26, 0, 0), (461, 71, 0, 0), (462, 16, 0, 0), (463, 11, 5, 0), (465, 1, 32, 3), (466, 26, 0, 0), (467, 71, 0, 0), (468, 16, 0, 0), (469, 11, 5, 0), (471, 1, 48, 4), (472, 26, 0, 0), (473, 71, 0, 0), (474, 16, 3, 0), (475, 84, 142, 2949), (478, 17, 6, 0), (480, 16, 2, 0), (481, 16, 0, 0), (482, 11, 5, 0), (484, 1, 16, 2), (485, 26, 0, 0), (486, 71, 0, 0), (487, 16, 0, 0), (488, 11, 5, 0), (490, 1, 32, 3), (491, 26, 0, 0), (492, 71, 0, 0), (493, 16, 0, 0), (494, 11, 5, 0), (496, 1, 48, 4), (497, 26, 0, 0), (498, 71, 0, 0), (499, 80, 202, 2980), (502, 17, 7, 0), (504, 16, 2, 0), (505, 80, 213, 2705), (508, 11, 6, 0), (510, 45, 215, 515), (513, 0, 0, 0), (514, 0, 0, 0), (515, 11, 6, 0), (517, 40, 226, 532), (520, 0, 0, 0), (521, 0, 0, 0), (522, 0, 0, 0), (523, 0, 0, 0), (525, 0, 0, 0), (526, 0, 0, 0), (527, 0, 0, 0), (530, 0, 0, 0), (531, 0, 0, 0), (532, 55, 1916, 3131), (535, 16, 1, 0), (536, 16, 0, 0), (537, 11, 5, 0), (539, 1, 16, 2), (540, 26, 0, 0), (541, 71, 0, 0), (542, 16, 0, 0), (543, 11, 5, 0), (545, 1, 32, 3), (546, 26, 0, 0), (547, 71, 0, 0), (548, 16, 0, 0), (549, 11, 5, 0), (551, 1, 48, 4), (552, 26, 0, 0), (553, 71, 0, 0), (554, 16, 0, 0), (555, 11, 5, 0), (557, 1, 64, 5), (558, 26, 0, 0), (559, 71, 0, 0), (560, 16, 3, 0), (561, 84, 135, 2998), (564, 17, 6, 0), (566, 16, 2, 0), (567, 16, 0, 0), (568, 11, 5, 0), (570, 1, 16, 2), (571, 26, 0, 0), (572, 71, 0, 0), (573, 16, 0, 0), (574, 11, 5, 0), (576, 1, 32, 3), (577, 26, 0, 0), (578, 71, 0, 0), (579, 16, 0, 0), (580, 11, 5, 0), (582, 1, 48, 4), (583, 26, 0, 0), (584, 71, 0, 0), (585, 16, 0, 0), (586, 11, 5, 0), (588, 1, 64, 5), (589, 26, 0, 0), (590, 71, 0, 0), (591, 80, 194, 3045), (594, 17, 7, 0), (596, 16, 2, 0), (597, 80, 213, 2705), (600, 11, 6, 0), (602, 45, 280, 607), (605, 0, 0, 0), (606, 0, 0, 0), (607, 11, 6, 0), (609, 40, 291, 624), (612, 0, 0, 0), (613, 0, 0, 0), (614, 0, 0, 0), (615, 0, 0, 0), (617, 0, 0, 0), (618, 0, 0, 0), (619, 0, 0, 0), (622, 0, 0, 0), (623, 0, 0, 0), (624, 55, 1916, 3131), (627, 16, 1, 0), (628, 16, 0, 0), (629, 11, 5, 0), (631, 1, 16, 2), (632, 26, 0, 0), (633, 71, 0, 0), (634, 16, 0, 0), (635, 11, 5, 0), (637, 1, 32, 3), (638, 26, 0, 0), (639, 71, 0, 0), (640, 16, 0, 0), (641, 11, 5, 0), (643, 1, 48, 4), (644, 26, 0, 0), (645, 71, 0, 0), (646, 16, 0, 0), (647, 11, 5, 0), (649, 1, 64, 5), (650, 26, 0, 0), (651, 71, 0, 0), (652, 35, 0, 0), (653, 16, 0, 0), (654, 11, 5, 0), (656, 1, 80, 6), (657, 26, 0, 0), (658, 71, 0, 0), (659, 39, 322, 666), (662, 1, 16, 2), (663, 55, 323, 667), (666, 1, 0, 1), (667, 16, 0, 0), (668, 11, 5, 0), (670, 2, 96, 134), (672, 26, 0, 0), (673, 71, 0, 0), (674, 39, 331, 681), (677, 1, 16, 2), (678, 55, 332, 682), (681, 1, 0, 1), (682, 16, 3, 0), (683, 84, 132, 3064), (686, 17, 6, 0), (688, 16, 2, 0), (689, 16, 0, 0), (690, 11, 5, 0), (692, 1, 16, 2), (693, 26, 0, 0), (694, 71, 0, 0), (695, 16, 0, 0), (696, 11, 5, 0), (698, 1, 32, 3), (699, 26, 0, 0), (700, 71, 0, 0), (701, 16, 0, 0), (702, 11, 5, 0), (704, 1, 48, 4), (705, 26, 0, 0), (706, 71, 0, 0), (707, 16, 0, 0), (708, 11, 5, 0), (710, 1, 64, 5), (711, 26, 0, 0), (712, 71, 0, 0), (713, 35, 0, 0), (714, 16, 0, 0), (715, 11, 5, 0), (717, 1, 80, 6), (718, 26, 0, 0), (719, 71, 0, 0), (720, 39, 365, 727), (723, 1, 16, 2), (724, 55, 366, 728), (727, 1, 0, 1), (728, 16, 0, 0), (729, 11, 5, 0), (731, 2, 96, 134), (733, 26, 0, 0), (734, 71, 0, 0), (735, 39, 374, 742), (738, 1, 16, 2), (739, 55, 375, 743), (742, 1, 0, 1), (743, 80, 191, 3111), (746, 17, 7, 0), (748, 16, 2, 0), (749, 80, 213, 2705), (752, 11, 6, 0), (754, 45, 383, 759), (757, 0, 0, 0), (758, 0, 0, 0), (759, 11, 6, 0), (761, 40, 394, 776), (764, 0, 0, 0), (765, 0, 0, 0), (766, 0, 0, 0), (767, 0, 0, 0), (769, 0, 0, 0), (770, 0, 0, 0), (771, 0, 0, 0), (774, 0, 0, 0), (775, 0, 0, 0), (776, 55, 1916, 3131), (779, 16, 1, 0), (780, 16, 0, 0), (781, 11, 5, 0), (783, 1, 16, 2), (784, 26, 0, 0), (785, 71, 0, 0), (786, 16, 0, 0), (787, 11, 5, 0), (789, 1, 32, 3), (790, 26, 0, 0), (791, 71, 0, 0), (792, 16, 0, 0), (793, 11, 5, 0), (795, 1, 48, 4), (796, 26, 0, 0), (797, 71, 0, 0), (798, 16, 0, 0), (799, 11, 5, 0), (801, 1, 64, 5), (802, 26, 0, 0), (803, 71, 0, 0), (804, 16, 3, 0), (805, 84, 115, 3126), (808, 17, 6, 0), (810, 16, 2, 0), (811, 16, 0, 0), (812, 11, 5, 0), (814, 1, 16, 2), (815, 26, 0, 0), (816, 71, 0, 0), (817, 16, 0, 0), (818, 11, 5, 0), (820, 1, 32, 3), (821, 26, 0, 0), (822, 71, 0, 0), (823, 16, 0, 0), (824, 11, 5, 0), (826, 1, 48, 4), (827, 26, 0, 0), (828, 71, 0, 0), (829, 16, 0, 0), (830, 11, 5, 0), (832, 1, 64, 5), (833, 26, 0, 0), (834, 71, 0, 0), (835, 80, 160, 3157), (838, 17, 7, 0), (840, 16, 2, 0), (841, 80, 213, 2705), (844, 11, 6, 0), (846, 45, 448, 851), (849, 0, 0, 0), (850, 0, 0, 0), (851, 11, 6, 0), (853, 40, 459, 868), (856, 0, 0, 0), (857, 0, 0, 0), (858, 0, 0, 0), (859, 0, 0, 0), (861, 0, 0, 0), (862, 0, 0, 0), (863, 0, 0, 0), (866, 0, 0, 0), (867, 0, 0, 0), (868, 55, 1916, 3131), (871, 16, 1, 0), (872, 16, 0, 0), (873, 11, 5, 0), (875, 1, 16, 2), (876, 26, 0, 0), (877, 71, 0, 0), (878, 16, 3, 0), (879, 84, 153, 3171), (882, 17, 6, 0), (884, 16, 2, 0), (885, 16, 0, 0), (886, 11, 5, 0), (888, 1, 16, 2), (889, 26, 0, 0), (890, 71, 0, 0), (891, 80, 218, 3218), (894, 17, 7, 0), (896, 16, 2, 0), (897, 80, 213, 2705), (900, 11, 6, 0), (902, 45, 483, 907), (905, 0, 0, 0), (906, 0, 0, 0), (907, 11, 6, 0), (909, 40, 494, 924), (912, 0, 0, 0), (913, 0, 0, 0), (914, 0, 0, 0), (915, 0, 0, 0), (917, 0, 0, 0), (918, 0, 0, 0), (919, 0, 0, 0), (922, 0, 0, 0), (923, 0, 0, 0), (924, 55, 1916, 3131), (927, 16, 1, 0), (928, 16, 0, 0), (929, 11, 5, 0), (931, 1, 16, 2), (932, 26, 0, 0), (933, 71, 0, 0), (934, 16, 3, 0), (935, 84, 137, 3235), (938, 17, 6, 0), (940, 16, 2, 0), (941, 16, 0, 0), (942, 11, 5, 0), (944, 1, 16, 2), (945, 26, 0, 0), (946, 71, 0, 0), (947, 80, 196, 3266), (950, 17, 7, 0), (952, 16, 2, 0), (953, 80, 213, 2705), (956, 11, 6, 0), (958, 45, 518, 963), (961, 0, 0, 0), (962, 0, 0, 0), (963, 11, 6, 0), (965, 40, 529, 980), (968, 16, 3, 0), (969, 1, 0, 1), (970, 72, 0, 0), (971, 11, 7, 0), (973, 33, 0, 0), (974, 36, 0, 0), (975, 39, 529, 980), (978, 0, 0, 0), (979, 0, 0, 0), (980, 55, 1916, 3131), (983, 16, 1, 0), (984, 16, 0, 0), (985, 11, 5, 0), (987, 1, 16, 2), (988, 26, 0, 0), (989, 71, 0, 0), (990, 16, 3, 0), (991, 84, 114, 3283), (994, 17, 6, 0), (996, 16, 2, 0), (997, 16, 0, 0), (998, 11, 5, 0), (1000, 1, 16, 2), (1001, 26, 0, 0), (1002, 71, 0, 0), (1003, 80, 158, 3314), (1006, 17, 7, 0), (1008, 16, 2, 0), (1009, 80, 213, 2705), (1012, 11, 6, 0), (1014, 45, 553, 1019), (1017, 0, 0, 0), (1018, 0, 0, 0), (1019, 11, 6, 0), (1021, 40, 564, 1036), (1024, 0, 0, 0), (1025, 0, 0, 0), (1026, 0, 0, 0), (1027, 0, 0, 0), (1029, 0, 0, 0), (1030, 0, 0, 0), (1031, 0, 0, 0), (1034, 0, 0, 0), (1035, 0, 0, 0), (1036, 55, 1916, 3131), (1039, 16, 1, 0), (1040, 16, 0, 0), (1041, 11, 5, 0), (1043, 1, 16, 2), (1044, 26, 0, 0), (1045, 71, 0, 0), (1046, 16, 3, 0), (1047, 84, 150, 3331), (1050, 17, 6, 0), (1052, 16, 2, 0), (1053, 16, 0, 0), (1054, 11, 5, 0), (1056, 1, 16, 2), (1057, 26, 0, 0), (1058, 71, 0, 0), (1059, 80, 215, 3362), (1062, 17, 7, 0), (1064, 16, 2, 0), (1065, 80, 213, 2705), (1068, 11, 6, 0), (1070, 45, 588, 1075), (1073, 0, 0, 0), (1074, 0, 0, 0), (1075, 11, 6, 0), (1077, 40, 599, 1092), (1080, 0, 0, 0), (1081, 0, 0, 0), (1082, 0, 0, 0), (1083, 0, 0, 0), (1085, 0, 0, 0), (1086, 0, 0, 0), (1087, 0, 0, 0), (1090, 0, 0, 0), (1091, 0, 0, 0), (1092, 55, 1916, 3131), (1095, 16, 1, 0), (1096, 16, 0, 0), (1097, 11, 5, 0), (1099, 1, 16, 2), (1100, 26, 0, 0), (1101, 71, 0, 0), (1102, 16, 3, 0), (1103, 84, 140, 3379), (1106, 17, 6, 0), (1108, 16, 2, 0), (1109, 16, 0, 0), (1110, 11, 5, 0), (1112, 1, 16, 2), (1113, 26, 0, 0), (1114, 71, 0, 0), (1115, 80, 200, 3410), (1118, 17, 7, 0), (1120, 16, 2, 0), (1121, 80, 213, 2705), (1124, 11, 6, 0), (1126, 45, 623, 1131), (1129, 0, 0, 0), (1130, 0, 0, 0), (1131, 11, 6, 0), (1133, 40, 634, 1148), (1136, 0, 0, 0), (1137, 0, 0, 0), (1138, 0, 0, 0), (1139, 0, 0, 0), (1141, 0, 0, 0), (1142, 0, 0, 0), (1143, 0, 0, 0), (1146, 0, 0, 0), (1147, 0, 0, 0), (1148, 55, 1916, 3131), (1151, 16, 1, 0), (1152, 16, 0, 0), (1153, 11, 5, 0), (1155, 1, 16, 2), (1156, 26, 0, 0), (1157, 71, 0, 0), (1158, 16, 0, 0), (1159, 11, 5, 0), (1161, 1, 32, 3), (1162, 26, 0, 0), (1163, 71, 0, 0), (1164, 39, 649, 1171), (1167, 1, 16, 2), (1168, 55, 650, 1172), (1171, 1, 0, 1), (1172, 16, 3, 0), (1173, 84, 122, 3428), (1176, 17, 6, 0), (1178, 16, 2, 0), (1179, 16, 0, 0), (1180, 11, 5, 0), (1182, 1, 16, 2), (1183, 26, 0, 0), (1184, 71, 0, 0), (1185, 16, 0, 0), (1186, 11, 5, 0), (1188, 1, 32, 3), (1189, 26, 0, 0), (1190, 71, 0, 0), (1191, 39, 667, 1198), (1194, 1, 16, 2), (1195, 55, 668, 1199), (1198, 1, 0, 1), (1199, 80, 168, 3475), (1202, 17, 7, 0), (1204, 16, 2, 0), (1205, 80, 213, 2705), (1208, 11, 6, 0), (1210, 45, 676, 1215), (1213, 0, 0, 0), (1214, 0, 0, 0), (1215, 11, 6, 0), (1217, 40, 687, 1232), (1220, 16, 3, 0), (1221, 1, 0, 1), (1222, 72, 0, 0), (1223, 11, 7, 0), (1225, 33, 0, 0), (1226, 36, 0, 0), (1227, 39, 687, 1232), (1230, 0, 0, 0), (1231, 0, 0, 0), (1232, 55, 1916, 3131), (1235, 16, 1, 0), (1236, 16, 0, 0), (1237, 11, 5, 0), (1239, 1, 16, 2), (1240, 26, 0, 0), (1241, 71, 0, 0), (1242, 16, 3, 0), (1243, 84, 129, 3491), (1246, 17, 6, 0), (1248, 16, 2, 0), (1249, 16, 0, 0), (1250, 11, 5, 0), (1252, 1, 16, 2), (1253, 26, 0, 0), (1254, 71, 0, 0), (1255, 80, 187, 3522), (1258, 17, 7, 0), (1260, 16, 2, 0), (1261, 80, 213, 2705), (1264, 11, 6, 0), (1266, 45, 711, 1271), (1269, 0, 0, 0), (1270, 0, 0, 0), (1271, 11, 6, 0), (1273, 40, 722, 1288), (1276, 16, 3, 0), (1277, 1, 0, 1), (1278, 72, 0, 0), (1279, 11, 7, 0), (1281, 33, 0, 0), (1282, 36, 0, 0), (1283, 39, 722, 1288), (1286, 0, 0, 0), (1287, 0, 0, 0), (1288, 55, 1916, 3131), (1291, 16, 1, 0), (1292, 16, 0, 0), (1293, 11, 5, 0), (1295, 1, 16, 2), (1296, 26, 0, 0), (1297, 71, 0, 0), (1298, 16, 0, 0), (1299, 11, 5, 0), (1301, 1, 32, 3), (1302, 26, 0, 0), (1303, 71, 0, 0), (1304, 16, 3, 0), (1305, 84, 145, 3540), (1308, 17, 6, 0), (1310, 16, 2, 0), (1311, 16, 0, 0), (1312, 11, 5, 0), (1314, 1, 16, 2), (1315, 26, 0, 0), (1316, 71, 0, 0), (1317, 16, 0, 0), (1318, 11, 5, 0), (1320, 1, 32, 3), (1321, 26, 0, 0), (1322, 71, 0, 0), (1323, 80, 206, 3571), (1326, 17, 7, 0), (1328, 16, 2, 0), (1329, 80, 213, 2705), (1332, 11, 6, 0), (1334, 45, 756, 1339), (1337, 0, 0, 0), (1338, 0, 0, 0), (1339, 11, 6, 0), (1341, 40, 767, 1356), (1344, 0, 0, 0), (1345, 0, 0, 0), (1346, 0, 0, 0), (1347, 0, 0, 0), (1349, 0, 0, 0), (1350, 0, 0, 0), (1351, 0, 0, 0), (1354, 0, 0, 0), (1355, 0, 0, 0), (1356, 55, 1916, 3131), (1359, 16, 1, 0), (1360, 16, 0, 0), (1361, 11, 5, 0), (1363, 1, 16, 2), (1364, 26, 0, 0), (1365, 71, 0, 0), (1366, 16, 0, 0), (1367, 11, 5, 0), (1369, 1, 32, 3), (1370, 26, 0, 0), (1371, 71, 0, 0), (1372, 16, 3, 0), (1373, 84, 113, 3588), (1376, 17, 6, 0), (1378, 16, 2, 0), (1379, 16, 0, 0), (1380, 11, 5, 0), (1382, 1, 16, 2), (1383, 26, 0, 0), (1384, 71, 0, 0), (1385, 16, 0, 0), (1386, 11, 5, 0), (1388, 1, 32, 3), (1389, 26, 0, 0), (1390, 71, 0, 0), (1391, 80, 156, 3619), (1394, 17, 7, 0), (1396, 16, 2, 0), (1397, 80, 213, 2705), (1400, 11, 6, 0), (1402, 45, 801, 1407), (1405, 0, 0, 0), (1406, 0, 0, 0), (1407, 11, 6, 0), (1409, 40, 812, 1424), (1412, 0, 0, 0), (1413, 0, 0, 0), (1414, 0, 0, 0), (1415, 0, 0, 0), (1417, 0, 0, 0), (1418, 0, 0, 0), (1419, 0, 0, 0), (1422, 0, 0, 0), (1423, 0, 0, 0), (1424, 55, 1916, 3131), (1427, 16, 1, 0), (1428, 16, 0, 0), (1429, 11, 5, 0), (1431, 1, 16, 2), (1432, 26, 0, 0), (1433, 71, 0, 0), (1434, 16, 0, 0), (1435, 11, 5, 0), (1437, 1, 32, 3), (1438, 26, 0, 0), (1439, 71, 0, 0), (1440, 16, 0, 0), (1441, 11, 5, 0), (1443, 1, 48, 4), (1444, 26, 0, 0), (1445, 71, 0, 0), (1446, 35, 0, 0), (1447, 16, 3, 0), (1448, 84, 125, 3637), (1451, 17, 6, 0), (1453, 16, 2, 0), (1454, 16, 0, 0), (1455, 11, 5, 0), (1457, 1, 16, 2), (1458, 26, 0, 0), (1459, 71, 0, 0), (1460, 16, 0, 0), (1461, 11, 5, 0), (1463, 1, 32, 3), (1464, 26, 0, 0), (1465, 71, 0, 0), (1466, 16, 0, 0), (1467, 11, 5, 0), (1469, 1, 48, 4), (1470, 26, 0, 0), (1471, 71, 0, 0), (1472, 35, 0, 0), (1473, 80, 176, 3684), (1476, 17, 7, 0), (1478, 16, 2, 0), (1479, 80, 213, 2705), (1482, 11, 6, 0), (1484, 45, 858, 1489), (1487, 0, 0, 0), (1488, 0, 0, 0), (1489, 11, 6, 0), (1491, 40, 872, 1513), (1494, 0, 0, 0), (1495, 0, 0, 0), (1496, 0, 0, 0), (1497, 0, 0, 0), (1499, 0, 0, 0), (1502, 0, 0, 0), (1503, 0, 0, 0), (1506, 0, 0, 0), (1507, 0, 0, 0), (1508, 0, 0, 0), (1511, 0, 0, 0), (1512, 0, 0, 0), (1513, 55, 1916, 3131), (1516, 16, 1, 0), (1517, 16, 0, 0), (1518, 11, 5, 0), (1520, 1, 16, 2), (1521, 26, 0, 0), (1522, 71, 0, 0), (1523, 16, 3, 0), (1524, 84, 143, 3699), (1527, 17, 6, 0), (1529, 16, 2, 0), (1530, 16, 0, 0), (1531, 11, 5, 0), (1533, 1, 16, 2), (1534, 26, 0, 0), (1535, 71, 0, 0), (1536, 80, 203, 3730), (1539, 17, 7, 0), (1541, 16, 2, 0), (1542, 80, 213, 2705), (1545, 11, 6, 0), (1547, 45, 896, 1552), (1550, 0, 0, 0), (1551, 0, 0, 0), (1552, 11, 6, 0), (1554, 40, 907, 1569), (1557, 16, 3, 0), (1558, 1, 0, 1), (1559, 72, 0, 0), (1560, 11, 7, 0), (1562, 33, 0, 0), (1563, 36, 0, 0), (1564, 39, 907, 1569), (1567, 0, 0, 0), (1568, 0, 0, 0), (1569, 55, 1916, 3131), (1572, 16, 1, 0), (1573, 16, 0, 0), (1574, 11, 5, 0), (1576, 1, 16, 2), (1577, 26, 0, 0), (1578, 71, 0, 0), (1579, 16, 3, 0), (1580, 84, 117, 3747), (1583, 17, 6, 0), (1585, 16, 2, 0), (1586, 16, 0, 0), (1587, 11, 5, 0), (1589, 1, 16, 2), (1590, 26, 0, 0), (1591, 71, 0, 0), (1592, 80, 162, 3778), (1595, 17, 7, 0), (1597, 16, 2, 0), (1598, 80, 213, 2705), (1601, 11, 6, 0), (1603, 45, 931, 1608), (1606, 0, 0, 0), (1607, 0, 0, 0), (1608, 11, 6, 0), (1610, 40, 942, 1625), (1613, 16, 3, 0), (1614, 1, 0, 1), (1615, 72, 0, 0), (1616, 11, 7, 0), (1618, 33, 0, 0), (1619, 36, 0, 0), (1620, 39, 942, 1625), (1623, 0, 0, 0), (1624, 0, 0, 0), (1625, 55, 1916, 3131), (1628, 16, 1, 0), (1629, 16, 0, 0), (1630, 11, 5, 0), (1632, 1, 16, 2), (1633, 26, 0, 0), (1634, 71, 0, 0), (1635, 16, 0, 0), (1636, 11, 5, 0), (1638, 1, 32, 3), (1639, 26, 0, 0), (1640, 71, 0, 0), (1641, 16, 0, 0), (1642, 11, 5, 0), (1644, 1, 48, 4), (1645, 26, 0, 0), (1646, 71, 0, 0), (1647, 35, 0, 0), (1648, 16, 3, 0), (1649, 84, 116, 3797), (1652, 17, 6, 0), (1654, 16, 2, 0), (1655, 16, 0, 0), (1656, 11, 5, 0), (1658, 1, 16, 2), (1659, 26, 0, 0), (1660, 71, 0, 0), (1661, 16, 0, 0), (1662, 11, 5, 0), (1664, 1, 32, 3), (1665, 26, 0, 0), (1666, 71, 0, 0), (1667, 16, 0, 0), (1668, 11, 5, 0), (1670, 1, 48, 4), (1671, 26, 0, 0), (1672, 71, 0, 0), (1673, 35, 0, 0), (1674, 80, 161, 3828), (1677, 17, 7, 0), (1679, 16, 2, 0), (1680, 80, 213, 2705), (1683, 11, 6, 0), (1685, 45, 988, 1690), (1688, 0, 0, 0), (1689, 0, 0, 0), (1690, 11, 6, 0), (1692, 40, 999, 1707), (1695, 0, 0, 0), (1696, 0, 0, 0), (1697, 0, 0, 0), (1698, 0, 0, 0), (1700, 0, 0, 0), (1701, 0, 0, 0), (1702, 0, 0, 0), (1705, 0, 0, 0), (1706, 0, 0, 0), (1707, 55, 1916, 3131), (1710, 16, 1, 0), (1711, 16, 0, 0), (1712, 11, 5, 0), (1714, 1, 16, 2), (1715, 26, 0, 0), (1716, 71, 0, 0), (1717, 16, 0, 0), (1718, 11, 5, 0), (1720, 1, 32, 3), (1721, 26, 0, 0), (1722, 71, 0, 0), (1723, 16, 3, 0), (1724, 84, 144, 3844), (1727, 17, 6, 0), (1729, 16, 2, 0), (1730, 16, 0, 0), (1731, 11, 5, 0), (1733, 1, 16, 2), (1734, 26, 0, 0), (1735, 71, 0, 0), (1736, 16, 0, 0), (1737, 11, 5, 0), (1739, 1, 32, 3), (1740, 26, 0, 0), (1741, 71, 0, 0), (1742, 80, 205, 3875), (1745, 17, 7, 0), (1747, 16, 2, 0), (1748, 80, 213, 2705), (1751, 11, 6, 0), (1753, 45, 1033, 1758), (1756, 0, 0, 0), (1757, 0, 0, 0), (1758, 11, 6, 0), (1760, 40, 1044, 1775), (1763, 16, 3, 0), (1764, 1, 0, 1), (1765, 72, 0, 0), (1766, 11, 7, 0), (1768, 33, 0, 0), (1769, 36, 0, 0), (1770, 39, 1044, 1775), (1773, 0, 0, 0), (1774, 0, 0, 0), (1775, 55, 1916, 3131), (1778, 16, 1, 0), (1779, 16, 0, 0), (1780, 11, 5, 0), (1782, 1, 16, 2), (1783, 26, 0, 0), (1784, 71, 0, 0), (1785, 16, 3, 0), (1786, 84, 118, 3891), (1789, 17, 6, 0), (1791, 16, 2, 0), (1792, 16, 0, 0), (1793, 11, 5, 0), (1795, 1, 16, 2), (1796, 26, 0, 0), (1797, 71, 0, 0), (1798, 80, 163, 3922), (1801, 17, 7, 0), (1803, 16, 2, 0), (1804, 80, 213, 2705), (1807, 11, 6, 0), (1809, 45, 1068, 1814), (1812, 0, 0, 0), (1813, 0, 0, 0), (1814, 11, 6, 0), (1816, 40, 1079, 1831), (1819, 16, 3, 0), (1820, 1, 0, 1), (1821, 72, 0, 0), (1822, 11, 7, 0), (1824, 33, 0, 0), (1825, 36, 0, 0), (1826, 39, 1079, 1831), (1829, 0, 0, 0), (1830, 0, 0, 0), (1831, 55, 1916, 3131), (1834, 16, 1, 0), (1835, 16, 0, 0), (1836, 11, 5, 0), (1838, 1, 16, 2), (1839, 26, 0, 0), (1840, 71, 0, 0), (1841, 16, 3, 0), (1842, 84, 136, 3939), (1845, 17, 6, 0), (1847, 16, 2, 0), (1848, 16, 0, 0), (1849, 11, 5, 0), (1851, 1, 16, 2), (1852, 26, 0, 0), (1853, 71, 0, 0), (1854, 80, 195, 3970), (1857, 17, 7, 0), (1859, 16, 2, 0), (1860, 80, 213, 2705), (1863, 11, 6, 0), (1865, 45, 1103, 1870), (1868, 0, 0, 0), (1869, 0, 0, 0), (1870, 11, 6, 0), (1872, 40, 1114, 1887), (1875, 16, 3, 0), (1876, 1, 0, 1), (1877, 72, 0, 0), (1878, 11, 7, 0), (1880, 33, 0, 0), (1881, 36, 0, 0), (1882, 39, 1114, 1887), (1885, 0, 0, 0), (1886, 0, 0, 0), (1887, 55, 1916, 3131), (1890, 16, 1, 0), (1891, 16, 0, 0), (1892, 11, 5, 0), (1894, 1, 16, 2), (1895, 26, 0, 0), (1896, 71, 0, 0), (1897, 16, 0, 0), (1898, 11, 5, 0), (1900, 1, 32, 3), (1901, 26, 0, 0), (1902, 71, 0, 0), (1903, 16, 3, 0), (1904, 84, 152, 3988), (1907, 17, 6, 0), (1909, 16, 2, 0), (1910, 16, 0, 0), (1911, 11, 5, 0), (1913, 1, 16, 2), (1914, 26, 0, 0), (1915, 71, 0, 0), (1916, 16, 0, 0), (1917, 11, 5, 0), (1919, 1, 32, 3), (1920, 26, 0, 0), (1921, 71, 0, 0), (1922, 80, 217, 4019), (1925, 17, 7, 0), (1927, 16, 2, 0), (1928, 80, 213, 2705), (1931, 11, 6, 0), (1933, 45, 1148, 1938), (1936, 0, 0, 0), (1937, 0, 0, 0), (1938, 11, 6, 0), (1940, 40, 1159, 1955), (1943, 0, 0, 0), (1944, 0, 0, 0), (1945, 0, 0, 0), (1946, 0, 0, 0), (1948, 0, 0, 0), (1949, 0, 0, 0), (1950, 0, 0, 0), (1953, 0, 0, 0), (1954, 0, 0, 0), (1955, 55, 1916, 3131), (1958, 16, 1, 0), (1959, 16, 0, 0), (1960, 11, 5, 0), (1962, 1, 16, 2), (1963, 26, 0, 0), (1964, 71, 0, 0), (1965, 16, 0, 0), (1966, 11, 5, 0), (1968, 1, 32, 3), (1969, 26, 0, 0), (1970, 71, 0, 0), (1971, 16, 3, 0), (1972, 84, 119, 4036), (1975, 17, 6, 0), (1977, 16, 2, 0), (1978, 16, 0, 0), (1979, 11, 5, 0), (1981, 1, 16, 2), (1982, 26, 0, 0), (1983, 71, 0, 0), (1984, 16, 0, 0), (1985, 11, 5, 0), (1987, 1, 32, 3), (1988, 26, 0, 0), (1989, 71, 0, 0), (1990, 80, 164, 4067), (1993, 17, 7, 0), (1995, 16, 2, 0), (1996, 80, 213, 2705), (1999, 11, 6, 0), (2001, 45, 1193, 2006), (2004, 0, 0, 0), (2005, 0, 0, 0), (2006, 11, 6, 0), (2008, 40, 1204, 2023), (2011, 0, 0, 0), (2012, 0, 0, 0), (2013, 0, 0, 0), (2014, 0, 0, 0), (2016, 0, 0, 0), (2017, 0, 0, 0), (2018, 0, 0, 0), (2021, 0, 0, 0), (2022, 0, 0, 0), (2023, 55, 1916, 3131), (2026, 16, 1, 0), (2027, 16, 0, 0), (2028, 11, 5, 0), (2030, 1, 16, 2), (2031, 26, 0, 0), (2032, 71, 0, 0), (2033, 16, 0, 0), (2034, 11, 5, 0), (2036, 1, 32, 3), (2037, 26, 0, 0), (2038, 71, 0, 0), (2039, 16, 3, 0), (2040, 84, 141, 4084), (2043, 17, 6, 0), (2045, 16, 2, 0), (2046, 16, 0, 0), (2047, 11, 5, 0), (2049, 1, 16, 2), (2050, 26, 0, 0), (2051, 71, 0, 0), (2052, 16, 0, 0), (2053, 11, 5, 0), (2055, 1, 32, 3), (2056, 26, 0, 0), (2057, 71, 0, 0), (2058, 80, 201, 4115), (2061, 17, 7, 0), (2063, 16, 2, 0), (2064, 80, 213, 2705), (2067, 11, 6, 0), (2069, 45, 1238, 2074), (2072, 0, 0, 0), (2073, 0, 0, 0), (2074, 11, 6, 0), (2076, 40, 1249, 2091), (2079, 0, 0, 0), (2080, 0, 0, 0), (2081, 0, 0, 0), (2082, 0, 0, 0), (2084, 0, 0, 0), (2085, 0, 0, 0), (2086, 0, 0, 0), (2089, 0, 0, 0), (2090, 0, 0, 0), (2091, 55, 1916, 3131), (2094, 16, 1, 0), (2095, 16, 0, 0), (2096, 11, 5, 0), (2098, 1, 16, 2), (2099, 26, 0, 0), (2100, 71, 0, 0), (2101, 16, 0, 0), (2102, 11, 5, 0), (2104, 1, 32, 3), (2105, 26, 0, 0), (2106, 71, 0, 0), (2107, 16, 3, 0), (2108, 84, 131, 4132), (2111, 17, 6, 0), (2113, 16, 2, 0), (2114, 16, 0, 0), (2115, 11, 5, 0), (2117, 1, 16, 2), (2118, 26, 0, 0), (2119, 71, 0, 0), (2120, 16, 0, 0), (2121, 11, 5, 0), (2123, 1, 32, 3), (2124, 26, 0, 0), (2125, 71, 0, 0), (2126, 80, 190, 4163), (2129, 17, 7, 0), (2131, 16, 2, 0), (2132, 80, 213, 2705), (2135, 11, 6, 0), (2137, 45, 1283, 2142), (2140, 0, 0, 0), (2141, 0, 0, 0), (2142, 11, 6, 0), (2144, 40, 1294, 2159), (2147, 0, 0, 0), (2148, 0, 0, 0), (2149, 0, 0, 0), (2150, 0, 0, 0), (2152, 0, 0, 0), (2153, 0, 0, 0), (2154, 0, 0, 0), (2157, 0, 0, 0), (2158, 0, 0, 0), (2159, 55, 1916, 3131), (2162, 16, 1, 0), (2163, 16, 0, 0), (2164, 11, 5, 0), (2166, 1, 16, 2), (2167, 26, 0, 0), (2168, 71, 0, 0), (2169, 16, 0, 0), (2170, 11, 5, 0), (2172, 1, 32, 3), (2173, 26, 0, 0), (2174, 71, 0, 0), (2175, 16, 3, 0), (2176, 84, 134, 4180), (2179, 17, 6, 0), (2181, 16, 2, 0), (2182, 16, 0, 0), (2183, 11, 5, 0), (2185, 1, 16, 2), (2186, 26, 0, 0), (2187, 71, 0, 0), (2188, 16, 0, 0), (2189, 11, 5, 0), (2191, 1, 32, 3), (2192, 26, 0, 0), (2193, 71, 0, 0), (2194, 80, 193, 4211), (2197, 17, 7, 0), (2199, 16, 2, 0), (2200, 80, 213, 2705), (2203, 11, 6, 0), (2205, 45, 1328, 2210), (2208, 0, 0, 0), (2209, 0, 0, 0), (2210, 11, 6, 0), (2212, 40, 1339, 2227), (2215, 16, 3, 0), (2216, 1, 0, 1), (2217, 72, 0, 0), (2218, 11, 7, 0), (2220, 33, 0, 0), (2221, 36, 0, 0), (2222, 39, 1339, 2227), (2225, 0, 0, 0), (2226, 0, 0, 0), (2227, 55, 1916, 3131), (2230, 16, 1, 0), (2231, 16, 0, 0), (2232, 11, 5, 0), (2234, 1, 16, 2), (2235, 26, 0, 0), (2236, 71, 0, 0), (2237, 16, 3, 0), (2238, 84, 151, 4227), (2241, 17, 6, 0), (2243, 16, 2, 0), (2244, 16, 0, 0), (2245, 11, 5, 0), (2247, 1, 16, 2), (2248, 26, 0, 0), (2249, 71, 0, 0), (2250, 80, 216, 4258), (2253, 17, 7, 0), (2255, 16, 2, 0), (2256, 80, 213, 2705), (2259, 11, 6, 0), (2261, 45, 1363, 2266), (2264, 0, 0, 0), (2265, 0, 0, 0), (2266, 11, 6, 0), (2268, 40, 1374, 2283), (2271, 16, 3, 0), (2272, 1, 0, 1), (2273, 72, 0, 0), (2274, 11, 7, 0), (2276, 33, 0, 0), (2277, 36, 0, 0), (2278, 39, 1374, 2283), (2281, 0, 0, 0), (2282, 0, 0, 0), (2283, 55, 1916, 3131), (2286, 16, 1, 0), (2287, 16, 0, 0), (2288, 11, 5, 0), (2290, 1, 16, 2), (2291, 26, 0, 0), (2292, 71, 0, 0), (2293, 16, 0, 0), (2294, 11, 5, 0), (2296, 1, 32, 3), (2297, 26, 0, 0), (2298, 71, 0, 0), (2299, 16, 3, 0), (2300, 84, 127, 4276), (2303, 17, 6, 0), (2305, 16, 2, 0), (2306, 16, 0, 0), (2307, 11, 5, 0), (2309, 1, 16, 2), (2310, 26, 0, 0), (2311, 71, 0, 0), (2312, 16, 0, 0), (2313, 11, 5, 0), (2315, 1, 32, 3), (2316, 26, 0, 0), (2317, 71, 0, 0), (2318, 80, 184, 4307), (2321, 17, 7, 0), (2323, 16, 2, 0), (2324, 80, 213, 2705), (2327, 11, 6, 0), (2329, 45, 1408, 2334), (2332, 0, 0, 0), (2333, 0, 0, 0), (2334, 11, 6, 0), (2336, 40, 1419, 2351), (2339, 16, 3, 0), (2340, 1, 0, 1), (2341, 72, 0, 0), (2342, 11, 7, 0), (2344, 33, 0, 0), (2345, 36, 0, 0), (2346, 39, 1419, 2351), (2349, 0, 0, 0), (2350, 0, 0, 0), (2351, 55, 1916, 3131), (2354, 16, 1, 0), (2355, 16, 0, 0), (2356, 11, 5, 0), (2358, 1, 16, 2), (2359, 26, 0, 0), (2360, 71, 0, 0), (2361, 16, 0, 0), (2362, 11, 5, 0), (2364, 1, 32, 3), (2365, 26, 0, 0), (2366, 71, 0, 0), (2367, 16, 3, 0), (2368, 84, 123, 4324), (2371, 17, 6, 0), (2373, 16, 2, 0), (2374, 16, 0, 0), (2375, 11, 5, 0), (2377, 1, 16, 2), (2378, 26, 0, 0), (2379, 71, 0, 0), (2380, 16, 0, 0), (2381, 11, 5, 0), (2383, 1, 32, 3), (2384, 26, 0, 0), (2385, 71, 0, 0), (2386, 80, 170, 4355), (2389, 17, 7, 0), (2391, 16, 2, 0), (2392, 80, 213, 2705), (2395, 11, 6, 0), (2397, 45, 1453, 2402), (2400, 0, 0, 0), (2401, 0, 0, 0), (2402, 11, 6, 0), (2404, 40, 1464, 2419), (2407, 16, 3, 0), (2408, 1, 0, 1), (2409, 72, 0, 0), (2410, 11, 7, 0), (2412, 33, 0, 0), (2413, 36, 0, 0), (2414, 39, 1464, 2419), (2417, 0, 0, 0), (2418, 0, 0, 0), (2419, 55, 1916, 3131), (2422, 16, 1, 0), (2423, 16, 0, 0), (2424, 11, 5, 0), (2426, 1, 16, 2), (2427, 26, 0, 0), (2428, 71, 0, 0), (2429, 16, 0, 0), (2430, 11, 5, 0), (2432, 1, 32, 3), (2433, 26, 0, 0), (2434, 71, 0, 0), (2435, 16, 0, 0), (2436, 11, 5, 0), (2438, 1, 48, 4), (2439, 26, 0, 0), (2440, 71, 0, 0), (2441, 16, 3, 0), (2442, 84, 128, 4373), (2445, 17, 6, 0), (2447, 16, 2, 0), (2448, 16, 0, 0), (2449, 11, 5, 0), (2451, 1, 16, 2), (2452, 26, 0, 0), (2453, 71, 0, 0), (2454, 16, 0, 0), (2455, 11, 5, 0), (2457, 1, 32, 3), (2458, 26, 0, 0), (2459, 71, 0, 0), (2460, 16, 0, 0), (2461, 11, 5, 0), (2463, 1, 48, 4), (2464, 26, 0, 0), (2465, 71, 0, 0), (2466, 80, 186, 4404), (2469, 17, 7, 0), (2471, 16, 2, 0), (2472, 80, 213, 2705), (2475, 11, 6, 0), (2477, 45, 1508, 2482), (2480, 0, 0, 0), (2481, 0, 0, 0), (2482, 11, 6, 0), (2484, 40, 1519, 2499), (2487, 0, 0, 0), (2488, 0, 0, 0), (2489, 0, 0, 0), (2490, 0, 0, 0), (2492, 0, 0, 0), (2493, 0, 0, 0), (2494, 0, 0, 0), (2497, 0, 0, 0), (2498, 0, 0, 0), (2499, 55, 1916, 3131), (2502, 16, 1, 0), (2503, 16, 0, 0), (2504, 11, 5, 0), (2506, 1, 16, 2), (2507, 26, 0, 0), (2508, 71, 0, 0), (2509, 16, 3, 0), (2510, 84, 147, 4419), (2513, 17, 6, 0), (2515, 16, 2, 0), (2516, 16, 0, 0), (2517, 11, 5, 0), (2519, 1, 16, 2), (2520, 26, 0, 0), (2521, 71, 0, 0), (2522, 80, 208, 4450), (2525, 17, 7, 0), (2527, 16, 2, 0), (2528, 80, 213, 2705), (2531, 11, 6, 0), (2533, 45, 1543, 2538), (2536, 0, 0, 0), (2537, 0, 0, 0), (2538, 11, 6, 0), (2540, 40, 1554, 2555), (2543, 16, 3, 0), (2544, 1, 0, 1), (2545, 72, 0, 0), (2546, 11, 7, 0), (2548, 33, 0, 0), (2549, 36, 0, 0), (2550, 39, 1554, 2555), (2553, 0, 0, 0), (2554, 0, 0, 0), (2555, 55, 1916, 3131), (2558, 16, 1, 0), (2559, 16, 0, 0), (2560, 11, 5, 0), (2562, 1, 16, 2), (2563, 26, 0, 0), (2564, 71, 0, 0), (2565, 16, 0, 0), (2566, 11, 5, 0), (2568, 1, 32, 3), (2569, 26, 0, 0), (2570, 71, 0, 0), (2571, 16, 3, 0), (2572, 84, 130, 4468), (2575, 17, 6, 0), (2577, 16, 2, 0), (2578, 16, 0, 0), (2579, 11, 5, 0), (2581, 1, 16, 2), (2582, 26, 0, 0), (2583, 71, 0, 0), (2584, 16, 0, 0), (2585, 11, 5, 0), (2587, 1, 32, 3), (2588, 26, 0, 0), (2589, 71, 0, 0), (2590, 80, 188, 4499), (2593, 17, 7, 0), (2595, 16, 2, 0), (2596, 80, 213, 2705), (2599, 11, 6, 0), (2601, 45, 1588, 2606), (2604, 0, 0, 0), (2605, 0, 0, 0), (2606, 11, 6, 0), (2608, 40, 1599, 2623), (2611, 16, 3, 0), (2612, 1, 0, 1), (2613, 72, 0, 0), (2614, 11, 7, 0), (2616, 33, 0, 0), (2617, 36, 0, 0), (2618, 39, 1599, 2623), (2621, 0, 0, 0), (2622, 0, 0, 0), (2623, 55, 1916, 3131), (2626, 16, 1, 0), (2627, 16, 0, 0), (2628, 11, 5, 0), (2630, 1, 16, 2), (2631, 26, 0, 0), (2632, 71, 0, 0), (2633, 16, 0, 0), (2634, 11, 5, 0), (2636, 1, 32, 3), (2637, 26, 0, 0), (2638, 71, 0, 0), (2639, 16, 0, 0), (2640, 11, 5, 0), (2642, 1, 48, 4), (2643, 26, 0, 0), (2644, 71, 0, 0), (2645, 16, 3, 0), (2646, 84, 146, 4517), (2649, 17, 6, 0), (2651, 16, 2, 0), (2652, 16, 0, 0), (2653, 11, 5, 0), (2655, 1, 16, 2), (2656, 26, 0, 0), (2657, 71, 0, 0), (2658, 16, 0, 0), (2659, 11, 5, 0), (2661, 1, 32, 3), (2662, 26, 0, 0), (2663, 71, 0, 0), (2664, 16, 0, 0), (2665, 11, 5, 0), (2667, 1, 48, 4), (2668, 26, 0, 0), (2669, 71, 0, 0), (2670, 80, 207, 4548), (2673, 17, 7, 0), (2675, 16, 2, 0), (2676, 80, 213, 2705), (2679, 11, 6, 0), (2681, 45, 1643, 2686), (2684, 0, 0, 0), (2685, 0, 0, 0), (2686, 11, 6, 0), (2688, 40, 1654, 2703), (2691, 0, 0, 0), (2692, 0, 0, 0), (2693, 0, 0, 0), (2694, 0, 0, 0), (2696, 0, 0, 0), (2697, 0, 0, 0), (2698, 0, 0, 0), (2701, 0, 0, 0), (2702, 0, 0, 0), (2703, 55, 1916, 3131), (2706, 16, 1, 0), (2707, 16, 0, 0), (2708, 11, 5, 0), (2710, 1, 16, 2), (2711, 26, 0, 0), (2712, 71, 0, 0), (2713, 16, 0, 0), (2714, 11, 5, 0), (2716, 1, 32, 3), (2717, 26, 0, 0), (2718, 71, 0, 0), (2719, 16, 3, 0), (2720, 84, 120, 4564), (2723, 17, 6, 0), (2725, 16, 2, 0), (2726, 16, 0, 0), (2727, 11, 5, 0), (2729, 1, 16, 2), (2730, 26, 0, 0), (2731, 71, 0, 0), (2732, 16, 0, 0), (2733, 11, 5, 0), (2735, 1, 32, 3), (2736, 26, 0, 0), (2737, 71, 0, 0), (2738, 80, 165, 4595), (2741, 17, 7, 0), (2743, 16, 2, 0), (2744, 80, 213, 2705), (2747, 11, 6, 0), (2749, 45, 1688, 2754), (2752, 0, 0, 0), (2753, 0, 0, 0), (2754, 11, 6, 0), (2756, 40, 1699, 2771), (2759, 16, 3, 0), (2760, 1, 0, 1), (2761, 72, 0, 0), (2762, 11, 7, 0), (2764, 33, 0, 0), (2765, 36, 0, 0), (2766, 39, 1699, 2771), (2769, 0, 0, 0), (2770, 0, 0, 0), (2771, 55, 1916, 3131), (2774, 16, 1, 0), (2775, 16, 0, 0), (2776, 11, 5, 0), (2778, 1, 16, 2), (2779, 26, 0, 0), (2780, 71, 0, 0), (2781, 16, 0, 0), (2782, 11, 5, 0), (2784, 1, 32, 3), (2785, 26, 0, 0), (2786, 71, 0, 0), (2787, 16, 3, 0), (2788, 84, 124, 4612), (2791, 17, 6, 0), (2793, 16, 2, 0), (2794, 16, 0, 0), (2795, 11, 5, 0), (2797, 1, 16, 2), (2798, 26, 0, 0), (2799, 71, 0, 0), (2800, 16, 0, 0), (2801, 11, 5, 0), (2803, 1, 32, 3), (2804, 26, 0, 0), (2805, 71, 0, 0), (2806, 80, 173, 4643), (2809, 17, 7, 0), (2811, 16, 2, 0), (2812, 80, 213, 2705), (2815, 11, 6, 0), (2817, 45, 1733, 2822), (2820, 0, 0, 0), (2821, 0, 0, 0), (2822, 11, 6, 0), (2824, 40, 1747, 2846), (2827, 16, 3, 0), (2828, 1, 0, 1), (2829, 72, 0, 0), (2830, 11, 7, 0), (2832, 39, 1742, 2839), (2835, 4, 17, 1), (2836, 55, 1743, 2840), (2839, 0, 0, 0), (2840, 36, 0, 0), (2841, 39, 1747, 2846), (2844, 0, 0, 0), (2845, 0, 0, 0), (2846, 55, 1916, 3131), (2849, 16, 1, 0), (2850, 16, 3, 0), (2851, 84, 121, 4658), (2854, 17, 6, 0), (2856, 16, 2, 0), (2857, 80, 167, 4705), (2860, 17, 7, 0), (2862, 16, 2, 0), (2863, 80, 213, 2705), (2866, 11, 6, 0), (2868, 45, 1761, 2873), (2871, 0, 0, 0), (2872, 0, 0, 0), (2873, 11, 6, 0), (2875, 40, 1772, 2890), (2878, 16, 3, 0), (2879, 1, 0, 1), (2880, 72, 0, 0), (2881, 11, 7, 0), (2883, 33, 0, 0), (2884, 36, 0, 0), (2885, 39, 1772, 2890), (2888, 0, 0, 0), (2889, 0, 0, 0), (2890, 55, 1916, 3131), (2893, 16, 1, 0), (2894, 16, 0, 0), (2895, 11, 5, 0), (2897, 1, 16, 2), (2898, 26, 0, 0), (2899, 71, 0, 0), (2900, 16, 3, 0), (2901, 84, 126, 4723), (2904, 17, 6, 0), (2906, 16, 2, 0), (2907, 16, 0, 0), (2908, 11, 5, 0), (2910, 1, 16, 2), (2911, 26, 0, 0), (2912, 71, 0, 0), (2913, 80, 183, 4754), (2916, 17, 7, 0), (2918, 16, 2, 0), (2919, 80, 213, 2705), (2922, 11, 6, 0), (2924, 45, 1796, 2929), (2927, 0, 0, 0), (2928, 0, 0, 0), (2929, 11, 6, 0), (2931, 40, 1807, 2946), (2934, 16, 3, 0), (2935, 1, 0, 1), (2936, 72, 0, 0), (2937, 11, 7, 0), (2939, 33, 0, 0), (2940, 36, 0, 0), (2941, 39, 1807, 2946), (2944, 0, 0, 0), (2945, 0, 0, 0), (2946, 55, 1916, 3131), (2949, 16, 1, 0), (2950, 16, 0, 0), (2951, 11, 5, 0), (2953, 1, 16, 2), (2954, 26, 0, 0), (2955, 71, 0, 0), (2956, 15, 4, 0), (2958, 84, 138, 4771), (2961, 17, 6, 0), (2963, 16, 2, 0), (2964, 16, 0, 0), (2965, 11, 5, 0), (2967, 1, 16, 2), (2968, 26, 0, 0), (2969, 71, 0, 0), (2970, 80, 197, 4818), (2973, 23, 7, 0), (2975, 16, 2, 0), (2976, 80, 213, 2705), (2979, 11, 6, 0), (2981, 45, 1831, 2986), (2984, 0, 0, 0), (2985, 0, 0, 0), (2986, 11, 6, 0), (2988, 40, 1854, 3024), (2991, 0, 0, 0), (2993, 0, 0, 0), (2994, 0, 0, 0), (2995, 0, 0, 0), (2997, 0, 0, 0), (2998, 0, 0, 0), (2999, 0, 0, 0), (3002, 0, 0, 0), (3004, 0, 0, 0), (3005, 0, 0, 0), (3006, 0, 0, 0), (3008, 0, 0, 0), (3009, 0, 0, 0), (3010, 0, 0, 0), (3011, 0, 0, 0), (3014, 0, 0, 0), (3016, 0, 0, 0), (3018, 0, 0, 0), (3019, 0, 0, 0), (3022, 0, 0, 0), (3023, 0, 0, 0), (3024, 55, 1916, 3131), (3027, 16, 1, 0), (3028, 16, 0, 0), (3029, 11, 5, 0), (3031, 1, 16, 2), (3032, 26, 0, 0), (3033, 71, 0, 0), (3034, 15, 4, 0), (3036, 84, 133, 4835), (3039, 17, 6, 0), (3041, 16, 2, 0), (3042, 16, 0, 0), (3043, 11, 5, 0), (3045, 1, 16, 2), (3046, 26, 0, 0), (3047, 71, 0, 0), (3048, 80, 192, 4866), (3051, 24, 7, 0), (3053, 16, 2, 0), (3054, 80, 213, 2705), (3057, 11, 6, 0), (3059, 45, 1878, 3064), (3062, 0, 0, 0), (3063, 0, 0, 0), (3064, 11, 6, 0), (3066, 40, 1900, 3101), (3069, 0, 0, 0), (3071, 0, 0, 0), (3072, 0, 0, 0), (3073, 0, 0, 0), (3075, 0, 0, 0), (3076, 0, 0, 0), (3079, 0, 0, 0), (3081, 0, 0, 0), (3082, 0, 0, 0), (3083, 0, 0, 0), (3085, 0, 0, 0), (3086, 0, 0, 0), (3087, 0, 0, 0), (3088, 0, 0, 0), (3091, 0, 0, 0), (3093, 0, 0, 0), (3095, 0, 0, 0), (3096, 0, 0, 0), (3099, 0, 0, 0), (3100, 0, 0, 0), (3101, 55, 1916, 3131), (3104, 16, 1, 0), (3105, 80, 3, 4881), (3108, 16, 2, 0), (3109, 80, 157, 4945), (3112, 36, 0, 0), (3113, 39, 1916, 3131), (3116, 0, 0, 0), (3117, 0, 0, 0), (3118, 16, 1, 0), (3119, 80, 23, 4961), (3122, 16, 2, 0), (3123, 80, 181, 5025), (3126, 45, 1916, 3131), (3129, 0, 0, 0), (3130, 0, 0, 0), (3131, 25, 5, 32775), (3134, 55, 16, 28), (3137, 1, 16, 2), (3138, 56, 0, 5)]
-- Manypens.<init>()V
noncomputable def zc_1 : List sy_E := [(0, 16, 0, 0), (1, 91, 0, 3), (4, 16, 0, 0), (5, 67, 4, 9), (8, 37, 0, 0), (9, 2, 192, 140), (11, 82, 76, 178), (14, 66, 640, 114), (17, 16, 0, 0), (18, 67, 0, 18), (21, 37, 0, 0), (22, 82, 63, 321), (25, 66, 641, 170), (28, 16, 0, 0), (29, 67, 7, 25), (32, 37, 0, 0), (33, 16, 0, 0), (34, 62, 641, 170), (37, 82, 93, 434), (40, 66, 642, 242), (43, 16, 0, 0), (44, 1, 80, 6), (45, 69, 7, 34), (48, 66, 643, 290), (51, 1, 0, 1), (52, 18, 1, 0), (53, 12, 1, 0), (54, 1, 80, 6), (55, 48, 45, 92), (58, 16, 0, 0), (59, 62, 643, 290), (62, 12, 1, 0), (63, 67, 2, 34), (66, 37, 0, 0), (67, 67, 9, 40), (70, 37, 0, 0), (71, 16, 0, 0), (72, 62, 641, 170), (75, 16, 0, 0), (76, 62, 642, 242), (79, 82, 99, 675), (82, 82, 67, 722), (85, 77, 0, 0), (86, 25, 1, 32769), (89, 55, 26, 53), (92, 16, 0, 0), (93, 67, 9, 40), (96, 37, 0, 0), (97, 16, 0, 0), (98, 62, 641, 170), (101, 16, 0, 0), (102, 62, 642, 242), (105, 82, 99, 675), (108, 66, 644, 386), (111, 16, 0, 0), (112, 1, 80, 6), (113, 68, 0, 10), (115, 66, 645, 418), (118, 16, 0, 0), (119, 67, 9, 40), (122, 37, 0, 0), (123, 16, 0, 0), (124, 62, 641, 170), (127, 67, 7, 25), (130, 37, 0, 0), (131, 16, 0, 0), (132, 62, 641, 170), (135, 82, 93, 434), (138, 82, 99, 675), (141, 66, 646, 450), (144, 16, 0, 0), (145, 67, 3, 59), (148, 37, 0, 0), (149, 16, 0, 0), (150, 62, 641, 170), (153, 82, 73, 978), (156, 66, 647, 498), (159, 16, 0, 0), (160, 67, 3, 59), (163, 37, 0, 0), (164, 16, 0, 0), (165, 62, 641, 170), (168, 82, 73, 978), (171, 66, 648, 530), (174, 61, 0, 0)]
-- Manypens.birth(II)I
noncomputable def zc_2 : List sy_E := [(0, 16, 0, 0), (1, 12, 1, 0), (2, 80, 34, 1458), (5, 16, 0, 0), (6, 16, 0, 0), (7, 12, 1, 0), (8, 80, 59, 1506), (11, 12, 2, 0), (12, 80, 36, 3811), (15, 0, 0, 0), (16, 0, 0, 0), (17, 0, 0, 0), (20, 0, 0, 0), (21, 0, 0, 0), (22, 0, 0, 0), (25, 0, 0, 0), (26, 0, 0, 0), (27, 0, 0, 0), (30, 0, 0, 0), (33, 0, 0, 0), (36, 0, 0, 0)]
-- Manypens.checksum()J
noncomputable def zc_3 : List sy_E := [(0, 8, 113, 408), (3, 20, 1, 0), (4, 1, 0, 1), (5, 18, 3, 0), (6, 12, 3, 0), (7, 1, 80, 6), (8, 48, 62, 108), (11, 16, 0, 0), (12, 12, 3, 0), (13, 80, 59, 1506), (16, 21, 4, 0), (18, 1, 0, 1), (19, 17, 5, 0), (21, 11, 5, 0), (23, 1, 80, 6), (24, 48, 31, 53), (27, 8, 497, 410), (30, 14, 1, 0), (31, 32, 0, 0), (32, 16, 0, 0), (33, 62, 643, 290), (36, 12, 3, 0), (37, 73, 0, 0), (38, 63, 130, 2546), (41, 11, 5, 0), (43, 71, 0, 0), (44, 33, 0, 0), (45, 30, 0, 0), (46, 20, 1, 0), (47, 25, 5, 32769), (50, 55, 13, 21), (53, 16, 0, 0), (54, 14, 1, 0), (55, 15, 4, 0), (57, 80, 54, 6595), (60, 20, 1, 0), (61, 8, 497, 410), (64, 14, 1, 0), (65, 32, 0, 0), (66, 15, 4, 0), (68, 16, 0, 0), (69, 62, 643, 290), (72, 12, 3, 0), (73, 73, 0, 0), (74, 63, 140, 1569), (77, 80, 109, 3186), (80, 30, 0, 0), (81, 20, 1, 0), (82, 8, 497, 410), (85, 14, 1, 0), (86, 32, 0, 0), (87, 16, 0, 0), (88, 62, 643, 290), (91, 12, 3, 0), (92, 73, 0, 0), (93, 63, 133, 2298), (96, 80, 83, 1217), (99, 33, 0, 0), (100, 30, 0, 0), (101, 20, 1, 0), (102, 25, 3, 32769), (105, 55, 4, 6), (108, 1, 0, 1), (109, 18, 3, 0), (110, 12, 3, 0), (111, 16, 0, 0), (112, 62, 640, 114), (115, 80, 83, 1217), (118, 48, 81, 143), (121, 0, 0, 0), (124, 0, 0, 0), (125, 0, 0, 0), (126, 0, 0, 0), (127, 0, 0, 0), (130, 0, 0, 0), (131, 0, 0, 0), (134, 0, 0, 0), (135, 0, 0, 0), (136, 0, 0, 0), (137, 0, 0, 0), (140, 0, 0, 0), (143, 14, 1, 0), (144, 57, 0, 1)]
-- Manypens.close(I)I
noncomputable def zc_4 : List sy_E := [(0, 16, 0, 0), (1, 12, 1, 0), (2, 80, 34, 1458), (5, 16, 0, 0), (6, 62, 643, 290), (9, 12, 1, 0), (10, 73, 0, 0), (11, 63, 138, 1669), (14, 40, 14, 27), (17, 88, 0, 0), (20, 0, 0, 0), (21, 0, 0, 0), (23, 0, 0, 0), (26, 0, 0, 0), (27, 0, 0, 0), (28, 0, 0, 0), (31, 0, 0, 0), (32, 0, 0, 0), (33, 0, 0, 0), (36, 0, 0, 0)]
-- Manypens.comment(IIII)I
noncomputable def zc_5 : List sy_E := [(0, 16, 0, 0), (1, 12, 1, 0), (2, 80, 34, 1458), (5, 16, 0, 0), (6, 16, 0, 0), (7, 12, 1, 0), (8, 80, 59, 1506), (11, 12, 2, 0), (12, 12, 3, 0), (13, 80, 37, 2164), (16, 0, 0, 0), (17, 0, 0, 0), (18, 0, 0, 0), (21, 0, 0, 0), (22, 0, 0, 0), (23, 0, 0, 0), (26, 0, 0, 0), (28, 0, 0, 0), (30, 0, 0, 0), (31, 0, 0, 0), (34, 0, 0, 0), (36, 0, 0, 0), (38, 0, 0, 0), (41, 0, 0, 0), (42, 0, 0, 0), (44, 0, 0, 0), (45, 0, 0, 0), (46, 0, 0, 0), (47, 0, 0, 0), (48, 0, 0, 0), (51, 0, 0, 0), (52, 0, 0, 0), (53, 0, 0, 0), (56, 0, 0, 0), (57, 0, 0, 0), (59, 0, 0, 0), (62, 0, 0, 0), (64, 0, 0, 0), (67, 0, 0, 0)]
-- Manypens.commentAt(IIC)I
noncomputable def zc_6 : List sy_E := [(0, 16, 0, 0), (1, 12, 1, 0), (2, 80, 34, 1458), (5, 16, 0, 0), (6, 12, 1, 0), (7, 80, 59, 1506), (10, 21, 4, 0), (12, 12, 2, 0), (13, 41, 14, 28), (16, 12, 2, 0), (17, 15, 4, 0), (19, 63, 584, 2114), (22, 80, 83, 1217), (25, 47, 19, 39), (28, 89, 1, 1), (31, 0, 0, 0), (32, 0, 0, 0), (35, 0, 0, 0), (38, 0, 0, 0), (39, 0, 0, 0), (40, 0, 0, 0), (43, 0, 0, 0), (45, 0, 0, 0), (48, 0, 0, 0), (49, 0, 0, 0), (52, 0, 0, 0), (55, 0, 0, 0), (57, 0, 0, 0), (58, 0, 0, 0), (60, 0, 0, 0), (63, 0, 0, 0), (65, 0, 0, 0), (68, 0, 0, 0), (69, 0, 0, 0), (70, 0, 0, 0), (72, 0, 0, 0), (75, 0, 0, 0), (77, 0, 0, 0), (79, 0, 0, 0), (82, 0, 0, 0), (83, 0, 0, 0), (86, 0, 0, 0), (89, 0, 0, 0), (92, 0, 0, 0), (93, 0, 0, 0), (94, 0, 0, 0), (96, 0, 0, 0), (99, 0, 0, 0), (101, 0, 0, 0), (103, 0, 0, 0), (106, 0, 0, 0), (107, 0, 0, 0), (110, 0, 0, 0), (113, 0, 0, 0), (114, 0, 0, 0), (115, 0, 0, 0), (118, 0, 0, 0), (119, 0, 0, 0), (120, 0, 0, 0), (122, 0, 0, 0), (125, 0, 0, 0), (127, 0, 0, 0), (130, 0, 0, 0), (131, 0, 0, 0), (134, 0, 0, 0), (135, 0, 0, 0), (138, 0, 0, 0), (141, 0, 0, 0)]
-- Manypens.comments(I)I
noncomputable def zc_7 : List sy_E := [(0, 16, 0, 0), (1, 12, 1, 0), (2, 80, 34, 1458), (5, 16, 0, 0), (6, 12, 1, 0), (7, 80, 59, 1506), (10, 63, 584, 2114), (13, 80, 83, 1217), (16, 56, 0, 0)]
-- Manypens.cursor(I)I
noncomputable def zc_8 : List sy_E := [(0, 16, 0, 0), (1, 12, 1, 0), (2, 80, 34, 1458), (5, 16, 0, 0), (6, 12, 1, 0), (7, 80, 59, 1506), (10, 16, 0, 0), (11, 62, 643, 290), (14, 12, 1, 0), (15, 73, 0, 0), (16, 63, 140, 1569), (19, 80, 109, 3186), (22, 83, 56, 2097), (25, 56, 0, 0)]
-- Manypens.deliver(II)C
noncomputable def zc_9 : List sy_E := [(0, 16, 0, 0), (1, 12, 1, 0), (2, 80, 34, 1458), (5, 16, 0, 0), (6, 12, 1, 0), (7, 12, 2, 0), (8, 80, 38, 4643), (11, 0, 0, 0), (12, 0, 0, 0), (15, 0, 0, 0), (16, 0, 0, 0), (17, 0, 0, 0), (18, 0, 0, 0), (19, 0, 0, 0), (22, 0, 0, 0), (23, 0, 0, 0), (26, 0, 0, 0), (27, 0, 0, 0), (30, 0, 0, 0), (33, 0, 0, 0), (35, 0, 0, 0), (36, 0, 0, 0), (38, 0, 0, 0), (41, 0, 0, 0), (44, 0, 0, 0), (45, 0, 0, 0), (47, 0, 0, 0), (50, 0, 0, 0), (53, 0, 0, 0), (55, 0, 0, 0), (56, 0, 0, 0), (57, 0, 0, 0), (59, 0, 0, 0), (62, 0, 0, 0), (65, 0, 0, 0), (66, 0, 0, 0), (68, 0, 0, 0), (71, 0, 0, 0), (73, 0, 0, 0), (74, 0, 0, 0), (75, 0, 0, 0), (76, 0, 0, 0), (78, 0, 0, 0), (81, 0, 0, 0), (82, 0, 0, 0), (84, 0, 0, 0)]
-- Manypens.differ(II)I
noncomputable def zc_10 : List sy_E := [(0, 16, 0, 0), (1, 12, 1, 0), (2, 80, 34, 1458), (5, 16, 0, 0), (6, 12, 2, 0), (7, 80, 34, 1458), (10, 16, 0, 0), (11, 12, 1, 0), (12, 80, 59, 1506), (15, 22, 3, 0), (16, 16, 0, 0), (17, 12, 2, 0), (18, 80, 59, 1506), (21, 21, 4, 0), (23, 16, 3, 0), (24, 80, 112, 1569), (27, 15, 4, 0), (29, 80, 112, 1569), (32, 30, 0, 0), (33, 8, 33, 358), (36, 16, 3, 0), (37, 15, 4, 0), (39, 80, 107, 5762), (42, 32, 0, 0), (43, 31, 0, 0), (44, 83, 56, 2097), (47, 56, 0, 0)]
-- Manypens.erase()I
noncomputable def zc_11 : List sy_E := [(0, 16, 0, 0), (1, 62, 640, 114), (4, 80, 83, 1217), (7, 18, 1, 0), (8, 16, 0, 0), (9, 62, 640, 114), (12, 80, 79, 1409), (15, 12, 1, 0), (16, 56, 0, 0)]
-- Manypens.forget()I
noncomputable def zc_12 : List sy_E := [(0, 16, 0, 0), (1, 80, 15, 5889), (4, 40, 8, 18), (7, 0, 0, 0), (10, 0, 0, 0), (11, 0, 0, 0), (14, 0, 0, 0), (17, 0, 0, 0), (18, 16, 0, 0), (19, 1, 0, 1), (20, 80, 59, 1506), (23, 22, 1, 0), (24, 16, 0, 0), (25, 62, 642, 242), (28, 80, 97, 5985), (31, 16, 1, 0), (32, 80, 112, 1569), (35, 31, 0, 0), (36, 20, 2, 0), (37, 1, 0, 1), (38, 17, 4, 0), (40, 11, 4, 0), (42, 3, 3200, 32968), (45, 48, 32, 67), (48, 16, 1, 0), (49, 16, 0, 0), (50, 62, 641, 170), (53, 11, 4, 0), (55, 80, 64, 4354), (58, 80, 111, 6002), (61, 25, 4, 32769), (64, 55, 21, 40), (67, 1, 0, 1), (68, 17, 4, 0), (70, 11, 4, 0), (72, 1, 80, 6), (73, 48, 53, 110), (76, 16, 0, 0), (77, 62, 643, 290), (80, 11, 4, 0), (82, 73, 0, 0), (83, 16, 1, 0), (84, 16, 1, 0), (85, 16, 0, 0), (86, 62, 643, 290), (89, 11, 4, 0), (91, 73, 0, 0), (92, 63, 140, 1569), (95, 80, 109, 3186), (98, 80, 105, 1906), (101, 65, 140, 1569), (104, 25, 4, 32769), (107, 55, 34, 70), (110, 16, 0, 0), (111, 62, 642, 242), (114, 16, 1, 0), (115, 63, 580, 3026), (118, 80, 95, 6098), (121, 16, 0, 0), (122, 62, 641, 170), (125, 80, 65, 6161), (128, 1, 0, 1), (129, 17, 4, 0), (131, 11, 4, 0), (133, 1, 80, 6), (134, 48, 73, 153), (137, 16, 0, 0), (138, 62, 643, 290), (141, 11, 4, 0), (143, 73, 0, 0), (144, 80, 72, 6209), (147, 25, 4, 32769), (150, 55, 63, 131), (153, 14, 2, 0), (154, 83, 56, 2097), (157, 56, 0, 0)]
-- Manypens.goBack(II)V
noncomputable def zc_13 : List sy_E := [(0, 16, 0, 0), (1, 62, 641, 170), (4, 63, 3, 4418), (7, 1, 0, 1), (8, 16, 0, 0), (9, 62, 645, 418), (12, 1, 0, 1), (13, 1, 80, 6), (14, 86, 0, 555), (17, 1, 0, 1), (18, 18, 3, 0), (19, 12, 3, 0), (20, 12, 2, 0), (21, 48, 39, 74), (24, 0, 0, 0), (25, 0, 0, 0), (28, 0, 0, 0), (29, 0, 0, 0), (32, 0, 0, 0), (33, 0, 0, 0), (34, 0, 0, 0), (37, 0, 0, 0), (38, 0, 0, 0), (41, 0, 0, 0), (44, 0, 0, 0), (47, 0, 0, 0), (49, 0, 0, 0), (51, 0, 0, 0), (54, 0, 0, 0), (57, 0, 0, 0), (58, 0, 0, 0), (61, 0, 0, 0), (63, 0, 0, 0), (64, 0, 0, 0), (65, 0, 0, 0), (66, 0, 0, 0), (67, 0, 0, 0), (68, 0, 0, 0), (71, 0, 0, 0), (74, 16, 0, 0), (75, 62, 644, 386), (78, 16, 0, 0), (79, 62, 645, 418), (82, 80, 110, 8722), (85, 61, 0, 0)]
-- Manypens.groups(IZ)I
noncomputable def zc_14 : List sy_E := [(0, 16, 0, 0), (1, 12, 1, 0), (2, 80, 34, 1458), (5, 12, 2, 0), (6, 39, 12, 24), (9, 16, 0, 0), (10, 62, 643, 290), (13, 12, 1, 0), (14, 73, 0, 0), (15, 63, 136, 1834), (18, 80, 83, 1217), (21, 55, 18, 36), (24, 16, 0, 0), (25, 62, 643, 290), (28, 12, 1, 0), (29, 73, 0, 0), (30, 63, 135, 1730), (33, 80, 83, 1217), (36, 56, 0, 0)]
-- Manypens.haveAllHeardAll()Z
noncomputable def zc_15 : List sy_E := [(0, 1, 0, 1), (1, 18, 1, 0), (2, 12, 1, 0), (3, 1, 80, 6), (4, 48, 29, 51), (7, 1, 0, 1), (8, 18, 2, 0), (9, 12, 2, 0), (10, 1, 80, 6), (11, 48, 27, 45), (14, 16, 0, 0), (15, 62, 643, 290), (18, 12, 1, 0), (19, 73, 0, 0), (20, 63, 130, 2546), (23, 12, 2, 0), (24, 71, 0, 0), (25, 16, 0, 0), (26, 62, 641, 170), (29, 63, 2, 2706), (32, 12, 2, 0), (33, 71, 0, 0), (34, 45, 25, 39), (37, 0, 0, 0), (38, 0, 0, 0), (39, 25, 2, 32769), (42, 55, 7, 9), (45, 25, 1, 32769), (48, 55, 2, 2), (51, 1, 16, 2), (52, 56, 0, 5)]
-- Manypens.haveHeardSame(II)Z
noncomputable def zc_16 : List sy_E := [(0, 1, 0, 1), (1, 18, 3, 0), (2, 12, 3, 0), (3, 1, 80, 6), (4, 48, 24, 40), (7, 16, 0, 0), (8, 62, 643, 290), (11, 12, 1, 0), (12, 73, 0, 0), (13, 63, 130, 2546), (16, 12, 3, 0), (17, 71, 0, 0), (18, 16, 0, 0), (19, 62, 643, 290), (22, 12, 2, 0), (23, 73, 0, 0), (24, 63, 130, 2546), (27, 12, 3, 0), (28, 71, 0, 0), (29, 45, 22, 34), (32, 0, 0, 0), (33, 0, 0, 0), (34, 25, 3, 32769), (37, 55, 2, 2), (40, 1, 16, 2), (41, 56, 0, 5)]
-- Manypens.hearAll(LManypens$Hand;LManypens$InTime;)I
noncomputable def zc_17 : List sy_E := [(0, 1, 0, 1), (1, 18, 3, 0), (2, 1, 0, 1), (3, 17, 4, 0), (5, 11, 4, 0), (7, 3, 3200, 32968), (10, 48, 32, 66), (13, 16, 2, 0), (14, 80, 74, 8529), (17, 17, 5, 0), (19, 11, 5, 0), (21, 42, 13, 27), (24, 55, 32, 66), (27, 0, 0, 0), (28, 0, 0, 0), (29, 0, 0, 0), (32, 0, 0, 0), (34, 0, 0, 0), (37, 0, 0, 0), (40, 0, 0, 0), (43, 0, 0, 0), (44, 0, 0, 0), (45, 0, 0, 0), (46, 0, 0, 0), (47, 0, 0, 0), (50, 0, 0, 0), (52, 0, 0, 0), (55, 0, 0, 0), (58, 0, 0, 0), (59, 0, 0, 0), (60, 0, 0, 0), (63, 0, 0, 0), (66, 12, 3, 0), (67, 56, 0, 0)]
-- Manypens.hearAnew(I)V
noncomputable def zc_18 : List sy_E := [(0, 16, 0, 0), (1, 62, 642, 242), (4, 16, 0, 0), (5, 62, 646, 450), (8, 63, 580, 3026), (11, 80, 94, 8978), (14, 16, 0, 0), (15, 62, 646, 450), (18, 63, 577, 4514), (21, 16, 0, 0), (22, 62, 646, 450), (25, 63, 580, 3026), (28, 80, 95, 6098), (31, 16, 0, 0), (32, 62, 647, 498), (35, 16, 0, 0), (36, 62, 641, 170), (39, 63, 3, 4418), (42, 16, 0, 0), (43, 62, 643, 290), (46, 12, 1, 0), (47, 73, 0, 0), (48, 63, 130, 2546), (51, 80, 75, 5139), (54, 1, 0, 1), (55, 18, 2, 0), (56, 12, 2, 0), (57, 3, 3200, 32968), (60, 48, 46, 102), (63, 16, 0, 0), (64, 62, 647, 498), (67, 80, 74, 8529), (70, 18, 3, 0), (71, 12, 3, 0), (72, 42, 36, 78), (75, 55, 46, 102), (78, 0, 0, 0), (79, 0, 0, 0), (82, 0, 0, 0), (85, 0, 0, 0), (86, 0, 0, 0), (89, 0, 0, 0), (90, 0, 0, 0), (93, 0, 0, 0), (96, 0, 0, 0), (99, 0, 0, 0), (102, 16, 0, 0), (103, 62, 646, 450), (106, 63, 577, 4514), (109, 80, 96, 8385), (112, 16, 0, 0), (113, 62, 646, 450), (116, 16, 0, 0), (117, 62, 643, 290), (120, 12, 1, 0), (121, 73, 0, 0), (122, 63, 130, 2546), (125, 80, 110, 8722), (128, 16, 0, 0), (129, 62, 646, 450), (132, 80, 100, 8785), (135, 61, 0, 0)]
-- Manypens.heard(II)I
noncomputable def zc_19 : List sy_E := [(0, 16, 0, 0), (1, 12, 1, 0), (2, 80, 34, 1458), (5, 16, 0, 0), (6, 12, 2, 0), (7, 80, 34, 1458), (10, 16, 0, 0), (11, 62, 643, 290), (14, 12, 1, 0), (15, 73, 0, 0), (16, 63, 130, 2546), (19, 12, 2, 0), (20, 71, 0, 0), (21, 56, 0, 0)]
-- Manypens.isAlike(II)Z
noncomputable def zc_20 : List sy_E := [(0, 16, 0, 0), (1, 12, 1, 0), (2, 80, 34, 1458), (5, 16, 0, 0), (6, 12, 2, 0), (7, 80, 34, 1458), (10, 16, 0, 0), (11, 12, 1, 0), (12, 80, 59, 1506), (15, 16, 0, 0), (16, 12, 2, 0), (17, 80, 59, 1506), (20, 80, 103, 5826), (23, 56, 0, 5)]
-- Manypens.isHand(I)Z
noncomputable def zc_21 : List sy_E := [(0, 12, 0, 0), (1, 41, 7, 13), (4, 12, 0, 0), (5, 1, 80, 6), (6, 48, 7, 13), (9, 1, 16, 2), (10, 55, 8, 14), (13, 1, 0, 1), (14, 56, 0, 5)]
-- Manypens.isMarked(IIC)Z
noncomputable def zc_22 : List sy_E := [(0, 16, 0, 0), (1, 12, 1, 0), (2, 80, 34, 1458), (5, 16, 0, 0), (6, 12, 3, 0), (7, 80, 35, 2498), (10, 16, 0, 0), (11, 16, 0, 0), (12, 12, 1, 0), (13, 80, 59, 1506), (16, 12, 2, 0), (17, 80, 36, 3811), (20, 0, 0, 0), (21, 0, 0, 0), (22, 0, 0, 0), (25, 0, 0, 0), (26, 0, 0, 0), (27, 0, 0, 0), (30, 0, 0, 0), (31, 0, 0, 0), (32, 0, 0, 0), (35, 0, 0, 0), (38, 0, 0, 0), (39, 0, 0, 0), (42, 0, 0, 0), (43, 0, 0, 0), (46, 0, 0, 0), (47, 0, 0, 0), (50, 0, 0, 0), (51, 0, 0, 0)]
-- Manypens.isTrue()Z
noncomputable def zc_23 : List sy_E := [(0, 1, 0, 1), (1, 18, 1, 0), (2, 12, 1, 0), (3, 1, 80, 6), (4, 48, 41, 75), (7, 16, 0, 0), (8, 12, 1, 0), (9, 80, 18, 6658), (12, 16, 0, 0), (13, 12, 1, 0), (14, 80, 59, 1506), (17, 16, 0, 0), (18, 62, 646, 450), (21, 80, 103, 5826), (24, 40, 17, 29), (27, 0, 0, 0), (28, 0, 0, 0), (29, 1, 0, 1), (30, 18, 2, 0), (31, 12, 2, 0), (32, 12, 1, 0), (33, 48, 39, 69), (36, 16, 0, 0), (37, 12, 1, 0), (38, 12, 2, 0), (39, 80, 16, 6707), (42, 39, 37, 63), (45, 16, 0, 0), (46, 12, 1, 0), (47, 80, 59, 1506), (50, 16, 0, 0), (51, 12, 2, 0), (52, 80, 59, 1506), (55, 80, 103, 5826), (58, 40, 37, 63), (61, 0, 0, 0), (62, 0, 0, 0), (63, 25, 2, 32769), (66, 55, 19, 31), (69, 25, 1, 32769), (72, 55, 2, 2), (75, 1, 16, 2), (76, 56, 0, 5)]
-- Manypens.kept(I)I
noncomputable def zc_24 : List sy_E := [(0, 16, 0, 0), (1, 12, 1, 0), (2, 80, 34, 1458), (5, 16, 0, 0), (6, 12, 1, 0), (7, 80, 59, 1506), (10, 63, 588, 3129), (13, 83, 56, 2097), (16, 56, 0, 0)]
-- Manypens.lacks(II)I
noncomputable def zc_25 : List sy_E := [(0, 16, 0, 0), (1, 12, 1, 0), (2, 80, 34, 1458), (5, 16, 0, 0), (6, 12, 2, 0), (7, 80, 34, 1458), (10, 1, 0, 1), (11, 18, 3, 0), (12, 1, 0, 1), (13, 17, 4, 0), (15, 11, 4, 0), (17, 1, 80, 6), (18, 48, 35, 59), (21, 12, 3, 0), (22, 1, 0, 1), (23, 16, 0, 0), (24, 62, 643, 290), (27, 12, 1, 0), (28, 73, 0, 0), (29, 63, 130, 2546), (32, 11, 4, 0), (34, 71, 0, 0), (35, 16, 0, 0), (36, 62, 643, 290), (39, 12, 2, 0), (40, 73, 0, 0), (41, 63, 130, 2546), (44, 11, 4, 0), (46, 71, 0, 0), (47, 27, 0, 0), (48, 83, 221, 5314), (51, 26, 0, 0), (52, 18, 3, 0), (53, 25, 4, 32769), (56, 55, 10, 15), (59, 12, 3, 0), (60, 56, 0, 0)]
-- Manypens.leans(III)I
noncomputable def zc_26 : List sy_E := [(0, 16, 0, 0), (1, 12, 1, 0), (2, 80, 34, 1458), (5, 16, 0, 0), (6, 12, 3, 0), (7, 80, 34, 1458), (10, 12, 2, 0), (11, 1, 16, 2), (12, 47, 16, 28), (15, 12, 2, 0), (16, 16, 0, 0), (17, 62, 641, 170), (20, 63, 2, 2706), (23, 12, 1, 0), (24, 71, 0, 0), (25, 50, 21, 39), (28, 89, 1, 2), (31, 0, 0, 0), (32, 0, 0, 0), (35, 0, 0, 0), (38, 0, 0, 0), (39, 0, 0, 0), (40, 0, 0, 0), (43, 0, 0, 0), (44, 0, 0, 0), (45, 0, 0, 0), (48, 0, 0, 0), (51, 0, 0, 0), (52, 0, 0, 0), (53, 0, 0, 0)]
-- Manypens.length(I)I
noncomputable def zc_27 : List sy_E := [(0, 16, 0, 0), (1, 12, 1, 0), (2, 80, 34, 1458), (5, 16, 0, 0), (6, 12, 1, 0), (7, 80, 59, 1506), (10, 80, 112, 1569), (13, 83, 56, 2097), (16, 56, 0, 0)]
-- Manypens.lengthThen(II)I
noncomputable def zc_28 : List sy_E := [(0, 16, 0, 0), (1, 12, 1, 0), (2, 80, 34, 1458), (5, 16, 0, 0), (6, 12, 1, 0), (7, 12, 2, 0), (8, 80, 40, 5635), (11, 16, 0, 0), (12, 12, 1, 0), (13, 12, 2, 0), (14, 80, 13, 5683), (17, 16, 0, 0), (18, 62, 644, 386), (21, 80, 112, 1569), (24, 83, 56, 2097), (27, 56, 0, 0)]
-- Manypens.lose(II)I
noncomputable def zc_29 : List sy_E := [(0, 16, 0, 0), (1, 12, 1, 0), (2, 80, 34, 1458), (5, 16, 0, 0), (6, 12, 1, 0), (7, 12, 2, 0), (8, 80, 38, 4643), (11, 0, 0, 0), (12, 0, 0, 0), (15, 0, 0, 0), (16, 0, 0, 0), (17, 0, 0, 0), (20, 0, 0, 0), (21, 0, 0, 0), (24, 0, 0, 0), (25, 0, 0, 0), (26, 0, 0, 0), (29, 0, 0, 0), (30, 0, 0, 0), (31, 0, 0, 0), (34, 0, 0, 0), (37, 0, 0, 0)]
-- Manypens.mark(IIICZZ)I
noncomputable def zc_30 : List sy_E := [(0, 16, 0, 0), (1, 12, 1, 0), (2, 80, 34, 1458), (5, 16, 0, 0), (6, 11, 4, 0), (8, 80, 35, 2498), (11, 16, 0, 0), (12, 16, 0, 0), (13, 12, 1, 0), (14, 80, 59, 1506), (17, 12, 2, 0), (18, 12, 3, 0), (19, 80, 37, 2164), (22, 0, 0, 0), (23, 0, 0, 0), (24, 0, 0, 0), (27, 0, 0, 0), (28, 0, 0, 0), (29, 0, 0, 0), (32, 0, 0, 0), (34, 0, 0, 0), (36, 0, 0, 0), (38, 0, 0, 0), (41, 0, 0, 0), (44, 0, 0, 0), (46, 0, 0, 0), (48, 0, 0, 0), (51, 0, 0, 0), (52, 0, 0, 0), (54, 0, 0, 0), (55, 0, 0, 0), (56, 0, 0, 0), (57, 0, 0, 0), (58, 0, 0, 0), (61, 0, 0, 0), (62, 0, 0, 0), (63, 0, 0, 0), (66, 0, 0, 0), (68, 0, 0, 0), (71, 0, 0, 0), (73, 0, 0, 0), (74, 0, 0, 0), (75, 0, 0, 0), (78, 0, 0, 0), (79, 0, 0, 0), (80, 0, 0, 0), (81, 0, 0, 0), (82, 0, 0, 0), (83, 0, 0, 0), (86, 0, 0, 0), (89, 0, 0, 0), (91, 0, 0, 0), (92, 0, 0, 0), (95, 0, 0, 0), (96, 0, 0, 0), (98, 0, 0, 0), (101, 0, 0, 0), (103, 0, 0, 0), (106, 0, 0, 0)]
-- Manypens.meanTime(I)D
noncomputable def zc_31 : List sy_E := [(0, 16, 0, 0), (1, 12, 1, 0), (2, 80, 34, 1458), (5, 16, 0, 0), (6, 12, 1, 0), (7, 80, 59, 1506), (10, 22, 2, 0), (11, 16, 2, 0), (12, 80, 112, 1569), (15, 4, 1, 0), (16, 36, 0, 0), (17, 40, 17, 31), (20, 89, 2, 3), (23, 0, 0, 0), (24, 0, 0, 0), (27, 0, 0, 0), (30, 0, 0, 0), (31, 0, 0, 0), (32, 0, 0, 0), (33, 0, 0, 0), (34, 0, 0, 0), (36, 0, 0, 0), (38, 0, 0, 0), (39, 0, 0, 0), (42, 0, 0, 0), (45, 0, 0, 0), (46, 0, 0, 0), (47, 0, 0, 0), (49, 0, 0, 0), (52, 0, 0, 0), (55, 0, 0, 0), (56, 0, 0, 0), (57, 0, 0, 0), (59, 0, 0, 0), (62, 0, 0, 0), (63, 0, 0, 0), (64, 0, 0, 0), (65, 0, 0, 0), (68, 0, 0, 0), (71, 0, 0, 0), (72, 0, 0, 0), (73, 0, 0, 0), (74, 0, 0, 0), (77, 0, 0, 0), (78, 0, 0, 0), (79, 0, 0, 0)]
-- Manypens.meet(II)I
noncomputable def zc_32 : List sy_E := [(0, 16, 0, 0), (1, 12, 1, 0), (2, 80, 34, 1458), (5, 16, 0, 0), (6, 12, 2, 0), (7, 80, 34, 1458), (10, 12, 1, 0), (11, 12, 2, 0), (12, 46, 14, 26), (15, 89, 3, 4), (18, 0, 0, 0), (19, 0, 0, 0), (22, 0, 0, 0), (25, 0, 0, 0), (26, 16, 0, 0), (27, 62, 647, 498), (30, 16, 0, 0), (31, 62, 643, 290), (34, 12, 1, 0), (35, 73, 0, 0), (36, 63, 130, 2546), (39, 16, 0, 0), (40, 62, 643, 290), (43, 12, 2, 0), (44, 73, 0, 0), (45, 63, 130, 2546), (48, 80, 75, 5139), (51, 16, 0, 0), (52, 62, 648, 530), (55, 16, 0, 0), (56, 62, 643, 290), (59, 12, 2, 0), (60, 73, 0, 0), (61, 63, 130, 2546), (64, 16, 0, 0), (65, 62, 643, 290), (68, 12, 1, 0), (69, 73, 0, 0), (70, 63, 130, 2546), (73, 80, 75, 5139), (76, 16, 0, 0), (77, 16, 0, 0), (78, 62, 643, 290), (81, 12, 1, 0), (82, 73, 0, 0), (83, 16, 0, 0), (84, 62, 647, 498), (87, 80, 17, 5203), (90, 16, 0, 0), (91, 16, 0, 0), (92, 62, 643, 290), (95, 12, 2, 0), (96, 73, 0, 0), (97, 16, 0, 0), (98, 62, 648, 530), (101, 80, 17, 5203), (104, 26, 0, 0), (105, 56, 0, 0)]
-- Manypens.move(IIII)I
noncomputable def zc_33 : List sy_E := [(0, 16, 0, 0), (1, 12, 1, 0), (2, 80, 34, 1458), (5, 16, 0, 0), (6, 16, 0, 0), (7, 12, 1, 0), (8, 80, 59, 1506), (11, 12, 2, 0), (12, 12, 3, 0), (13, 80, 37, 2164), (16, 0, 0, 0), (17, 0, 0, 0), (19, 0, 0, 0), (20, 0, 0, 0), (21, 0, 0, 0), (24, 0, 0, 0), (27, 0, 0, 0), (28, 0, 0, 0), (29, 0, 0, 0), (30, 0, 0, 0), (33, 0, 0, 0), (34, 0, 0, 0), (35, 0, 0, 0), (38, 0, 0, 0), (39, 0, 0, 0), (40, 0, 0, 0), (43, 0, 0, 0), (45, 0, 0, 0), (46, 0, 0, 0), (47, 0, 0, 0), (48, 0, 0, 0), (49, 0, 0, 0), (52, 0, 0, 0), (54, 0, 0, 0), (55, 0, 0, 0), (57, 0, 0, 0), (59, 0, 0, 0), (60, 0, 0, 0), (61, 0, 0, 0), (64, 0, 0, 0), (65, 0, 0, 0), (67, 0, 0, 0), (69, 0, 0, 0), (70, 0, 0, 0), (71, 0, 0, 0), (74, 0, 0, 0), (76, 0, 0, 0), (78, 0, 0, 0), (80, 0, 0, 0), (81, 0, 0, 0), (84, 0, 0, 0), (86, 0, 0, 0), (87, 0, 0, 0), (90, 0, 0, 0), (92, 0, 0, 0), (93, 0, 0, 0), (94, 0, 0, 0), (95, 0, 0, 0), (96, 0, 0, 0), (99, 0, 0, 0), (102, 0, 0, 0), (103, 0, 0, 0), (105, 0, 0, 0), (108, 0, 0, 0), (110, 0, 0, 0), (111, 0, 0, 0), (112, 0, 0, 0)]
-- Manypens.needHand(I)V
noncomputable def zc_34 : List sy_E := [(0, 12, 1, 0), (1, 83, 21, 6929), (4, 40, 8, 18), (7, 89, 4, 5), (10, 0, 0, 0), (11, 0, 0, 0), (14, 0, 0, 0), (17, 0, 0, 0), (18, 61, 0, 0)]
-- Manypens.needKind(C)V
noncomputable def zc_35 : List sy_E := [(0, 12, 1, 0), (1, 2, 1568, 226), (3, 45, 11, 23), (6, 12, 1, 0), (7, 2, 1680, 233), (9, 45, 11, 23), (12, 89, 3, 6), (15, 0, 0, 0), (16, 0, 0, 0), (19, 0, 0, 0), (22, 0, 0, 0), (23, 61, 0, 0)]
-- Manypens.needLetter(LManypens$View;I)V
noncomputable def zc_36 : List sy_E := [(0, 12, 2, 0), (1, 41, 8, 14), (4, 12, 2, 0), (5, 33, 0, 0), (6, 16, 1, 0), (7, 80, 112, 1569), (10, 36, 0, 0), (11, 41, 13, 25), (14, 89, 1, 7), (17, 0, 0, 0), (18, 0, 0, 0), (21, 0, 0, 0), (24, 0, 0, 0), (25, 0, 0, 0)]
-- Manypens.needLetters(LManypens$View;II)V
noncomputable def zc_37 : List sy_E := [(0, 12, 3, 0), (1, 1, 16, 2), (2, 47, 20, 32), (5, 12, 2, 0), (6, 41, 20, 32), (9, 12, 2, 0), (10, 33, 0, 0), (11, 16, 1, 0), (12, 80, 112, 1569), (15, 36, 0, 0), (16, 42, 20, 32), (19, 0, 0, 0), (20, 0, 0, 0), (21, 0, 0, 0), (22, 0, 0, 0), (25, 0, 0, 0), (26, 0, 0, 0), (27, 0, 0, 0), (28, 0, 0, 0), (29, 0, 0, 0), (32, 89, 1, 8), (35, 0, 0, 0), (36, 0, 0, 0), (39, 0, 0, 0), (42, 0, 0, 0), (43, 0, 0, 0)]
-- Manypens.needOnWay(II)V
noncomputable def zc_38 : List sy_E := [(0, 12, 2, 0), (1, 41, 10, 20), (4, 12, 2, 0), (5, 16, 0, 0), (6, 62, 643, 290), (9, 12, 1, 0), (10, 73, 0, 0), (11, 63, 133, 2298), (14, 80, 83, 1217), (17, 47, 15, 31), (20, 89, 1, 9), (23, 0, 0, 0), (24, 0, 0, 0), (27, 0, 0, 0), (30, 0, 0, 0), (31, 0, 0, 0)]
-- Manypens.needPlace(IJ)V
noncomputable def zc_39 : List sy_E := [(0, 12, 1, 0), (1, 41, 7, 11), (4, 12, 1, 0), (5, 33, 0, 0), (6, 14, 2, 0), (7, 36, 0, 0), (8, 44, 12, 22), (11, 89, 1, 10), (14, 0, 0, 0), (15, 0, 0, 0), (18, 0, 0, 0), (21, 0, 0, 0), (22, 61, 0, 0)]
-- Manypens.needStep(II)V
noncomputable def zc_40 : List sy_E := [(0, 12, 2, 0), (1, 41, 10, 20), (4, 12, 2, 0), (5, 16, 0, 0), (6, 62, 643, 290), (9, 12, 1, 0), (10, 73, 0, 0), (11, 63, 132, 2802), (14, 80, 83, 1217), (17, 50, 15, 31), (20, 89, 1, 11), (23, 0, 0, 0), (24, 0, 0, 0), (27, 0, 0, 0), (30, 0, 0, 0), (31, 61, 0, 0)]
-- Manypens.needTyped()V
noncomputable def zc_41 : List sy_E := [(0, 16, 0, 0), (1, 62, 640, 114), (4, 80, 83, 1217), (7, 40, 9, 21), (10, 89, 5, 12), (13, 0, 0, 0), (14, 0, 0, 0), (17, 0, 0, 0), (20, 0, 0, 0), (21, 0, 0, 0)]
-- Manypens.onWay(I)I
noncomputable def zc_42 : List sy_E := [(0, 16, 0, 0), (1, 12, 1, 0), (2, 80, 34, 1458), (5, 16, 0, 0), (6, 62, 643, 290), (9, 12, 1, 0), (10, 73, 0, 0), (11, 63, 133, 2298), (14, 80, 83, 1217), (17, 56, 0, 0)]
-- Manypens.open(I)I
noncomputable def zc_43 : List sy_E := [(0, 16, 0, 0), (1, 12, 1, 0), (2, 80, 34, 1458), (5, 16, 0, 0), (6, 62, 643, 290), (9, 12, 1, 0), (10, 73, 0, 0), (11, 63, 138, 1669), (14, 39, 14, 27), (17, 0, 0, 0), (20, 0, 0, 0), (21, 0, 0, 0), (23, 0, 0, 0), (26, 0, 0, 0), (27, 16, 0, 0), (28, 62, 643, 290), (31, 12, 1, 0), (32, 73, 0, 0), (33, 80, 70, 3409), (36, 16, 0, 0), (37, 62, 643, 290), (40, 12, 1, 0), (41, 73, 0, 0), (42, 63, 135, 1730), (45, 80, 83, 1217), (48, 56, 0, 0)]
-- Manypens.othersShare(I)F
noncomputable def zc_44 : List sy_E := [(0, 16, 0, 0), (1, 12, 1, 0), (2, 80, 34, 1458), (5, 16, 0, 0), (6, 12, 1, 0), (7, 80, 59, 1506), (10, 22, 2, 0), (11, 16, 2, 0), (12, 80, 112, 1569), (15, 4, 1, 0), (16, 36, 0, 0), (17, 40, 17, 31), (20, 89, 2, 13), (23, 0, 0, 0), (24, 0, 0, 0), (27, 0, 0, 0), (30, 0, 0, 0), (31, 0, 0, 0), (32, 0, 0, 0), (33, 0, 0, 0), (34, 0, 0, 0), (36, 0, 0, 0), (38, 0, 0, 0), (39, 0, 0, 0), (42, 0, 0, 0), (45, 0, 0, 0), (46, 0, 0, 0), (48, 0, 0, 0), (51, 0, 0, 0), (54, 0, 0, 0), (55, 0, 0, 0), (58, 0, 0, 0), (59, 0, 0, 0), (60, 0, 0, 0), (62, 0, 0, 0), (65, 0, 0, 0), (66, 0, 0, 0), (67, 0, 0, 0), (70, 0, 0, 0), (73, 0, 0, 0), (74, 0, 0, 0), (75, 0, 0, 0), (76, 0, 0, 0), (79, 0, 0, 0), (80, 0, 0, 0), (81, 0, 0, 0)]
-- Manypens.put(II)I
noncomputable def zc_45 : List sy_E := [(0, 16, 0, 0), (1, 12, 1, 0), (2, 80, 34, 1458), (5, 16, 0, 0), (6, 12, 1, 0), (7, 80, 59, 1506), (10, 22, 3, 0), (11, 16, 0, 0), (12, 12, 2, 0), (13, 16, 3, 0), (14, 80, 112, 1569), (17, 80, 39, 1619), (20, 16, 0, 0), (21, 80, 41, 1681), (24, 0, 0, 0), (25, 0, 0, 0), (26, 0, 0, 0), (29, 0, 0, 0), (30, 0, 0, 0), (33, 0, 0, 0), (36, 0, 0, 0), (37, 0, 0, 0), (38, 0, 0, 0), (41, 0, 0, 0), (42, 0, 0, 0), (43, 0, 0, 0), (46, 0, 0, 0), (47, 0, 0, 0), (48, 0, 0, 0), (51, 0, 0, 0), (53, 0, 0, 0), (54, 0, 0, 0), (56, 0, 0, 0), (57, 0, 0, 0), (58, 0, 0, 0), (59, 0, 0, 0), (62, 0, 0, 0), (65, 0, 0, 0), (66, 0, 0, 0), (68, 0, 0, 0), (71, 0, 0, 0), (72, 0, 0, 0), (73, 0, 0, 0), (76, 0, 0, 0), (79, 0, 0, 0), (82, 0, 0, 0)]
-- Manypens.redo(I)I
noncomputable def zc_46 : List sy_E := [(0, 16, 0, 0), (1, 12, 1, 0), (2, 80, 34, 1458), (5, 16, 0, 0), (6, 62, 643, 290), (9, 12, 1, 0), (10, 73, 0, 0), (11, 22, 2, 0), (12, 16, 2, 0), (13, 63, 136, 1834), (16, 80, 83, 1217), (19, 40, 17, 32), (22, 88, 1, 14), (25, 0, 0, 0), (26, 0, 0, 0), (28, 0, 0, 0), (31, 0, 0, 0), (32, 0, 0, 0), (33, 0, 0, 0), (34, 0, 0, 0), (37, 0, 0, 0), (38, 0, 0, 0), (39, 0, 0, 0), (40, 0, 0, 0), (43, 0, 0, 0), (44, 0, 0, 0), (47, 0, 0, 0), (48, 0, 0, 0), (51, 0, 0, 0)]
-- Manypens.repeat(II)I
noncomputable def zc_47 : List sy_E := [(0, 16, 0, 0), (1, 12, 1, 0), (2, 80, 34, 1458), (5, 16, 0, 0), (6, 12, 1, 0), (7, 12, 2, 0), (8, 80, 38, 4643), (11, 0, 0, 0), (12, 0, 0, 0), (15, 0, 0, 0), (16, 0, 0, 0), (17, 0, 0, 0), (20, 0, 0, 0), (21, 0, 0, 0), (22, 0, 0, 0), (25, 0, 0, 0), (28, 0, 0, 0), (31, 0, 0, 0), (34, 0, 0, 0), (35, 0, 0, 0), (38, 0, 0, 0), (41, 0, 0, 0), (42, 0, 0, 0), (43, 0, 0, 0), (44, 0, 0, 0), (45, 0, 0, 0), (48, 0, 0, 0), (51, 0, 0, 0), (52, 0, 0, 0), (55, 0, 0, 0)]
-- Manypens.replace(III)I
noncomputable def zc_48 : List sy_E := [(0, 16, 0, 0), (1, 12, 1, 0), (2, 80, 34, 1458), (5, 16, 0, 0), (6, 16, 0, 0), (7, 12, 1, 0), (8, 80, 59, 1506), (11, 12, 2, 0), (12, 12, 3, 0), (13, 80, 37, 2164), (16, 0, 0, 0), (17, 0, 0, 0), (20, 0, 0, 0), (21, 0, 0, 0), (22, 0, 0, 0), (23, 0, 0, 0), (26, 0, 0, 0), (29, 0, 0, 0), (30, 0, 0, 0), (31, 0, 0, 0), (32, 0, 0, 0), (33, 0, 0, 0), (36, 0, 0, 0), (39, 0, 0, 0), (40, 0, 0, 0), (41, 0, 0, 0), (44, 0, 0, 0), (45, 0, 0, 0), (46, 0, 0, 0), (49, 0, 0, 0), (50, 0, 0, 0), (51, 0, 0, 0), (54, 0, 0, 0), (56, 0, 0, 0), (57, 0, 0, 0), (58, 0, 0, 0), (59, 0, 0, 0), (60, 0, 0, 0), (63, 0, 0, 0), (65, 0, 0, 0), (66, 0, 0, 0), (68, 0, 0, 0), (70, 0, 0, 0), (71, 0, 0, 0), (72, 0, 0, 0), (75, 0, 0, 0), (76, 0, 0, 0), (78, 0, 0, 0), (80, 0, 0, 0), (81, 0, 0, 0), (82, 0, 0, 0), (85, 0, 0, 0), (88, 0, 0, 0), (89, 0, 0, 0), (91, 0, 0, 0), (94, 0, 0, 0), (95, 0, 0, 0), (96, 0, 0, 0), (99, 0, 0, 0), (102, 0, 0, 0), (105, 0, 0, 0)]
-- Manypens.runs(I)I
noncomputable def zc_49 : List sy_E := [(0, 16, 0, 0), (1, 12, 1, 0), (2, 80, 34, 1458), (5, 16, 0, 0), (6, 12, 1, 0), (7, 80, 59, 1506), (10, 22, 2, 0), (11, 1, 0, 1), (12, 18, 3, 0), (13, 1, 0, 1), (14, 17, 4, 0), (16, 11, 4, 0), (18, 16, 2, 0), (19, 80, 108, 4177), (22, 48, 29, 56), (25, 0, 0, 0), (27, 0, 0, 0), (30, 0, 0, 0), (31, 0, 0, 0), (33, 0, 0, 0), (36, 0, 0, 0), (37, 0, 0, 0), (39, 0, 0, 0), (40, 0, 0, 0), (41, 0, 0, 0), (44, 0, 0, 0), (47, 0, 0, 0), (50, 0, 0, 0), (53, 0, 0, 0), (56, 12, 3, 0), (57, 56, 0, 0)]
-- Manypens.setCursor(II)I
noncomputable def zc_50 : List sy_E := [(0, 16, 0, 0), (1, 12, 1, 0), (2, 80, 34, 1458), (5, 16, 0, 0), (6, 12, 1, 0), (7, 80, 59, 1506), (10, 22, 3, 0), (11, 16, 0, 0), (12, 12, 2, 0), (13, 16, 3, 0), (14, 80, 112, 1569), (17, 80, 39, 1619), (20, 16, 3, 0), (21, 16, 0, 0), (22, 62, 643, 290), (25, 12, 1, 0), (26, 73, 0, 0), (27, 63, 140, 1569), (30, 80, 109, 3186), (33, 19, 4, 0), (35, 16, 0, 0), (36, 62, 643, 290), (39, 12, 1, 0), (40, 73, 0, 0), (41, 16, 3, 0), (42, 12, 2, 0), (43, 33, 0, 0), (44, 80, 105, 1906), (47, 65, 140, 1569), (50, 13, 4, 0), (52, 83, 56, 2097), (55, 56, 0, 0)]
-- Manypens.signAt(II)C
noncomputable def zc_51 : List sy_E := [(0, 16, 0, 0), (1, 12, 1, 0), (2, 80, 34, 1458), (5, 16, 0, 0), (6, 16, 0, 0), (7, 12, 1, 0), (8, 80, 59, 1506), (11, 12, 2, 0), (12, 80, 36, 3811), (15, 0, 0, 0), (16, 0, 0, 0), (19, 0, 0, 0), (22, 0, 0, 0), (23, 0, 0, 0), (24, 0, 0, 0), (27, 0, 0, 0), (28, 0, 0, 0), (29, 0, 0, 0), (32, 0, 0, 0), (35, 0, 0, 0), (36, 0, 0, 0)]
-- Manypens.signThen(III)C
noncomputable def zc_52 : List sy_E := [(0, 16, 0, 0), (1, 12, 1, 0), (2, 80, 34, 1458), (5, 16, 0, 0), (6, 12, 1, 0), (7, 12, 2, 0), (8, 80, 40, 5635), (11, 16, 0, 0), (12, 12, 1, 0), (13, 12, 2, 0), (14, 80, 13, 5683), (17, 16, 0, 0), (18, 16, 0, 0), (19, 62, 644, 386), (22, 12, 3, 0), (23, 80, 36, 3811), (26, 0, 0, 0), (27, 0, 0, 0), (30, 0, 0, 0), (33, 0, 0, 0), (34, 0, 0, 0), (37, 0, 0, 0), (38, 0, 0, 0), (39, 0, 0, 0), (42, 0, 0, 0), (45, 0, 0, 0), (46, 0, 0, 0)]
-- Manypens.steps(I)I
noncomputable def zc_53 : List sy_E := [(0, 16, 0, 0), (1, 12, 1, 0), (2, 80, 34, 1458), (5, 16, 0, 0), (6, 62, 643, 290), (9, 12, 1, 0), (10, 73, 0, 0), (11, 63, 132, 2802), (14, 80, 83, 1217), (17, 56, 0, 0)]
-- Manypens.sumOn(JLManypens$View;)J
noncomputable def zc_54 : List sy_E := [(0, 14, 1, 0), (1, 19, 4, 0), (3, 1, 0, 1), (4, 17, 6, 0), (6, 11, 6, 0), (8, 16, 3, 0), (9, 80, 108, 4177), (12, 48, 42, 84), (15, 0, 0, 0), (16, 0, 0, 0), (18, 0, 0, 0), (21, 0, 0, 0), (23, 0, 0, 0), (24, 0, 0, 0), (27, 0, 0, 0), (30, 0, 0, 0), (31, 0, 0, 0), (32, 0, 0, 0), (34, 0, 0, 0), (37, 0, 0, 0), (40, 0, 0, 0), (42, 0, 0, 0), (45, 0, 0, 0), (47, 0, 0, 0), (49, 0, 0, 0), (51, 0, 0, 0), (54, 0, 0, 0), (55, 0, 0, 0), (58, 0, 0, 0), (60, 0, 0, 0), (61, 0, 0, 0), (62, 0, 0, 0), (63, 0, 0, 0), (65, 0, 0, 0), (68, 0, 0, 0), (69, 0, 0, 0), (71, 0, 0, 0), (74, 0, 0, 0), (75, 0, 0, 0), (76, 0, 0, 0), (78, 0, 0, 0), (81, 0, 0, 0), (84, 13, 4, 0), (86, 57, 0, 1)]
-- Manypens.take(III)I
noncomputable def zc_55 : List sy_E := [(0, 16, 0, 0), (1, 12, 1, 0), (2, 80, 34, 1458), (5, 16, 0, 0), (6, 16, 0, 0), (7, 12, 1, 0), (8, 80, 59, 1506), (11, 12, 2, 0), (12, 12, 3, 0), (13, 80, 37, 2164), (16, 0, 0, 0), (17, 0, 0, 0), (18, 0, 0, 0), (21, 0, 0, 0), (22, 0, 0, 0), (23, 0, 0, 0), (26, 0, 0, 0), (28, 0, 0, 0), (29, 0, 0, 0), (31, 0, 0, 0), (32, 0, 0, 0), (33, 0, 0, 0), (34, 0, 0, 0), (35, 0, 0, 0), (38, 0, 0, 0), (39, 0, 0, 0), (40, 0, 0, 0), (43, 0, 0, 0), (44, 0, 0, 0), (46, 0, 0, 0), (49, 0, 0, 0), (50, 0, 0, 0), (51, 0, 0, 0), (54, 0, 0, 0), (57, 0, 0, 0), (60, 0, 0, 0)]
-- Manypens.told(J)I
noncomputable def zc_56 : List sy_E := [(0, 14, 0, 0), (1, 8, 34359738353, 463), (4, 83, 222, 7442), (7, 34, 0, 0), (8, 56, 0, 0)]
-- Manypens.type(C)I
noncomputable def zc_57 : List sy_E := [(0, 12, 1, 0), (1, 2, 512, 160), (3, 47, 6, 12), (6, 12, 1, 0), (7, 2, 2016, 254), (9, 50, 11, 22), (12, 88, 3, 15), (15, 0, 0, 0), (16, 0, 0, 0), (18, 0, 0, 0), (21, 0, 0, 0), (22, 16, 0, 0), (23, 62, 640, 114), (26, 80, 83, 1217), (29, 2, 192, 140), (31, 47, 21, 44), (34, 0, 0, 0), (37, 0, 0, 0), (38, 0, 0, 0), (40, 0, 0, 0), (43, 0, 0, 0), (44, 16, 0, 0), (45, 62, 640, 114), (48, 12, 1, 0), (49, 80, 77, 1362), (52, 16, 0, 0), (53, 62, 640, 114), (56, 80, 83, 1217), (59, 56, 0, 0)]
-- Manypens.undo(I)I
noncomputable def zc_58 : List sy_E := [(0, 16, 0, 0), (1, 12, 1, 0), (2, 80, 34, 1458), (5, 16, 0, 0), (6, 62, 643, 290), (9, 12, 1, 0), (10, 73, 0, 0), (11, 22, 2, 0), (12, 16, 2, 0), (13, 63, 135, 1730), (16, 80, 83, 1217), (19, 40, 17, 32), (22, 88, 1, 16), (25, 0, 0, 0), (26, 0, 0, 0), (28, 0, 0, 0), (31, 0, 0, 0), (32, 0, 0, 0), (33, 0, 0, 0), (34, 0, 0, 0), (37, 0, 0, 0), (38, 0, 0, 0), (39, 0, 0, 0), (40, 0, 0, 0), (43, 0, 0, 0), (44, 0, 0, 0), (47, 0, 0, 0), (48, 0, 0, 0), (51, 0, 0, 0)]
-- Manypens.viewOf(I)LManypens$View;
noncomputable def zc_59 : List sy_E := [(0, 16, 0, 0), (1, 62, 643, 290), (4, 12, 1, 0), (5, 73, 0, 0), (6, 22, 2, 0), (7, 16, 2, 0), (8, 63, 129, 4293), (11, 40, 12, 24), (14, 16, 2, 0), (15, 63, 128, 4314), (18, 80, 102, 8673), (21, 39, 23, 47), (24, 0, 0, 0), (25, 0, 0, 0), (28, 0, 0, 0), (29, 0, 0, 0), (32, 0, 0, 0), (35, 0, 0, 0), (36, 0, 0, 0), (39, 0, 0, 0), (42, 0, 0, 0), (43, 0, 0, 0), (44, 0, 0, 0), (47, 16, 2, 0), (48, 63, 128, 4314), (51, 58, 0, 2)]
-- Manypens.waiting(I)I
noncomputable def zc_60 : List sy_E := [(0, 16, 0, 0), (1, 12, 1, 0), (2, 80, 34, 1458), (5, 16, 0, 0), (6, 62, 643, 290), (9, 12, 1, 0), (10, 73, 0, 0), (11, 80, 69, 5265), (14, 56, 0, 0)]
-- Manypens.wayAt(II)I
noncomputable def zc_61 : List sy_E := [(0, 16, 0, 0), (1, 12, 1, 0), (2, 80, 34, 1458), (5, 16, 0, 0), (6, 12, 1, 0), (7, 12, 2, 0), (8, 80, 38, 4643), (11, 0, 0, 0), (12, 0, 0, 0), (15, 0, 0, 0), (16, 0, 0, 0), (19, 0, 0, 0), (20, 0, 0, 0), (21, 0, 0, 0), (24, 0, 0, 0), (25, 0, 0, 0), (28, 0, 0, 0), (31, 0, 0, 0), (34, 0, 0, 0)]
-- Manypens.write(I)I
noncomputable def zc_62 : List sy_E := [(0, 16, 0, 0), (1, 12, 1, 0), (2, 80, 34, 1458), (5, 16, 0, 0), (6, 80, 41, 1681), (9, 0, 0, 0), (10, 0, 0, 0), (11, 0, 0, 0), (14, 0, 0, 0), (15, 0, 0, 0), (16, 0, 0, 0), (17, 0, 0, 0), (20, 0, 0, 0), (21, 0, 0, 0), (24, 0, 0, 0), (27, 0, 0, 0), (28, 0, 0, 0), (29, 0, 0, 0), (32, 0, 0, 0), (33, 0, 0, 0), (34, 0, 0, 0), (37, 0, 0, 0), (38, 0, 0, 0), (39, 0, 0, 0), (42, 0, 0, 0), (43, 0, 0, 0), (44, 0, 0, 0), (45, 0, 0, 0), (46, 0, 0, 0), (47, 0, 0, 0), (48, 0, 0, 0), (51, 0, 0, 0), (52, 0, 0, 0), (53, 0, 0, 0), (56, 0, 0, 0), (59, 0, 0, 0), (62, 0, 0, 0), (65, 0, 0, 0), (66, 0, 0, 0), (67, 0, 0, 0), (70, 0, 0, 0), (71, 0, 0, 0), (74, 0, 0, 0), (75, 0, 0, 0), (76, 0, 0, 0), (77, 0, 0, 0), (80, 0, 0, 0), (81, 0, 0, 0), (84, 0, 0, 0), (85, 0, 0, 0), (86, 0, 0, 0), (87, 0, 0, 0), (90, 0, 0, 0), (91, 0, 0, 0), (92, 0, 0, 0), (95, 0, 0, 0), (96, 0, 0, 0), (99, 0, 0, 0), (100, 0, 0, 0), (101, 0, 0, 0), (104, 0, 0, 0), (107, 0, 0, 0), (110, 0, 0, 0)]
-- Manypens$Book.<init>()V
noncomputable def zc_63 : List sy_E := [(0, 16, 0, 0), (1, 91, 0, 3), (4, 16, 0, 0), (5, 67, 1, 9), (8, 37, 0, 0), (9, 1, 0, 1), (10, 1, 0, 1), (11, 1, 0, 1), (12, 1, 80, 6), (13, 68, 0, 10), (15, 82, 66, 181), (18, 66, 0, 114), (21, 16, 0, 0), (22, 3, 3200, 32968), (25, 69, 6, 9), (28, 66, 1, 162), (31, 16, 0, 0), (32, 1, 80, 6), (33, 68, 0, 10), (35, 66, 2, 194), (38, 16, 0, 0), (39, 1, 80, 6), (40, 68, 0, 10), (42, 66, 3, 226), (45, 16, 0, 0), (46, 67, 6, 31), (49, 37, 0, 0), (50, 82, 90, 529), (53, 66, 4, 274), (56, 16, 0, 0), (57, 67, 8, 38), (60, 37, 0, 0), (61, 82, 98, 641), (64, 66, 5, 330), (67, 16, 0, 0), (68, 67, 4, 45), (71, 37, 0, 0), (72, 2, 512, 160), (74, 82, 76, 754), (77, 66, 6, 402), (80, 16, 0, 0), (81, 67, 4, 45), (84, 37, 0, 0), (85, 2, 512, 160), (87, 82, 76, 754), (90, 66, 7, 434), (93, 61, 0, 0)]
-- Manypens$Book.editAt(I)LManypens$Edit;
noncomputable def zc_64 : List sy_E := [(0, 12, 1, 0), (1, 41, 10, 20), (4, 12, 1, 0), (5, 3, 3200, 32968), (8, 48, 10, 20), (11, 16, 0, 0), (12, 62, 1, 162), (15, 12, 1, 0), (16, 73, 0, 0), (17, 55, 11, 21), (20, 0, 0, 0), (21, 22, 2, 0), (22, 16, 2, 0), (23, 54, 17, 33), (26, 16, 0, 0), (27, 62, 0, 114), (30, 55, 18, 34), (33, 0, 0, 0), (34, 58, 0, 2)]
-- Manypens$Book.setBase()V
noncomputable def zc_65 : List sy_E := [(0, 16, 0, 0), (1, 62, 2, 194), (4, 1, 0, 1), (5, 16, 0, 0), (6, 62, 3, 226), (9, 1, 0, 1), (10, 1, 80, 6), (11, 86, 0, 115), (14, 61, 0, 0)]
-- Manypens$Edit.<init>(III[I)V
noncomputable def zc_66 : List sy_E := [(0, 16, 0, 0), (1, 91, 0, 3), (4, 16, 0, 0), (5, 12, 1, 0), (6, 66, 64, 72), (9, 16, 0, 0), (10, 12, 2, 0), (11, 66, 65, 120), (14, 16, 0, 0), (15, 12, 1, 0), (16, 2, 640, 168), (18, 28, 0, 0), (19, 12, 2, 0), (20, 26, 0, 0), (21, 1, 16, 2), (22, 27, 0, 0), (23, 66, 66, 144), (26, 16, 0, 0), (27, 12, 3, 0), (28, 66, 67, 168), (31, 16, 0, 0), (32, 15, 4, 0), (34, 85, 0, 24), (37, 79, 0, 25), (40, 66, 68, 242), (43, 61, 0, 0)]
-- Manypens$Hand.<init>(LManypens$View;)V
noncomputable def zc_67 : List sy_E := [(0, 16, 0, 0), (1, 91, 0, 3), (4, 16, 0, 0), (5, 16, 1, 0), (6, 66, 128, 74), (9, 16, 0, 0), (10, 1, 80, 6), (11, 68, 0, 10), (13, 66, 130, 122), (16, 16, 0, 0), (17, 67, 4, 19), (20, 37, 0, 0), (21, 3, 3200, 32968), (24, 82, 76, 338), (27, 66, 132, 194), (30, 16, 0, 0), (31, 67, 4, 19), (34, 37, 0, 0), (35, 3, 3200, 32968), (38, 82, 76, 338), (41, 66, 133, 226), (44, 16, 0, 0), (45, 3, 3200, 32968), (48, 68, 0, 10), (50, 66, 134, 250), (53, 16, 0, 0), (54, 67, 4, 19), (57, 37, 0, 0), (58, 2, 640, 168), (60, 82, 76, 338), (63, 66, 135, 274), (66, 16, 0, 0), (67, 67, 4, 19), (70, 37, 0, 0), (71, 2, 640, 168), (73, 82, 76, 338), (76, 66, 136, 298), (79, 16, 0, 0), (80, 67, 4, 19), (83, 37, 0, 0), (84, 2, 640, 168), (86, 82, 76, 338), (89, 66, 137, 322), (92, 16, 0, 0), (93, 1, 68719476720, 0), (94, 64, 139, 344), (97, 16, 0, 0), (98, 4, 1, 0), (99, 64, 140, 377), (102, 61, 0, 0)]
-- Manypens$Hand.closeGroup()I
noncomputable def zc_68 : List sy_E := [(0, 16, 0, 0), (1, 16, 0, 0), (2, 62, 139, 344), (5, 80, 71, 1682), (8, 18, 1, 0), (9, 16, 0, 0), (10, 1, 0, 1), (11, 64, 138, 821), (14, 16, 0, 0), (15, 1, 68719476720, 0), (16, 64, 139, 344), (19, 12, 1, 0), (20, 56, 0, 0)]
-- Manypens$Hand.manyWaiting()I
noncomputable def zc_69 : List sy_E := [(0, 1, 0, 1), (1, 18, 1, 0), (2, 1, 0, 1), (3, 18, 2, 0), (4, 12, 2, 0), (5, 3, 3200, 32968), (8, 48, 16, 26), (11, 12, 1, 0), (12, 16, 0, 0), (13, 62, 134, 250), (16, 12, 2, 0), (17, 71, 0, 0), (18, 26, 0, 0), (19, 18, 1, 0), (20, 25, 2, 32769), (23, 55, 4, 4), (26, 12, 1, 0), (27, 56, 0, 0)]
-- Manypens$Hand.openGroup()V
noncomputable def zc_70 : List sy_E := [(0, 16, 0, 0), (1, 1, 16, 2), (2, 64, 138, 821), (5, 16, 0, 0), (6, 1, 68719476720, 0), (7, 64, 139, 344), (10, 61, 0, 0)]
-- Manypens$Hand.sizeOf(I)I
noncomputable def zc_71 : List sy_E := [(0, 16, 0, 0), (1, 62, 137, 322), (4, 12, 1, 0), (5, 80, 78, 1746), (8, 56, 0, 0)]
-- Manypens$Hand.startAnew()V
noncomputable def zc_72 : List sy_E := [(0, 16, 0, 0), (1, 62, 132, 194), (4, 80, 79, 1793), (7, 16, 0, 0), (8, 62, 135, 274), (11, 80, 79, 1793), (14, 16, 0, 0), (15, 62, 136, 298), (18, 80, 79, 1793), (21, 16, 0, 0), (22, 80, 68, 2017), (25, 38, 0, 0), (26, 16, 0, 0), (27, 1, 16, 2), (28, 64, 129, 709), (31, 61, 0, 0)]
-- Manypens$InTime.<init>(LManypens$Book;)V
noncomputable def zc_73 : List sy_E := [(0, 16, 0, 0), (1, 91, 0, 3), (4, 16, 0, 0), (5, 16, 1, 0), (6, 66, 192, 74), (9, 16, 0, 0), (10, 1, 80, 6), (11, 68, 0, 10), (13, 66, 193, 122), (16, 16, 0, 0), (17, 1, 80, 6), (18, 68, 0, 10), (20, 66, 194, 154), (23, 61, 0, 0)]
-- Manypens$InTime.next()I
noncomputable def zc_74 : List sy_E := [(0, 1, 68719476720, 0), (1, 18, 1, 0), (2, 1, 0, 1), (3, 18, 2, 0), (4, 12, 2, 0), (5, 1, 80, 6), (6, 48, 29, 49), (9, 16, 0, 0), (10, 62, 193, 122), (13, 12, 2, 0), (14, 71, 0, 0), (15, 16, 0, 0), (16, 62, 194, 154), (19, 12, 2, 0), (20, 71, 0, 0), (21, 48, 27, 43), (24, 0, 0, 0), (25, 0, 0, 0), (28, 0, 0, 0), (29, 0, 0, 0), (30, 0, 0, 0), (33, 0, 0, 0), (34, 0, 0, 0), (35, 0, 0, 0), (38, 0, 0, 0), (41, 0, 0, 0), (42, 0, 0, 0), (43, 25, 2, 32769), (46, 55, 4, 4), (49, 12, 1, 0), (50, 42, 33, 55), (53, 1, 68719476720, 0), (54, 56, 0, 0), (55, 0, 0, 0), (56, 0, 0, 0), (59, 0, 0, 0), (60, 0, 0, 0), (61, 0, 0, 0), (62, 0, 0, 0), (63, 0, 0, 0), (64, 0, 0, 0), (65, 0, 0, 0), (66, 0, 0, 0), (68, 0, 0, 0), (69, 0, 0, 0), (70, 0, 0, 0), (73, 0, 0, 0), (74, 0, 0, 0), (75, 0, 0, 0), (76, 0, 0, 0), (77, 0, 0, 0), (78, 0, 0, 0)]
-- Manypens$InTime.start([I[I)V
noncomputable def zc_75 : List sy_E := [(0, 1, 0, 1), (1, 18, 3, 0), (2, 12, 3, 0), (3, 1, 80, 6), (4, 48, 29, 43), (7, 12, 3, 0), (8, 16, 1, 0), (9, 70, 0, 0), (10, 48, 29, 43), (13, 12, 3, 0), (14, 16, 2, 0), (15, 70, 0, 0), (16, 48, 29, 43), (19, 16, 0, 0), (20, 62, 193, 122), (23, 12, 3, 0), (24, 16, 1, 0), (25, 12, 3, 0), (26, 71, 0, 0), (27, 75, 0, 0), (28, 16, 0, 0), (29, 62, 194, 154), (32, 12, 3, 0), (33, 16, 2, 0), (34, 12, 3, 0), (35, 71, 0, 0), (36, 75, 0, 0), (37, 25, 3, 32769), (40, 55, 2, 2), (43, 61, 0, 0)]
-- Manypens$Ints.<init>(I)V
noncomputable def zc_76 : List sy_E := [(0, 16, 0, 0), (1, 91, 0, 1), (4, 16, 0, 0), (5, 12, 1, 0), (6, 1, 16, 2), (7, 48, 8, 14), (10, 0, 0, 0), (11, 0, 0, 0), (14, 12, 1, 0), (15, 68, 0, 10), (17, 64, 256, 58), (20, 61, 0, 0)]
-- Manypens$Ints.add(I)V
noncomputable def zc_77 : List sy_E := [(0, 16, 0, 0), (1, 16, 0, 0), (2, 62, 257, 104), (5, 1, 16, 2), (6, 26, 0, 0), (7, 80, 81, 274), (10, 39, 19, 33), (13, 16, 0, 0), (14, 62, 256, 58), (17, 16, 0, 0), (18, 62, 257, 104), (21, 12, 1, 0), (22, 75, 0, 0), (23, 16, 0, 0), (24, 37, 0, 0), (25, 62, 257, 104), (28, 1, 16, 2), (29, 26, 0, 0), (30, 64, 257, 104), (33, 61, 0, 0)]
-- Manypens$Ints.at(I)I
noncomputable def zc_78 : List sy_E := [(0, 12, 1, 0), (1, 41, 11, 21), (4, 12, 1, 0), (5, 16, 0, 0), (6, 62, 257, 104), (9, 48, 11, 21), (12, 16, 0, 0), (13, 62, 256, 58), (16, 12, 1, 0), (17, 71, 0, 0), (18, 55, 12, 22), (21, 1, 0, 1), (22, 56, 0, 0)]
-- Manypens$Ints.clear()V
noncomputable def zc_79 : List sy_E := [(0, 16, 0, 0), (1, 1, 0, 1), (2, 64, 257, 104), (5, 61, 0, 0)]
-- Manypens$Ints.isEqual(LManypens$Ints;)Z
noncomputable def zc_80 : List sy_E := [(0, 16, 0, 0), (1, 62, 257, 104), (4, 16, 1, 0), (5, 62, 257, 104), (8, 45, 7, 13), (11, 0, 0, 0), (12, 0, 0, 0), (13, 1, 0, 1), (14, 18, 2, 0), (15, 12, 2, 0), (16, 16, 0, 0), (17, 62, 257, 104), (20, 48, 24, 44), (23, 0, 0, 0), (24, 0, 0, 0), (25, 0, 0, 0), (28, 0, 0, 0), (29, 0, 0, 0), (30, 0, 0, 0), (33, 0, 0, 0), (36, 0, 0, 0), (37, 0, 0, 0), (38, 0, 0, 0), (41, 0, 0, 0), (44, 1, 16, 2), (45, 56, 0, 5)]
-- Manypens$Ints.makeRoom(I)Z
noncomputable def zc_81 : List sy_E := [(0, 12, 1, 0), (1, 6, 16777216, 37), (3, 50, 5, 8), (6, 0, 0, 0), (7, 0, 0, 0), (8, 12, 1, 0), (9, 16, 0, 0), (10, 62, 256, 58), (13, 70, 0, 0), (14, 50, 24, 44), (17, 0, 0, 0), (18, 0, 0, 0), (19, 0, 0, 0), (22, 0, 0, 0), (24, 0, 0, 0), (25, 0, 0, 0), (26, 0, 0, 0), (27, 0, 0, 0), (30, 0, 0, 0), (31, 0, 0, 0), (32, 0, 0, 0), (35, 0, 0, 0), (38, 0, 0, 0), (41, 0, 0, 0), (44, 1, 16, 2), (45, 56, 0, 5)]
-- Manypens$Ints.set(II)V
noncomputable def zc_82 : List sy_E := [(0, 12, 1, 0), (1, 41, 11, 19), (4, 12, 1, 0), (5, 16, 0, 0), (6, 62, 257, 104), (9, 48, 11, 19), (12, 16, 0, 0), (13, 62, 256, 58), (16, 12, 1, 0), (17, 12, 2, 0), (18, 75, 0, 0), (19, 61, 0, 0)]
-- Manypens$Ints.size()I
noncomputable def zc_83 : List sy_E := [(0, 16, 0, 0), (1, 62, 257, 104), (4, 56, 0, 0)]
-- Manypens$Ints.widen(I)V
noncomputable def zc_84 : List sy_E := [(0, 12, 1, 0), (1, 16, 0, 0), (2, 62, 257, 104), (5, 50, 18, 34), (8, 16, 0, 0), (9, 12, 1, 0), (10, 80, 81, 274), (13, 39, 18, 34), (16, 16, 0, 0), (17, 62, 256, 58), (20, 16, 0, 0), (21, 62, 257, 104), (24, 12, 1, 0), (25, 1, 0, 1), (26, 83, 224, 436), (29, 16, 0, 0), (30, 12, 1, 0), (31, 64, 257, 104), (34, 61, 0, 0)]
-- Manypens$Longs.<init>(I)V
noncomputable def zc_85 : List sy_E := [(0, 16, 0, 0), (1, 91, 0, 1), (4, 16, 0, 0), (5, 12, 1, 0), (6, 1, 16, 2), (7, 48, 8, 14), (10, 0, 0, 0), (11, 0, 0, 0), (14, 12, 1, 0), (15, 68, 1, 11), (17, 64, 320, 58), (20, 61, 0, 0)]
-- Manypens$Longs.add(J)V
noncomputable def zc_86 : List sy_E := [(0, 16, 0, 0), (1, 16, 0, 0), (2, 62, 321, 104), (5, 1, 16, 2), (6, 26, 0, 0), (7, 80, 88, 274), (10, 39, 19, 33), (13, 16, 0, 0), (14, 62, 320, 58), (17, 16, 0, 0), (18, 62, 321, 104), (21, 14, 1, 0), (22, 76, 0, 0), (23, 16, 0, 0), (24, 37, 0, 0), (25, 62, 321, 104), (28, 1, 16, 2), (29, 26, 0, 0), (30, 64, 321, 104), (33, 61, 0, 0)]
-- Manypens$Longs.clear()V
noncomputable def zc_87 : List sy_E := [(0, 16, 0, 0), (1, 1, 0, 1), (2, 64, 321, 104), (5, 61, 0, 0)]
-- Manypens$Longs.makeRoom(I)Z
noncomputable def zc_88 : List sy_E := [(0, 12, 1, 0), (1, 6, 16777216, 33), (3, 50, 5, 8), (6, 0, 0, 0), (7, 0, 0, 0), (8, 12, 1, 0), (9, 16, 0, 0), (10, 62, 320, 58), (13, 70, 0, 0), (14, 50, 24, 44), (17, 0, 0, 0), (18, 0, 0, 0), (19, 0, 0, 0), (22, 0, 0, 0), (24, 0, 0, 0), (25, 0, 0, 0), (26, 0, 0, 0), (27, 0, 0, 0), (30, 0, 0, 0), (31, 0, 0, 0), (32, 0, 0, 0), (35, 0, 0, 0), (38, 0, 0, 0), (41, 0, 0, 0), (44, 1, 16, 2), (45, 56, 0, 5)]
-- Manypens$Longs.widen(I)V
noncomputable def zc_89 : List sy_E := [(0, 12, 1, 0), (1, 16, 0, 0), (2, 62, 321, 104), (5, 50, 18, 34), (8, 16, 0, 0), (9, 12, 1, 0), (10, 80, 88, 274), (13, 39, 18, 34), (16, 16, 0, 0), (17, 62, 320, 58), (20, 16, 0, 0), (21, 62, 321, 104), (24, 12, 1, 0), (25, 4, 1, 0), (26, 83, 225, 436), (29, 16, 0, 0), (30, 12, 1, 0), (31, 64, 321, 104), (34, 61, 0, 0)]
-- Manypens$Pieces.<init>()V
noncomputable def zc_90 : List sy_E := [(0, 16, 0, 0), (1, 91, 0, 3), (4, 16, 0, 0), (5, 67, 5, 9), (8, 37, 0, 0), (9, 2, 512, 160), (11, 82, 85, 178), (14, 66, 384, 114), (17, 16, 0, 0), (18, 67, 5, 9), (21, 37, 0, 0), (22, 2, 512, 160), (24, 82, 85, 178), (27, 66, 385, 162), (30, 16, 0, 0), (31, 67, 4, 23), (34, 37, 0, 0), (35, 2, 512, 160), (37, 82, 76, 402), (40, 66, 386, 210), (43, 16, 0, 0), (44, 67, 5, 9), (47, 37, 0, 0), (48, 3, 2048, 32896), (51, 82, 85, 178), (54, 66, 387, 242), (57, 16, 0, 0), (58, 67, 4, 23), (61, 37, 0, 0), (62, 2, 512, 160), (64, 82, 76, 402), (67, 66, 388, 266), (70, 16, 0, 0), (71, 67, 5, 9), (74, 37, 0, 0), (75, 2, 512, 160), (77, 82, 85, 178), (80, 66, 389, 290), (83, 16, 0, 0), (84, 4, 1, 0), (85, 4, 1, 0), (86, 1, 68719476720, 0), (87, 80, 91, 628), (90, 61, 0, 0)]
-- Manypens$Pieces.add(JJI)V
noncomputable def zc_91 : List sy_E := [(0, 16, 0, 0), (1, 62, 388, 266), (4, 16, 0, 0), (5, 62, 386, 210), (8, 80, 83, 689), (11, 80, 77, 754), (14, 16, 0, 0), (15, 62, 389, 290), (18, 14, 1, 0), (19, 80, 86, 786), (22, 16, 0, 0), (23, 62, 384, 114), (26, 14, 1, 0), (27, 80, 86, 786), (30, 16, 0, 0), (31, 62, 385, 162), (34, 14, 3, 0), (35, 80, 86, 786), (38, 16, 0, 0), (39, 62, 386, 210), (42, 11, 5, 0), (44, 80, 77, 754), (47, 16, 0, 0), (48, 62, 387, 242), (51, 16, 0, 0), (52, 62, 386, 210), (55, 80, 83, 689), (58, 1, 64, 5), (59, 28, 0, 0), (60, 80, 89, 834), (63, 61, 0, 0)]
-- Manypens$Pieces.size()I
noncomputable def zc_92 : List sy_E := [(0, 16, 0, 0), (1, 62, 388, 266), (4, 80, 83, 689), (7, 56, 0, 0)]
-- Manypens$Row.<init>(LManypens$Book;)V
noncomputable def zc_93 : List sy_E := [(0, 16, 0, 0), (1, 91, 0, 3), (4, 16, 0, 0), (5, 16, 1, 0), (6, 66, 448, 74), (9, 16, 0, 0), (10, 16, 1, 0), (11, 63, 4, 122), (14, 66, 449, 170), (17, 16, 0, 0), (18, 67, 4, 22), (21, 37, 0, 0), (22, 2, 512, 160), (24, 82, 76, 386), (27, 66, 450, 218), (30, 16, 0, 0), (31, 67, 5, 31), (34, 37, 0, 0), (35, 2, 512, 160), (37, 82, 85, 530), (40, 66, 451, 274), (43, 16, 0, 0), (44, 62, 450, 218), (47, 1, 16, 2), (48, 80, 84, 610), (51, 16, 0, 0), (52, 62, 451, 274), (55, 1, 16, 2), (56, 80, 89, 658), (59, 61, 0, 0)]
-- Manypens$Row.gatherBase(LManypens$Ints;)V
noncomputable def zc_94 : List sy_E := [(0, 16, 1, 0), (1, 80, 79, 1377), (4, 16, 0, 0), (5, 62, 450, 218), (8, 1, 0, 1), (9, 80, 78, 882), (12, 18, 2, 0), (13, 1, 0, 1), (14, 18, 3, 0), (15, 12, 3, 0), (16, 16, 0, 0), (17, 62, 452, 632), (20, 48, 33, 65), (23, 0, 0, 0), (24, 0, 0, 0), (27, 0, 0, 0), (28, 0, 0, 0), (31, 0, 0, 0), (32, 0, 0, 0), (35, 0, 0, 0), (36, 0, 0, 0), (39, 0, 0, 0), (42, 0, 0, 0), (45, 0, 0, 0), (46, 0, 0, 0), (47, 0, 0, 0), (50, 0, 0, 0), (51, 0, 0, 0), (54, 0, 0, 0), (55, 0, 0, 0), (58, 0, 0, 0), (59, 0, 0, 0), (62, 0, 0, 0), (65, 61, 0, 0)]
-- Manypens$Row.lay(LManypens$Ints;)V
noncomputable def zc_95 : List sy_E := [(0, 16, 0, 0), (1, 62, 450, 218), (4, 16, 0, 0), (5, 62, 449, 170), (8, 80, 92, 1601), (11, 80, 84, 610), (14, 16, 0, 0), (15, 16, 1, 0), (16, 80, 83, 1649), (19, 64, 452, 632), (22, 16, 0, 0), (23, 4, 1, 0), (24, 64, 453, 337), (27, 1, 0, 1), (28, 18, 2, 0), (29, 1, 0, 1), (30, 18, 3, 0), (31, 12, 3, 0), (32, 16, 0, 0), (33, 62, 452, 632), (36, 48, 44, 84), (39, 0, 0, 0), (40, 0, 0, 0), (43, 0, 0, 0), (44, 0, 0, 0), (45, 0, 0, 0), (46, 0, 0, 0), (49, 0, 0, 0), (52, 0, 0, 0), (53, 0, 0, 0), (54, 0, 0, 0), (57, 0, 0, 0), (58, 0, 0, 0), (59, 0, 0, 0), (60, 0, 0, 0), (63, 0, 0, 0), (64, 0, 0, 0), (67, 0, 0, 0), (70, 0, 0, 0), (71, 0, 0, 0), (74, 0, 0, 0), (75, 0, 0, 0), (78, 0, 0, 0), (81, 0, 0, 0), (84, 16, 0, 0), (85, 62, 450, 218), (88, 12, 2, 0), (89, 1, 0, 1), (90, 80, 82, 1155), (93, 16, 0, 0), (94, 80, 96, 1665), (97, 61, 0, 0)]
-- Manypens$Row.number()V
noncomputable def zc_96 : List sy_E := [(0, 16, 0, 0), (1, 62, 451, 274), (4, 16, 0, 0), (5, 62, 449, 170), (8, 80, 92, 1601), (11, 80, 89, 658), (14, 4, 1, 0), (15, 20, 1, 0), (16, 16, 0, 0), (17, 62, 450, 218), (20, 1, 0, 1), (21, 80, 78, 882), (24, 18, 3, 0), (25, 1, 0, 1), (26, 17, 4, 0), (28, 11, 4, 0), (30, 16, 0, 0), (31, 62, 452, 632), (34, 48, 41, 79), (37, 0, 0, 0), (38, 0, 0, 0), (41, 0, 0, 0), (42, 0, 0, 0), (45, 0, 0, 0), (46, 0, 0, 0), (47, 0, 0, 0), (50, 0, 0, 0), (51, 0, 0, 0), (52, 0, 0, 0), (55, 0, 0, 0), (58, 0, 0, 0), (59, 0, 0, 0), (62, 0, 0, 0), (63, 0, 0, 0), (64, 0, 0, 0), (65, 0, 0, 0), (68, 0, 0, 0), (69, 0, 0, 0), (72, 0, 0, 0), (73, 0, 0, 0), (76, 0, 0, 0), (79, 16, 0, 0), (80, 37, 0, 0), (81, 62, 454, 664), (84, 1, 16, 2), (85, 26, 0, 0), (86, 64, 454, 664), (89, 61, 0, 0)]
-- Manypens$Row.size()J
noncomputable def zc_97 : List sy_E := [(0, 16, 0, 0), (1, 62, 453, 337), (4, 57, 0, 1)]
-- Manypens$Signs.<init>()V
noncomputable def zc_98 : List sy_E := [(0, 16, 0, 0), (1, 91, 0, 3), (4, 16, 0, 0), (5, 67, 4, 9), (8, 37, 0, 0), (9, 2, 1024, 192), (11, 82, 76, 178), (14, 66, 512, 114), (17, 16, 0, 0), (18, 67, 5, 20), (21, 37, 0, 0), (22, 2, 512, 160), (24, 82, 85, 354), (27, 66, 513, 186), (30, 16, 0, 0), (31, 67, 5, 20), (34, 37, 0, 0), (35, 2, 512, 160), (37, 82, 85, 354), (40, 66, 514, 218), (43, 16, 0, 0), (44, 67, 5, 20), (47, 37, 0, 0), (48, 2, 512, 160), (50, 82, 85, 354), (53, 66, 515, 242), (56, 61, 0, 0)]
-- Manypens$View.<init>(LManypens$Book;LManypens$Row;)V
noncomputable def zc_99 : List sy_E := [(0, 16, 0, 0), (1, 91, 0, 3), (4, 16, 0, 0), (5, 16, 1, 0), (6, 66, 576, 74), (9, 16, 0, 0), (10, 16, 2, 0), (11, 66, 577, 122), (14, 16, 0, 0), (15, 1, 64, 5), (16, 68, 1, 11), (18, 66, 578, 154), (21, 16, 0, 0), (22, 2, 640, 168), (24, 68, 0, 10), (26, 66, 579, 186), (29, 16, 0, 0), (30, 67, 4, 27), (33, 37, 0, 0), (34, 2, 512, 160), (36, 82, 76, 466), (39, 66, 580, 258), (42, 16, 0, 0), (43, 67, 5, 36), (46, 37, 0, 0), (47, 2, 512, 160), (49, 82, 85, 610), (52, 66, 581, 314), (55, 16, 0, 0), (56, 67, 5, 36), (59, 37, 0, 0), (60, 2, 512, 160), (62, 82, 85, 610), (65, 66, 582, 346), (68, 16, 0, 0), (69, 67, 4, 27), (72, 37, 0, 0), (73, 2, 512, 160), (75, 82, 76, 466), (78, 66, 583, 370), (81, 16, 0, 0), (82, 67, 4, 27), (85, 37, 0, 0), (86, 2, 256, 144), (88, 82, 76, 466), (91, 66, 584, 394), (94, 16, 0, 0), (95, 67, 4, 27), (98, 37, 0, 0), (99, 2, 256, 144), (101, 82, 76, 466), (104, 66, 585, 418), (107, 16, 0, 0), (108, 67, 4, 27), (111, 37, 0, 0), (112, 2, 256, 144), (114, 82, 76, 466), (117, 66, 586, 442), (120, 61, 0, 0)]
-- Manypens$View.dress()V
noncomputable def zc_100 : List sy_E := [(0, 16, 0, 0), (1, 62, 583, 370), (4, 80, 79, 2289), (7, 16, 0, 0), (8, 62, 583, 370), (11, 16, 0, 0), (12, 62, 580, 258), (15, 80, 83, 1105), (18, 80, 84, 2930), (21, 1, 0, 1), (22, 18, 1, 0), (23, 12, 1, 0), (24, 16, 0, 0), (25, 62, 576, 74), (28, 63, 6, 1490), (31, 80, 83, 1105), (34, 48, 41, 85), (37, 0, 0, 0), (38, 0, 0, 0), (41, 0, 0, 0), (42, 0, 0, 0), (45, 0, 0, 0), (48, 0, 0, 0), (49, 0, 0, 0), (52, 0, 0, 0), (55, 0, 0, 0), (56, 0, 0, 0), (57, 0, 0, 0), (58, 0, 0, 0), (61, 0, 0, 0), (64, 0, 0, 0), (65, 0, 0, 0), (66, 0, 0, 0), (67, 0, 0, 0), (68, 0, 0, 0), (71, 0, 0, 0), (72, 0, 0, 0), (73, 0, 0, 0), (76, 0, 0, 0), (79, 0, 0, 0), (82, 0, 0, 0), (85, 16, 0, 0), (86, 62, 584, 394), (89, 80, 79, 2289), (92, 16, 0, 0), (93, 62, 585, 418), (96, 80, 79, 2289), (99, 16, 0, 0), (100, 62, 586, 442), (103, 80, 79, 2289), (106, 1, 0, 1), (107, 18, 1, 0), (108, 12, 1, 0), (109, 16, 0, 0), (110, 62, 576, 74), (113, 63, 7, 1610), (116, 80, 83, 1105), (119, 48, 82, 170), (122, 0, 0, 0), (123, 0, 0, 0), (126, 0, 0, 0), (127, 0, 0, 0), (130, 0, 0, 0), (133, 0, 0, 0), (134, 0, 0, 0), (137, 0, 0, 0), (140, 0, 0, 0), (141, 0, 0, 0), (142, 0, 0, 0), (143, 0, 0, 0), (146, 0, 0, 0), (149, 0, 0, 0), (150, 0, 0, 0), (151, 0, 0, 0), (152, 0, 0, 0), (153, 0, 0, 0), (156, 0, 0, 0), (157, 0, 0, 0), (158, 0, 0, 0), (161, 0, 0, 0), (164, 0, 0, 0), (167, 0, 0, 0), (170, 61, 0, 0)]
-- Manypens$View.gather([I)V
noncomputable def zc_101 : List sy_E := [(0, 16, 0, 0), (1, 62, 580, 258), (4, 80, 79, 2289), (7, 16, 0, 0), (8, 62, 581, 314), (11, 80, 87, 2337), (14, 16, 0, 0), (15, 62, 582, 346), (18, 80, 87, 2337), (21, 16, 0, 0), (22, 4, 1, 0), (23, 64, 587, 465), (26, 16, 0, 0), (27, 4, 1, 0), (28, 64, 588, 1177), (31, 16, 0, 0), (32, 62, 577, 122), (35, 63, 450, 1202), (38, 1, 0, 1), (39, 80, 78, 1154), (42, 18, 2, 0), (43, 1, 0, 1), (44, 18, 3, 0), (45, 12, 3, 0), (46, 16, 0, 0), (47, 62, 577, 122), (50, 63, 452, 1224), (53, 48, 110, 234), (56, 0, 0, 0), (57, 0, 0, 0), (60, 0, 0, 0), (61, 0, 0, 0), (64, 0, 0, 0), (65, 0, 0, 0), (68, 0, 0, 0), (70, 0, 0, 0), (72, 0, 0, 0), (75, 0, 0, 0), (78, 0, 0, 0), (81, 0, 0, 0), (83, 0, 0, 0), (86, 0, 0, 0), (87, 0, 0, 0), (88, 0, 0, 0), (91, 0, 0, 0), (93, 0, 0, 0), (96, 0, 0, 0), (97, 0, 0, 0), (99, 0, 0, 0), (102, 0, 0, 0), (103, 0, 0, 0), (106, 0, 0, 0), (107, 0, 0, 0), (108, 0, 0, 0), (111, 0, 0, 0), (112, 0, 0, 0), (115, 0, 0, 0), (118, 0, 0, 0), (121, 0, 0, 0), (122, 0, 0, 0), (125, 0, 0, 0), (126, 0, 0, 0), (129, 0, 0, 0), (130, 0, 0, 0), (132, 0, 0, 0), (135, 0, 0, 0), (138, 0, 0, 0), (139, 0, 0, 0), (142, 0, 0, 0), (145, 0, 0, 0), (146, 0, 0, 0), (147, 0, 0, 0), (150, 0, 0, 0), (153, 0, 0, 0), (156, 0, 0, 0), (157, 0, 0, 0), (160, 0, 0, 0), (161, 0, 0, 0), (164, 0, 0, 0), (165, 0, 0, 0), (168, 0, 0, 0), (169, 0, 0, 0), (172, 0, 0, 0), (175, 0, 0, 0), (176, 0, 0, 0), (179, 0, 0, 0), (180, 0, 0, 0), (183, 0, 0, 0), (186, 0, 0, 0), (187, 0, 0, 0), (190, 0, 0, 0), (193, 0, 0, 0), (194, 0, 0, 0), (195, 0, 0, 0), (198, 0, 0, 0), (199, 0, 0, 0), (202, 0, 0, 0), (205, 0, 0, 0), (208, 0, 0, 0), (209, 0, 0, 0), (212, 0, 0, 0), (213, 0, 0, 0), (216, 0, 0, 0), (217, 0, 0, 0), (220, 0, 0, 0), (223, 0, 0, 0), (224, 0, 0, 0), (227, 0, 0, 0), (228, 0, 0, 0), (231, 0, 0, 0), (234, 61, 0, 0)]
-- Manypens$View.isOld()Z
noncomputable def zc_102 : List sy_E := [(0, 16, 0, 0), (1, 62, 589, 496), (4, 16, 0, 0), (5, 62, 577, 122), (8, 63, 454, 528), (11, 45, 8, 18), (14, 0, 0, 0), (15, 0, 0, 0), (18, 1, 0, 1), (19, 56, 0, 5)]
-- Manypens$View.isSame(LManypens$View;)Z
noncomputable def zc_103 : List sy_E := [(0, 16, 0, 0), (1, 62, 580, 258), (4, 16, 1, 0), (5, 62, 580, 258), (8, 80, 80, 4178), (11, 39, 32, 74), (14, 16, 0, 0), (15, 62, 583, 370), (18, 16, 1, 0), (19, 62, 583, 370), (22, 80, 80, 4178), (25, 39, 32, 74), (28, 16, 0, 0), (29, 62, 584, 394), (32, 16, 1, 0), (33, 62, 584, 394), (36, 80, 80, 4178), (39, 39, 32, 74), (42, 16, 0, 0), (43, 62, 585, 418), (46, 16, 1, 0), (47, 62, 585, 418), (50, 80, 80, 4178), (53, 39, 32, 74), (56, 16, 0, 0), (57, 62, 586, 442), (60, 16, 1, 0), (61, 62, 586, 442), (64, 80, 80, 4178), (67, 39, 32, 74), (70, 1, 16, 2), (71, 55, 33, 75), (74, 0, 0, 0), (75, 56, 0, 5)]
-- Manypens$View.judge(II)V
noncomputable def zc_104 : List sy_E := [(0, 16, 0, 0), (1, 62, 579, 186), (4, 1, 0, 1), (5, 83, 223, 1954), (8, 1, 16, 2), (9, 18, 3, 0), (10, 12, 3, 0), (11, 12, 2, 0), (12, 49, 42, 88), (15, 0, 0, 0), (16, 0, 0, 0), (18, 0, 0, 0), (21, 0, 0, 0), (22, 0, 0, 0), (25, 0, 0, 0), (26, 0, 0, 0), (27, 0, 0, 0), (30, 0, 0, 0), (32, 0, 0, 0), (34, 0, 0, 0), (37, 0, 0, 0), (40, 0, 0, 0), (42, 0, 0, 0), (45, 0, 0, 0), (48, 0, 0, 0), (50, 0, 0, 0), (53, 0, 0, 0), (55, 0, 0, 0), (58, 0, 0, 0), (59, 0, 0, 0), (62, 0, 0, 0), (64, 0, 0, 0), (67, 0, 0, 0), (69, 0, 0, 0), (72, 0, 0, 0), (73, 0, 0, 0), (76, 0, 0, 0), (77, 0, 0, 0), (80, 0, 0, 0), (81, 0, 0, 0), (82, 0, 0, 0), (85, 0, 0, 0), (88, 1, 16, 2), (89, 18, 3, 0), (90, 12, 3, 0), (91, 12, 2, 0), (92, 49, 75, 158), (95, 0, 0, 0), (96, 0, 0, 0), (98, 0, 0, 0), (101, 0, 0, 0), (102, 0, 0, 0), (105, 0, 0, 0), (106, 0, 0, 0), (107, 0, 0, 0), (110, 0, 0, 0), (112, 0, 0, 0), (114, 0, 0, 0), (117, 0, 0, 0), (120, 0, 0, 0), (122, 0, 0, 0), (125, 0, 0, 0), (127, 0, 0, 0), (130, 0, 0, 0), (131, 0, 0, 0), (134, 0, 0, 0), (136, 0, 0, 0), (139, 0, 0, 0), (140, 0, 0, 0), (143, 0, 0, 0), (144, 0, 0, 0), (146, 0, 0, 0), (149, 0, 0, 0), (152, 0, 0, 0), (155, 0, 0, 0), (158, 61, 0, 0)]
-- Manypens$View.letterAhead(J)J
noncomputable def zc_105 : List sy_E := [(0, 16, 0, 0), (1, 14, 1, 0), (2, 4, 17, 1), (3, 31, 0, 0), (4, 80, 106, 1666), (7, 57, 0, 1)]
-- Manypens$View.letterAt(J)J
noncomputable def zc_106 : List sy_E := [(0, 14, 1, 0), (1, 4, 1, 0), (2, 36, 0, 0), (3, 41, 9, 15), (6, 0, 0, 0), (7, 0, 0, 0), (8, 0, 0, 0), (11, 0, 0, 0), (12, 0, 0, 0), (15, 4, 1, 0), (16, 57, 0, 1), (17, 0, 0, 0), (18, 0, 0, 0), (19, 0, 0, 0), (22, 0, 0, 0), (23, 0, 0, 0), (24, 0, 0, 0), (27, 0, 0, 0), (30, 0, 0, 0), (33, 0, 0, 0), (34, 0, 0, 0), (37, 0, 0, 0), (38, 0, 0, 0), (41, 0, 0, 0), (44, 0, 0, 0), (45, 0, 0, 0), (46, 0, 0, 0), (47, 0, 0, 0), (50, 0, 0, 0), (51, 0, 0, 0), (54, 0, 0, 0), (55, 0, 0, 0)]
-- Manypens$View.manyInCommon(LManypens$View;)J
noncomputable def zc_107 : List sy_E := [(0, 4, 1, 0), (1, 20, 2, 0), (2, 1, 0, 1), (3, 17, 4, 0), (5, 1, 0, 1), (6, 17, 5, 0), (8, 11, 5, 0), (10, 16, 0, 0), (11, 62, 580, 258), (14, 80, 83, 1105), (17, 48, 50, 108), (20, 0, 0, 0), (22, 0, 0, 0), (23, 0, 0, 0), (26, 0, 0, 0), (29, 0, 0, 0), (32, 0, 0, 0), (33, 0, 0, 0), (36, 0, 0, 0), (38, 0, 0, 0), (41, 0, 0, 0), (42, 0, 0, 0), (45, 0, 0, 0), (47, 0, 0, 0), (50, 0, 0, 0), (51, 0, 0, 0), (54, 0, 0, 0), (57, 0, 0, 0), (60, 0, 0, 0), (62, 0, 0, 0), (63, 0, 0, 0), (66, 0, 0, 0), (69, 0, 0, 0), (72, 0, 0, 0), (73, 0, 0, 0), (76, 0, 0, 0), (78, 0, 0, 0), (81, 0, 0, 0), (82, 0, 0, 0), (85, 0, 0, 0), (87, 0, 0, 0), (90, 0, 0, 0), (93, 0, 0, 0), (94, 0, 0, 0), (95, 0, 0, 0), (97, 0, 0, 0), (100, 0, 0, 0), (101, 0, 0, 0), (102, 0, 0, 0), (105, 0, 0, 0), (108, 14, 2, 0), (109, 57, 0, 1)]
-- Manypens$View.pieces()I
noncomputable def zc_108 : List sy_E := [(0, 16, 0, 0), (1, 62, 580, 258), (4, 80, 83, 1105), (7, 56, 0, 0)]
-- Manypens$View.placeBehind(J)J
noncomputable def zc_109 : List sy_E := [(0, 14, 1, 0), (1, 4, 1, 0), (2, 36, 0, 0), (3, 40, 6, 8), (6, 4, 1, 0), (7, 57, 0, 1), (8, 0, 0, 0), (9, 0, 0, 0), (12, 0, 0, 0), (13, 0, 0, 0), (16, 0, 0, 0), (17, 0, 0, 0), (18, 0, 0, 0), (19, 0, 0, 0), (20, 0, 0, 0), (23, 0, 0, 0), (24, 0, 0, 0), (27, 0, 0, 0), (28, 0, 0, 0), (29, 0, 0, 0), (31, 0, 0, 0), (33, 0, 0, 0), (36, 0, 0, 0), (37, 0, 0, 0), (40, 0, 0, 0), (41, 0, 0, 0), (44, 0, 0, 0), (46, 0, 0, 0), (49, 0, 0, 0), (50, 0, 0, 0), (52, 0, 0, 0), (55, 0, 0, 0), (56, 0, 0, 0), (57, 0, 0, 0), (60, 0, 0, 0), (62, 0, 0, 0), (65, 0, 0, 0), (66, 0, 0, 0), (69, 0, 0, 0), (70, 0, 0, 0)]
-- Manypens$View.see([I)V
noncomputable def zc_110 : List sy_E := [(0, 16, 0, 0), (1, 62, 578, 154), (4, 4, 1, 0), (5, 83, 226, 1730), (8, 1, 0, 1), (9, 18, 2, 0), (10, 12, 2, 0), (11, 1, 80, 6), (12, 48, 21, 35), (15, 12, 2, 0), (16, 16, 1, 0), (17, 70, 0, 0), (18, 48, 21, 35), (21, 16, 0, 0), (22, 12, 2, 0), (23, 16, 1, 0), (24, 12, 2, 0), (25, 71, 0, 0), (26, 80, 104, 1827), (29, 25, 2, 32769), (32, 55, 6, 10), (35, 16, 0, 0), (36, 16, 1, 0), (37, 80, 101, 1890), (40, 16, 0, 0), (41, 16, 0, 0), (42, 62, 577, 122), (45, 63, 454, 528), (48, 64, 589, 496), (51, 61, 0, 0)]
-- Manypens$View.settle(LManypens$Edit;)V
noncomputable def zc_111 : List sy_E := [(0, 16, 1, 0), (1, 63, 74, 1656), (4, 40, 7, 15), (7, 16, 1, 0), (8, 63, 76, 1989), (11, 40, 7, 15), (14, 61, 0, 0), (15, 0, 0, 0), (16, 0, 0, 0), (19, 0, 0, 0), (20, 0, 0, 0), (21, 0, 0, 0), (24, 0, 0, 0), (25, 0, 0, 0), (26, 0, 0, 0), (27, 0, 0, 0), (28, 0, 0, 0), (29, 0, 0, 0), (32, 0, 0, 0), (35, 0, 0, 0), (38, 0, 0, 0), (41, 0, 0, 0), (42, 0, 0, 0), (45, 0, 0, 0), (46, 0, 0, 0), (47, 0, 0, 0), (50, 0, 0, 0), (51, 0, 0, 0), (52, 0, 0, 0), (55, 0, 0, 0), (58, 0, 0, 0), (61, 0, 0, 0), (62, 0, 0, 0), (63, 0, 0, 0), (64, 0, 0, 0), (65, 0, 0, 0), (66, 0, 0, 0), (69, 0, 0, 0), (72, 0, 0, 0), (75, 0, 0, 0), (78, 0, 0, 0), (79, 0, 0, 0), (80, 0, 0, 0), (83, 0, 0, 0)]
-- Manypens$View.size()J
noncomputable def zc_112 : List sy_E := [(0, 16, 0, 0), (1, 62, 587, 465), (4, 57, 0, 1)]
-- ManypensLaw.birth(LManypens;II[J)I
noncomputable def zc_113 : List sy_E := [(0, 16, 3, 0), (1, 1, 0, 1), (2, 16, 0, 0), (3, 12, 1, 0), (4, 12, 2, 0), (5, 80, 2, 1155), (8, 0, 0, 0), (9, 0, 0, 0), (10, 0, 0, 0), (13, 21, 4, 0), (15, 1, 16, 2), (16, 56, 0, 0), (17, 21, 4, 0), (19, 1, 32, 3), (20, 56, 0, 0), (21, 0, 0, 0), (22, 0, 0, 0)]
-- ManypensLaw.close(LManypens;I[J)I
noncomputable def zc_114 : List sy_E := [(0, 16, 2, 0), (1, 1, 0, 1), (2, 16, 0, 0), (3, 12, 1, 0), (4, 80, 4, 834), (7, 0, 0, 0), (8, 0, 0, 0), (9, 0, 0, 0), (12, 22, 3, 0), (13, 1, 16, 2), (14, 56, 0, 0), (15, 22, 3, 0), (16, 1, 32, 3), (17, 56, 0, 0), (18, 0, 0, 0), (19, 0, 0, 0)]
-- ManypensLaw.comment(LManypens;IIII[J)I
noncomputable def zc_115 : List sy_E := [(0, 15, 5, 0), (2, 1, 0, 1), (3, 16, 0, 0), (4, 12, 1, 0), (5, 12, 2, 0), (6, 12, 3, 0), (7, 11, 4, 0), (9, 80, 5, 677), (12, 0, 0, 0), (13, 0, 0, 0), (14, 0, 0, 0), (17, 21, 6, 0), (19, 1, 16, 2), (20, 56, 0, 0), (21, 21, 6, 0), (23, 1, 32, 3), (24, 56, 0, 0), (25, 0, 0, 0), (27, 0, 0, 0), (28, 0, 0, 0), (29, 0, 0, 0), (30, 0, 0, 0)]
-- ManypensLaw.commentAt(LManypens;IIC[J)I
noncomputable def zc_116 : List sy_E := [(0, 15, 4, 0), (2, 1, 0, 1), (3, 16, 0, 0), (4, 12, 1, 0), (5, 12, 2, 0), (6, 12, 3, 0), (7, 80, 6, 1364), (10, 0, 0, 0), (11, 0, 0, 0), (12, 0, 0, 0), (15, 21, 5, 0), (17, 1, 16, 2), (18, 56, 0, 0), (19, 21, 5, 0), (21, 1, 32, 3), (22, 56, 0, 0), (23, 0, 0, 0), (25, 0, 0, 0), (26, 0, 0, 0), (27, 0, 0, 0), (28, 0, 0, 0)]
-- ManypensLaw.comments(LManypens;I[J)I
noncomputable def zc_117 : List sy_E := [(0, 16, 2, 0), (1, 1, 0, 1), (2, 16, 0, 0), (3, 12, 1, 0), (4, 80, 7, 1314), (7, 33, 0, 0), (8, 76, 0, 0), (9, 55, 11, 15), (12, 22, 3, 0), (13, 1, 16, 2), (14, 56, 0, 0), (15, 1, 0, 1), (16, 56, 0, 0)]
-- ManypensLaw.cursor(LManypens;I[J)I
noncomputable def zc_118 : List sy_E := [(0, 16, 2, 0), (1, 1, 0, 1), (2, 16, 0, 0), (3, 12, 1, 0), (4, 80, 8, 1474), (7, 33, 0, 0), (8, 76, 0, 0), (9, 55, 11, 15), (12, 22, 3, 0), (13, 1, 16, 2), (14, 56, 0, 0), (15, 1, 0, 1), (16, 56, 0, 0)]
-- ManypensLaw.deliver(LManypens;II[J)I
noncomputable def zc_119 : List sy_E := [(0, 16, 3, 0), (1, 1, 0, 1), (2, 16, 0, 0), (3, 12, 1, 0), (4, 12, 2, 0), (5, 80, 9, 1619), (8, 0, 0, 0), (9, 0, 0, 0), (10, 0, 0, 0), (13, 21, 4, 0), (15, 1, 16, 2), (16, 56, 0, 0), (17, 21, 4, 0), (19, 1, 32, 3), (20, 56, 0, 0), (21, 0, 0, 0), (22, 0, 0, 0)]
-- ManypensLaw.differ(LManypens;II[J)I
noncomputable def zc_120 : List sy_E := [(0, 16, 3, 0), (1, 1, 0, 1), (2, 16, 0, 0), (3, 12, 1, 0), (4, 12, 2, 0), (5, 80, 10, 2163), (8, 33, 0, 0), (9, 76, 0, 0), (10, 55, 12, 17), (13, 21, 4, 0), (15, 1, 16, 2), (16, 56, 0, 0), (17, 1, 0, 1), (18, 56, 0, 0)]
-- ManypensLaw.forget(LManypens;[J)I
noncomputable def zc_121 : List sy_E := [(0, 16, 1, 0), (1, 1, 0, 1), (2, 16, 0, 0), (3, 80, 12, 2273), (6, 33, 0, 0), (7, 76, 0, 0), (8, 55, 10, 14), (11, 0, 0, 0), (12, 0, 0, 0), (13, 0, 0, 0), (14, 1, 0, 1), (15, 56, 0, 0)]
-- ManypensLaw.groups(LManypens;IZ[J)I
noncomputable def zc_122 : List sy_E := [(0, 16, 3, 0), (1, 1, 0, 1), (2, 16, 0, 0), (3, 12, 1, 0), (4, 12, 2, 0), (5, 80, 14, 979), (8, 33, 0, 0), (9, 76, 0, 0), (10, 55, 12, 17), (13, 21, 4, 0), (15, 1, 16, 2), (16, 56, 0, 0), (17, 1, 0, 1), (18, 56, 0, 0)]
-- ManypensLaw.heard(LManypens;II[J)I
noncomputable def zc_123 : List sy_E := [(0, 16, 3, 0), (1, 1, 0, 1), (2, 16, 0, 0), (3, 12, 1, 0), (4, 12, 2, 0), (5, 80, 19, 1907), (8, 33, 0, 0), (9, 76, 0, 0), (10, 55, 12, 17), (13, 21, 4, 0), (15, 1, 16, 2), (16, 56, 0, 0), (17, 1, 0, 1), (18, 56, 0, 0)]
-- ManypensLaw.isAlike(LManypens;II[J)I
noncomputable def zc_124 : List sy_E := [(0, 16, 3, 0), (1, 1, 0, 1), (2, 16, 0, 0), (3, 12, 1, 0), (4, 12, 2, 0), (5, 80, 20, 2211), (8, 39, 9, 15), (11, 4, 17, 1), (12, 55, 10, 16), (15, 0, 0, 0), (16, 76, 0, 0), (17, 55, 15, 24), (20, 21, 4, 0), (22, 1, 16, 2), (23, 56, 0, 0), (24, 1, 0, 1), (25, 56, 0, 0)]
-- ManypensLaw.isMarked(LManypens;IIC[J)I
noncomputable def zc_125 : List sy_E := [(0, 15, 4, 0), (2, 1, 0, 1), (3, 16, 0, 0), (4, 12, 1, 0), (5, 12, 2, 0), (6, 12, 3, 0), (7, 80, 22, 1204), (10, 0, 0, 0), (13, 0, 0, 0), (14, 0, 0, 0), (17, 0, 0, 0), (18, 0, 0, 0), (19, 0, 0, 0), (22, 21, 5, 0), (24, 1, 16, 2), (25, 56, 0, 0), (26, 21, 5, 0), (28, 1, 32, 3), (29, 56, 0, 0), (30, 21, 5, 0), (32, 1, 48, 4), (33, 56, 0, 0), (34, 0, 0, 0), (35, 0, 0, 0)]
-- ManypensLaw.kept(LManypens;I[J)I
noncomputable def zc_126 : List sy_E := [(0, 16, 2, 0), (1, 1, 0, 1), (2, 16, 0, 0), (3, 12, 1, 0), (4, 80, 24, 2338), (7, 33, 0, 0), (8, 76, 0, 0), (9, 55, 11, 15), (12, 22, 3, 0), (13, 1, 16, 2), (14, 56, 0, 0), (15, 1, 0, 1), (16, 56, 0, 0)]
-- ManypensLaw.lacks(LManypens;II[J)I
noncomputable def zc_127 : List sy_E := [(0, 16, 3, 0), (1, 1, 0, 1), (2, 16, 0, 0), (3, 12, 1, 0), (4, 12, 2, 0), (5, 80, 25, 1859), (8, 33, 0, 0), (9, 76, 0, 0), (10, 55, 12, 17), (13, 21, 4, 0), (15, 1, 16, 2), (16, 56, 0, 0), (17, 1, 0, 1), (18, 56, 0, 0)]
-- ManypensLaw.leans(LManypens;III[J)I
noncomputable def zc_128 : List sy_E := [(0, 15, 4, 0), (2, 1, 0, 1), (3, 16, 0, 0), (4, 12, 1, 0), (5, 12, 2, 0), (6, 12, 3, 0), (7, 80, 26, 1956), (10, 0, 0, 0), (11, 0, 0, 0), (12, 0, 0, 0), (15, 21, 5, 0), (17, 1, 16, 2), (18, 56, 0, 0), (19, 21, 5, 0), (21, 1, 32, 3), (22, 56, 0, 0), (23, 0, 0, 0), (24, 0, 0, 0)]
-- ManypensLaw.length(LManypens;I[J)I
noncomputable def zc_129 : List sy_E := [(0, 16, 2, 0), (1, 1, 0, 1), (2, 16, 0, 0), (3, 12, 1, 0), (4, 80, 27, 1042), (7, 33, 0, 0), (8, 76, 0, 0), (9, 55, 11, 15), (12, 22, 3, 0), (13, 1, 16, 2), (14, 56, 0, 0), (15, 1, 0, 1), (16, 56, 0, 0)]
-- ManypensLaw.lengthThen(LManypens;II[J)I
noncomputable def zc_130 : List sy_E := [(0, 16, 3, 0), (1, 1, 0, 1), (2, 16, 0, 0), (3, 12, 1, 0), (4, 12, 2, 0), (5, 80, 28, 2051), (8, 33, 0, 0), (9, 76, 0, 0), (10, 55, 15, 21), (13, 21, 4, 0), (15, 1, 16, 2), (16, 56, 0, 0), (17, 21, 4, 0), (19, 1, 32, 3), (20, 56, 0, 0), (21, 1, 0, 1), (22, 56, 0, 0)]
-- ManypensLaw.lose(LManypens;II[J)I
noncomputable def zc_131 : List sy_E := [(0, 16, 3, 0), (1, 1, 0, 1), (2, 16, 0, 0), (3, 12, 1, 0), (4, 12, 2, 0), (5, 80, 29, 1715), (8, 0, 0, 0), (9, 0, 0, 0), (10, 0, 0, 0), (13, 21, 4, 0), (15, 1, 16, 2), (16, 56, 0, 0), (17, 21, 4, 0), (19, 1, 32, 3), (20, 56, 0, 0), (21, 0, 0, 0), (22, 0, 0, 0)]
-- ManypensLaw.mark(LManypens;IIICZZ[J)I
noncomputable def zc_132 : List sy_E := [(0, 15, 7, 0), (2, 1, 0, 1), (3, 16, 0, 0), (4, 12, 1, 0), (5, 12, 2, 0), (6, 12, 3, 0), (7, 11, 4, 0), (9, 11, 5, 0), (11, 11, 6, 0), (13, 80, 30, 615), (16, 0, 0, 0), (17, 0, 0, 0), (18, 0, 0, 0), (21, 21, 8, 0), (23, 1, 16, 2), (24, 56, 0, 0), (25, 21, 8, 0), (27, 1, 32, 3), (28, 56, 0, 0), (29, 21, 8, 0), (31, 1, 48, 4), (32, 56, 0, 0), (33, 0, 0, 0), (35, 0, 0, 0), (36, 0, 0, 0), (37, 0, 0, 0), (38, 0, 0, 0)]
-- ManypensLaw.meanTime(LManypens;I[D)I
noncomputable def zc_133 : List sy_E := [(0, 16, 2, 0), (1, 1, 0, 1), (2, 16, 0, 0), (3, 12, 1, 0), (4, 80, 31, 2482), (7, 0, 0, 0), (8, 0, 0, 0), (11, 22, 3, 0), (12, 1, 16, 2), (13, 56, 0, 0), (14, 22, 3, 0), (15, 1, 32, 3), (16, 56, 0, 0), (17, 0, 0, 0), (18, 0, 0, 0)]
-- ManypensLaw.meet(LManypens;II[J)I
noncomputable def zc_134 : List sy_E := [(0, 16, 3, 0), (1, 1, 0, 1), (2, 16, 0, 0), (3, 12, 1, 0), (4, 12, 2, 0), (5, 80, 32, 1763), (8, 33, 0, 0), (9, 76, 0, 0), (10, 55, 15, 21), (13, 21, 4, 0), (15, 1, 16, 2), (16, 56, 0, 0), (17, 21, 4, 0), (19, 1, 32, 3), (20, 56, 0, 0), (21, 1, 0, 1), (22, 56, 0, 0)]
-- ManypensLaw.move(LManypens;IIII[J)I
noncomputable def zc_135 : List sy_E := [(0, 15, 5, 0), (2, 1, 0, 1), (3, 16, 0, 0), (4, 12, 1, 0), (5, 12, 2, 0), (6, 12, 3, 0), (7, 11, 4, 0), (9, 80, 33, 549), (12, 0, 0, 0), (13, 0, 0, 0), (14, 0, 0, 0), (17, 21, 6, 0), (19, 1, 16, 2), (20, 56, 0, 0), (21, 21, 6, 0), (23, 1, 32, 3), (24, 56, 0, 0), (25, 0, 0, 0), (27, 0, 0, 0), (28, 0, 0, 0), (29, 0, 0, 0), (30, 0, 0, 0)]
-- ManypensLaw.onWay(LManypens;I[J)I
noncomputable def zc_136 : List sy_E := [(0, 16, 2, 0), (1, 1, 0, 1), (2, 16, 0, 0), (3, 12, 1, 0), (4, 80, 42, 1522), (7, 33, 0, 0), (8, 76, 0, 0), (9, 55, 11, 15), (12, 22, 3, 0), (13, 1, 16, 2), (14, 56, 0, 0), (15, 1, 0, 1), (16, 56, 0, 0)]
-- ManypensLaw.open(LManypens;I[J)I
noncomputable def zc_137 : List sy_E := [(0, 16, 2, 0), (1, 1, 0, 1), (2, 16, 0, 0), (3, 12, 1, 0), (4, 80, 43, 786), (7, 33, 0, 0), (8, 76, 0, 0), (9, 55, 14, 18), (12, 22, 3, 0), (13, 1, 16, 2), (14, 56, 0, 0), (15, 0, 0, 0), (16, 0, 0, 0), (17, 0, 0, 0), (18, 1, 0, 1), (19, 56, 0, 0)]
-- ManypensLaw.othersShare(LManypens;I[D)I
noncomputable def zc_138 : List sy_E := [(0, 16, 2, 0), (1, 1, 0, 1), (2, 16, 0, 0), (3, 12, 1, 0), (4, 80, 44, 2386), (7, 0, 0, 0), (8, 0, 0, 0), (9, 0, 0, 0), (12, 22, 3, 0), (13, 1, 16, 2), (14, 56, 0, 0), (15, 22, 3, 0), (16, 1, 32, 3), (17, 56, 0, 0), (18, 0, 0, 0), (19, 0, 0, 0)]
-- ManypensLaw.put(LManypens;II[J)I
noncomputable def zc_139 : List sy_E := [(0, 16, 3, 0), (1, 1, 0, 1), (2, 16, 0, 0), (3, 12, 1, 0), (4, 12, 2, 0), (5, 80, 45, 275), (8, 0, 0, 0), (9, 0, 0, 0), (10, 0, 0, 0), (13, 21, 4, 0), (15, 1, 16, 2), (16, 56, 0, 0), (17, 21, 4, 0), (19, 1, 32, 3), (20, 56, 0, 0), (21, 21, 4, 0), (23, 1, 48, 4), (24, 56, 0, 0), (25, 0, 0, 0), (27, 0, 0, 0), (28, 0, 0, 0), (29, 0, 0, 0), (30, 0, 0, 0)]
-- ManypensLaw.redo(LManypens;I[J)I
noncomputable def zc_140 : List sy_E := [(0, 16, 2, 0), (1, 1, 0, 1), (2, 16, 0, 0), (3, 12, 1, 0), (4, 80, 46, 930), (7, 0, 0, 0), (8, 0, 0, 0), (9, 0, 0, 0), (12, 22, 3, 0), (13, 1, 16, 2), (14, 56, 0, 0), (15, 22, 3, 0), (16, 1, 32, 3), (17, 56, 0, 0), (18, 0, 0, 0), (19, 0, 0, 0), (20, 0, 0, 0), (21, 0, 0, 0), (22, 0, 0, 0)]
-- ManypensLaw.repeat(LManypens;II[J)I
noncomputable def zc_141 : List sy_E := [(0, 16, 3, 0), (1, 1, 0, 1), (2, 16, 0, 0), (3, 12, 1, 0), (4, 12, 2, 0), (5, 80, 47, 1667), (8, 0, 0, 0), (9, 0, 0, 0), (10, 0, 0, 0), (13, 21, 4, 0), (15, 1, 16, 2), (16, 56, 0, 0), (17, 21, 4, 0), (19, 1, 32, 3), (20, 56, 0, 0), (21, 0, 0, 0), (23, 0, 0, 0), (24, 0, 0, 0), (25, 0, 0, 0), (26, 0, 0, 0)]
-- ManypensLaw.replace(LManypens;III[J)I
noncomputable def zc_142 : List sy_E := [(0, 15, 4, 0), (2, 1, 0, 1), (3, 16, 0, 0), (4, 12, 1, 0), (5, 12, 2, 0), (6, 12, 3, 0), (7, 80, 48, 500), (10, 0, 0, 0), (11, 0, 0, 0), (12, 0, 0, 0), (15, 21, 5, 0), (17, 1, 16, 2), (18, 56, 0, 0), (19, 21, 5, 0), (21, 1, 32, 3), (22, 56, 0, 0), (23, 0, 0, 0), (25, 0, 0, 0), (26, 0, 0, 0), (27, 0, 0, 0), (29, 0, 0, 0), (30, 0, 0, 0), (31, 0, 0, 0), (32, 0, 0, 0)]
-- ManypensLaw.runs(LManypens;I[J)I
noncomputable def zc_143 : List sy_E := [(0, 16, 2, 0), (1, 1, 0, 1), (2, 16, 0, 0), (3, 12, 1, 0), (4, 80, 49, 1266), (7, 33, 0, 0), (8, 76, 0, 0), (9, 55, 11, 15), (12, 22, 3, 0), (13, 1, 16, 2), (14, 56, 0, 0), (15, 1, 0, 1), (16, 56, 0, 0)]
-- ManypensLaw.setCursor(LManypens;II[J)I
noncomputable def zc_144 : List sy_E := [(0, 16, 3, 0), (1, 1, 0, 1), (2, 16, 0, 0), (3, 12, 1, 0), (4, 12, 2, 0), (5, 80, 50, 1427), (8, 33, 0, 0), (9, 76, 0, 0), (10, 55, 15, 21), (13, 21, 4, 0), (15, 1, 16, 2), (16, 56, 0, 0), (17, 21, 4, 0), (19, 1, 32, 3), (20, 56, 0, 0), (21, 1, 0, 1), (22, 56, 0, 0)]
-- ManypensLaw.signAt(LManypens;II[J)I
noncomputable def zc_145 : List sy_E := [(0, 16, 3, 0), (1, 1, 0, 1), (2, 16, 0, 0), (3, 12, 1, 0), (4, 12, 2, 0), (5, 80, 51, 1091), (8, 0, 0, 0), (9, 0, 0, 0), (10, 0, 0, 0), (13, 21, 4, 0), (15, 1, 16, 2), (16, 56, 0, 0), (17, 21, 4, 0), (19, 1, 32, 3), (20, 56, 0, 0), (21, 0, 0, 0), (22, 0, 0, 0)]
-- ManypensLaw.signThen(LManypens;III[J)I
noncomputable def zc_146 : List sy_E := [(0, 15, 4, 0), (2, 1, 0, 1), (3, 16, 0, 0), (4, 12, 1, 0), (5, 12, 2, 0), (6, 12, 3, 0), (7, 80, 52, 2100), (10, 0, 0, 0), (11, 0, 0, 0), (12, 0, 0, 0), (15, 21, 5, 0), (17, 1, 16, 2), (18, 56, 0, 0), (19, 21, 5, 0), (21, 1, 32, 3), (22, 56, 0, 0), (23, 0, 0, 0), (24, 0, 0, 0)]
-- ManypensLaw.steps(LManypens;I[J)I
noncomputable def zc_147 : List sy_E := [(0, 16, 2, 0), (1, 1, 0, 1), (2, 16, 0, 0), (3, 12, 1, 0), (4, 80, 53, 2002), (7, 33, 0, 0), (8, 76, 0, 0), (9, 55, 11, 15), (12, 22, 3, 0), (13, 1, 16, 2), (14, 56, 0, 0), (15, 1, 0, 1), (16, 56, 0, 0)]
-- ManypensLaw.take(LManypens;III[J)I
noncomputable def zc_148 : List sy_E := [(0, 15, 4, 0), (2, 1, 0, 1), (3, 16, 0, 0), (4, 12, 1, 0), (5, 12, 2, 0), (6, 12, 3, 0), (7, 80, 55, 436), (10, 0, 0, 0), (11, 0, 0, 0), (12, 0, 0, 0), (15, 21, 5, 0), (17, 1, 16, 2), (18, 56, 0, 0), (19, 21, 5, 0), (21, 1, 32, 3), (22, 56, 0, 0), (23, 0, 0, 0), (25, 0, 0, 0), (26, 0, 0, 0), (27, 0, 0, 0), (28, 0, 0, 0)]
-- ManypensLaw.type(LManypens;C[J)I
noncomputable def zc_149 : List sy_E := [(0, 16, 2, 0), (1, 1, 0, 1), (2, 16, 0, 0), (3, 12, 1, 0), (4, 80, 57, 114), (7, 33, 0, 0), (8, 76, 0, 0), (9, 55, 14, 18), (12, 22, 3, 0), (13, 1, 16, 2), (14, 56, 0, 0), (15, 0, 0, 0), (16, 0, 0, 0), (17, 0, 0, 0), (18, 1, 0, 1), (19, 56, 0, 0)]
-- ManypensLaw.undo(LManypens;I[J)I
noncomputable def zc_150 : List sy_E := [(0, 16, 2, 0), (1, 1, 0, 1), (2, 16, 0, 0), (3, 12, 1, 0), (4, 80, 58, 882), (7, 0, 0, 0), (8, 0, 0, 0), (9, 0, 0, 0), (12, 22, 3, 0), (13, 1, 16, 2), (14, 56, 0, 0), (15, 22, 3, 0), (16, 1, 32, 3), (17, 56, 0, 0), (18, 0, 0, 0), (19, 0, 0, 0), (20, 0, 0, 0), (21, 0, 0, 0), (22, 0, 0, 0)]
-- ManypensLaw.waiting(LManypens;I[J)I
noncomputable def zc_151 : List sy_E := [(0, 16, 2, 0), (1, 1, 0, 1), (2, 16, 0, 0), (3, 12, 1, 0), (4, 80, 60, 1810), (7, 33, 0, 0), (8, 76, 0, 0), (9, 55, 11, 15), (12, 22, 3, 0), (13, 1, 16, 2), (14, 56, 0, 0), (15, 1, 0, 1), (16, 56, 0, 0)]
-- ManypensLaw.wayAt(LManypens;II[J)I
noncomputable def zc_152 : List sy_E := [(0, 16, 3, 0), (1, 1, 0, 1), (2, 16, 0, 0), (3, 12, 1, 0), (4, 12, 2, 0), (5, 80, 61, 1571), (8, 0, 0, 0), (9, 0, 0, 0), (10, 0, 0, 0), (13, 21, 4, 0), (15, 1, 16, 2), (16, 56, 0, 0), (17, 21, 4, 0), (19, 1, 32, 3), (20, 56, 0, 0), (21, 0, 0, 0), (22, 0, 0, 0)]
-- ManypensLaw.write(LManypens;I[J)I
noncomputable def zc_153 : List sy_E := [(0, 16, 2, 0), (1, 1, 0, 1), (2, 16, 0, 0), (3, 12, 1, 0), (4, 80, 62, 722), (7, 0, 0, 0), (8, 0, 0, 0), (9, 0, 0, 0), (12, 22, 3, 0), (13, 1, 16, 2), (14, 56, 0, 0), (15, 22, 3, 0), (16, 1, 32, 3), (17, 56, 0, 0), (18, 0, 0, 0), (19, 0, 0, 0), (20, 0, 0, 0), (21, 0, 0, 0), (22, 0, 0, 0)]
-- ManypensModel.<init>()V
noncomputable def zc_154 : List sy_E := [(0, 16, 0, 0), (1, 91, 0, 1), (4, 16, 0, 0), (5, 1, 80, 6), (6, 69, 10, 9), (9, 66, 960, 90), (12, 16, 0, 0), (13, 67, 14, 15), (16, 37, 0, 0), (17, 5, 4, 0), (18, 2, 512, 160), (20, 82, 220, 275), (23, 66, 961, 162), (26, 16, 0, 0), (27, 2, 1024, 192), (29, 69, 11, 15), (32, 64, 962, 194), (35, 16, 0, 0), (36, 2, 192, 140), (38, 68, 3, 5), (40, 66, 967, 226), (43, 1, 0, 1), (44, 18, 1, 0), (45, 12, 1, 0), (46, 1, 80, 6), (47, 48, 43, 83), (50, 16, 0, 0), (51, 62, 960, 90), (54, 12, 1, 0), (55, 67, 13, 9), (58, 37, 0, 0), (59, 12, 1, 0), (60, 82, 219, 514), (63, 77, 0, 0), (64, 16, 0, 0), (65, 62, 960, 90), (68, 12, 1, 0), (69, 73, 0, 0), (70, 16, 0, 0), (71, 62, 961, 162), (74, 65, 849, 282), (77, 25, 1, 32769), (80, 55, 23, 45), (83, 61, 0, 0)]
-- ManypensModel.areAlike(LManypensModel$Hand;LManypensModel$Hand;)Z
noncomputable def zc_155 : List sy_E := [(0, 16, 0, 0), (1, 16, 1, 0), (2, 80, 211, 3154), (5, 22, 3, 0), (6, 16, 0, 0), (7, 16, 2, 0), (8, 80, 211, 3154), (11, 21, 4, 0), (13, 16, 3, 0), (14, 70, 0, 0), (15, 15, 4, 0), (17, 70, 0, 0), (18, 46, 15, 25), (21, 1, 16, 2), (22, 55, 16, 26), (25, 0, 0, 0), (26, 17, 5, 0), (28, 1, 0, 1), (29, 17, 6, 0), (31, 11, 5, 0), (33, 39, 53, 96), (36, 11, 6, 0), (38, 16, 3, 0), (39, 70, 0, 0), (40, 48, 53, 96), (43, 0, 0, 0), (44, 0, 0, 0), (46, 0, 0, 0), (47, 0, 0, 0), (49, 0, 0, 0), (51, 0, 0, 0), (52, 0, 0, 0), (55, 0, 0, 0), (56, 0, 0, 0), (57, 0, 0, 0), (59, 0, 0, 0), (60, 0, 0, 0), (61, 0, 0, 0), (64, 0, 0, 0), (67, 0, 0, 0), (68, 0, 0, 0), (70, 0, 0, 0), (72, 0, 0, 0), (73, 0, 0, 0), (74, 0, 0, 0), (77, 0, 0, 0), (80, 0, 0, 0), (83, 0, 0, 0), (84, 0, 0, 0), (87, 0, 0, 0), (88, 0, 0, 0), (90, 0, 0, 0), (93, 0, 0, 0), (96, 11, 5, 0), (98, 40, 57, 103), (101, 0, 0, 0), (102, 0, 0, 0), (103, 16, 0, 0), (104, 16, 1, 0), (105, 16, 3, 0), (106, 80, 172, 4547), (109, 21, 6, 0), (111, 16, 0, 0), (112, 16, 2, 0), (113, 15, 4, 0), (115, 80, 172, 4547), (118, 21, 7, 0), (120, 15, 6, 0), (122, 70, 0, 0), (123, 15, 7, 0), (125, 70, 0, 0), (126, 46, 74, 133), (129, 1, 16, 2), (130, 55, 75, 134), (133, 0, 0, 0), (134, 17, 5, 0), (136, 1, 0, 1), (137, 17, 8, 0), (139, 11, 5, 0), (141, 39, 97, 178), (144, 11, 8, 0), (146, 15, 6, 0), (148, 70, 0, 0), (149, 48, 97, 178), (152, 0, 0, 0), (154, 0, 0, 0), (156, 0, 0, 0), (157, 0, 0, 0), (159, 0, 0, 0), (161, 0, 0, 0), (162, 0, 0, 0), (165, 0, 0, 0), (166, 0, 0, 0), (169, 0, 0, 0), (170, 0, 0, 0), (172, 0, 0, 0), (175, 0, 0, 0), (178, 11, 5, 0), (180, 56, 0, 5)]
-- ManypensModel.birth(II)I
noncomputable def zc_156 : List sy_E := [(0, 16, 0, 0), (1, 12, 1, 0), (2, 80, 180, 4178), (5, 39, 6, 10), (8, 1, 0, 1), (9, 56, 0, 0), (10, 16, 0, 0), (11, 12, 1, 0), (12, 12, 2, 0), (13, 1, 32, 3), (14, 80, 189, 4228), (17, 22, 3, 0), (18, 16, 3, 0), (19, 54, 16, 26), (22, 1, 0, 1), (23, 55, 25, 44), (26, 0, 0, 0), (28, 0, 0, 0), (29, 0, 0, 0), (32, 0, 0, 0), (35, 0, 0, 0), (36, 0, 0, 0), (37, 0, 0, 0), (40, 0, 0, 0), (43, 0, 0, 0), (44, 56, 0, 0)]
-- ManypensModel.checksum()J
noncomputable def zc_157 : List sy_E := [(0, 16, 0, 0), (1, 1, 0, 1), (2, 64, 965, 304), (5, 8, 113, 340), (8, 20, 1, 0), (9, 16, 0, 0), (10, 62, 960, 90), (13, 22, 3, 0), (14, 16, 3, 0), (15, 70, 0, 0), (16, 17, 4, 0), (18, 1, 0, 1), (19, 17, 5, 0), (21, 11, 5, 0), (23, 11, 4, 0), (25, 48, 96, 176), (28, 16, 3, 0), (29, 11, 5, 0), (31, 73, 0, 0), (32, 21, 6, 0), (34, 15, 6, 0), (36, 63, 840, 970), (39, 21, 7, 0), (41, 15, 7, 0), (43, 70, 0, 0), (44, 17, 8, 0), (46, 1, 0, 1), (47, 17, 9, 0), (49, 11, 9, 0), (51, 11, 8, 0), (53, 48, 44, 79), (56, 15, 7, 0), (58, 11, 9, 0), (60, 71, 0, 0), (61, 17, 10, 0), (63, 8, 497, 342), (66, 14, 1, 0), (67, 32, 0, 0), (68, 11, 10, 0), (70, 33, 0, 0), (71, 30, 0, 0), (72, 20, 1, 0), (73, 25, 9, 32769), (76, 55, 28, 49), (79, 16, 0, 0), (80, 15, 6, 0), (82, 80, 211, 3154), (85, 21, 7, 0), (87, 15, 7, 0), (89, 70, 0, 0), (90, 17, 8, 0), (92, 1, 0, 1), (93, 17, 9, 0), (95, 11, 9, 0), (97, 11, 8, 0), (99, 48, 79, 145), (102, 0, 0, 0), (104, 0, 0, 0), (106, 0, 0, 0), (107, 0, 0, 0), (109, 0, 0, 0), (112, 0, 0, 0), (115, 0, 0, 0), (116, 0, 0, 0), (117, 0, 0, 0), (119, 0, 0, 0), (122, 0, 0, 0), (123, 0, 0, 0), (124, 0, 0, 0), (125, 0, 0, 0), (126, 0, 0, 0), (128, 0, 0, 0), (130, 0, 0, 0), (133, 0, 0, 0), (136, 0, 0, 0), (137, 0, 0, 0), (138, 0, 0, 0), (139, 0, 0, 0), (142, 0, 0, 0), (145, 8, 497, 342), (148, 8, 497, 342), (151, 14, 1, 0), (152, 32, 0, 0), (153, 16, 0, 0), (154, 15, 6, 0), (156, 80, 198, 3954), (159, 33, 0, 0), (160, 30, 0, 0), (161, 32, 0, 0), (162, 15, 6, 0), (164, 63, 836, 1248), (167, 33, 0, 0), (168, 30, 0, 0), (169, 20, 1, 0), (170, 25, 5, 32769), (173, 55, 13, 21), (176, 1, 0, 1), (177, 18, 3, 0), (178, 12, 3, 0), (179, 16, 0, 0), (180, 62, 964, 1032), (183, 48, 114, 206), (186, 0, 0, 0), (189, 0, 0, 0), (190, 0, 0, 0), (191, 0, 0, 0), (192, 0, 0, 0), (195, 0, 0, 0), (196, 0, 0, 0), (197, 0, 0, 0), (198, 0, 0, 0), (199, 0, 0, 0), (200, 0, 0, 0), (203, 0, 0, 0), (206, 14, 1, 0), (207, 57, 0, 1)]
-- ManypensModel.close(I)I
noncomputable def zc_158 : List sy_E := [(0, 16, 0, 0), (1, 12, 1, 0), (2, 83, 175, 3217), (5, 40, 6, 12), (8, 1, 16, 2), (9, 55, 15, 29), (12, 16, 0, 0), (13, 62, 960, 90), (16, 12, 1, 0), (17, 73, 0, 0), (18, 63, 848, 1309), (21, 40, 14, 28), (24, 1, 32, 3), (25, 55, 15, 29), (28, 0, 0, 0), (29, 80, 182, 2114), (32, 39, 19, 37), (35, 1, 0, 1), (36, 56, 0, 0), (37, 0, 0, 0), (38, 0, 0, 0), (41, 0, 0, 0), (42, 0, 0, 0), (43, 0, 0, 0), (44, 0, 0, 0), (45, 0, 0, 0), (48, 0, 0, 0), (51, 0, 0, 0), (52, 0, 0, 0), (55, 0, 0, 0), (56, 0, 0, 0), (59, 0, 0, 0), (62, 0, 0, 0), (63, 0, 0, 0), (64, 0, 0, 0), (67, 0, 0, 0), (68, 0, 0, 0)]
-- ManypensModel.closes(LManypensModel$Hand;)V
noncomputable def zc_159 : List sy_E := [(0, 16, 0, 0), (1, 1, 0, 1), (2, 65, 848, 1309), (5, 16, 0, 0), (6, 5, 4, 0), (7, 65, 847, 1330), (10, 61, 0, 0)]
-- ManypensModel.comment(IIII)I
noncomputable def zc_160 : List sy_E := [(0, 16, 0, 0), (1, 12, 1, 0), (2, 83, 175, 3217), (5, 39, 6, 12), (8, 1, 0, 1), (9, 55, 7, 13), (12, 1, 16, 2), (13, 80, 182, 2114), (16, 39, 11, 21), (19, 1, 0, 1), (20, 56, 0, 0), (21, 16, 0, 0), (22, 62, 960, 90), (25, 12, 1, 0), (26, 73, 0, 0), (27, 21, 5, 0), (29, 16, 0, 0), (30, 15, 5, 0), (32, 80, 211, 3154), (35, 21, 6, 0), (37, 16, 0, 0), (38, 15, 6, 0), (40, 12, 2, 0), (41, 12, 3, 0), (42, 83, 169, 3395), (45, 40, 28, 52), (48, 1, 32, 3), (49, 55, 35, 67), (52, 0, 0, 0), (54, 0, 0, 0), (57, 0, 0, 0), (59, 0, 0, 0), (62, 0, 0, 0), (63, 0, 0, 0), (66, 0, 0, 0), (67, 80, 182, 2114), (70, 39, 39, 75), (73, 1, 0, 1), (74, 56, 0, 0), (75, 0, 0, 0), (76, 0, 0, 0), (78, 0, 0, 0), (81, 0, 0, 0), (83, 0, 0, 0), (85, 0, 0, 0), (87, 0, 0, 0), (88, 0, 0, 0), (89, 0, 0, 0), (92, 0, 0, 0), (94, 0, 0, 0), (96, 0, 0, 0), (99, 0, 0, 0), (101, 0, 0, 0), (103, 0, 0, 0), (106, 0, 0, 0), (108, 0, 0, 0), (109, 0, 0, 0), (110, 0, 0, 0), (112, 0, 0, 0), (115, 0, 0, 0), (116, 0, 0, 0)]
-- ManypensModel.commentAt(IIC)I
noncomputable def zc_161 : List sy_E := [(0, 16, 0, 0), (1, 12, 1, 0), (2, 80, 180, 4178), (5, 39, 6, 10), (8, 1, 0, 1), (9, 56, 0, 0), (10, 16, 0, 0), (11, 16, 0, 0), (12, 62, 960, 90), (15, 12, 1, 0), (16, 73, 0, 0), (17, 80, 211, 3154), (20, 21, 4, 0), (22, 16, 0, 0), (23, 16, 0, 0), (24, 62, 960, 90), (27, 12, 1, 0), (28, 73, 0, 0), (29, 15, 4, 0), (31, 80, 172, 4547), (34, 21, 5, 0), (36, 16, 0, 0), (37, 12, 2, 0), (38, 1, 0, 1), (39, 15, 5, 0), (41, 70, 0, 0), (42, 1, 16, 2), (43, 27, 0, 0), (44, 83, 174, 675), (47, 40, 32, 54), (50, 1, 32, 3), (51, 55, 47, 83), (54, 0, 0, 0), (55, 0, 0, 0), (57, 0, 0, 0), (60, 0, 0, 0), (61, 0, 0, 0), (63, 0, 0, 0), (66, 0, 0, 0), (67, 0, 0, 0), (69, 0, 0, 0), (72, 0, 0, 0), (73, 0, 0, 0), (75, 0, 0, 0), (78, 0, 0, 0), (79, 0, 0, 0), (82, 0, 0, 0), (83, 80, 182, 2114), (86, 39, 51, 91), (89, 1, 0, 1), (90, 56, 0, 0), (91, 0, 0, 0), (93, 0, 0, 0), (94, 0, 0, 0), (95, 0, 0, 0), (97, 0, 0, 0), (98, 0, 0, 0), (100, 0, 0, 0), (103, 0, 0, 0), (105, 0, 0, 0), (107, 0, 0, 0), (110, 0, 0, 0), (111, 0, 0, 0), (113, 0, 0, 0), (116, 0, 0, 0), (117, 0, 0, 0), (120, 0, 0, 0), (121, 0, 0, 0), (123, 0, 0, 0), (126, 0, 0, 0), (128, 0, 0, 0), (131, 0, 0, 0), (134, 0, 0, 0), (136, 0, 0, 0), (138, 0, 0, 0), (139, 0, 0, 0), (141, 0, 0, 0), (144, 0, 0, 0), (145, 0, 0, 0), (148, 0, 0, 0), (149, 0, 0, 0), (152, 0, 0, 0)]
-- ManypensModel.comments(I)I
noncomputable def zc_162 : List sy_E := [(0, 16, 0, 0), (1, 12, 1, 0), (2, 80, 180, 4178), (5, 39, 6, 12), (8, 1, 0, 1), (9, 55, 19, 33), (12, 16, 0, 0), (13, 16, 0, 0), (14, 62, 960, 90), (17, 12, 1, 0), (18, 73, 0, 0), (19, 16, 0, 0), (20, 16, 0, 0), (21, 62, 960, 90), (24, 12, 1, 0), (25, 73, 0, 0), (26, 80, 211, 3154), (29, 80, 172, 4547), (32, 70, 0, 0), (33, 56, 0, 0)]
-- ManypensModel.cursor(I)I
noncomputable def zc_163 : List sy_E := [(0, 16, 0, 0), (1, 12, 1, 0), (2, 80, 180, 4178), (5, 39, 6, 12), (8, 1, 0, 1), (9, 55, 12, 22), (12, 16, 0, 0), (13, 16, 0, 0), (14, 62, 960, 90), (17, 12, 1, 0), (18, 73, 0, 0), (19, 80, 198, 3954), (22, 56, 0, 0)]
-- ManypensModel.deliver(II)C
noncomputable def zc_164 : List sy_E := [(0, 16, 0, 0), (1, 12, 1, 0), (2, 12, 2, 0), (3, 80, 179, 4611), (6, 39, 7, 11), (9, 1, 0, 1), (10, 56, 0, 6), (11, 0, 0, 0), (12, 0, 0, 0), (15, 0, 0, 0), (16, 0, 0, 0), (17, 0, 0, 0), (18, 0, 0, 0), (19, 0, 0, 0), (20, 0, 0, 0), (23, 0, 0, 0), (25, 0, 0, 0), (27, 0, 0, 0), (28, 0, 0, 0), (31, 0, 0, 0), (34, 0, 0, 0), (37, 0, 0, 0), (38, 0, 0, 0), (41, 0, 0, 0), (43, 0, 0, 0), (46, 0, 0, 0), (47, 0, 0, 0), (49, 0, 0, 0), (52, 0, 0, 0), (53, 0, 0, 0), (56, 0, 0, 0), (58, 0, 0, 0), (59, 0, 0, 0), (60, 0, 0, 0), (62, 0, 0, 0), (65, 0, 0, 0), (68, 0, 0, 0), (69, 0, 0, 0), (72, 0, 0, 0), (74, 0, 0, 0), (77, 0, 0, 0), (78, 0, 0, 0), (80, 0, 0, 0), (83, 0, 0, 0), (84, 0, 0, 0), (85, 0, 0, 0), (87, 0, 0, 0), (88, 0, 0, 0), (89, 0, 0, 0), (90, 0, 0, 0), (92, 0, 0, 0), (95, 0, 0, 0), (96, 0, 0, 0), (98, 0, 0, 0)]
-- ManypensModel.differ(II)I
noncomputable def zc_165 : List sy_E := [(0, 16, 0, 0), (1, 12, 1, 0), (2, 12, 2, 0), (3, 80, 177, 5171), (6, 39, 7, 11), (9, 1, 0, 1), (10, 56, 0, 0), (11, 16, 0, 0), (12, 80, 185, 1825), (15, 1, 0, 1), (16, 18, 3, 0), (17, 1, 0, 1), (18, 17, 4, 0), (20, 11, 4, 0), (22, 16, 0, 0), (23, 62, 963, 536), (26, 48, 48, 86), (29, 0, 0, 0), (30, 0, 0, 0), (31, 0, 0, 0), (32, 0, 0, 0), (35, 0, 0, 0), (37, 0, 0, 0), (38, 0, 0, 0), (39, 0, 0, 0), (42, 0, 0, 0), (43, 0, 0, 0), (44, 0, 0, 0), (47, 0, 0, 0), (50, 0, 0, 0), (51, 0, 0, 0), (52, 0, 0, 0), (55, 0, 0, 0), (57, 0, 0, 0), (58, 0, 0, 0), (59, 0, 0, 0), (62, 0, 0, 0), (63, 0, 0, 0), (64, 0, 0, 0), (67, 0, 0, 0), (70, 0, 0, 0), (73, 0, 0, 0), (74, 0, 0, 0), (77, 0, 0, 0), (78, 0, 0, 0), (79, 0, 0, 0), (80, 0, 0, 0), (83, 0, 0, 0), (86, 12, 3, 0), (87, 56, 0, 0)]
-- ManypensModel.erase()I
noncomputable def zc_166 : List sy_E := [(0, 16, 0, 0), (1, 1, 0, 1), (2, 64, 965, 304), (5, 16, 0, 0), (6, 62, 964, 1032), (9, 18, 1, 0), (10, 16, 0, 0), (11, 1, 0, 1), (12, 64, 964, 1032), (15, 12, 1, 0), (16, 56, 0, 0)]
-- ManypensModel.forget()I
set_option maxRecDepth 100000 in
noncomputable def zc_167 : List sy_E := [(0, 1, 16, 2), (1, 18, 1, 0), (2, 16, 0, 0), (3, 62, 960, 90), (6, 22, 2, 0), (7, 16, 2, 0), (8, 70, 0, 0), (9, 18, 3, 0), (10, 1, 0, 1), (11, 17, 4, 0), (13, 11, 4, 0), (15, 12, 3, 0), (16, 48, 50, 92), (19, 16, 2, 0), (20, 11, 4, 0), (22, 73, 0, 0), (23, 21, 5, 0), (25, 16, 0, 0), (26, 62, 960, 90), (29, 21, 6, 0), (31, 15, 6, 0), (33, 70, 0, 0), (34, 17, 7, 0), (36, 1, 0, 1), (37, 17, 8, 0), (39, 11, 8, 0), (41, 11, 7, 0), (43, 48, 48, 86), (46, 15, 6, 0), (48, 11, 8, 0), (50, 73, 0, 0), (51, 21, 9, 0), (53, 12, 1, 0), (54, 15, 5, 0), (56, 63, 840, 970), (59, 15, 9, 0), (61, 63, 832, 1088), (64, 71, 0, 0), (65, 15, 9, 0), (67, 63, 834, 1096), (70, 46, 43, 77), (73, 1, 16, 2), (74, 55, 44, 78), (77, 0, 0, 0), (78, 29, 0, 0), (79, 18, 1, 0), (80, 25, 8, 32769), (83, 55, 25, 39), (86, 25, 4, 32769), (89, 55, 10, 13), (92, 16, 0, 0), (93, 12, 1, 0), (94, 39, 55, 101), (97, 1, 0, 1), (98, 55, 56, 102), (101, 0, 0, 0), (102, 80, 182, 2114), (105, 39, 60, 110), (108, 0, 0, 0), (109, 0, 0, 0), (110, 16, 0, 0), (111, 80, 185, 1825), (114, 16, 0, 0), (115, 62, 960, 90), (118, 1, 0, 1), (119, 73, 0, 0), (120, 63, 840, 970), (123, 22, 2, 0), (124, 16, 0, 0), (125, 62, 960, 90), (128, 22, 3, 0), (129, 16, 3, 0), (130, 70, 0, 0), (131, 17, 4, 0), (133, 1, 0, 1), (134, 17, 5, 0), (136, 11, 5, 0), (138, 11, 4, 0), (140, 48, 112, 215), (143, 16, 3, 0), (144, 11, 5, 0), (146, 73, 0, 0), (147, 21, 6, 0), (149, 15, 6, 0), (151, 63, 849, 282), (154, 63, 901, 592), (157, 17, 7, 0), (159, 11, 7, 0), (161, 41, 99, 185), (164, 0, 0, 0), (165, 0, 0, 0), (166, 0, 0, 0), (169, 0, 0, 0), (171, 0, 0, 0), (172, 0, 0, 0), (173, 0, 0, 0), (176, 0, 0, 0), (179, 0, 0, 0), (182, 0, 0, 0), (185, 15, 6, 0), (187, 11, 7, 0), (189, 42, 105, 199), (192, 16, 0, 0), (193, 62, 961, 162), (196, 55, 109, 206), (199, 0, 0, 0), (200, 0, 0, 0), (203, 0, 0, 0), (205, 0, 0, 0), (206, 65, 849, 282), (209, 25, 5, 32769), (212, 55, 76, 136), (215, 1, 0, 1), (216, 18, 3, 0), (217, 1, 0, 1), (218, 17, 4, 0), (220, 11, 4, 0), (222, 16, 0, 0), (223, 62, 963, 536), (226, 48, 144, 280), (229, 0, 0, 0), (230, 0, 0, 0), (233, 0, 0, 0), (235, 0, 0, 0), (236, 0, 0, 0), (239, 0, 0, 0), (242, 0, 0, 0), (243, 0, 0, 0), (244, 0, 0, 0), (247, 0, 0, 0), (249, 0, 0, 0), (250, 0, 0, 0), (251, 0, 0, 0), (254, 0, 0, 0), (257, 0, 0, 0), (260, 0, 0, 0), (261, 0, 0, 0), (264, 0, 0, 0), (266, 0, 0, 0), (267, 0, 0, 0), (268, 0, 0, 0), (271, 0, 0, 0), (274, 0, 0, 0), (277, 0, 0, 0), (280, 16, 0, 0), (281, 62, 960, 90), (284, 21, 4, 0), (286, 15, 4, 0), (288, 70, 0, 0), (289, 17, 5, 0), (291, 1, 0, 1), (292, 17, 6, 0), (294, 11, 6, 0), (296, 11, 5, 0), (298, 48, 187, 368), (301, 15, 4, 0), (303, 11, 6, 0), (305, 73, 0, 0), (306, 21, 7, 0), (308, 15, 7, 0), (310, 83, 159, 4001), (313, 15, 7, 0), (315, 1, 0, 1), (316, 65, 838, 1416), (319, 15, 7, 0), (321, 1, 0, 1), (322, 65, 839, 1440), (325, 15, 7, 0), (327, 1, 0, 1), (328, 65, 837, 1200), (331, 1, 0, 1), (332, 17, 8, 0), (334, 11, 8, 0), (336, 1, 80, 6), (337, 48, 185, 362), (340, 15, 7, 0), (342, 63, 841, 2610), (345, 11, 8, 0), (347, 15, 7, 0), (349, 63, 840, 970), (352, 11, 8, 0), (354, 71, 0, 0), (355, 75, 0, 0), (356, 25, 8, 32769), (359, 55, 172, 334), (362, 25, 6, 32769), (365, 55, 152, 294), (368, 12, 3, 0), (369, 56, 0, 0)]
-- ManypensModel.groups(IZ)I
noncomputable def zc_168 : List sy_E := [(0, 16, 0, 0), (1, 12, 1, 0), (2, 80, 180, 4178), (5, 39, 6, 12), (8, 1, 0, 1), (9, 55, 19, 37), (12, 12, 2, 0), (13, 39, 14, 28), (16, 16, 0, 0), (17, 62, 960, 90), (20, 12, 1, 0), (21, 73, 0, 0), (22, 63, 839, 1440), (25, 55, 19, 37), (28, 16, 0, 0), (29, 62, 960, 90), (32, 12, 1, 0), (33, 73, 0, 0), (34, 63, 838, 1416), (37, 56, 0, 0)]
-- ManypensModel.hasLetters([LManypensModel$Letter;II)Z
noncomputable def zc_169 : List sy_E := [(0, 12, 2, 0), (1, 1, 16, 2), (2, 47, 17, 27), (5, 12, 1, 0), (6, 41, 17, 27), (9, 12, 2, 0), (10, 16, 0, 0), (11, 70, 0, 0), (12, 49, 17, 27), (15, 0, 0, 0), (16, 0, 0, 0), (17, 0, 0, 0), (18, 0, 0, 0), (19, 0, 0, 0), (20, 0, 0, 0), (23, 0, 0, 0), (24, 0, 0, 0), (27, 1, 0, 1), (28, 56, 0, 5)]
-- ManypensModel.heard(II)I
noncomputable def zc_170 : List sy_E := [(0, 16, 0, 0), (1, 12, 1, 0), (2, 12, 2, 0), (3, 80, 177, 5171), (6, 39, 7, 13), (9, 1, 0, 1), (10, 55, 14, 24), (13, 16, 0, 0), (14, 62, 960, 90), (17, 12, 1, 0), (18, 73, 0, 0), (19, 63, 840, 970), (22, 12, 2, 0), (23, 71, 0, 0), (24, 56, 0, 0)]
-- ManypensModel.hearsAll(LManypensModel$Hand;[I)I
noncomputable def zc_171 : List sy_E := [(0, 1, 0, 1), (1, 18, 3, 0), (2, 1, 0, 1), (3, 17, 4, 0), (5, 16, 0, 0), (6, 62, 960, 90), (9, 21, 5, 0), (11, 15, 5, 0), (13, 70, 0, 0), (14, 17, 6, 0), (16, 1, 0, 1), (17, 17, 7, 0), (19, 11, 7, 0), (21, 11, 6, 0), (23, 48, 46, 94), (26, 15, 5, 0), (28, 11, 7, 0), (30, 73, 0, 0), (31, 21, 8, 0), (33, 1, 16, 2), (34, 17, 9, 0), (36, 11, 9, 0), (38, 16, 2, 0), (39, 15, 8, 0), (41, 63, 832, 1088), (44, 71, 0, 0), (45, 49, 44, 88), (48, 0, 0, 0), (50, 0, 0, 0), (53, 0, 0, 0), (55, 0, 0, 0), (56, 0, 0, 0), (59, 0, 0, 0), (61, 0, 0, 0), (64, 0, 0, 0), (66, 0, 0, 0), (69, 0, 0, 0), (71, 0, 0, 0), (72, 0, 0, 0), (75, 0, 0, 0), (78, 0, 0, 0), (80, 0, 0, 0), (82, 0, 0, 0), (85, 0, 0, 0), (88, 25, 7, 32769), (91, 55, 12, 19), (94, 1, 16, 2), (95, 17, 5, 0), (97, 11, 5, 0), (99, 11, 4, 0), (101, 49, 105, 215), (104, 0, 0, 0), (105, 0, 0, 0), (108, 0, 0, 0), (110, 0, 0, 0), (112, 0, 0, 0), (113, 0, 0, 0), (115, 0, 0, 0), (116, 0, 0, 0), (118, 0, 0, 0), (120, 0, 0, 0), (122, 0, 0, 0), (125, 0, 0, 0), (127, 0, 0, 0), (129, 0, 0, 0), (130, 0, 0, 0), (132, 0, 0, 0), (133, 0, 0, 0), (135, 0, 0, 0), (137, 0, 0, 0), (138, 0, 0, 0), (140, 0, 0, 0), (143, 0, 0, 0), (144, 0, 0, 0), (147, 0, 0, 0), (149, 0, 0, 0), (152, 0, 0, 0), (154, 0, 0, 0), (155, 0, 0, 0), (158, 0, 0, 0), (160, 0, 0, 0), (163, 0, 0, 0), (165, 0, 0, 0), (168, 0, 0, 0), (170, 0, 0, 0), (171, 0, 0, 0), (172, 0, 0, 0), (175, 0, 0, 0), (178, 0, 0, 0), (181, 0, 0, 0), (182, 0, 0, 0), (183, 0, 0, 0), (184, 0, 0, 0), (186, 0, 0, 0), (189, 0, 0, 0), (191, 0, 0, 0), (192, 0, 0, 0), (195, 0, 0, 0), (196, 0, 0, 0), (197, 0, 0, 0), (200, 0, 0, 0), (203, 0, 0, 0), (206, 0, 0, 0), (209, 0, 0, 0), (212, 0, 0, 0), (215, 12, 3, 0), (216, 56, 0, 0)]
-- ManypensModel.hung(LManypensModel$Hand;[LManypensModel$Letter;)[LManypensModel$Edit;
noncomputable def zc_172 : List sy_E := [(0, 3, 3200, 32968), (3, 69, 8, 57), (6, 22, 3, 0), (7, 1, 0, 1), (8, 17, 4, 0), (10, 1, 0, 1), (11, 17, 5, 0), (13, 11, 5, 0), (15, 16, 2, 0), (16, 70, 0, 0), (17, 48, 68, 141), (20, 0, 0, 0), (21, 0, 0, 0), (24, 0, 0, 0), (26, 0, 0, 0), (28, 0, 0, 0), (29, 0, 0, 0), (31, 0, 0, 0), (32, 0, 0, 0), (34, 0, 0, 0), (36, 0, 0, 0), (38, 0, 0, 0), (41, 0, 0, 0), (43, 0, 0, 0), (45, 0, 0, 0), (46, 0, 0, 0), (48, 0, 0, 0), (49, 0, 0, 0), (51, 0, 0, 0), (53, 0, 0, 0), (54, 0, 0, 0), (57, 0, 0, 0), (59, 0, 0, 0), (62, 0, 0, 0), (63, 0, 0, 0), (66, 0, 0, 0), (68, 0, 0, 0), (71, 0, 0, 0), (73, 0, 0, 0), (74, 0, 0, 0), (76, 0, 0, 0), (78, 0, 0, 0), (81, 0, 0, 0), (83, 0, 0, 0), (86, 0, 0, 0), (87, 0, 0, 0), (89, 0, 0, 0), (90, 0, 0, 0), (93, 0, 0, 0), (96, 0, 0, 0), (99, 0, 0, 0), (101, 0, 0, 0), (102, 0, 0, 0), (103, 0, 0, 0), (106, 0, 0, 0), (108, 0, 0, 0), (111, 0, 0, 0), (114, 0, 0, 0), (115, 0, 0, 0), (117, 0, 0, 0), (119, 0, 0, 0), (120, 0, 0, 0), (123, 0, 0, 0), (126, 0, 0, 0), (129, 0, 0, 0), (132, 0, 0, 0), (135, 0, 0, 0), (138, 0, 0, 0), (141, 11, 4, 0), (143, 69, 8, 57), (146, 21, 5, 0), (148, 1, 0, 1), (149, 17, 6, 0), (151, 11, 6, 0), (153, 11, 4, 0), (155, 48, 84, 173), (158, 0, 0, 0), (160, 0, 0, 0), (162, 0, 0, 0), (163, 0, 0, 0), (165, 0, 0, 0), (166, 0, 0, 0), (167, 0, 0, 0), (170, 0, 0, 0), (173, 15, 5, 0), (175, 58, 0, 2)]
-- ManypensModel.isAlike(II)Z
noncomputable def zc_173 : List sy_E := [(0, 16, 0, 0), (1, 12, 1, 0), (2, 12, 2, 0), (3, 80, 177, 5171), (6, 40, 18, 32), (9, 16, 0, 0), (10, 16, 0, 0), (11, 62, 960, 90), (14, 12, 1, 0), (15, 73, 0, 0), (16, 16, 0, 0), (17, 62, 960, 90), (20, 12, 2, 0), (21, 73, 0, 0), (22, 80, 155, 5379), (25, 39, 18, 32), (28, 1, 16, 2), (29, 55, 19, 33), (32, 1, 0, 1), (33, 56, 0, 5)]
-- ManypensModel.isBetween(III)Z
noncomputable def zc_174 : List sy_E := [(0, 12, 1, 0), (1, 12, 0, 0), (2, 49, 8, 14), (5, 12, 0, 0), (6, 12, 2, 0), (7, 49, 8, 14), (10, 1, 16, 2), (11, 55, 9, 15), (14, 1, 0, 1), (15, 56, 0, 5)]
-- ManypensModel.isHand(I)Z
noncomputable def zc_175 : List sy_E := [(0, 12, 0, 0), (1, 1, 0, 1), (2, 1, 64, 5), (3, 83, 174, 675), (6, 56, 0, 5)]
-- ManypensModel.isMarked(IIC)Z
noncomputable def zc_176 : List sy_E := [(0, 16, 0, 0), (1, 12, 1, 0), (2, 83, 175, 3217), (5, 40, 6, 12), (8, 1, 16, 2), (9, 55, 15, 29), (12, 12, 3, 0), (13, 2, 1568, 226), (15, 45, 14, 28), (18, 12, 3, 0), (19, 2, 1680, 233), (21, 45, 14, 28), (24, 1, 32, 3), (25, 55, 15, 29), (28, 1, 0, 1), (29, 80, 182, 2114), (32, 39, 19, 37), (35, 1, 0, 1), (36, 56, 0, 5), (37, 16, 0, 0), (38, 12, 1, 0), (39, 12, 2, 0), (40, 1, 48, 4), (41, 80, 189, 4228), (44, 21, 4, 0), (46, 15, 4, 0), (48, 53, 39, 74), (51, 0, 0, 0), (52, 0, 0, 0), (54, 0, 0, 0), (55, 0, 0, 0), (56, 0, 0, 0), (59, 0, 0, 0), (60, 0, 0, 0), (61, 0, 0, 0), (64, 0, 0, 0), (67, 0, 0, 0), (70, 0, 0, 0), (71, 0, 0, 0), (74, 1, 0, 1), (75, 56, 0, 5)]
-- ManypensModel.isNoPair(II)Z
noncomputable def zc_177 : List sy_E := [(0, 16, 0, 0), (1, 12, 1, 0), (2, 83, 175, 3217), (5, 39, 9, 19), (8, 12, 2, 0), (9, 83, 175, 3217), (12, 39, 9, 19), (15, 1, 0, 1), (16, 55, 10, 20), (19, 1, 16, 2), (20, 80, 182, 2114), (23, 56, 0, 5)]
-- ManypensModel.isNoStep(II)Z
noncomputable def zc_178 : List sy_E := [(0, 16, 0, 0), (1, 12, 1, 0), (2, 83, 175, 3217), (5, 40, 6, 12), (8, 1, 16, 2), (9, 55, 18, 34), (12, 12, 2, 0), (13, 1, 0, 1), (14, 16, 0, 0), (15, 62, 960, 90), (18, 12, 1, 0), (19, 73, 0, 0), (20, 63, 837, 1200), (23, 83, 174, 675), (26, 40, 17, 33), (29, 1, 32, 3), (30, 55, 18, 34), (33, 1, 0, 1), (34, 80, 182, 2114), (37, 56, 0, 5)]
-- ManypensModel.isNoWay(II)Z
noncomputable def zc_179 : List sy_E := [(0, 16, 0, 0), (1, 12, 1, 0), (2, 83, 175, 3217), (5, 40, 6, 12), (8, 1, 16, 2), (9, 55, 20, 36), (12, 12, 2, 0), (13, 1, 0, 1), (14, 16, 0, 0), (15, 62, 960, 90), (18, 12, 1, 0), (19, 73, 0, 0), (20, 63, 836, 1248), (23, 1, 16, 2), (24, 27, 0, 0), (25, 83, 174, 675), (28, 40, 19, 35), (31, 1, 32, 3), (32, 55, 20, 36), (35, 0, 0, 0), (36, 80, 182, 2114), (39, 56, 0, 5)]
-- ManypensModel.isNone(I)Z
noncomputable def zc_180 : List sy_E := [(0, 16, 0, 0), (1, 12, 1, 0), (2, 83, 175, 3217), (5, 39, 6, 12), (8, 1, 0, 1), (9, 55, 7, 13), (12, 1, 16, 2), (13, 80, 182, 2114), (16, 56, 0, 5)]
-- ManypensModel.isTrue()Z
noncomputable def zc_181 : List sy_E := [(0, 16, 0, 0), (1, 1, 0, 1), (2, 64, 965, 304), (5, 1, 16, 2), (6, 18, 1, 0), (7, 16, 0, 0), (8, 62, 960, 90), (11, 22, 2, 0), (12, 16, 2, 0), (13, 70, 0, 0), (14, 18, 3, 0), (15, 1, 0, 1), (16, 17, 4, 0), (18, 11, 4, 0), (20, 12, 3, 0), (21, 48, 76, 141), (24, 16, 2, 0), (25, 11, 4, 0), (27, 73, 0, 0), (28, 21, 5, 0), (30, 16, 0, 0), (31, 62, 960, 90), (34, 21, 6, 0), (36, 15, 6, 0), (38, 70, 0, 0), (39, 17, 7, 0), (41, 1, 0, 1), (42, 17, 8, 0), (44, 11, 8, 0), (46, 11, 7, 0), (48, 48, 74, 135), (51, 15, 6, 0), (53, 11, 8, 0), (55, 73, 0, 0), (56, 21, 9, 0), (58, 1, 16, 2), (59, 17, 10, 0), (61, 1, 0, 1), (62, 17, 11, 0), (64, 11, 11, 0), (66, 1, 80, 6), (67, 48, 59, 105), (70, 11, 10, 0), (72, 15, 5, 0), (74, 63, 840, 970), (77, 11, 11, 0), (79, 71, 0, 0), (80, 15, 9, 0), (82, 63, 840, 970), (85, 11, 11, 0), (87, 71, 0, 0), (88, 46, 54, 95), (91, 1, 16, 2), (92, 55, 55, 96), (95, 0, 0, 0), (96, 29, 0, 0), (97, 17, 10, 0), (99, 25, 11, 32769), (102, 55, 39, 64), (105, 12, 1, 0), (106, 11, 10, 0), (108, 39, 67, 122), (111, 16, 0, 0), (112, 15, 5, 0), (114, 15, 9, 0), (116, 80, 155, 5379), (119, 39, 69, 126), (122, 1, 16, 2), (123, 55, 70, 127), (126, 0, 0, 0), (127, 29, 0, 0), (128, 18, 1, 0), (129, 25, 8, 32769), (132, 55, 28, 44), (135, 25, 4, 32769), (138, 55, 13, 18), (141, 12, 1, 0), (142, 56, 0, 5)]
-- ManypensModel.isWrong(I)Z
noncomputable def zc_182 : List sy_E := [(0, 16, 0, 0), (1, 12, 1, 0), (2, 64, 965, 304), (5, 12, 1, 0), (6, 39, 7, 13), (9, 1, 16, 2), (10, 55, 8, 14), (13, 1, 0, 1), (14, 56, 0, 5)]
-- ManypensModel.kept(I)I
noncomputable def zc_183 : List sy_E := [(0, 16, 0, 0), (1, 12, 1, 0), (2, 80, 180, 4178), (5, 39, 6, 10), (8, 1, 0, 1), (9, 56, 0, 0), (10, 16, 0, 0), (11, 80, 185, 1825), (14, 1, 0, 1), (15, 18, 2, 0), (16, 1, 0, 1), (17, 18, 3, 0), (18, 12, 3, 0), (19, 16, 0, 0), (20, 62, 963, 536), (23, 48, 42, 76), (26, 0, 0, 0), (27, 0, 0, 0), (28, 0, 0, 0), (31, 0, 0, 0), (32, 0, 0, 0), (33, 0, 0, 0), (36, 0, 0, 0), (39, 0, 0, 0), (40, 0, 0, 0), (43, 0, 0, 0), (44, 0, 0, 0), (45, 0, 0, 0), (48, 0, 0, 0), (49, 0, 0, 0), (52, 0, 0, 0), (53, 0, 0, 0), (54, 0, 0, 0), (57, 0, 0, 0), (60, 0, 0, 0), (63, 0, 0, 0), (64, 0, 0, 0), (67, 0, 0, 0), (68, 0, 0, 0), (69, 0, 0, 0), (70, 0, 0, 0), (73, 0, 0, 0), (76, 12, 2, 0), (77, 56, 0, 0)]
-- ManypensModel.lacks(II)I
noncomputable def zc_184 : List sy_E := [(0, 16, 0, 0), (1, 12, 1, 0), (2, 12, 2, 0), (3, 80, 177, 5171), (6, 39, 7, 11), (9, 1, 0, 1), (10, 56, 0, 0), (11, 1, 0, 1), (12, 18, 3, 0), (13, 1, 0, 1), (14, 17, 4, 0), (16, 11, 4, 0), (18, 1, 80, 6), (19, 48, 51, 87), (22, 12, 3, 0), (23, 16, 0, 0), (24, 62, 960, 90), (27, 12, 1, 0), (28, 73, 0, 0), (29, 63, 840, 970), (32, 11, 4, 0), (34, 71, 0, 0), (35, 16, 0, 0), (36, 62, 960, 90), (39, 12, 2, 0), (40, 73, 0, 0), (41, 63, 840, 970), (44, 11, 4, 0), (46, 71, 0, 0), (47, 50, 46, 78), (50, 0, 0, 0), (51, 0, 0, 0), (54, 0, 0, 0), (55, 0, 0, 0), (56, 0, 0, 0), (59, 0, 0, 0), (61, 0, 0, 0), (62, 0, 0, 0), (63, 0, 0, 0), (66, 0, 0, 0), (67, 0, 0, 0), (68, 0, 0, 0), (71, 0, 0, 0), (73, 0, 0, 0), (74, 0, 0, 0), (75, 0, 0, 0), (78, 1, 0, 1), (79, 26, 0, 0), (80, 18, 3, 0), (81, 25, 4, 32769), (84, 55, 11, 16), (87, 12, 3, 0), (88, 56, 0, 0)]
-- ManypensModel.lays()V
noncomputable def zc_185 : List sy_E := [(0, 16, 0, 0), (1, 62, 966, 565), (4, 39, 4, 8), (7, 61, 0, 0), (8, 16, 0, 0), (9, 62, 962, 194), (12, 70, 0, 0), (13, 16, 0, 0), (14, 62, 963, 536), (17, 48, 17, 33), (20, 0, 0, 0), (21, 0, 0, 0), (22, 0, 0, 0), (23, 0, 0, 0), (26, 0, 0, 0), (27, 0, 0, 0), (30, 0, 0, 0), (33, 16, 0, 0), (34, 62, 961, 162), (37, 22, 1, 0), (38, 1, 0, 1), (39, 18, 2, 0), (40, 16, 0, 0), (41, 62, 961, 162), (44, 1, 68719476720, 0), (45, 65, 901, 592), (48, 16, 1, 0), (49, 53, 63, 121), (52, 16, 1, 0), (53, 16, 0, 0), (54, 62, 961, 162), (57, 51, 41, 75), (60, 0, 0, 0), (61, 0, 0, 0), (64, 0, 0, 0), (65, 0, 0, 0), (66, 0, 0, 0), (67, 0, 0, 0), (68, 0, 0, 0), (69, 0, 0, 0), (72, 0, 0, 0), (75, 16, 1, 0), (76, 63, 899, 394), (79, 53, 48, 90), (82, 0, 0, 0), (83, 0, 0, 0), (86, 0, 0, 0), (87, 0, 0, 0), (90, 16, 1, 0), (91, 53, 57, 109), (94, 16, 1, 0), (95, 63, 900, 514), (98, 54, 57, 109), (101, 16, 1, 0), (102, 63, 898, 370), (105, 22, 1, 0), (106, 55, 48, 90), (109, 16, 1, 0), (110, 53, 26, 48), (113, 0, 0, 0), (114, 0, 0, 0), (117, 0, 0, 0), (118, 0, 0, 0), (121, 16, 0, 0), (122, 1, 16, 2), (123, 64, 966, 565), (126, 61, 0, 0)]
-- ManypensModel.leans(III)I
noncomputable def zc_186 : List sy_E := [(0, 16, 0, 0), (1, 12, 1, 0), (2, 12, 3, 0), (3, 80, 177, 5171), (6, 39, 7, 11), (9, 1, 0, 1), (10, 56, 0, 0), (11, 16, 0, 0), (12, 12, 2, 0), (13, 1, 16, 2), (14, 16, 0, 0), (15, 62, 960, 90), (18, 12, 1, 0), (19, 73, 0, 0), (20, 63, 834, 1096), (23, 83, 174, 675), (26, 39, 19, 33), (29, 0, 0, 0), (30, 0, 0, 0), (33, 1, 32, 3), (34, 80, 182, 2114), (37, 39, 24, 44), (40, 1, 0, 1), (41, 55, 34, 60), (44, 0, 0, 0), (45, 0, 0, 0), (48, 0, 0, 0), (49, 0, 0, 0), (50, 0, 0, 0), (53, 0, 0, 0), (54, 0, 0, 0), (55, 0, 0, 0), (58, 0, 0, 0), (59, 0, 0, 0), (60, 56, 0, 0)]
-- ManypensModel.length(I)I
noncomputable def zc_187 : List sy_E := [(0, 16, 0, 0), (1, 12, 1, 0), (2, 80, 180, 4178), (5, 39, 6, 12), (8, 1, 0, 1), (9, 55, 13, 23), (12, 16, 0, 0), (13, 16, 0, 0), (14, 62, 960, 90), (17, 12, 1, 0), (18, 73, 0, 0), (19, 80, 211, 3154), (22, 70, 0, 0), (23, 56, 0, 0)]
-- ManypensModel.lengthThen(II)I
noncomputable def zc_188 : List sy_E := [(0, 16, 0, 0), (1, 12, 1, 0), (2, 12, 2, 0), (3, 80, 178, 5267), (6, 39, 7, 13), (9, 1, 0, 1), (10, 55, 15, 25), (13, 16, 0, 0), (14, 16, 0, 0), (15, 62, 960, 90), (18, 12, 1, 0), (19, 73, 0, 0), (20, 12, 2, 0), (21, 80, 212, 5315), (24, 70, 0, 0), (25, 56, 0, 0)]
-- ManypensModel.letter(III)LManypensModel$Letter;
noncomputable def zc_189 : List sy_E := [(0, 16, 0, 0), (1, 16, 0, 0), (2, 62, 960, 90), (5, 12, 1, 0), (6, 73, 0, 0), (7, 80, 211, 3154), (10, 21, 4, 0), (12, 16, 0, 0), (13, 12, 2, 0), (14, 1, 0, 1), (15, 15, 4, 0), (17, 70, 0, 0), (18, 1, 16, 2), (19, 27, 0, 0), (20, 83, 174, 675), (23, 39, 18, 30), (26, 0, 0, 0), (27, 0, 0, 0), (30, 12, 3, 0), (31, 80, 182, 2114), (34, 39, 23, 41), (37, 5, 4, 0), (38, 55, 26, 45), (41, 0, 0, 0), (43, 0, 0, 0), (44, 0, 0, 0), (45, 58, 0, 2)]
-- ManypensModel.lose(II)I
noncomputable def zc_190 : List sy_E := [(0, 16, 0, 0), (1, 12, 1, 0), (2, 12, 2, 0), (3, 80, 179, 4611), (6, 39, 7, 11), (9, 1, 0, 1), (10, 56, 0, 0), (11, 0, 0, 0), (12, 0, 0, 0), (15, 0, 0, 0), (16, 0, 0, 0), (17, 0, 0, 0), (18, 0, 0, 0), (21, 0, 0, 0), (22, 0, 0, 0), (23, 0, 0, 0), (26, 0, 0, 0), (27, 0, 0, 0), (28, 0, 0, 0), (31, 0, 0, 0)]
-- ManypensModel.mark(IIICZZ)I
noncomputable def zc_191 : List sy_E := [(0, 16, 0, 0), (1, 12, 1, 0), (2, 83, 175, 3217), (5, 40, 6, 12), (8, 1, 16, 2), (9, 55, 15, 31), (12, 11, 4, 0), (14, 2, 1568, 226), (16, 45, 14, 30), (19, 11, 4, 0), (21, 2, 1680, 233), (23, 45, 14, 30), (26, 1, 32, 3), (27, 55, 15, 31), (30, 1, 0, 1), (31, 80, 182, 2114), (34, 39, 19, 39), (37, 1, 0, 1), (38, 56, 0, 0), (39, 16, 0, 0), (40, 62, 960, 90), (43, 12, 1, 0), (44, 73, 0, 0), (45, 21, 7, 0), (47, 16, 0, 0), (48, 15, 7, 0), (50, 80, 211, 3154), (53, 21, 8, 0), (55, 16, 0, 0), (56, 15, 8, 0), (58, 12, 2, 0), (59, 12, 3, 0), (60, 83, 169, 3395), (63, 40, 36, 70), (66, 1, 48, 4), (67, 55, 43, 85), (70, 0, 0, 0), (72, 0, 0, 0), (75, 0, 0, 0), (77, 0, 0, 0), (80, 0, 0, 0), (81, 0, 0, 0), (84, 0, 0, 0), (85, 80, 182, 2114), (88, 39, 47, 93), (91, 1, 0, 1), (92, 56, 0, 0), (93, 0, 0, 0), (94, 0, 0, 0), (96, 0, 0, 0), (99, 0, 0, 0), (101, 0, 0, 0), (103, 0, 0, 0), (105, 0, 0, 0), (106, 0, 0, 0), (107, 0, 0, 0), (110, 0, 0, 0), (112, 0, 0, 0), (114, 0, 0, 0), (117, 0, 0, 0), (119, 0, 0, 0), (121, 0, 0, 0), (124, 0, 0, 0), (126, 0, 0, 0), (128, 0, 0, 0), (131, 0, 0, 0), (133, 0, 0, 0), (136, 0, 0, 0)]
-- ManypensModel.meanTime(I)D
noncomputable def zc_192 : List sy_E := [(0, 16, 0, 0), (1, 12, 1, 0), (2, 80, 180, 4178), (5, 39, 6, 10), (8, 10, 3, 0), (9, 60, 0, 4), (10, 16, 0, 0), (11, 16, 0, 0), (12, 62, 960, 90), (15, 12, 1, 0), (16, 73, 0, 0), (17, 80, 211, 3154), (20, 22, 2, 0), (21, 16, 0, 0), (22, 16, 2, 0), (23, 70, 0, 0), (24, 40, 19, 31), (27, 1, 32, 3), (28, 55, 20, 32), (31, 0, 0, 0), (32, 80, 182, 2114), (35, 39, 24, 40), (38, 10, 3, 0), (39, 60, 0, 4), (40, 0, 0, 0), (41, 0, 0, 0), (42, 0, 0, 0), (43, 0, 0, 0), (45, 0, 0, 0), (47, 0, 0, 0), (48, 0, 0, 0), (50, 0, 0, 0), (51, 0, 0, 0), (53, 0, 0, 0), (55, 0, 0, 0), (57, 0, 0, 0), (60, 0, 0, 0), (62, 0, 0, 0), (64, 0, 0, 0), (65, 0, 0, 0), (67, 0, 0, 0), (68, 0, 0, 0), (70, 0, 0, 0), (73, 0, 0, 0), (76, 0, 0, 0), (77, 0, 0, 0), (78, 0, 0, 0), (81, 0, 0, 0), (84, 0, 0, 0), (85, 0, 0, 0), (86, 0, 0, 0), (87, 0, 0, 0), (88, 0, 0, 0), (89, 0, 0, 0), (90, 0, 0, 0)]
-- ManypensModel.meet(II)I
noncomputable def zc_193 : List sy_E := [(0, 16, 0, 0), (1, 12, 1, 0), (2, 83, 175, 3217), (5, 39, 7, 15), (8, 12, 2, 0), (9, 83, 175, 3217), (12, 40, 9, 19), (15, 1, 16, 2), (16, 55, 15, 29), (19, 12, 1, 0), (20, 12, 2, 0), (21, 46, 14, 28), (24, 1, 32, 3), (25, 55, 15, 29), (28, 1, 0, 1), (29, 80, 182, 2114), (32, 39, 19, 37), (35, 1, 0, 1), (36, 56, 0, 0), (37, 16, 0, 0), (38, 62, 960, 90), (41, 12, 1, 0), (42, 73, 0, 0), (43, 63, 840, 970), (46, 83, 204, 5041), (49, 22, 3, 0), (50, 16, 0, 0), (51, 62, 960, 90), (54, 12, 2, 0), (55, 73, 0, 0), (56, 63, 840, 970), (59, 83, 204, 5041), (62, 21, 4, 0), (64, 16, 0, 0), (65, 16, 0, 0), (66, 62, 960, 90), (69, 12, 1, 0), (70, 73, 0, 0), (71, 15, 4, 0), (73, 80, 171, 5107), (76, 16, 0, 0), (77, 16, 0, 0), (78, 62, 960, 90), (81, 12, 2, 0), (82, 73, 0, 0), (83, 16, 3, 0), (84, 80, 171, 5107), (87, 26, 0, 0), (88, 56, 0, 0)]
-- ManypensModel.move(IIII)I
noncomputable def zc_194 : List sy_E := [(0, 16, 0, 0), (1, 12, 1, 0), (2, 83, 175, 3217), (5, 39, 6, 12), (8, 1, 0, 1), (9, 55, 7, 13), (12, 1, 16, 2), (13, 80, 182, 2114), (16, 39, 11, 21), (19, 1, 0, 1), (20, 56, 0, 0), (21, 16, 0, 0), (22, 62, 960, 90), (25, 12, 1, 0), (26, 73, 0, 0), (27, 21, 5, 0), (29, 16, 0, 0), (30, 15, 5, 0), (32, 80, 211, 3154), (35, 21, 6, 0), (37, 16, 0, 0), (38, 15, 6, 0), (40, 12, 2, 0), (41, 12, 3, 0), (42, 83, 169, 3395), (45, 39, 34, 62), (48, 0, 0, 0), (50, 0, 0, 0), (51, 0, 0, 0), (53, 0, 0, 0), (54, 0, 0, 0), (55, 0, 0, 0), (56, 0, 0, 0), (59, 0, 0, 0), (62, 1, 32, 3), (63, 55, 43, 81), (66, 0, 0, 0), (68, 0, 0, 0), (71, 0, 0, 0), (73, 0, 0, 0), (76, 0, 0, 0), (77, 0, 0, 0), (80, 0, 0, 0), (81, 80, 182, 2114), (84, 39, 47, 89), (87, 1, 0, 1), (88, 56, 0, 0), (89, 0, 0, 0), (90, 0, 0, 0), (92, 0, 0, 0), (95, 0, 0, 0), (97, 0, 0, 0), (98, 0, 0, 0), (100, 0, 0, 0), (102, 0, 0, 0), (103, 0, 0, 0), (105, 0, 0, 0), (107, 0, 0, 0), (108, 0, 0, 0), (111, 0, 0, 0), (113, 0, 0, 0), (115, 0, 0, 0), (117, 0, 0, 0), (118, 0, 0, 0), (120, 0, 0, 0), (121, 0, 0, 0), (122, 0, 0, 0), (125, 0, 0, 0), (126, 0, 0, 0), (129, 0, 0, 0), (132, 0, 0, 0), (134, 0, 0, 0), (136, 0, 0, 0), (137, 0, 0, 0), (138, 0, 0, 0), (141, 0, 0, 0), (142, 0, 0, 0), (144, 0, 0, 0), (146, 0, 0, 0), (149, 0, 0, 0), (150, 0, 0, 0), (153, 0, 0, 0), (156, 0, 0, 0), (158, 0, 0, 0), (160, 0, 0, 0), (161, 0, 0, 0), (164, 0, 0, 0), (166, 0, 0, 0), (167, 0, 0, 0), (168, 0, 0, 0), (171, 0, 0, 0), (173, 0, 0, 0), (174, 0, 0, 0), (175, 0, 0, 0), (176, 0, 0, 0), (177, 0, 0, 0), (178, 0, 0, 0), (180, 0, 0, 0), (181, 0, 0, 0), (184, 0, 0, 0), (185, 0, 0, 0), (187, 0, 0, 0), (188, 0, 0, 0), (189, 0, 0, 0)]
-- ManypensModel.onWay(I)I
noncomputable def zc_195 : List sy_E := [(0, 16, 0, 0), (1, 12, 1, 0), (2, 80, 180, 4178), (5, 39, 6, 12), (8, 1, 0, 1), (9, 55, 11, 21), (12, 16, 0, 0), (13, 62, 960, 90), (16, 12, 1, 0), (17, 73, 0, 0), (18, 63, 836, 1248), (21, 56, 0, 0)]
-- ManypensModel.open(I)I
noncomputable def zc_196 : List sy_E := [(0, 16, 0, 0), (1, 12, 1, 0), (2, 83, 175, 3217), (5, 40, 6, 12), (8, 1, 16, 2), (9, 55, 15, 29), (12, 16, 0, 0), (13, 62, 960, 90), (16, 12, 1, 0), (17, 73, 0, 0), (18, 63, 848, 1309), (21, 39, 14, 28), (24, 0, 0, 0), (25, 0, 0, 0), (28, 1, 0, 1), (29, 80, 182, 2114), (32, 39, 19, 37), (35, 1, 0, 1), (36, 56, 0, 0), (37, 16, 0, 0), (38, 62, 960, 90), (41, 12, 1, 0), (42, 73, 0, 0), (43, 1, 16, 2), (44, 65, 848, 1309), (47, 16, 0, 0), (48, 62, 960, 90), (51, 12, 1, 0), (52, 73, 0, 0), (53, 5, 4, 0), (54, 65, 847, 1330), (57, 16, 0, 0), (58, 62, 960, 90), (61, 12, 1, 0), (62, 73, 0, 0), (63, 63, 838, 1416), (66, 56, 0, 0)]
-- ManypensModel.othersShare(I)F
noncomputable def zc_197 : List sy_E := [(0, 16, 0, 0), (1, 12, 1, 0), (2, 80, 180, 4178), (5, 39, 6, 10), (8, 9, 2, 0), (9, 59, 0, 3), (10, 16, 0, 0), (11, 16, 0, 0), (12, 62, 960, 90), (15, 12, 1, 0), (16, 73, 0, 0), (17, 80, 211, 3154), (20, 22, 2, 0), (21, 16, 0, 0), (22, 16, 2, 0), (23, 70, 0, 0), (24, 40, 19, 31), (27, 1, 32, 3), (28, 55, 20, 32), (31, 0, 0, 0), (32, 80, 182, 2114), (35, 39, 24, 40), (38, 9, 2, 0), (39, 59, 0, 3), (40, 0, 0, 0), (41, 0, 0, 0), (42, 0, 0, 0), (43, 0, 0, 0), (45, 0, 0, 0), (47, 0, 0, 0), (48, 0, 0, 0), (50, 0, 0, 0), (51, 0, 0, 0), (53, 0, 0, 0), (55, 0, 0, 0), (57, 0, 0, 0), (60, 0, 0, 0), (62, 0, 0, 0), (64, 0, 0, 0), (65, 0, 0, 0), (67, 0, 0, 0), (68, 0, 0, 0), (70, 0, 0, 0), (73, 0, 0, 0), (76, 0, 0, 0), (77, 0, 0, 0), (80, 0, 0, 0), (81, 0, 0, 0), (84, 0, 0, 0), (85, 0, 0, 0), (86, 0, 0, 0), (87, 0, 0, 0), (90, 0, 0, 0), (93, 0, 0, 0), (94, 0, 0, 0), (95, 0, 0, 0), (96, 0, 0, 0), (97, 0, 0, 0), (98, 0, 0, 0), (99, 0, 0, 0)]
-- ManypensModel.placeOf(LManypensModel$Hand;)I
noncomputable def zc_198 : List sy_E := [(0, 16, 0, 0), (1, 16, 1, 0), (2, 80, 211, 3154), (5, 22, 2, 0), (6, 1, 0, 1), (7, 18, 3, 0), (8, 16, 2, 0), (9, 21, 4, 0), (11, 15, 4, 0), (13, 70, 0, 0), (14, 17, 5, 0), (16, 1, 0, 1), (17, 17, 6, 0), (19, 11, 6, 0), (21, 11, 5, 0), (23, 48, 34, 62), (26, 0, 0, 0), (28, 0, 0, 0), (30, 0, 0, 0), (31, 0, 0, 0), (33, 0, 0, 0), (34, 0, 0, 0), (36, 0, 0, 0), (39, 0, 0, 0), (40, 0, 0, 0), (43, 0, 0, 0), (46, 0, 0, 0), (49, 0, 0, 0), (50, 0, 0, 0), (53, 0, 0, 0), (54, 0, 0, 0), (55, 0, 0, 0), (56, 0, 0, 0), (59, 0, 0, 0), (62, 12, 3, 0), (63, 56, 0, 0)]
-- ManypensModel.put(II)I
noncomputable def zc_199 : List sy_E := [(0, 16, 0, 0), (1, 12, 1, 0), (2, 83, 175, 3217), (5, 39, 6, 12), (8, 1, 0, 1), (9, 55, 7, 13), (12, 1, 16, 2), (13, 80, 182, 2114), (16, 39, 11, 21), (19, 1, 0, 1), (20, 56, 0, 0), (21, 16, 0, 0), (22, 62, 960, 90), (25, 12, 1, 0), (26, 73, 0, 0), (27, 22, 3, 0), (28, 16, 0, 0), (29, 16, 3, 0), (30, 80, 211, 3154), (33, 21, 4, 0), (35, 16, 0, 0), (36, 12, 2, 0), (37, 1, 0, 1), (38, 15, 4, 0), (40, 70, 0, 0), (41, 83, 174, 675), (44, 40, 29, 51), (47, 1, 32, 3), (48, 55, 48, 89), (51, 16, 0, 0), (52, 62, 964, 1032), (55, 40, 34, 62), (58, 1, 48, 4), (59, 55, 48, 89), (62, 0, 0, 0), (64, 0, 0, 0), (65, 0, 0, 0), (66, 0, 0, 0), (69, 0, 0, 0), (70, 0, 0, 0), (72, 0, 0, 0), (75, 0, 0, 0), (76, 0, 0, 0), (79, 0, 0, 0), (81, 0, 0, 0), (84, 0, 0, 0), (85, 0, 0, 0), (88, 0, 0, 0), (89, 80, 182, 2114), (92, 39, 52, 97), (95, 1, 0, 1), (96, 56, 0, 0), (97, 0, 0, 0), (98, 0, 0, 0), (99, 0, 0, 0), (101, 0, 0, 0), (102, 0, 0, 0), (105, 0, 0, 0), (106, 0, 0, 0), (107, 0, 0, 0), (108, 0, 0, 0), (111, 0, 0, 0)]
-- ManypensModel.redo(I)I
noncomputable def zc_200 : List sy_E := [(0, 16, 0, 0), (1, 12, 1, 0), (2, 83, 175, 3217), (5, 40, 6, 12), (8, 1, 16, 2), (9, 55, 24, 47), (12, 16, 0, 0), (13, 62, 960, 90), (16, 12, 1, 0), (17, 73, 0, 0), (18, 63, 839, 1440), (21, 40, 14, 28), (24, 1, 32, 3), (25, 55, 24, 47), (28, 0, 0, 0), (29, 0, 0, 0), (32, 0, 0, 0), (33, 0, 0, 0), (34, 0, 0, 0), (37, 0, 0, 0), (39, 0, 0, 0), (42, 0, 0, 0), (43, 0, 0, 0), (46, 0, 0, 0), (47, 80, 182, 2114), (50, 39, 28, 55), (53, 1, 0, 1), (54, 56, 0, 0), (55, 0, 0, 0), (56, 0, 0, 0), (59, 0, 0, 0), (60, 0, 0, 0), (61, 0, 0, 0), (62, 0, 0, 0), (63, 0, 0, 0), (64, 0, 0, 0), (67, 0, 0, 0), (68, 0, 0, 0), (69, 0, 0, 0), (72, 0, 0, 0), (73, 0, 0, 0), (76, 0, 0, 0), (77, 0, 0, 0), (80, 0, 0, 0), (81, 0, 0, 0), (82, 0, 0, 0), (83, 0, 0, 0), (86, 0, 0, 0), (87, 0, 0, 0), (90, 0, 0, 0), (91, 0, 0, 0), (92, 0, 0, 0), (93, 0, 0, 0), (94, 0, 0, 0), (97, 0, 0, 0), (98, 0, 0, 0), (99, 0, 0, 0), (102, 0, 0, 0), (103, 0, 0, 0), (104, 0, 0, 0), (105, 0, 0, 0), (107, 0, 0, 0), (110, 0, 0, 0)]
-- ManypensModel.repeat(II)I
noncomputable def zc_201 : List sy_E := [(0, 16, 0, 0), (1, 12, 1, 0), (2, 12, 2, 0), (3, 80, 179, 4611), (6, 39, 7, 11), (9, 1, 0, 1), (10, 56, 0, 0), (11, 0, 0, 0), (12, 0, 0, 0), (15, 0, 0, 0), (16, 0, 0, 0), (17, 0, 0, 0), (18, 0, 0, 0), (19, 0, 0, 0), (20, 0, 0, 0), (23, 0, 0, 0), (26, 0, 0, 0), (29, 0, 0, 0), (30, 0, 0, 0), (33, 0, 0, 0), (34, 0, 0, 0), (37, 0, 0, 0), (40, 0, 0, 0), (41, 0, 0, 0), (42, 0, 0, 0), (43, 0, 0, 0), (46, 0, 0, 0), (47, 0, 0, 0), (50, 0, 0, 0), (51, 0, 0, 0), (54, 0, 0, 0), (55, 0, 0, 0), (56, 0, 0, 0), (57, 0, 0, 0), (58, 0, 0, 0), (59, 0, 0, 0), (62, 0, 0, 0), (63, 0, 0, 0), (64, 0, 0, 0), (67, 0, 0, 0), (68, 0, 0, 0), (71, 0, 0, 0)]
-- ManypensModel.replace(III)I
noncomputable def zc_202 : List sy_E := [(0, 16, 0, 0), (1, 12, 1, 0), (2, 83, 175, 3217), (5, 39, 6, 12), (8, 1, 0, 1), (9, 55, 7, 13), (12, 1, 16, 2), (13, 80, 182, 2114), (16, 39, 11, 21), (19, 1, 0, 1), (20, 56, 0, 0), (21, 16, 0, 0), (22, 62, 960, 90), (25, 12, 1, 0), (26, 73, 0, 0), (27, 21, 4, 0), (29, 16, 0, 0), (30, 15, 4, 0), (32, 80, 211, 3154), (35, 21, 5, 0), (37, 16, 0, 0), (38, 15, 5, 0), (40, 12, 2, 0), (41, 12, 3, 0), (42, 83, 169, 3395), (45, 40, 28, 52), (48, 1, 32, 3), (49, 55, 49, 93), (52, 0, 0, 0), (53, 0, 0, 0), (56, 0, 0, 0), (59, 0, 0, 0), (60, 0, 0, 0), (63, 0, 0, 0), (65, 0, 0, 0), (66, 0, 0, 0), (67, 0, 0, 0), (68, 0, 0, 0), (69, 0, 0, 0), (72, 0, 0, 0), (73, 0, 0, 0), (75, 0, 0, 0), (78, 0, 0, 0), (80, 0, 0, 0), (83, 0, 0, 0), (85, 0, 0, 0), (88, 0, 0, 0), (89, 0, 0, 0), (92, 0, 0, 0), (93, 80, 182, 2114), (96, 39, 53, 101), (99, 1, 0, 1), (100, 56, 0, 0), (101, 0, 0, 0), (102, 0, 0, 0), (104, 0, 0, 0), (107, 0, 0, 0), (109, 0, 0, 0), (111, 0, 0, 0), (113, 0, 0, 0), (114, 0, 0, 0), (115, 0, 0, 0), (118, 0, 0, 0), (119, 0, 0, 0), (121, 0, 0, 0), (122, 0, 0, 0), (125, 0, 0, 0), (126, 0, 0, 0), (129, 0, 0, 0), (132, 0, 0, 0), (134, 0, 0, 0), (135, 0, 0, 0), (136, 0, 0, 0), (137, 0, 0, 0), (138, 0, 0, 0), (139, 0, 0, 0), (142, 0, 0, 0), (143, 0, 0, 0), (146, 0, 0, 0), (149, 0, 0, 0), (150, 0, 0, 0), (151, 0, 0, 0), (152, 0, 0, 0), (155, 0, 0, 0), (156, 0, 0, 0), (158, 0, 0, 0), (161, 0, 0, 0)]
-- ManypensModel.runs(I)I
noncomputable def zc_203 : List sy_E := [(0, 16, 0, 0), (1, 12, 1, 0), (2, 80, 180, 4178), (5, 39, 6, 10), (8, 1, 0, 1), (9, 56, 0, 0), (10, 16, 0, 0), (11, 16, 0, 0), (12, 62, 960, 90), (15, 12, 1, 0), (16, 73, 0, 0), (17, 80, 211, 3154), (20, 22, 2, 0), (21, 1, 0, 1), (22, 18, 3, 0), (23, 1, 0, 1), (24, 17, 4, 0), (26, 11, 4, 0), (28, 16, 2, 0), (29, 70, 0, 0), (30, 48, 54, 91), (33, 0, 0, 0), (34, 0, 0, 0), (36, 0, 0, 0), (39, 0, 0, 0), (40, 0, 0, 0), (41, 0, 0, 0), (43, 0, 0, 0), (44, 0, 0, 0), (45, 0, 0, 0), (48, 0, 0, 0), (49, 0, 0, 0), (50, 0, 0, 0), (53, 0, 0, 0), (56, 0, 0, 0), (57, 0, 0, 0), (58, 0, 0, 0), (60, 0, 0, 0), (61, 0, 0, 0), (62, 0, 0, 0), (63, 0, 0, 0), (64, 0, 0, 0), (67, 0, 0, 0), (68, 0, 0, 0), (69, 0, 0, 0), (72, 0, 0, 0), (75, 0, 0, 0), (78, 0, 0, 0), (79, 0, 0, 0), (82, 0, 0, 0), (83, 0, 0, 0), (84, 0, 0, 0), (85, 0, 0, 0), (88, 0, 0, 0), (91, 12, 3, 0), (92, 56, 0, 0)]
-- ManypensModel.same([I)[I
noncomputable def zc_204 : List sy_E := [(0, 1, 80, 6), (1, 68, 0, 10), (3, 22, 1, 0), (4, 1, 0, 1), (5, 18, 2, 0), (6, 12, 2, 0), (7, 1, 80, 6), (8, 48, 16, 23), (11, 16, 1, 0), (12, 12, 2, 0), (13, 16, 0, 0), (14, 12, 2, 0), (15, 71, 0, 0), (16, 75, 0, 0), (17, 25, 2, 32769), (20, 55, 5, 6), (23, 16, 1, 0), (24, 58, 0, 2)]
-- ManypensModel.setCursor(II)I
noncomputable def zc_205 : List sy_E := [(0, 16, 0, 0), (1, 12, 1, 0), (2, 80, 180, 4178), (5, 39, 6, 10), (8, 1, 0, 1), (9, 56, 0, 0), (10, 16, 0, 0), (11, 16, 0, 0), (12, 62, 960, 90), (15, 12, 1, 0), (16, 73, 0, 0), (17, 80, 211, 3154), (20, 22, 3, 0), (21, 16, 0, 0), (22, 12, 2, 0), (23, 1, 0, 1), (24, 16, 3, 0), (25, 70, 0, 0), (26, 83, 174, 675), (29, 39, 22, 36), (32, 1, 0, 1), (33, 55, 23, 37), (36, 1, 32, 3), (37, 80, 182, 2114), (40, 39, 27, 45), (43, 1, 0, 1), (44, 56, 0, 0), (45, 16, 0, 0), (46, 16, 0, 0), (47, 62, 960, 90), (50, 12, 1, 0), (51, 73, 0, 0), (52, 80, 198, 3954), (55, 17, 4, 0), (57, 16, 0, 0), (58, 62, 960, 90), (61, 12, 1, 0), (62, 73, 0, 0), (63, 12, 2, 0), (64, 40, 43, 74), (67, 16, 0, 0), (68, 62, 961, 162), (71, 55, 48, 79), (74, 0, 0, 0), (75, 0, 0, 0), (76, 0, 0, 0), (77, 0, 0, 0), (78, 0, 0, 0), (79, 65, 849, 282), (82, 11, 4, 0), (84, 56, 0, 0)]
-- ManypensModel.signAt(II)C
noncomputable def zc_206 : List sy_E := [(0, 16, 0, 0), (1, 12, 1, 0), (2, 80, 180, 4178), (5, 39, 6, 10), (8, 1, 0, 1), (9, 56, 0, 6), (10, 16, 0, 0), (11, 12, 1, 0), (12, 12, 2, 0), (13, 1, 32, 3), (14, 80, 189, 4228), (17, 22, 3, 0), (18, 16, 3, 0), (19, 54, 16, 26), (22, 1, 0, 1), (23, 55, 18, 30), (26, 0, 0, 0), (27, 0, 0, 0), (30, 56, 0, 6)]
-- ManypensModel.signThen(III)C
noncomputable def zc_207 : List sy_E := [(0, 16, 0, 0), (1, 12, 1, 0), (2, 12, 2, 0), (3, 80, 178, 5267), (6, 39, 7, 11), (9, 1, 0, 1), (10, 56, 0, 6), (11, 16, 0, 0), (12, 16, 0, 0), (13, 62, 960, 90), (16, 12, 1, 0), (17, 73, 0, 0), (18, 12, 2, 0), (19, 80, 212, 5315), (22, 21, 4, 0), (24, 16, 0, 0), (25, 12, 3, 0), (26, 1, 0, 1), (27, 15, 4, 0), (29, 70, 0, 0), (30, 1, 16, 2), (31, 27, 0, 0), (32, 83, 174, 675), (35, 39, 26, 42), (38, 0, 0, 0), (39, 0, 0, 0), (42, 1, 32, 3), (43, 80, 182, 2114), (46, 39, 31, 53), (49, 1, 0, 1), (50, 55, 35, 60), (53, 0, 0, 0), (55, 0, 0, 0), (56, 0, 0, 0), (57, 0, 0, 0), (60, 56, 0, 6)]
-- ManypensModel.steps(I)I
noncomputable def zc_208 : List sy_E := [(0, 16, 0, 0), (1, 12, 1, 0), (2, 80, 180, 4178), (5, 39, 6, 12), (8, 1, 0, 1), (9, 55, 11, 21), (12, 16, 0, 0), (13, 62, 960, 90), (16, 12, 1, 0), (17, 73, 0, 0), (18, 63, 837, 1200), (21, 56, 0, 0)]
-- ManypensModel.take(III)I
noncomputable def zc_209 : List sy_E := [(0, 16, 0, 0), (1, 12, 1, 0), (2, 83, 175, 3217), (5, 39, 6, 12), (8, 1, 0, 1), (9, 55, 7, 13), (12, 1, 16, 2), (13, 80, 182, 2114), (16, 39, 11, 21), (19, 1, 0, 1), (20, 56, 0, 0), (21, 16, 0, 0), (22, 62, 960, 90), (25, 12, 1, 0), (26, 73, 0, 0), (27, 21, 4, 0), (29, 16, 0, 0), (30, 15, 4, 0), (32, 80, 211, 3154), (35, 21, 5, 0), (37, 16, 0, 0), (38, 15, 5, 0), (40, 12, 2, 0), (41, 12, 3, 0), (42, 83, 169, 3395), (45, 40, 28, 52), (48, 1, 32, 3), (49, 55, 35, 67), (52, 0, 0, 0), (54, 0, 0, 0), (57, 0, 0, 0), (59, 0, 0, 0), (62, 0, 0, 0), (63, 0, 0, 0), (66, 0, 0, 0), (67, 80, 182, 2114), (70, 39, 39, 75), (73, 1, 0, 1), (74, 56, 0, 0), (75, 0, 0, 0), (76, 0, 0, 0), (78, 0, 0, 0), (81, 0, 0, 0), (83, 0, 0, 0), (84, 0, 0, 0), (85, 0, 0, 0), (88, 0, 0, 0), (89, 0, 0, 0), (91, 0, 0, 0), (94, 0, 0, 0)]
-- ManypensModel.text([I)[LManypensModel$Letter;
noncomputable def zc_210 : List sy_E := [(0, 16, 0, 0), (1, 80, 185, 1825), (4, 1, 0, 1), (5, 18, 2, 0), (6, 1, 0, 1), (7, 18, 3, 0), (8, 12, 3, 0), (9, 16, 0, 0), (10, 62, 963, 536), (13, 48, 26, 44), (16, 0, 0, 0), (17, 0, 0, 0), (18, 0, 0, 0), (19, 0, 0, 0), (22, 0, 0, 0), (23, 0, 0, 0), (24, 0, 0, 0), (25, 0, 0, 0), (28, 0, 0, 0), (31, 0, 0, 0), (32, 0, 0, 0), (35, 0, 0, 0), (36, 0, 0, 0), (37, 0, 0, 0), (38, 0, 0, 0), (41, 0, 0, 0), (44, 12, 2, 0), (45, 69, 11, 15), (48, 22, 3, 0), (49, 1, 0, 1), (50, 17, 4, 0), (52, 1, 0, 1), (53, 17, 5, 0), (55, 11, 5, 0), (57, 16, 0, 0), (58, 62, 963, 536), (61, 48, 56, 102), (64, 0, 0, 0), (65, 0, 0, 0), (66, 0, 0, 0), (69, 0, 0, 0), (71, 0, 0, 0), (72, 0, 0, 0), (73, 0, 0, 0), (76, 0, 0, 0), (79, 0, 0, 0), (82, 0, 0, 0), (83, 0, 0, 0), (85, 0, 0, 0), (86, 0, 0, 0), (89, 0, 0, 0), (91, 0, 0, 0), (92, 0, 0, 0), (93, 0, 0, 0), (96, 0, 0, 0), (99, 0, 0, 0), (102, 16, 3, 0), (103, 58, 0, 2)]
-- ManypensModel.textOf(LManypensModel$Hand;)[LManypensModel$Letter;
noncomputable def zc_211 : List sy_E := [(0, 16, 0, 0), (1, 16, 1, 0), (2, 63, 840, 970), (5, 80, 210, 2002), (8, 58, 0, 2)]
-- ManypensModel.textThen(LManypensModel$Hand;I)[LManypensModel$Letter;
noncomputable def zc_212 : List sy_E := [(0, 16, 1, 0), (1, 63, 841, 2610), (4, 83, 204, 5041), (7, 22, 3, 0), (8, 1, 0, 1), (9, 17, 4, 0), (11, 11, 4, 0), (13, 12, 2, 0), (14, 48, 23, 45), (17, 0, 0, 0), (18, 0, 0, 0), (19, 0, 0, 0), (22, 0, 0, 0), (24, 0, 0, 0), (25, 0, 0, 0), (28, 0, 0, 0), (29, 0, 0, 0), (32, 0, 0, 0), (34, 0, 0, 0), (35, 0, 0, 0), (38, 0, 0, 0), (39, 0, 0, 0), (42, 0, 0, 0), (45, 16, 0, 0), (46, 16, 3, 0), (47, 80, 210, 2002), (50, 58, 0, 2)]
-- ManypensModel.thrown()I
noncomputable def zc_213 : List sy_E := [(0, 16, 0, 0), (1, 62, 965, 304), (4, 56, 0, 0)]
-- ManypensModel.type(C)I
noncomputable def zc_214 : List sy_E := [(0, 16, 0, 0), (1, 12, 1, 0), (2, 2, 512, 160), (4, 2, 2016, 254), (6, 83, 174, 675), (9, 40, 8, 16), (12, 1, 16, 2), (13, 55, 15, 30), (16, 16, 0, 0), (17, 62, 964, 1032), (20, 2, 192, 140), (22, 46, 14, 29), (25, 0, 0, 0), (26, 0, 0, 0), (29, 1, 0, 1), (30, 80, 182, 2114), (33, 39, 19, 38), (36, 1, 0, 1), (37, 56, 0, 0), (38, 16, 0, 0), (39, 62, 967, 226), (42, 16, 0, 0), (43, 62, 964, 1032), (46, 12, 1, 0), (47, 78, 0, 0), (48, 16, 0, 0), (49, 37, 0, 0), (50, 62, 964, 1032), (53, 1, 16, 2), (54, 26, 0, 0), (55, 64, 964, 1032), (58, 16, 0, 0), (59, 62, 964, 1032), (62, 56, 0, 0)]
-- ManypensModel.undo(I)I
noncomputable def zc_215 : List sy_E := [(0, 16, 0, 0), (1, 12, 1, 0), (2, 83, 175, 3217), (5, 40, 6, 12), (8, 1, 16, 2), (9, 55, 24, 47), (12, 16, 0, 0), (13, 62, 960, 90), (16, 12, 1, 0), (17, 73, 0, 0), (18, 63, 838, 1416), (21, 40, 14, 28), (24, 1, 32, 3), (25, 55, 24, 47), (28, 0, 0, 0), (29, 0, 0, 0), (32, 0, 0, 0), (33, 0, 0, 0), (34, 0, 0, 0), (37, 0, 0, 0), (39, 0, 0, 0), (42, 0, 0, 0), (43, 0, 0, 0), (46, 0, 0, 0), (47, 80, 182, 2114), (50, 39, 28, 55), (53, 1, 0, 1), (54, 56, 0, 0), (55, 0, 0, 0), (56, 0, 0, 0), (59, 0, 0, 0), (60, 0, 0, 0), (61, 0, 0, 0), (62, 0, 0, 0), (63, 0, 0, 0), (64, 0, 0, 0), (67, 0, 0, 0), (68, 0, 0, 0), (69, 0, 0, 0), (72, 0, 0, 0), (73, 0, 0, 0), (76, 0, 0, 0), (77, 0, 0, 0), (80, 0, 0, 0), (81, 0, 0, 0), (82, 0, 0, 0), (83, 0, 0, 0), (86, 0, 0, 0), (87, 0, 0, 0), (90, 0, 0, 0), (91, 0, 0, 0), (92, 0, 0, 0), (93, 0, 0, 0), (94, 0, 0, 0), (97, 0, 0, 0), (98, 0, 0, 0), (99, 0, 0, 0), (102, 0, 0, 0), (103, 0, 0, 0), (104, 0, 0, 0), (105, 0, 0, 0), (107, 0, 0, 0), (110, 0, 0, 0)]
-- ManypensModel.waiting(I)I
noncomputable def zc_216 : List sy_E := [(0, 16, 0, 0), (1, 12, 1, 0), (2, 80, 180, 4178), (5, 39, 6, 10), (8, 1, 0, 1), (9, 56, 0, 0), (10, 1, 0, 1), (11, 18, 2, 0), (12, 1, 0, 1), (13, 18, 3, 0), (14, 12, 3, 0), (15, 1, 80, 6), (16, 48, 38, 66), (19, 1, 16, 2), (20, 17, 4, 0), (22, 11, 4, 0), (24, 2, 640, 168), (26, 49, 36, 60), (29, 12, 2, 0), (30, 16, 0, 0), (31, 62, 960, 90), (34, 12, 1, 0), (35, 73, 0, 0), (36, 63, 844, 2338), (39, 12, 3, 0), (40, 73, 0, 0), (41, 11, 4, 0), (43, 74, 0, 0), (44, 39, 31, 51), (47, 0, 0, 0), (48, 0, 0, 0), (51, 1, 0, 1), (52, 26, 0, 0), (53, 18, 2, 0), (54, 25, 4, 32769), (57, 55, 15, 22), (60, 25, 3, 32769), (63, 55, 10, 14), (66, 12, 2, 0), (67, 56, 0, 0)]
-- ManypensModel.wayAt(II)I
noncomputable def zc_217 : List sy_E := [(0, 16, 0, 0), (1, 12, 1, 0), (2, 12, 2, 0), (3, 80, 179, 4611), (6, 39, 7, 13), (9, 1, 0, 1), (10, 55, 26, 45), (13, 0, 0, 0), (15, 0, 0, 0), (16, 0, 0, 0), (19, 0, 0, 0), (20, 0, 0, 0), (21, 0, 0, 0), (24, 0, 0, 0), (25, 0, 0, 0), (26, 0, 0, 0), (29, 0, 0, 0), (30, 0, 0, 0), (31, 0, 0, 0), (34, 0, 0, 0), (35, 0, 0, 0), (36, 0, 0, 0), (39, 0, 0, 0), (40, 0, 0, 0), (41, 0, 0, 0), (44, 0, 0, 0), (45, 56, 0, 0)]
-- ManypensModel.write(I)I
noncomputable def zc_218 : List sy_E := [(0, 16, 0, 0), (1, 12, 1, 0), (2, 83, 175, 3217), (5, 39, 6, 12), (8, 1, 0, 1), (9, 55, 7, 13), (12, 1, 16, 2), (13, 80, 182, 2114), (16, 39, 11, 21), (19, 1, 0, 1), (20, 56, 0, 0), (21, 16, 0, 0), (22, 62, 960, 90), (25, 12, 1, 0), (26, 73, 0, 0), (27, 22, 2, 0), (28, 16, 0, 0), (29, 16, 2, 0), (30, 80, 211, 3154), (33, 22, 3, 0), (34, 16, 0, 0), (35, 16, 0, 0), (36, 62, 964, 1032), (39, 40, 26, 46), (42, 1, 32, 3), (43, 55, 40, 72), (46, 0, 0, 0), (47, 0, 0, 0), (48, 0, 0, 0), (49, 0, 0, 0), (52, 0, 0, 0), (53, 0, 0, 0), (55, 0, 0, 0), (58, 0, 0, 0), (59, 0, 0, 0), (62, 0, 0, 0), (64, 0, 0, 0), (67, 0, 0, 0), (68, 0, 0, 0), (71, 0, 0, 0), (72, 80, 182, 2114), (75, 39, 44, 80), (78, 1, 0, 1), (79, 56, 0, 0), (80, 0, 0, 0), (81, 0, 0, 0), (82, 0, 0, 0), (83, 0, 0, 0), (84, 0, 0, 0), (85, 0, 0, 0), (86, 0, 0, 0), (89, 0, 0, 0), (92, 0, 0, 0), (95, 0, 0, 0), (96, 0, 0, 0), (97, 0, 0, 0), (100, 0, 0, 0)]
-- ManypensModel$Hand.<init>(I)V
noncomputable def zc_219 : List sy_E := [(0, 16, 0, 0), (1, 91, 0, 3), (4, 16, 0, 0), (5, 2, 656, 169), (7, 69, 8, 9), (10, 66, 833, 90), (13, 16, 0, 0), (14, 1, 80, 6), (15, 68, 0, 10), (17, 66, 840, 138), (20, 16, 0, 0), (21, 1, 80, 6), (22, 68, 0, 10), (24, 66, 841, 170), (27, 16, 0, 0), (28, 3, 19200, 33968), (31, 69, 8, 9), (34, 64, 842, 194), (37, 16, 0, 0), (38, 3, 3200, 32968), (41, 69, 8, 9), (44, 64, 843, 218), (47, 16, 0, 0), (48, 1, 80, 6), (49, 2, 656, 169), (51, 87, 12, 30), (55, 66, 844, 258), (58, 16, 0, 0), (59, 2, 640, 168), (61, 69, 9, 35), (64, 66, 845, 298), (67, 16, 0, 0), (68, 2, 640, 168), (70, 69, 9, 35), (73, 66, 846, 330), (76, 16, 0, 0), (77, 12, 1, 0), (78, 66, 832, 352), (81, 61, 0, 0)]
-- ManypensModel$Letter.<init>(LManypensModel$Edit;C)V
noncomputable def zc_220 : List sy_E := [(0, 16, 0, 0), (1, 91, 0, 1), (4, 16, 0, 0), (5, 1, 32, 3), (6, 69, 8, 7), (9, 64, 903, 74), (12, 16, 0, 0), (13, 16, 1, 0), (14, 66, 896, 122), (17, 16, 0, 0), (18, 12, 2, 0), (19, 66, 897, 158), (22, 61, 0, 0)]
-- java/lang/Math.max(II)I
noncomputable def zc_221 : List sy_E := [(0, 12, 0, 0), (1, 12, 1, 0), (2, 47, 5, 9), (5, 12, 0, 0), (6, 55, 6, 10), (9, 0, 0, 0), (10, 56, 0, 0)]
-- java/lang/Math.min(JJ)J
noncomputable def zc_222 : List sy_E := [(0, 14, 0, 0), (1, 14, 2, 0), (2, 36, 0, 0), (3, 43, 6, 10), (6, 14, 0, 0), (7, 55, 7, 11), (10, 0, 0, 0), (11, 57, 0, 1)]
-- java/util/Arrays.fill([II)V
noncomputable def zc_223 : List sy_E := [(0, 1, 0, 1), (1, 18, 2, 0), (2, 16, 0, 0), (3, 70, 0, 0), (4, 18, 3, 0), (5, 12, 2, 0), (6, 12, 3, 0), (7, 48, 14, 20), (10, 16, 0, 0), (11, 12, 2, 0), (12, 12, 1, 0), (13, 75, 0, 0), (14, 25, 2, 32769), (17, 55, 5, 5), (20, 61, 0, 0)]
-- java/util/Arrays.fill([IIII)V
noncomputable def zc_224 : List sy_E := [(0, 16, 0, 0), (1, 70, 0, 0), (2, 12, 1, 0), (3, 12, 2, 0), (4, 83, 227, 211), (7, 12, 1, 0), (8, 17, 4, 0), (10, 11, 4, 0), (12, 12, 2, 0), (13, 48, 16, 27), (16, 16, 0, 0), (17, 11, 4, 0), (19, 12, 3, 0), (20, 75, 0, 0), (21, 25, 4, 32769), (24, 55, 7, 10), (27, 61, 0, 0)]
-- java/util/Arrays.fill([JIIJ)V
noncomputable def zc_225 : List sy_E := [(0, 16, 0, 0), (1, 70, 0, 0), (2, 12, 1, 0), (3, 12, 2, 0), (4, 83, 227, 211), (7, 12, 1, 0), (8, 17, 5, 0), (10, 11, 5, 0), (12, 12, 2, 0), (13, 48, 16, 27), (16, 16, 0, 0), (17, 11, 5, 0), (19, 14, 3, 0), (20, 76, 0, 0), (21, 25, 5, 32769), (24, 55, 7, 10), (27, 61, 0, 0)]
-- java/util/Arrays.fill([JJ)V
noncomputable def zc_226 : List sy_E := [(0, 1, 0, 1), (1, 18, 3, 0), (2, 16, 0, 0), (3, 70, 0, 0), (4, 17, 4, 0), (6, 12, 3, 0), (7, 11, 4, 0), (9, 48, 14, 22), (12, 16, 0, 0), (13, 12, 3, 0), (14, 14, 1, 0), (15, 76, 0, 0), (16, 25, 3, 32769), (19, 55, 5, 6), (22, 61, 0, 0)]
-- java/util/Arrays.rangeCheck(III)V
noncomputable def zc_227 : List sy_E := [(0, 12, 1, 0), (1, 12, 2, 0), (2, 50, 21, 46), (5, 0, 0, 0), (8, 0, 0, 0), (9, 0, 0, 0), (12, 0, 0, 0), (13, 0, 0, 0), (16, 0, 0, 0), (18, 0, 0, 0), (21, 0, 0, 0), (22, 0, 0, 0), (25, 0, 0, 0), (27, 0, 0, 0), (30, 0, 0, 0), (31, 0, 0, 0), (34, 0, 0, 0), (36, 0, 0, 0), (39, 0, 0, 0), (42, 0, 0, 0), (45, 0, 0, 0), (46, 12, 1, 0), (47, 42, 28, 59), (50, 0, 0, 0), (53, 0, 0, 0), (54, 0, 0, 0), (55, 0, 0, 0), (58, 0, 0, 0), (59, 12, 2, 0), (60, 12, 0, 0), (61, 50, 36, 73), (64, 0, 0, 0), (67, 0, 0, 0), (68, 0, 0, 0), (69, 0, 0, 0), (72, 0, 0, 0), (73, 61, 0, 0)]
noncomputable def sy_P0 : List sy_M := [(zc_0, 9, [], 0), (zc_1, 2, [], 11), (zc_2, 3, [], 11), (zc_3, 6, [], 11), (zc_4, 2, [], 11), (zc_5, 6, [], 11), (zc_6, 6, [], 11), (zc_7, 2, [], 11), (zc_8, 2, [], 11), (zc_9, 5, [], 11), (zc_10, 5, [], 11), (zc_11, 2, [], 11), (zc_12, 5, [], 11), (zc_13, 5, [], 11), (zc_14, 3, [], 11), (zc_15, 3, [], 11)]
noncomputable def sy_P1 : List sy_M := [(zc_16, 4, [], 11), (zc_17, 6, [], 11), (zc_18, 4, [], 11), (zc_19, 3, [], 11), (zc_20, 3, [], 11), (zc_21, 1, [], 0), (zc_22, 4, [], 11), (zc_23, 3, [], 11), (zc_24, 2, [], 11), (zc_25, 5, [], 11), (zc_26, 4, [], 11), (zc_27, 2, [], 11), (zc_28, 3, [], 11), (zc_29, 3, [], 11), (zc_30, 8, [], 11), (zc_31, 6, [], 11)]
noncomputable def sy_P2 : List sy_M := [(zc_32, 3, [], 11), (zc_33, 7, [], 11), (zc_34, 2, [], 11), (zc_35, 2, [], 11), (zc_36, 3, [], 11), (zc_37, 4, [], 11), (zc_38, 3, [], 11), (zc_39, 4, [], 11), (zc_40, 3, [], 11), (zc_41, 1, [], 11), (zc_42, 2, [], 11), (zc_43, 2, [], 11), (zc_44, 6, [], 11), (zc_45, 5, [], 11), (zc_46, 3, [], 11), (zc_47, 4, [], 11)]
noncomputable def sy_P3 : List sy_M := [(zc_48, 6, [], 11), (zc_49, 5, [], 11), (zc_50, 6, [], 11), (zc_51, 3, [], 11), (zc_52, 4, [], 11), (zc_53, 2, [], 11), (zc_54, 11, [], 11), (zc_55, 5, [], 11), (zc_56, 2, [], 0), (zc_57, 2, [], 11), (zc_58, 3, [], 11), (zc_59, 3, [], 11), (zc_60, 2, [], 11), (zc_61, 3, [], 11), (zc_62, 4, [], 11), (zc_63, 1, [], 1)]
noncomputable def sy_P4 : List sy_M := [(zc_64, 3, [], 1), (zc_65, 1, [], 1), (zc_66, 5, [], 2), (zc_67, 2, [], 3), (zc_68, 2, [], 3), (zc_69, 3, [], 3), (zc_70, 1, [], 3), (zc_71, 2, [], 3), (zc_72, 1, [], 3), (zc_73, 2, [], 4), (zc_74, 3, [], 4), (zc_75, 4, [], 4), (zc_76, 2, [], 5), (zc_77, 2, [], 5), (zc_78, 2, [], 5), (zc_79, 1, [], 5)]
noncomputable def sy_P5 : List sy_M := [(zc_80, 3, [], 5), (zc_81, 2, [], 5), (zc_82, 3, [], 5), (zc_83, 1, [], 5), (zc_84, 2, [], 5), (zc_85, 2, [], 6), (zc_86, 3, [], 6), (zc_87, 1, [], 6), (zc_88, 2, [], 6), (zc_89, 2, [], 6), (zc_90, 1, [], 7), (zc_91, 6, [], 7), (zc_92, 1, [], 7), (zc_93, 2, [], 8), (zc_94, 4, [], 8), (zc_95, 4, [], 8)]
noncomputable def sy_P6 : List sy_M := [(zc_96, 5, [], 8), (zc_97, 1, [], 8), (zc_98, 1, [], 9), (zc_99, 3, [], 10), (zc_100, 3, [], 10), (zc_101, 5, [], 10), (zc_102, 1, [], 10), (zc_103, 2, [], 10), (zc_104, 5, [], 10), (zc_105, 3, [], 10), (zc_106, 4, [], 10), (zc_107, 6, [], 10), (zc_108, 1, [], 10), (zc_109, 6, [], 10), (zc_110, 3, [], 10), (zc_111, 2, [], 10)]
noncomputable def sy_P7 : List sy_M := [(zc_112, 1, [], 10), (zc_113, 5, [(0, 10, 9, 4), (0, 10, 12, 1)], 0), (zc_114, 4, [(0, 9, 8, 4), (0, 9, 11, 0)], 0), (zc_115, 7, [(0, 14, 11, 4), (0, 14, 14, 1), (0, 14, 17, 0)], 0), (zc_116, 6, [(0, 12, 10, 4), (0, 12, 13, 1), (0, 12, 16, 3)], 0), (zc_117, 4, [(0, 9, 8, 4)], 0), (zc_118, 4, [(0, 9, 8, 4)], 0), (zc_119, 5, [(0, 10, 9, 4), (0, 10, 12, 1)], 0), (zc_120, 5, [(0, 10, 9, 4)], 0), (zc_121, 3, [(0, 8, 7, 0)], 0), (zc_122, 5, [(0, 10, 9, 4)], 0), (zc_123, 5, [(0, 10, 9, 4)], 0), (zc_124, 5, [(0, 17, 12, 4)], 0), (zc_125, 6, [(0, 19, 13, 4), (0, 19, 16, 3), (0, 19, 19, 1)], 0), (zc_126, 4, [(0, 9, 8, 4)], 0), (zc_127, 5, [(0, 10, 9, 4)], 0)]
noncomputable def sy_P8 : List sy_M := [(zc_128, 6, [(0, 12, 10, 4), (0, 12, 13, 1)], 0), (zc_129, 4, [(0, 9, 8, 4)], 0), (zc_130, 5, [(0, 10, 9, 4), (0, 10, 12, 1)], 0), (zc_131, 5, [(0, 10, 9, 4), (0, 10, 12, 1)], 0), (zc_132, 9, [(0, 18, 13, 4), (0, 18, 16, 3), (0, 18, 19, 1), (0, 18, 22, 0)], 0), (zc_133, 4, [(0, 8, 7, 4), (0, 8, 10, 2)], 0), (zc_134, 5, [(0, 10, 9, 4), (0, 10, 12, 3)], 0), (zc_135, 7, [(0, 14, 11, 4), (0, 14, 14, 1), (0, 14, 17, 0)], 0), (zc_136, 4, [(0, 9, 8, 4)], 0), (zc_137, 4, [(0, 9, 8, 4), (0, 9, 11, 0)], 0), (zc_138, 4, [(0, 9, 8, 4), (0, 9, 11, 2)], 0), (zc_139, 5, [(0, 10, 9, 4), (0, 10, 12, 1), (0, 10, 15, 5), (0, 10, 18, 0)], 0), (zc_140, 4, [(0, 9, 8, 4), (0, 9, 11, 1), (0, 9, 14, 0)], 0), (zc_141, 5, [(0, 10, 9, 4), (0, 10, 12, 1), (0, 10, 15, 0)], 0), (zc_142, 6, [(0, 12, 10, 4), (0, 12, 13, 1), (0, 12, 16, 5), (0, 12, 19, 0)], 0), (zc_143, 4, [(0, 9, 8, 4)], 0)]
noncomputable def sy_P9 : List sy_M := [(zc_144, 5, [(0, 10, 9, 4), (0, 10, 12, 1)], 0), (zc_145, 5, [(0, 10, 9, 4), (0, 10, 12, 1)], 0), (zc_146, 6, [(0, 12, 10, 4), (0, 12, 13, 1)], 0), (zc_147, 4, [(0, 9, 8, 4)], 0), (zc_148, 6, [(0, 12, 10, 4), (0, 12, 13, 1), (0, 12, 16, 0)], 0), (zc_149, 4, [(0, 9, 8, 3), (0, 9, 11, 0)], 0), (zc_150, 4, [(0, 9, 8, 4), (0, 9, 11, 1), (0, 9, 14, 0)], 0), (zc_151, 4, [(0, 9, 8, 4)], 0), (zc_152, 5, [(0, 10, 9, 4), (0, 10, 12, 1)], 0), (zc_153, 4, [(0, 9, 8, 4), (0, 9, 11, 5), (0, 9, 14, 0)], 0), (zc_154, 2, [], 16), (zc_155, 9, [], 16), (zc_156, 4, [], 16), (zc_157, 11, [], 16), (zc_158, 4, [], 16), (zc_159, 1, [], 0)]
noncomputable def sy_P10 : List sy_M := [(zc_160, 8, [], 16), (zc_161, 7, [], 16), (zc_162, 2, [], 16), (zc_163, 2, [], 16), (zc_164, 5, [], 16), (zc_165, 5, [], 16), (zc_166, 2, [], 16), (zc_167, 10, [], 16), (zc_168, 3, [], 16), (zc_169, 3, [], 0), (zc_170, 3, [], 16), (zc_171, 11, [], 16), (zc_172, 12, [], 16), (zc_173, 3, [], 16), (zc_174, 3, [], 0), (zc_175, 1, [], 0)]
noncomputable def sy_P11 : List sy_M := [(zc_176, 5, [], 16), (zc_177, 3, [], 16), (zc_178, 3, [], 16), (zc_179, 3, [], 16), (zc_180, 2, [], 16), (zc_181, 12, [], 16), (zc_182, 2, [], 16), (zc_183, 4, [], 16), (zc_184, 5, [], 16), (zc_185, 3, [], 16), (zc_186, 4, [], 16), (zc_187, 2, [], 16), (zc_188, 3, [], 16), (zc_189, 5, [], 16), (zc_190, 3, [], 16), (zc_191, 10, [], 16)]
noncomputable def sy_P12 : List sy_M := [(zc_192, 8, [], 16), (zc_193, 5, [], 16), (zc_194, 10, [], 16), (zc_195, 2, [], 16), (zc_196, 2, [], 16), (zc_197, 8, [], 16), (zc_198, 8, [], 16), (zc_199, 5, [], 16), (zc_200, 4, [], 16), (zc_201, 4, [], 16), (zc_202, 7, [], 16), (zc_203, 5, [], 16), (zc_204, 3, [], 0), (zc_205, 5, [], 16), (zc_206, 4, [], 16), (zc_207, 5, [], 16)]
noncomputable def sy_P13 : List sy_M := [(zc_208, 2, [], 16), (zc_209, 6, [], 16), (zc_210, 6, [], 16), (zc_211, 2, [], 16), (zc_212, 5, [], 16), (zc_213, 1, [], 16), (zc_214, 2, [], 16), (zc_215, 4, [], 16), (zc_216, 5, [], 16), (zc_217, 3, [], 16), (zc_218, 4, [], 16), (zc_219, 2, [], 14), (zc_220, 3, [], 15), (zc_221, 2, [], 0), (zc_222, 4, [], 0), (zc_223, 4, [], 0)]
noncomputable def sy_P14 : List sy_M := [(zc_224, 5, [], 0), (zc_225, 6, [], 0), (zc_226, 5, [], 0), (zc_227, 3, [], 0)]
noncomputable def sy_P : List (List sy_M) := [sy_P0, sy_P1, sy_P2, sy_P3, sy_P4, sy_P5, sy_P6, sy_P7, sy_P8, sy_P9, sy_P10, sy_P11, sy_P12, sy_P13, sy_P14]
def sy_sw : List Nat := [28, 65, 72, 117, 172, 227, 292, 395, 460, 495, 530, 565, 600, 635, 688, 723, 768, 813, 873, 908, 943, 1000, 1045, 1080, 1115, 1160, 1205, 1250, 1295, 1340, 1375, 1420, 1465, 1520, 1555, 1600, 1655, 1700, 1748, 1773, 1808, 1855, 1901, 1909, 1916, 1916, 1916, 1916, 1916, 1916, 1916, 1916, 1916, 1916, 1916, 1916, 1916, 1916, 1916, 1916, 1916, 1916, 1916, 1916]
end SYT
end
section
/-! the run of the abstract machine -/
section SYR
noncomputable def sy_ops (len : Nat) : List sy_F := [fun _ _ _ _ _ _ _ _ => sy_no 0,
  sy_push, sy_push, sy_push, sy_push, sy_push, sy_push, sy_push, sy_push, sy_push, sy_push,
  sy_load 0, sy_load 0, sy_load 1, sy_load 1, sy_load 2, sy_load 2, sy_stor 0, sy_stor 0, sy_stor2 1, sy_stor2 1, sy_stor 2, sy_stor 2, sy_stor 3, sy_stor2 4,
  sy_iinc, sy_bin 0 (fun a b => Nat.mod (Nat.add a b) 4294967296), sy_bin 0 (fun a b => Nat.mod (Nat.sub (Nat.add a 295147905179352825856) b) 4294967296), sy_bin 0 (fun a b => Nat.mod (Nat.mul a b) 4294967296), sy_iand,
  sy_bin 1 (fun a b => Nat.mod (Nat.add a b) 18446744073709551616), sy_bin 1 (fun a b => Nat.mod (Nat.sub (Nat.add a 295147905179352825856) b) 18446744073709551616), sy_bin 1 (fun a b => Nat.mod (Nat.mul a b) 18446744073709551616),
  sy_i2l, sy_l2i, sy_i2c, sy_lcmp, sy_dup, sy_pop,
  sy_ifc sy_eq false, sy_ifc sy_eq true, sy_ifc sy_lt false, sy_ifc sy_lt true, sy_ifc sy_gt false, sy_ifc sy_gt true,
  sy_icmp sy_eq false, sy_icmp sy_eq true, sy_icmp sy_lt false, sy_icmp sy_lt true, sy_icmp sy_gt false, sy_icmp sy_gt true,
  sy_acmp false, sy_acmp true, sy_nul false, sy_nul true, sy_goto, sy_ret, sy_ret, sy_ret, sy_ret, sy_ret, sy_retv,
  sy_getf, sy_getf, sy_putf, sy_putf, sy_putf, sy_new sy_fi, sy_newa, sy_newa, fun tk => sy_alen tk len tk, sy_iald len, sy_ald 1 1 1, sy_aald, sy_ald 2 0 0, sy_ast 0 0, sy_ast 1 1, sy_aast sy_at, sy_cast,
  sy_castA, sy_call, sy_call, sy_call, sy_call, sy_call, sy_clone, sy_acpy, sy_mna, sy_thr, sy_thr, sy_tsw sy_sw 0, sy_obin]
def sy_M0 : sy_M := ([], 0, [], 0)
noncomputable def sy_meth (i : Nat) : sy_M := sy_nth sy_M0 (sy_nth [] sy_P (Nat.div i 16)) (Nat.mod i 16)
/-- the locals with which a method begins -/
noncomputable def sy_args (l : List Nat) : Nat → Nat → Nat := List.rec (motive := fun _ => Nat → Nat → Nat) (fun _ L => L) (fun v _ ih i L => sy_force (sy_wr L i (Nat.succ v)) fun L => ih (Nat.add i (sy_ct v)) L) l
/-- the handler of pc for the class E -/
noncomputable def sy_hand (hs : List (Nat × Nat × Nat × Nat)) (pc E : Nat) : Nat := List.rec (motive := fun _ => Nat) 0 (fun x _ r => cond (cond (Nat.ble x.1 pc) (cond (Nat.ble (Nat.succ pc) x.2.1) (Nat.beq x.2.2.2 E) false) false) (Nat.succ x.2.2.1) r) hs
noncomputable def sy_e0 : sy_E := (0, 0, 0, 0)
/-- a handler: astore, iconst, ireturn -/
noncomputable def sy_caught (k : List sy_E) (h : sy_H) (c s : Nat) : sy_X :=
  sy_if (cond (cond (Nat.beq (sy_nth sy_e0 k 0).2.1 21) true (Nat.beq (sy_nth sy_e0 k 0).2.1 22)) (cond (Nat.beq (sy_nth sy_e0 k 1).2.1 1) (Nat.beq (sy_nth sy_e0 k 2).2.1 56) false) false) (4, (sy_nth sy_e0 k 1).2.2.1, 0, [], h, c, s)
abbrev sy_R : Type := Nat → sy_M → List sy_E → Nat → List Nat → sy_H → Nat → Nat → sy_X
noncomputable def sy_b3 (ih : sy_R) (d : Nat) (M : sy_M) (k : List sy_E) (L : Nat) (st : List Nat) (c s : Nat) (X : sy_X) : sy_X :=
  sy_force (Nat.add c X.2.2.2.2.2.1) fun c => sy_force (Nat.add s X.2.2.2.2.2.2) fun s => ih d M k L st X.2.2.2.2.1 c s
noncomputable def sy_b4 (ih : sy_R) (d : Nat) (M : sy_M) (k : List sy_E) (L : Nat) (st : List Nat) (c s : Nat) (X : sy_X) : sy_X :=
  sy_force (Nat.add c X.2.2.2.2.2.1) fun c => sy_force (Nat.add s X.2.2.2.2.2.2) fun s => sy_force X.2.1 fun v => ih d M k L (v :: st) X.2.2.2.2.1 c s
noncomputable def sy_b6 (M : sy_M) (pc z : Nat) (c s : Nat) (X : sy_X) : sy_X :=
  sy_if (cond (Nat.beq z 82) false true) (sy_force (Nat.add c X.2.2.2.2.2.1) fun c => sy_force (Nat.add s X.2.2.2.2.2.2) fun s =>
    Nat.rec (motive := fun _ => sy_X) (cond (Nat.beq (sy_len M.2.2.1) 0) (6, X.2.1, 0, [], X.2.2.2.2.1, c, s) (sy_no 0)) (fun p _ => sy_caught (sy_drop M.1 p) X.2.2.2.2.1 c s) (sy_hand M.2.2.1 pc X.2.1))
/-- behind a call -/
noncomputable def sy_back (ih : sy_R) (d : Nat) (M : sy_M) (pc z : Nat) (k : List sy_E) (L : Nat) (st : List Nat) (c s : Nat) (X : sy_X) : sy_X :=
  sy_nth (sy_no 0) [sy_no X.2.1, sy_no 0, sy_no 0, sy_b3 ih d M k L st c s X, sy_b4 ih d M k L st c s X, sy_no 0, sy_b6 M pc z c s X] X.1
noncomputable def sy_k1 (ih : sy_R) (d : Nat) (M : sy_M) (k : List sy_E) (X : sy_X) : sy_X := ih d M k X.2.2.1 X.2.2.2.1 X.2.2.2.2.1 X.2.2.2.2.2.1 X.2.2.2.2.2.2
/-- a jump: the place has the pc y (but for the switch, which names its places itself) -/
noncomputable def sy_k2 (ih : sy_R) (d : Nat) (M : sy_M) (z y : Nat) (X : sy_X) : sy_X := sy_force X.2.1 fun a => sy_if (cond (Nat.beq z 90) true (Nat.beq (sy_nth sy_e0 (sy_drop M.1 a) 0).1 y)) (sy_k1 ih d M (sy_drop M.1 a) X)
/-- the one it is called on is of that class -/
noncomputable def sy_recv (ci v : Nat) (h : sy_H) : Bool := Nat.rec (motive := fun _ => Bool) true (fun k _ => cond (cond (Nat.beq (sy_tg v) 5) (Nat.ble (Nat.succ (sy_py v)) h.1) false) (Nat.beq (sy_hg h.2 (sy_py v)).1 (Nat.mul 2 k)) false) ci
noncomputable def sy_k5 (ih : sy_R) (d : Nat) (M : sy_M) (pc z n : Nat) (k : List sy_E) (X : sy_X) : sy_X :=
  Nat.rec (motive := fun _ => sy_X) (sy_no 0) (fun d' _ => sy_if (cond (Nat.ble n (sy_len X.2.2.2.1)) (Nat.ble (sy_cats (sy_drop X.2.2.2.1 n)) 8) false)
    (sy_force X.2.1 fun a => sy_if (cond (sy_recv (sy_meth a).2.2.2 (sy_nth 0 X.2.2.2.1 (Nat.pred n)) X.2.2.2.2.1) (Nat.ble (sy_cats (sy_rev X.2.2.2.1 n [])) (sy_meth a).2.1) false) (sy_back ih d M pc z k X.2.2.1 (sy_drop X.2.2.2.1 n) X.2.2.2.2.2.1 X.2.2.2.2.2.2 (ih d' (sy_meth a) (sy_meth a).1 (sy_args (sy_rev X.2.2.2.1 n []) 0 0) [] X.2.2.2.2.1 0 0)))) d
noncomputable def sy_k6 (M : sy_M) (X : sy_X) : sy_X := cond (Nat.beq (sy_len M.2.2.1) 0) (6, X.2.1, 0, [], X.2.2.2.2.1, X.2.2.2.2.2.1, X.2.2.2.2.2.2) (sy_no 0)
noncomputable def sy_in (a z b : Nat) : Bool := cond (Nat.ble a z) (Nat.ble z b) false
noncomputable def sy_stepx (ih : sy_R) (d : Nat) (M : sy_M) (pc z y : Nat) (k : List sy_E) (X Z : sy_X) : sy_X :=
  sy_nth (sy_no 0) [sy_no X.2.1, sy_no 0, sy_k2 ih d M z y X, sy_if (Nat.beq z 61) X, sy_if (sy_in 56 z 60) X, sy_if (sy_in 80 z 84) (sy_k5 ih d M pc z (Nat.mod y 16) k X), sy_if (sy_in 88 z 89) (sy_if (Nat.ble (sy_cats Z.2.2.2.1) 50) (sy_k6 M X)), sy_no 0, Z] X.1
noncomputable def sy_step (ih : sy_R) (d : Nat) (M : sy_M) (pc z y : Nat) (k : List sy_E) (X Z : sy_X) : sy_X := cond (Nat.beq X.1 1) (sy_k1 ih d M k X) (sy_stepx ih d M pc z y k X Z)
noncomputable def sy_mk (l : List sy_F) : List (sy_F × Unit) := List.rec (motive := fun _ => List (sy_F × Unit)) [] (fun a _ r => (a, ()) :: r) l
/-- an operation by its number: a pair, so that the kernel looks it up apart from its arguments -/
noncomputable def sy_op (len z : Nat) : sy_F × Unit := sy_nth (fun _ _ _ _ _ _ _ _ => sy_no 0, ()) (sy_mk (sy_ops len)) z
noncomputable def sy_ent (tk : sy_T) (len : Nat) (ih : sy_R) (d : Nat) (M : sy_M) (L : Nat) (st : List Nat) (h : sy_H) (c s : Nat) (e : sy_E) (k : List sy_E) : sy_X :=
  Prod.rec (motive := fun _ => sy_X) (fun pc r => Prod.rec (motive := fun _ => sy_X) (fun z r => Prod.rec (motive := fun _ => sy_X) (fun x y => sy_step ih d M pc z y k ((sy_op len z).1 tk x y L st h c s) (8, pc, L, st, h, c, s)) r) r) e
noncomputable def sy_run (tk : sy_T) (len : Nat) (fuel : Nat) : sy_R :=
  Nat.rec (motive := fun _ => sy_R) (fun _ _ _ _ _ _ _ _ => sy_no 0) (fun _ ih d M rest L st h c s => List.rec (motive := fun _ => sy_X) (sy_no 0) (fun e k _ => sy_ent tk len ih d M L st h c s e k) rest) fuel
def sy_heap0 : sy_H := (0, sy_z9)
/-- the law from its entry to the first look at the script, L ints long -/
noncomputable def sy_first (len : Nat) : sy_X := sy_run [] len 100000 12 (sy_meth 0) (sy_meth 0).1 (sy_args [9] 0 0) [] sy_heap0 0 0
noncomputable def sy_seek (l : List sy_E) (pc : Nat) : List sy_E := List.rec (motive := fun _ => List sy_E) [] (fun e k r => cond (Nat.beq e.1 pc) (e :: k) r) l
/-- from there on, with what is known of the script -/
noncomputable def sy_next (tk : sy_T) (X : sy_X) : sy_X := sy_run tk 7 100000 12 (sy_meth 0) (sy_seek (sy_meth 0).1 X.2.1) X.2.2.1 X.2.2.2.1 X.2.2.2.2.1 X.2.2.2.2.2.1 X.2.2.2.2.2.2
noncomputable def sy_piv (p : Nat) : Nat := cond (Nat.ble 9223372034707292160 p) (Nat.sub p 9223372034707292160) p
noncomputable def sy_split (ih : sy_T → Bool) (tk : sy_T) (k p : Nat) (q : Nat × Nat × Nat) : Bool :=
  cond (cond (Nat.ble (Nat.succ q.2.1) p) (cond (Nat.ble p q.2.2) (cond (Nat.ble q.1 1) (Nat.ble k 6) false) false) false) (sy_force (Nat.pred p) fun m => cond (ih (sy_put (9, 0, 0) (q.1, q.2.1, m) tk k)) (ih (sy_put (9, 0, 0) (q.1, p, q.2.2) tk k)) false) false
/-- on every script of which tk is true, the law answers 1 -/
noncomputable def sy_all (X0 : sy_X) (fuel : Nat) : sy_T → Bool :=
  Nat.rec (motive := fun _ => sy_T → Bool) (fun _ => false) (fun _ ih tk =>
    sy_nth false [Nat.rec (motive := fun _ => Bool) false (fun a _ => sy_force (sy_piv (Nat.div a 16)) fun p => sy_split ih tk (Nat.mod a 16) p (sy_tok tk (Nat.mod a 16))) (sy_next tk X0).2.1, false, false, false, Nat.beq (sy_next tk X0).2.1 16] (sy_next tk X0).1) fuel
/-- the starting knowledge: the call, and whether place j is read as a char -/
noncomputable def sy_fu : Nat × Nat × Nat := (0, 0, 4294967295)
noncomputable def sy_cu : Nat × Nat × Nat := (1, 2147483648, 2147549183)
noncomputable def sy_tkK (K : Nat) : sy_T := (2, K, 0) :: sy_nth [sy_fu, sy_fu, sy_fu, sy_fu, sy_fu, sy_fu]
  [[sy_cu, sy_fu, sy_fu, sy_fu, sy_fu, sy_fu], [sy_fu, sy_fu, sy_fu, sy_cu, sy_fu, sy_fu], [sy_fu, sy_fu, sy_cu, sy_fu, sy_fu, sy_fu], [sy_fu, sy_fu, sy_cu, sy_fu, sy_fu, sy_fu]]
  (cond (Nat.beq K 0) 0 (cond (Nat.beq K 6) 1 (cond (Nat.beq K 17) 2 (cond (Nat.beq K 20) 3 9))))
noncomputable def sy_cases (l : List Nat) : Bool := List.rec (motive := fun _ => Bool) true (fun K _ r => cond (sy_all (sy_first 7) 1000 (sy_tkK K)) r false) l
end SYR
end
section
/-! plain facts of the abstract machine -/
section SYL
theorem sy_nth_nil {α : Type} (d : α) (n : Nat) : sy_nth d [] n = d := rfl
theorem sy_nth_zero {α : Type} (d a : α) (l : List α) : sy_nth d (a :: l) 0 = a := rfl
theorem sy_nth_succ {α : Type} (d a : α) (l : List α) (n : Nat) : sy_nth d (a :: l) (n + 1) = sy_nth d l n := rfl
theorem sy_nth_get {α : Type} (d : α) : ∀ (l : List α) (n : Nat), sy_nth d l n = (l[n]?).getD d
  | [], n => by simp [sy_nth_nil]
  | a :: l, 0 => by simp [sy_nth_zero]
  | a :: l, n + 1 => by simp [sy_nth_succ, sy_nth_get d l n]
theorem sy_drop_eq {α : Type} : ∀ (l : List α) (n : Nat), sy_drop l n = l.drop n
  | [], n => by simp [sy_drop]
  | a :: l, 0 => rfl
  | a :: l, n + 1 => by
    show sy_drop l n = _
    rw [sy_drop_eq l n]; rfl
theorem sy_len_eq {α : Type} : ∀ l : List α, sy_len l = l.length
  | [] => rfl
  | a :: l => by
    show Nat.succ (sy_len l) = _
    rw [sy_len_eq l]; rfl
theorem sy_rev_eq : ∀ (l : List Nat) (n : Nat) (acc : List Nat), sy_rev l n acc = (l.take n).reverse ++ acc
  | [], n, acc => by simp [sy_rev]
  | a :: l, 0, acc => by
    show acc = _
    simp
  | a :: l, n + 1, acc => by
    show sy_rev l n (a :: acc) = _
    rw [sy_rev_eq l n]; simp
theorem sy_pad_get {α : Type} (d x : α) : ∀ (n j : Nat), sy_nth d (sy_pad d x n) j = if n = j then x else d
  | 0, 0 => rfl
  | 0, j + 1 => by
    show d = _
    simp
  | n + 1, 0 => by
    show d = _
    simp
  | n + 1, j + 1 => by
    show sy_nth d (sy_pad d x n) j = _
    rw [sy_pad_get d x n j]
    simp
theorem sy_put_get {α : Type} (d x : α) : ∀ (l : List α) (n j : Nat), sy_nth d (sy_put d x l n) j = if n = j then x else sy_nth d l j
  | [], n, j => by
    show sy_nth d (sy_pad d x n) j = _
    rw [sy_pad_get]; rfl
  | a :: l, 0, 0 => rfl
  | a :: l, 0, j + 1 => rfl
  | a :: l, n + 1, 0 => rfl
  | a :: l, n + 1, j + 1 => by
    show sy_nth d (sy_put d x l n) j = _
    rw [sy_put_get d x l n j, sy_nth_succ]
    simp
theorem sy_force_eq {α : Type} (n : Nat) (f : Nat → α) : sy_force n f = f n := by cases n <;> rfl
/-- get and put of a tree with q leaves: by the place's rest -/
def sy_law {α : Type} (q : Nat) (g : Nat → α → sy_O) (pt : Nat → sy_O → α → α) : Prop := ∀ (i j : Nat) (x : sy_O) (t : α), g j (pt i x t) = if i % q = j % q then x else g j t
theorem sy_bt_eq {i j q : Nat} (h : sy_bt i q = sy_bt j q) : i / q % 2 = j / q % 2 := by
  have e : ∀ a, sy_bt a q = Nat.beq (a / q % 2) 1 := fun _ => rfl
  rw [e, e] at h
  have h1 : i / q % 2 < 2 := Nat.mod_lt _ (by decide)
  have h2 : j / q % 2 < 2 := Nat.mod_lt _ (by decide)
  generalize i / q % 2 = a at h h1 ⊢
  generalize j / q % 2 = b at h h2 ⊢
  match a, b, h, h1, h2 with
  | 0, 0, _, _, _ => rfl
  | 0, 1, h, _, _ => exact absurd h (by decide)
  | 1, 0, h, _, _ => exact absurd h (by decide)
  | 1, 1, _, _, _ => rfl
theorem sy_law_up {α : Type} {q : Nat} {g : Nat → α → sy_O} {pt : Nat → sy_O → α → α} (hl : sy_law q g pt) : sy_law (q * 2) (sy_gl q g) (sy_pl q pt) := by
  intro i j x t
  have e : ∀ a : Nat, a % (q * 2) = a % q + q * (a / q % 2) := fun a => Nat.mod_mul
  unfold sy_gl sy_pl
  by_cases hb : sy_bt i q = sy_bt j q
  · have hq : (i % (q * 2) = j % (q * 2)) = (i % q = j % q) := by
      rw [e, e, sy_bt_eq hb]
      exact propext ⟨fun h => Nat.add_right_cancel h, fun h => by rw [h]⟩
    rw [← hb]
    simp only [hq]
    cases sy_bt i q with
    | true => exact hl i j x t.2
    | false => exact hl i j x t.1
  · have hq : ¬ (i % (q * 2) = j % (q * 2)) := by
      intro h
      apply hb
      have h3 : i / q % 2 = j / q % 2 := by
        rw [e, e] at h
        by_cases hq0 : q = 0
        · subst hq0; simp
        · have h1 : i % q < q := Nat.mod_lt _ (Nat.pos_of_ne_zero hq0)
          have h2 : j % q < q := Nat.mod_lt _ (Nat.pos_of_ne_zero hq0)
          have d1 : (i % q + q * (i / q % 2)) / q = i / q % 2 := by
            rw [Nat.add_mul_div_left _ _ (Nat.pos_of_ne_zero hq0), Nat.div_eq_of_lt h1, Nat.zero_add]
          have d2 : (j % q + q * (j / q % 2)) / q = j / q % 2 := by
            rw [Nat.add_mul_div_left _ _ (Nat.pos_of_ne_zero hq0), Nat.div_eq_of_lt h2, Nat.zero_add]
          rw [← d1, ← d2, h]
      show Nat.beq (i / q % 2) 1 = Nat.beq (j / q % 2) 1
      rw [h3]
    rw [if_neg hq]
    cases hi : sy_bt i q with
    | true =>
      cases hj : sy_bt j q with
      | true => exact absurd (hi.trans hj.symm) hb
      | false => rfl
    | false =>
      cases hj : sy_bt j q with
      | true => rfl
      | false => exact absurd (hi.trans hj.symm) hb
theorem sy_law0 : sy_law 1 sy_g0 sy_q0 := by
  intro i j x t
  rw [if_pos (by rw [Nat.mod_one, Nat.mod_one])]
  rfl
theorem sy_law9 : sy_law 512 sy_g9 sy_q9 := sy_law_up (sy_law_up (sy_law_up (sy_law_up (sy_law_up (sy_law_up (sy_law_up (sy_law_up (sy_law_up sy_law0))))))))
theorem sy_hg_hp (t : sy_U9) (i j : Nat) (x : sy_O) (hi : i < 512) (hj : j < 512) : sy_hg (sy_hp t i x) j = if i = j then x else sy_hg t j := by
  have h := sy_law9 i j x t
  rw [Nat.mod_eq_of_lt hi, Nat.mod_eq_of_lt hj] at h
  exact h
theorem sy_rd_bit (c i k : Nat) : (sy_rd c i).testBit k = (decide (k < 72) && c.testBit (72 * i + k)) := by
  have e : sy_rd c i = (c >>> (72 * i)) % 2 ^ 72 := rfl
  rw [e, Nat.testBit_mod_two_pow, Nat.testBit_shiftRight]
theorem sy_rd_lt (c i : Nat) : sy_rd c i < 2 ^ 72 := by
  have e : sy_rd c i = (c >>> (72 * i)) % 2 ^ 72 := rfl
  rw [e]
  exact Nat.mod_lt _ (by decide)
theorem sy_wr_bit (c i v k : Nat) : (sy_wr c i v).testBit k = (c.testBit k ^^ (decide (72 * i ≤ k) && ((sy_rd c i).testBit (k - 72 * i) ^^ v.testBit (k - 72 * i)))) := by
  have e : sy_wr c i v = c ^^^ ((sy_rd c i ^^^ v) <<< (72 * i)) := rfl
  rw [e, Nat.testBit_xor, Nat.testBit_shiftLeft, Nat.testBit_xor]
theorem sy_rd_wr (c i j v : Nat) (hv : v < 2 ^ 72) : sy_rd (sy_wr c i v) j = if i = j then v else sy_rd c j := by
  apply Nat.eq_of_testBit_eq
  intro k
  rw [sy_rd_bit, sy_wr_bit]
  have hb : ∀ n, 72 ≤ n → v.testBit n = false := fun n hn => Nat.testBit_lt_two_pow (Nat.lt_of_lt_of_le hv (Nat.pow_le_pow_right (by decide) hn))
  by_cases hk : k < 72
  · by_cases hij : i = j
    · subst hij
      rw [if_pos rfl, sy_rd_bit]
      have h1 : 72 * i + k - 72 * i = k := by omega
      rw [h1]
      simp [hk]
    · rw [if_neg hij, sy_rd_bit c j k]
      by_cases h2 : 72 * i ≤ 72 * j + k
      · have h3 : 72 ≤ 72 * j + k - 72 * i := by omega
        rw [sy_rd_bit, hb _ h3]
        have h4 : ¬ (72 * j + k - 72 * i < 72) := by omega
        simp [h4]
      · simp [h2]
  · by_cases hij : i = j
    · rw [if_pos hij, hb k (by omega)]
      simp [hk]
    · rw [if_neg hij, sy_rd_bit c j k]
      simp [hk]
theorem sy_p1_inv {st : List Nat} {f : Nat → List Nat → sy_X} {Y : sy_X} (h : sy_p1 st f = Y) (hk : Y.1 ≠ 0) : ∃ v r, st = v :: r ∧ f v r = Y := by
  cases st with
  | nil => exact absurd (by rw [← h]; rfl) hk
  | cons v r => exact ⟨v, r, rfl, h⟩
theorem sy_if_inv {b : Bool} {x Y : sy_X} (h : sy_if b x = Y) (hk : Y.1 ≠ 0) : b = true ∧ x = Y := by
  cases b with
  | false => exact absurd (by rw [← h]; rfl) hk
  | true => exact ⟨rfl, h⟩
theorem sy_and {a b : Bool} (h : cond a b false = true) : a = true ∧ b = true := by cases a <;> simp_all
theorem sy_beq {a b : Nat} (h : Nat.beq a b = true) : a = b := Nat.eq_of_beq_eq_true h
theorem sy_ble {a b : Nat} (h : Nat.ble a b = true) : a ≤ b := Nat.le_of_ble_eq_true h
theorem sy_cond_inv {b : Bool} {x y Y : sy_X} (h : cond b x y = Y) : (b = true ∧ x = Y) ∨ (b = false ∧ y = Y) := by
  cases b with
  | false => exact Or.inr ⟨rfl, h⟩
  | true => exact Or.inl ⟨rfl, h⟩
theorem sy_tg_pk {t n : Nat} (h : t < 16) : sy_tg (sy_pk t n) = t := by
  show (16 * n + t) % 16 = t
  omega
theorem sy_py_pk {t n : Nat} (h : t < 16) : sy_py (sy_pk t n) = n := by
  show (16 * n + t) / 16 = n
  omega
theorem sy_pk_eq (v : Nat) : sy_pk (sy_tg v) (sy_py v) = v := by
  show 16 * (v / 16) + v % 16 = v
  omega
theorem sy_pk_of {v t : Nat} (h : sy_tg v = t) : v = sy_pk t (sy_py v) := by rw [← h, sy_pk_eq]
theorem sy_cell_inv {h : sy_H} {v : Nat} {f : Nat → Nat → Nat → sy_X} {Y : sy_X} (hh : sy_cell h v f = Y) (hk : Y.1 ≠ 0) : sy_tg v = 5 ∧ sy_py v < h.1 ∧ ∃ k n d, sy_hg h.2 (sy_py v) = (k, n, d) ∧ f k n d = Y := by
  obtain ⟨h1, h2⟩ := sy_if_inv hh hk
  obtain ⟨h3, h4⟩ := sy_and h1
  refine ⟨sy_beq h3, sy_ble h4, (sy_hg h.2 (sy_py v)).1, (sy_hg h.2 (sy_py v)).2.1, (sy_hg h.2 (sy_py v)).2.2, rfl, ?_⟩
  rw [← h2]
  exact (sy_force_eq _ _).symm
theorem sy_ty_tg {v t : Nat} (h : sy_ty v = t) (ht : t < 5) : (t = 0 ∧ (sy_tg v = 0 ∨ sy_tg v = 6 ∨ sy_tg v = 8)) ∨ (t = 1 ∧ (sy_tg v = 1 ∨ sy_tg v = 7)) ∨ (t = 2 ∧ (sy_tg v = 4 ∨ sy_tg v = 5 ∨ sy_tg v = 9)) ∨ (t = 3 ∧ sy_tg v = 2) ∨ (t = 4 ∧ sy_tg v = 3) := by
  have hg : sy_tg v < 16 := Nat.mod_lt _ (by decide)
  unfold sy_ty at h
  generalize sy_tg v = g at h hg ⊢
  match g, h, hg with
  | 0, h, _ => exact Or.inl ⟨h.symm, Or.inl rfl⟩
  | 1, h, _ => exact Or.inr (Or.inl ⟨h.symm, Or.inl rfl⟩)
  | 2, h, _ => exact Or.inr (Or.inr (Or.inr (Or.inl ⟨h.symm, rfl⟩)))
  | 3, h, _ => exact Or.inr (Or.inr (Or.inr (Or.inr ⟨h.symm, rfl⟩)))
  | 4, h, _ => exact Or.inr (Or.inr (Or.inl ⟨h.symm, Or.inl rfl⟩))
  | 5, h, _ => exact Or.inr (Or.inr (Or.inl ⟨h.symm, Or.inr (Or.inl rfl)⟩))
  | 6, h, _ => exact Or.inl ⟨h.symm, Or.inr (Or.inl rfl)⟩
  | 7, h, _ => exact Or.inr (Or.inl ⟨h.symm, Or.inr rfl⟩)
  | 8, h, _ => exact Or.inl ⟨h.symm, Or.inr (Or.inr rfl)⟩
  | 9, h, _ => exact Or.inr (Or.inr (Or.inl ⟨h.symm, Or.inr (Or.inr rfl)⟩))
  | 10, h, _ => exact absurd (show (9 : Nat) = t from h) (by omega)
  | 11, h, _ => exact absurd (show (9 : Nat) = t from h) (by omega)
  | 12, h, _ => exact absurd (show (9 : Nat) = t from h) (by omega)
  | 13, h, _ => exact absurd (show (9 : Nat) = t from h) (by omega)
  | 14, h, _ => exact absurd (show (9 : Nat) = t from h) (by omega)
  | 15, h, _ => exact absurd (show (9 : Nat) = t from h) (by omega)
  | n + 16, _, hg => exact absurd hg (by omega)
end SYL
end
section
/-! what the abstract values and cells stand for -/
section SYC
/-- the classes and places, the array classes, the script's ints, its address -/
abbrev sy_Wd : Type := va_G × (Nat → ClassId) × (Nat → Int32) × Nat
def sy_ch (x : Int32) : Int32 := (x.toUInt32 % 65536).toInt32
def sy_v (w : sy_Wd) (ρ : Nat → Nat) (v : Nat) : Value := match sy_tg v with
  | 0 => .int (nI (sy_py v))
  | 1 => .long (lN (sy_py v))
  | 2 => .float (UInt32.ofNat (sy_py v))
  | 3 => .double (UInt64.ofNat (sy_py v))
  | 4 => .null
  | 5 => .ref (ρ (sy_py v))
  | 6 => .int (w.2.2.1 (sy_py v))
  | 7 => .long (w.2.2.1 (sy_py v)).toInt64
  | 8 => .int (sy_ch (w.2.2.1 (sy_py v)))
  | _ => .ref w.2.2.2
def sy_fty (t : Nat) : FieldType := match t with
  | 0 => .int
  | 1 => .long
  | 2 => .boolean
  | 3 => .char
  | 4 => .byte
  | 5 => .double
  | 6 => .object "Manypens$Edit"
  | 7 => .object "Manypens$Hand"
  | 8 => .object "ManypensModel$Edit"
  | 9 => .object "ManypensModel$Group"
  | 10 => .object "ManypensModel$Hand"
  | 11 => .object "ManypensModel$Letter"
  | _ => .array .boolean
def sy_tys (w : sy_Wd) : List (ClassId × FieldType) := (List.range 13).map fun t => (w.2.1 t, sy_fty t)
def sy_vi : Value → Int32 | .int x => x | _ => 0
def sy_vl : Value → Int64 | .long x => x | _ => 0
def sy_vd : Value → UInt64 | .double x => x | _ => 0
def sy_vr : Value → Option Nat | .ref a => some a | _ => none
noncomputable def sy_arr (w : sy_Wd) (ρ : Nat → Nat) (t d : Nat) : (Nat → Int32) ⊕ (Nat → Int64) ⊕ (Nat → UInt32) ⊕ (Nat → UInt64) ⊕ (Nat → Option Nat) :=
  if t = 1 then .inr (.inl fun i => sy_vl (sy_v w ρ (sy_elt 1 (sy_rd d i))))
  else if t = 5 then .inr (.inr (.inr (.inl fun i => sy_vd (sy_v w ρ (sy_elt 5 (sy_rd d i))))))
  else if t < 6 then .inl fun i => sy_vi (sy_v w ρ (sy_elt 0 (sy_rd d i)))
  else .inr (.inr (.inr (.inr fun i => sy_vr (sy_v w ρ (sy_elt 6 (sy_rd d i))))))
noncomputable def sy_ce (w : sy_Wd) (ρ : Nat → Nat) (o : sy_O) : va_E :=
  if o.1 % 2 = 0 then .inr (o.1 / 2, (List.range o.2.1).map fun k => sy_v w ρ (sy_rd o.2.2 k)) else .inl (w.2.1 (o.1 / 2), o.2.1, sy_arr w ρ (o.1 / 2) o.2.2)
noncomputable def sy_ws (w : sy_Wd) (ρ : Nat → Nat) (h : sy_H) : va_W := (List.range h.1).map fun i => (ρ i, sy_ce w ρ (sy_hg h.2 i))
/-- a value that may stand in a world of n cells -/
def sy_wfV (n v : Nat) : Prop := v < 2 ^ 71 ∧ (sy_tg v = 5 → sy_py v < n)
def sy_wfO (n : Nat) (o : sy_O) : Prop := ∀ j, sy_wfV n (sy_rd o.2.2 j)
def sy_wfH (h : sy_H) : Prop := h.1 ≤ 511 ∧ ∀ i, i < h.1 → sy_wfO h.1 (sy_hg h.2 i)
def sy_ag (n : Nat) (ρ ρ' : Nat → Nat) : Prop := ∀ k, k < n → ρ' k = ρ k
def sy_up (ρ : Nat → Nat) (n a : Nat) : Nat → Nat := fun k => if k = n then a else ρ k
theorem sy_wfV.mono {n m v : Nat} (h : sy_wfV n v) (hm : n ≤ m) : sy_wfV m v := ⟨h.1, fun q => Nat.lt_of_lt_of_le (h.2 q) hm⟩
theorem sy_wfO.mono {n m : Nat} {o : sy_O} (h : sy_wfO n o) (hm : n ≤ m) : sy_wfO m o := fun j => (h j).mono hm
theorem sy_ag.rf {n : Nat} {ρ : Nat → Nat} : sy_ag n ρ ρ := fun _ _ => rfl
theorem sy_ag.up {n : Nat} {ρ : Nat → Nat} (a : Nat) : sy_ag n ρ (sy_up ρ n a) := fun k hk => if_neg (Nat.ne_of_lt hk)
theorem sy_ag.trans {n m : Nat} {ρ ρ' ρ'' : Nat → Nat} (h : sy_ag n ρ ρ') (h2 : sy_ag m ρ' ρ'') (hm : n ≤ m) : sy_ag n ρ ρ'' := fun k hk => (h2 k (Nat.lt_of_lt_of_le hk hm)).trans (h k hk)
theorem sy_v_ag {w : sy_Wd} {ρ ρ' : Nat → Nat} {n v : Nat} (h : sy_wfV n v) (ha : sy_ag n ρ ρ') : sy_v w ρ' v = sy_v w ρ v := by
  unfold sy_v
  split <;> first | rfl | skip
  next e => rw [ha _ (h.2 e)]
theorem sy_wfV_elt {n t x : Nat} (h : sy_wfV n x) : sy_wfV n (sy_elt t x) := by
  cases x with
  | zero =>
    show sy_wfV n (sy_dv t)
    have key : ∀ z : Nat, z = 0 ∨ z = 1 ∨ z = 3 ∨ z = 4 → sy_wfV n z := fun z hz => by
      rcases hz with rfl | rfl | rfl | rfl
      all_goals exact ⟨by decide, fun q => absurd q (by decide)⟩
    apply key
    match t with
    | 0 => exact Or.inl rfl
    | 1 => exact Or.inr (Or.inl rfl)
    | 2 => exact Or.inl rfl
    | 3 => exact Or.inl rfl
    | 4 => exact Or.inl rfl
    | 5 => exact Or.inr (Or.inr (Or.inl rfl))
    | n + 6 => exact Or.inr (Or.inr (Or.inr rfl))
  | succ m => exact h
theorem sy_arr_ag {w : sy_Wd} {ρ ρ' : Nat → Nat} {n t d : Nat} (h : ∀ j, sy_wfV n (sy_rd d j)) (ha : sy_ag n ρ ρ') : sy_arr w ρ' t d = sy_arr w ρ t d := by
  unfold sy_arr
  simp only [sy_v_ag (sy_wfV_elt (h _)) ha]
theorem sy_ce_ag {w : sy_Wd} {ρ ρ' : Nat → Nat} {n : Nat} {o : sy_O} (h : sy_wfO n o) (ha : sy_ag n ρ ρ') : sy_ce w ρ' o = sy_ce w ρ o := by
  unfold sy_ce
  simp only [sy_v_ag (h _) ha, sy_arr_ag h ha]
theorem sy_ws_len {w : sy_Wd} {ρ : Nat → Nat} {h : sy_H} : (sy_ws w ρ h).length = h.1 := by simp [sy_ws]
theorem sy_ws_get {w : sy_Wd} {ρ : Nat → Nat} {h : sy_H} {i : Nat} (hi : i < h.1) : (sy_ws w ρ h)[i]? = some (ρ i, sy_ce w ρ (sy_hg h.2 i)) := by
  simp [sy_ws, hi]
theorem sy_ws_set {w : sy_Wd} {ρ : Nat → Nat} {h : sy_H} (hw : sy_wfH h) {i : Nat} (x : sy_O) (hi : i < h.1) : (sy_ws w ρ h).set i (ρ i, sy_ce w ρ x) = sy_ws w ρ (h.1, sy_hp h.2 i x) := by
  have h5 := hw.1
  apply List.ext_getElem?
  intro j
  by_cases hj : j < h.1
  · rw [sy_ws_get (h := (h.1, sy_hp h.2 i x)) hj, sy_hg_hp _ _ _ _ (by omega) (by omega)]
    by_cases hij : i = j
    · subst hij
      rw [List.getElem?_set_self (by rw [sy_ws_len]; exact hi), if_pos rfl]
    · rw [List.getElem?_set_ne hij, sy_ws_get hj, if_neg hij]
  · rw [List.getElem?_eq_none (by rw [List.length_set, sy_ws_len]; omega), List.getElem?_eq_none (by rw [sy_ws_len]; show h.1 ≤ j; omega)]
theorem sy_ws_ag {w : sy_Wd} {ρ ρ' : Nat → Nat} {h : sy_H} (hw : sy_wfH h) (ha : sy_ag h.1 ρ ρ') : sy_ws w ρ' h = sy_ws w ρ h := by
  unfold sy_ws
  apply List.map_congr_left
  intro i hi
  rw [ha i (List.mem_range.mp hi), sy_ce_ag (hw.2 i (List.mem_range.mp hi)) ha]
theorem sy_ws_push {w : sy_Wd} {ρ : Nat → Nat} {h : sy_H} (hw : sy_wfH h) (a : Nat) {x : sy_O} (hx : sy_wfO h.1 x) :
    sy_ws w ρ h ++ [(a, sy_ce w ρ x)] = sy_ws w (sy_up ρ h.1 a) (h.1 + 1, sy_hp h.2 h.1 x) := by
  have ha : sy_ag h.1 ρ (sy_up ρ h.1 a) := sy_ag.up a
  have h5 := hw.1
  apply List.ext_getElem?
  intro j
  by_cases hj : j < h.1
  · rw [List.getElem?_append_left (by rw [sy_ws_len]; exact hj), sy_ws_get hj, sy_ws_get (h := (h.1 + 1, sy_hp h.2 h.1 x)) (Nat.lt_succ_of_lt hj), sy_hg_hp _ _ _ _ (by omega) (by omega), if_neg (Nat.ne_of_gt hj), ha j hj, sy_ce_ag (hw.2 j hj) ha]
  · by_cases hj2 : j = h.1
    · subst hj2
      rw [List.getElem?_append_right (by rw [sy_ws_len]; exact Nat.le_refl _), sy_ws_len, Nat.sub_self, sy_ws_get (h := (h.1 + 1, sy_hp h.2 h.1 x)) (Nat.lt_succ_self _), sy_hg_hp _ _ _ _ (by omega) (by omega), if_pos rfl, sy_ce_ag hx ha]
      show some (a, _) = _
      rw [show sy_up ρ h.1 a h.1 = a from if_pos rfl]
    · rw [List.getElem?_eq_none (by rw [List.length_append, sy_ws_len]; show h.1 + 1 ≤ j; omega), List.getElem?_eq_none (by rw [sy_ws_len]; show h.1 + 1 ≤ j; omega)]
theorem sy_wfH_put {h : sy_H} (hw : sy_wfH h) {i : Nat} (hi : i < h.1) {x : sy_O} (hx : sy_wfO h.1 x) : sy_wfH (h.1, sy_hp h.2 i x) := by
  have h5 := hw.1
  refine ⟨h5, fun j hj => ?_⟩
  have hj : j < h.1 := hj
  show sy_wfO h.1 (sy_hg (sy_hp h.2 i x) j)
  rw [sy_hg_hp _ _ _ _ (by omega) (by omega)]
  split
  · exact hx
  · exact hw.2 j hj
theorem sy_wfH_push {h : sy_H} (hw : sy_wfH h) (h5 : h.1 + 1 ≤ 511) {x : sy_O} (hx : sy_wfO (h.1 + 1) x) : sy_wfH (h.1 + 1, sy_hp h.2 h.1 x) := by
  refine ⟨h5, fun j hj => ?_⟩
  have hj : j < h.1 + 1 := hj
  show sy_wfO (h.1 + 1) (sy_hg (sy_hp h.2 h.1 x) j)
  rw [sy_hg_hp _ _ _ _ (by omega) (by omega)]
  split
  · exact hx
  · exact (hw.2 j (by omega)).mono (Nat.le_succ _)
theorem sy_wfO_wr {n d j v : Nat} {k m : Nat} (h : ∀ j, sy_wfV n (sy_rd d j)) (hv : sy_wfV n v) : sy_wfO n (k, m, sy_wr d j v) := by
  intro i
  show sy_wfV n (sy_rd (sy_wr d j v) i)
  rw [sy_rd_wr _ _ _ _ (Nat.lt_trans hv.1 (by decide))]
  split
  · exact hv
  · exact h i
theorem sy_wfV_pk {n t x : Nat} (ht : t < 16) (h5 : t = 5 → x < n) (hx : x < 2 ^ 66) : sy_wfV n (sy_pk t x) := by
  refine ⟨?_, fun q => ?_⟩
  · show 16 * x + t < 2 ^ 71
    omega
  · rw [sy_tg_pk ht] at q
    rw [sy_py_pk ht]
    exact h5 q
/-! values by their tags -/
theorem sy_v0 {w : sy_Wd} {ρ : Nat → Nat} {v : Nat} (h : sy_tg v = 0) : sy_v w ρ v = .int (nI (sy_py v)) := by unfold sy_v; rw [h]; rfl
theorem sy_v1 {w : sy_Wd} {ρ : Nat → Nat} {v : Nat} (h : sy_tg v = 1) : sy_v w ρ v = .long (lN (sy_py v)) := by unfold sy_v; rw [h]; rfl
theorem sy_v2 {w : sy_Wd} {ρ : Nat → Nat} {v : Nat} (h : sy_tg v = 2) : sy_v w ρ v = .float (UInt32.ofNat (sy_py v)) := by unfold sy_v; rw [h]; rfl
theorem sy_v3 {w : sy_Wd} {ρ : Nat → Nat} {v : Nat} (h : sy_tg v = 3) : sy_v w ρ v = .double (UInt64.ofNat (sy_py v)) := by unfold sy_v; rw [h]; rfl
theorem sy_v4 {w : sy_Wd} {ρ : Nat → Nat} {v : Nat} (h : sy_tg v = 4) : sy_v w ρ v = .null := by unfold sy_v; rw [h]; rfl
theorem sy_v5 {w : sy_Wd} {ρ : Nat → Nat} {v : Nat} (h : sy_tg v = 5) : sy_v w ρ v = .ref (ρ (sy_py v)) := by unfold sy_v; rw [h]; rfl
theorem sy_v6 {w : sy_Wd} {ρ : Nat → Nat} {v : Nat} (h : sy_tg v = 6) : sy_v w ρ v = .int (w.2.2.1 (sy_py v)) := by unfold sy_v; rw [h]; rfl
theorem sy_v7 {w : sy_Wd} {ρ : Nat → Nat} {v : Nat} (h : sy_tg v = 7) : sy_v w ρ v = .long (w.2.2.1 (sy_py v)).toInt64 := by unfold sy_v; rw [h]; rfl
theorem sy_v8 {w : sy_Wd} {ρ : Nat → Nat} {v : Nat} (h : sy_tg v = 8) : sy_v w ρ v = .int (sy_ch (w.2.2.1 (sy_py v))) := by unfold sy_v; rw [h]; rfl
theorem sy_v9 {w : sy_Wd} {ρ : Nat → Nat} {v : Nat} (h : sy_tg v = 9) : sy_v w ρ v = .ref w.2.2.2 := by unfold sy_v; rw [h]; rfl
theorem sy_vi_ex {w : sy_Wd} {ρ : Nat → Nat} {v : Nat} (h : sy_ty v = 0) : ∃ x, sy_v w ρ v = .int x := by
  rcases sy_ty_tg h (by decide) with ⟨-, h | h | h⟩ | ⟨h, -⟩ | ⟨h, -⟩ | ⟨h, -⟩ | ⟨h, -⟩
  · exact ⟨_, sy_v0 h⟩
  · exact ⟨_, sy_v6 h⟩
  · exact ⟨_, sy_v8 h⟩
  all_goals cases h
theorem sy_vl_ex {w : sy_Wd} {ρ : Nat → Nat} {v : Nat} (h : sy_ty v = 1) : ∃ x, sy_v w ρ v = .long x := by
  rcases sy_ty_tg h (by decide) with ⟨h, -⟩ | ⟨-, h | h⟩ | ⟨h, -⟩ | ⟨h, -⟩ | ⟨h, -⟩
  · cases h
  · exact ⟨_, sy_v1 h⟩
  · exact ⟨_, sy_v7 h⟩
  all_goals cases h
theorem sy_vr_ex {w : sy_Wd} {ρ : Nat → Nat} {v : Nat} (h : sy_ty v = 2) : sy_v w ρ v = .null ∨ ∃ x, sy_v w ρ v = .ref x := by
  rcases sy_ty_tg h (by decide) with ⟨h, -⟩ | ⟨h, -⟩ | ⟨-, h | h | h⟩ | ⟨h, -⟩ | ⟨h, -⟩
  · cases h
  · cases h
  · exact Or.inl (sy_v4 h)
  · exact Or.inr ⟨_, sy_v5 h⟩
  · exact Or.inr ⟨_, sy_v9 h⟩
  all_goals cases h
theorem sy_ct_cat' {w : sy_Wd} {ρ : Nat → Nat} {v : Nat} : (sy_v w ρ v).category = sy_ct v := by
  have hg : sy_tg v < 16 := Nat.mod_lt _ (by decide)
  unfold sy_v sy_ct
  generalize sy_tg v = g at hg ⊢
  match g, hg with
  | 0, _ => exact (by decide : 1 = Nat.mod (Nat.shiftRight 1229782938515743009 (Nat.mul 4 0)) 16)
  | 1, _ => exact (by decide : 2 = Nat.mod (Nat.shiftRight 1229782938515743009 (Nat.mul 4 1)) 16)
  | 2, _ => exact (by decide : 1 = Nat.mod (Nat.shiftRight 1229782938515743009 (Nat.mul 4 2)) 16)
  | 3, _ => exact (by decide : 2 = Nat.mod (Nat.shiftRight 1229782938515743009 (Nat.mul 4 3)) 16)
  | 4, _ => exact (by decide : 1 = Nat.mod (Nat.shiftRight 1229782938515743009 (Nat.mul 4 4)) 16)
  | 5, _ => exact (by decide : 1 = Nat.mod (Nat.shiftRight 1229782938515743009 (Nat.mul 4 5)) 16)
  | 6, _ => exact (by decide : 1 = Nat.mod (Nat.shiftRight 1229782938515743009 (Nat.mul 4 6)) 16)
  | 7, _ => exact (by decide : 2 = Nat.mod (Nat.shiftRight 1229782938515743009 (Nat.mul 4 7)) 16)
  | 8, _ => exact (by decide : 1 = Nat.mod (Nat.shiftRight 1229782938515743009 (Nat.mul 4 8)) 16)
  | 9, _ => exact (by decide : 1 = Nat.mod (Nat.shiftRight 1229782938515743009 (Nat.mul 4 9)) 16)
  | 10, _ => exact (by decide : 1 = Nat.mod (Nat.shiftRight 1229782938515743009 (Nat.mul 4 10)) 16)
  | 11, _ => exact (by decide : 1 = Nat.mod (Nat.shiftRight 1229782938515743009 (Nat.mul 4 11)) 16)
  | 12, _ => exact (by decide : 1 = Nat.mod (Nat.shiftRight 1229782938515743009 (Nat.mul 4 12)) 16)
  | 13, _ => exact (by decide : 1 = Nat.mod (Nat.shiftRight 1229782938515743009 (Nat.mul 4 13)) 16)
  | 14, _ => exact (by decide : 1 = Nat.mod (Nat.shiftRight 1229782938515743009 (Nat.mul 4 14)) 16)
  | 15, _ => exact (by decide : 1 = Nat.mod (Nat.shiftRight 1229782938515743009 (Nat.mul 4 15)) 16)
  | n + 16, hg => exact absurd hg (by omega)
/-! numbers -/
theorem nI_mod (n : Nat) : nI (n % 4294967296) = nI n := by
  apply Int32.toInt_inj.mp
  unfold nI
  rw [Int32.toInt_ofNat', Int32.toInt_ofNat', Int.bmod_def, Int.bmod_def]
  have e : (Int32.size : Int) = 4294967296 := rfl
  rw [e]
  split <;> split <;> omega
theorem lN_mod (n : Nat) : lN (n % 18446744073709551616) = lN n := by
  apply Int64.toInt_inj.mp
  unfold lN
  rw [Int64.toInt_ofNat', Int64.toInt_ofNat', Int.bmod_def, Int.bmod_def]
  have e : (Int64.size : Int) = 18446744073709551616 := rfl
  rw [e]
  split <;> split <;> omega
theorem sy_iadd (a b : Nat) : nI a + nI b = nI ((a + b) % 4294967296) := by
  rw [nI_mod]
  exact (Int32.ofNat_add a b).symm
theorem sy_imul (a b : Nat) : nI a * nI b = nI ((a * b) % 4294967296) := by
  rw [nI_mod]
  exact (Int32.ofNat_mul a b).symm
theorem sy_ladd (a b : Nat) : lN a + lN b = lN ((a + b) % 18446744073709551616) := by
  rw [lN_mod]
  exact (Int64.ofNat_add a b).symm
theorem sy_lmul (a b : Nat) : lN a * lN b = lN ((a * b) % 18446744073709551616) := by
  rw [lN_mod]
  exact (Int64.ofNat_mul a b).symm
theorem sy_isub (a b : Nat) (h : b < 2 ^ 67) : nI a - nI b = nI ((a + 295147905179352825856 - b) % 4294967296) := by
  rw [nI_mod]
  have e : nI (a + 295147905179352825856 - b) = nI (a + 295147905179352825856) - nI b := Int32.ofNat_sub _ _ (by omega)
  rw [e, ← nI_mod (a + 295147905179352825856)]
  have e2 : (a + 295147905179352825856) % 4294967296 = a % 4294967296 := by omega
  rw [e2, nI_mod]
theorem sy_lsub (a b : Nat) (h : b < 2 ^ 67) : lN a - lN b = lN ((a + 295147905179352825856 - b) % 18446744073709551616) := by
  rw [lN_mod]
  have e : lN (a + 295147905179352825856 - b) = lN (a + 295147905179352825856) - lN b := Int64.ofNat_sub _ _ (by omega)
  rw [e, ← lN_mod (a + 295147905179352825856)]
  have e2 : (a + 295147905179352825856) % 18446744073709551616 = a % 18446744073709551616 := by omega
  rw [e2, lN_mod]
theorem sy_land (a b : Nat) : nI a &&& nI b = nI (a &&& b) := by
  have e : UInt32.ofNat a &&& UInt32.ofNat b = UInt32.ofNat (a &&& b) := by
    apply UInt32.toNat_inj.mp
    rw [UInt32.toNat_and, UInt32.toNat_ofNat', UInt32.toNat_ofNat', UInt32.toNat_ofNat', Nat.and_mod_two_pow]
  show (⟨UInt32.ofNat a &&& UInt32.ofNat b⟩ : Int32) = ⟨UInt32.ofNat (a &&& b)⟩
  rw [e]
/-- an int's place in the order, from 0 on -/
def sy_k (x : Int32) : Nat := (x.toInt + 2147483648).toNat
def sy_kl (x : Int64) : Nat := (x.toInt + 9223372036854775808).toNat
theorem sy_k_lt {x y : Int32} : x < y ↔ sy_k x < sy_k y := by
  have h1 := Int32.le_toInt x
  have h2 := Int32.le_toInt y
  rw [Int32.lt_iff_toInt_lt]
  unfold sy_k
  omega
theorem sy_k_le {x y : Int32} : x ≤ y ↔ sy_k x ≤ sy_k y := by
  have h1 := Int32.le_toInt x
  have h2 := Int32.le_toInt y
  rw [Int32.le_iff_toInt_le]
  unfold sy_k
  omega
theorem sy_k_eq {x y : Int32} : x = y ↔ sy_k x = sy_k y := by
  have h1 := Int32.le_toInt x
  have h2 := Int32.le_toInt y
  rw [← Int32.toInt_inj]
  unfold sy_k
  omega
theorem sy_kl_lt {x y : Int64} : x < y ↔ sy_kl x < sy_kl y := by
  have h1 := Int64.le_toInt x
  have h2 := Int64.le_toInt y
  rw [Int64.lt_iff_toInt_lt]
  unfold sy_kl
  omega
theorem sy_k_nI (n : Nat) : sy_k (nI n) = (n + 2147483648) % 4294967296 := by
  unfold sy_k nI
  rw [Int32.toInt_ofNat', Int.bmod_def]
  have e : (Int32.size : Int) = 4294967296 := rfl
  rw [e]
  split <;> omega
theorem sy_kl_lN (n : Nat) : sy_kl (lN n) = (n + 9223372036854775808) % 18446744073709551616 := by
  unfold sy_kl lN
  rw [Int64.toInt_ofNat', Int.bmod_def]
  have e : (Int64.size : Int) = 18446744073709551616 := rfl
  rw [e]
  split <;> omega
theorem sy_kl_of (x : Int32) : sy_kl x.toInt64 = sy_k x + 9223372034707292160 := by
  have h1 := Int32.le_toInt x
  unfold sy_kl sy_k
  rw [Int32.toInt_toInt64]
  omega
theorem sy_k_max (x : Int32) : sy_k x ≤ 4294967295 := by
  have h1 := Int32.toInt_lt x
  unfold sy_k
  omega
theorem sy_kl_max (x : Int64) : sy_kl x ≤ 18446744073709551615 := by
  have h1 := Int64.toInt_lt x
  unfold sy_kl
  omega
theorem sy_i2l_eq (n : Nat) : (nI n).toInt64 = lN (if 2147483648 ≤ n % 4294967296 then n % 4294967296 + 18446744069414584320 else n % 4294967296) := by
  apply Int64.toInt_inj.mp
  rw [Int32.toInt_toInt64]
  unfold nI lN
  rw [Int32.toInt_ofNat', Int64.toInt_ofNat', Int.bmod_def, Int.bmod_def]
  have e : (Int32.size : Int) = 4294967296 := rfl
  have e2 : (Int64.size : Int) = 18446744073709551616 := rfl
  rw [e, e2]
  split <;> split <;> split <;> omega
theorem sy_l2i_eq (n : Nat) : (lN n).toInt32 = nI (n % 4294967296) := by
  rw [lN_i, nI_mod]
end SYC
end
section
/-! the state that abstract values stand for, and the operations that leave the heap as it is -/
section SYO
theorem Int32_not_lt {x y : Int32} : ¬ x < y ↔ y ≤ x := by
  rw [sy_k_lt, sy_k_le]
  omega
def sy_LP (w : sy_Wd) (ρ : Nat → Nat) (nL n L : Nat) (ls : Array Slot) : Prop := ls.size = nL ∧ lv_wf ls ∧ ∀ i v, sy_rd L i = v + 1 → ls[i]? = some (.val (sy_v w ρ v)) ∧ sy_wfV n v
def sy_SP (w : sy_Wd) (ρ : Nat → Nat) (n : Nat) (st : List Nat) (stC : List Value) : Prop := stC = st.map (sy_v w ρ) ∧ ∀ v ∈ st, sy_wfV n v
def sy_HP (w : sy_Wd) (A : Nat → Prop) (H0 : Heap) (ρ : Nat → Nat) (h : sy_H) (H : Heap) (locs : List Loc) : Prop := va_P w.1 sy_cl (sy_ws w ρ h) H ∧ va_D A (sy_ws w ρ h) ∧ va_S A H0 H locs ∧ sy_wfH h
theorem sy_LP.ag {w : sy_Wd} {ρ ρ' : Nat → Nat} {nL n n' L : Nat} {ls : Array Slot} (h : sy_LP w ρ nL n L ls) (ha : sy_ag n ρ ρ') (hn : n ≤ n') : sy_LP w ρ' nL n' L ls :=
  ⟨h.1, h.2.1, fun i v hv => by
    obtain ⟨h1, h2⟩ := h.2.2 i v hv
    exact ⟨by rw [h1, sy_v_ag h2 ha], h2.mono hn⟩⟩
theorem sy_SP.ag {w : sy_Wd} {ρ ρ' : Nat → Nat} {n n' : Nat} {st : List Nat} {stC : List Value} (h : sy_SP w ρ n st stC) (ha : sy_ag n ρ ρ') (hn : n ≤ n') : sy_SP w ρ' n' st stC :=
  ⟨by rw [h.1]; exact List.map_congr_left fun v hv => (sy_v_ag (h.2 v hv) ha).symm, fun v hv => (h.2 v hv).mono hn⟩
/-- the machine's own locals, listed -/
def sy_held (w : sy_Wd) (ρ : Nat → Nat) (nL L : Nat) : List (Nat × Value) := (List.range nL).filterMap fun i => if sy_rd L i = 0 then none else some (i, sy_v w ρ (sy_rd L i - 1))
theorem sy_held_mem {w : sy_Wd} {ρ : Nat → Nat} {nL L i v : Nat} (hi : i < nL) (h : sy_rd L i = v + 1) : (i, sy_v w ρ v) ∈ sy_held w ρ nL L := by
  apply List.mem_filterMap.mpr
  refine ⟨i, List.mem_range.mpr hi, ?_⟩
  rw [if_neg (by omega), h]
  rfl
theorem sy_held_has {w : sy_Wd} {ρ : Nat → Nat} {nL n L : Nat} {ls : Array Slot} (h : sy_LP w ρ nL n L ls) : lv_has ls nL (sy_held w ρ nL L) := by
  refine ⟨h.1, h.2.1, fun q hq => ?_⟩
  obtain ⟨i, -, hi⟩ := List.mem_filterMap.mp hq
  split at hi
  · cases hi
  next h0 =>
    cases hi
    exact (h.2.2 i (sy_rd L i - 1) (by omega)).1
theorem sy_LP_lt {w : sy_Wd} {ρ : Nat → Nat} {nL n L : Nat} {ls : Array Slot} (h : sy_LP w ρ nL n L ls) {i v : Nat} (hv : sy_rd L i = v + 1) : i < nL := by
  have h1 := (h.2.2 i v hv).1
  rw [← h.1]
  exact lv_lt h1
theorem sy_LP_of {w : sy_Wd} {ρ : Nat → Nat} {nL n L' : Nat} {ls' : Array Slot} {lv : List (Nat × Value)} (h : lv_has ls' nL lv) (hm : ∀ i v, sy_rd L' i = v + 1 → (i, sy_v w ρ v) ∈ lv ∧ sy_wfV n v) : sy_LP w ρ nL n L' ls' :=
  ⟨h.1, h.2.1, fun i v hv => ⟨h.2.2 _ (hm i v hv).1, (hm i v hv).2⟩⟩
theorem sy_rd_clr {L i j u : Nat} (h : sy_rd (sy_clr L i) j = u + 1) : sy_rd L j = u + 1 ∧ ¬ (j + 1 = i ∧ sy_ct u = 2) := by
  cases i with
  | zero => exact ⟨h, fun q => Nat.succ_ne_zero _ q.1⟩
  | succ k =>
    have h : sy_rd (Nat.rec (motive := fun _ => Nat) L (fun v _ => cond (Nat.beq (sy_ct v) 2) (sy_wr L k 0) L) (sy_rd L k)) j = u + 1 := h
    cases hk : sy_rd L k with
    | zero =>
      rw [hk] at h
      have h : sy_rd L j = u + 1 := h
      refine ⟨h, fun q => ?_⟩
      have : j = k := by omega
      subst this
      omega
    | succ v =>
      rw [hk] at h
      have h : sy_rd (cond (Nat.beq (sy_ct v) 2) (sy_wr L k 0) L) j = u + 1 := h
      cases hc : Nat.beq (sy_ct v) 2 with
      | true =>
        rw [hc] at h
        have h : sy_rd (sy_wr L k 0) j = u + 1 := h
        rw [sy_rd_wr _ _ _ _ (by decide)] at h
        by_cases hj : k = j
        · rw [if_pos hj] at h
          cases h
        · rw [if_neg hj] at h
          exact ⟨h, fun q => hj (by omega)⟩
      | false =>
        rw [hc] at h
        have h : sy_rd L j = u + 1 := h
        refine ⟨h, fun q => ?_⟩
        have : j = k := by omega
        subst this
        have e : v = u := by omega
        subst e
        rw [q.2] at hc
        cases hc
theorem sy_LP_sto {w : sy_Wd} {ρ : Nat → Nat} {nL n L i v : Nat} {ls ls' : Array Slot} (h : sy_LP w ρ nL n L ls) (hv : sy_wfV n v)
    (h' : lv_has ls' nL ((i, sy_v w ρ v) :: (sy_held w ρ nL L).filter (fun q => !(q.1 == i) && !(q.1 + 1 == i && q.2.category == 2)))) : sy_LP w ρ nL n (sy_sto L i v) ls' := by
  refine sy_LP_of h' fun j u hu => ?_
  have hu : sy_rd (sy_wr (sy_clr L i) i (Nat.succ v)) j = u + 1 := hu
  rw [sy_rd_wr _ _ _ _ (by have := hv.1; show v + 1 < _; omega)] at hu
  by_cases hij : i = j
  · subst hij
    rw [if_pos rfl] at hu
    have e : v = u := by omega
    subst e
    exact ⟨List.mem_cons_self, hv⟩
  · rw [if_neg hij] at hu
    obtain ⟨hu, hn⟩ := sy_rd_clr hu
    · have hw := (h.2.2 j u hu)
      refine ⟨List.mem_cons_of_mem _ (List.mem_filter.mpr ⟨sy_held_mem (sy_LP_lt h hu) hu, ?_⟩), hw.2⟩
      have h1 : (j == i) = false := by simpa using fun q => hij q.symm
      have h2 : (j + 1 == i && (sy_v w ρ u).category == 2) = false := by
        rw [sy_ct_cat']
        by_cases hj : j + 1 = i
        · have h3 : ¬ sy_ct u = 2 := fun q => hn ⟨hj, q⟩
          simp [h3]
        · simp [hj]
      show (!(j == i) && !(j + 1 == i && (sy_v w ρ u).category == 2)) = true
      rw [h1, h2]
      rfl
theorem sy_LP_sto2 {w : sy_Wd} {ρ : Nat → Nat} {nL n L i v : Nat} {ls ls' : Array Slot} (h : sy_LP w ρ nL n L ls) (hv : sy_wfV n v)
    (h' : lv_has ls' nL ((i, sy_v w ρ v) :: (sy_held w ρ nL L).filter (fun q => !(q.1 == i) && (!(q.1 == i + 1) && !(q.1 + 1 == i && q.2.category == 2))))) : sy_LP w ρ nL n (sy_sto2 L i v) ls' := by
  refine sy_LP_of h' fun j u hu => ?_
  have hu : sy_rd (sy_wr (sy_wr (sy_clr L i) i (Nat.succ v)) (Nat.succ i) 0) j = u + 1 := hu
  rw [sy_rd_wr _ _ _ _ (by decide)] at hu
  by_cases hij1 : Nat.succ i = j
  · rw [if_pos hij1] at hu
    omega
  rw [if_neg hij1, sy_rd_wr _ _ _ _ (by have := hv.1; show v + 1 < _; omega)] at hu
  by_cases hij : i = j
  · subst hij
    rw [if_pos rfl] at hu
    have e : v = u := by omega
    subst e
    exact ⟨List.mem_cons_self, hv⟩
  · rw [if_neg hij] at hu
    obtain ⟨hu, hn⟩ := sy_rd_clr hu
    · have hw := (h.2.2 j u hu)
      refine ⟨List.mem_cons_of_mem _ (List.mem_filter.mpr ⟨sy_held_mem (sy_LP_lt h hu) hu, ?_⟩), hw.2⟩
      have h1 : (j == i) = false := by simpa using fun q => hij q.symm
      have h3 : (j == i + 1) = false := by simpa using fun q => hij1 q.symm
      have h2 : (j + 1 == i && (sy_v w ρ u).category == 2) = false := by
        rw [sy_ct_cat']
        by_cases hj : j + 1 = i
        · have h3 : ¬ sy_ct u = 2 := fun q => hn ⟨hj, q⟩
          simp [h3]
        · simp [hj]
      show (!(j == i) && (!(j == i + 1) && !(j + 1 == i && (sy_v w ρ u).category == 2))) = true
      rw [h1, h2, h3]
      rfl
/-- what is told of the script is true -/
def sy_TK (tk : sy_T) (τ : Nat → Int32) : Prop := ∀ k, ((sy_tok tk k).1 = 0 → (sy_tok tk k).2.1 ≤ sy_k (τ k) ∧ sy_k (τ k) ≤ (sy_tok tk k).2.2) ∧ ((sy_tok tk k).1 = 1 → (sy_tok tk k).2.1 ≤ sy_k (sy_ch (τ k)) ∧ sy_k (sy_ch (τ k)) ≤ (sy_tok tk k).2.2) ∧ ((sy_tok tk k).1 = 2 → τ k &&& 63 = nI (sy_tok tk k).2.1 ∧ (sy_tok tk k).2.1 < 64)
theorem sy_ch_k (x : Int32) : 2147483648 ≤ sy_k (sy_ch x) ∧ sy_k (sy_ch x) ≤ 2147549183 := by
  have e : sy_ch x = nI ((x.toUInt32 % 65536).toNat) := by
    show (⟨x.toUInt32 % 65536⟩ : Int32) = ⟨UInt32.ofNat (x.toUInt32 % 65536).toNat⟩
    rw [UInt32.ofNat_toNat]
  have h : (x.toUInt32 % 65536).toNat < 65536 := by
    rw [UInt32.toNat_mod]
    exact Nat.mod_lt _ (by decide)
  rw [e, sy_k_nI]
  omega
theorem sy_iv_i {w : sy_Wd} {ρ : Nat → Nat} {tk : sy_T} (hT : sy_TK tk w.2.2.1) {v : Nat} {x : Int32} (h : sy_v w ρ v = .int x) : (sy_iv tk v).1 ≤ sy_k x ∧ sy_k x ≤ (sy_iv tk v).2 := by
  have ht : sy_tg v = 0 ∨ sy_tg v = 6 ∨ sy_tg v = 8 := by
    unfold sy_v at h
    split at h <;> first | (next e => exact Or.inl e) | (next e => exact Or.inr (Or.inl e)) | (next e => exact Or.inr (Or.inr e)) | cases h
  unfold sy_iv
  rcases ht with e | e | e
  · rw [sy_v0 e] at h
    cases h
    rw [e, sy_k_nI]
    exact ⟨Nat.le_refl _, Nat.le_refl _⟩
  · rw [sy_v6 e] at h
    cases h
    rw [e]
    show (cond (Nat.beq (sy_tok tk (sy_py v)).1 0) (sy_tok tk (sy_py v)).2 (0, 4294967295)).1 ≤ _ ∧ _ ≤ (cond (Nat.beq (sy_tok tk (sy_py v)).1 0) (sy_tok tk (sy_py v)).2 (0, 4294967295)).2
    cases hc : Nat.beq (sy_tok tk (sy_py v)).1 0 with
    | true => exact (hT (sy_py v)).1 (sy_beq hc)
    | false => exact ⟨Nat.zero_le _, sy_k_max _⟩
  · rw [sy_v8 e] at h
    cases h
    rw [e]
    show (cond (Nat.beq (sy_tok tk (sy_py v)).1 1) (sy_tok tk (sy_py v)).2 (2147483648, 2147549183)).1 ≤ _ ∧ _ ≤ (cond (Nat.beq (sy_tok tk (sy_py v)).1 1) (sy_tok tk (sy_py v)).2 (2147483648, 2147549183)).2
    cases hc : Nat.beq (sy_tok tk (sy_py v)).1 1 with
    | true => exact (hT (sy_py v)).2.1 (sy_beq hc)
    | false => exact sy_ch_k _
theorem sy_iv_l {w : sy_Wd} {ρ : Nat → Nat} {tk : sy_T} (hT : sy_TK tk w.2.2.1) {v : Nat} {x : Int64} (h : sy_v w ρ v = .long x) : (sy_iv tk v).1 ≤ sy_kl x ∧ sy_kl x ≤ (sy_iv tk v).2 := by
  have ht : sy_tg v = 1 ∨ sy_tg v = 7 := by
    unfold sy_v at h
    split at h <;> first | (next e => exact Or.inl e) | (next e => exact Or.inr e) | cases h
  unfold sy_iv
  rcases ht with e | e
  · rw [sy_v1 e] at h
    cases h
    rw [e, sy_kl_lN]
    exact ⟨Nat.le_refl _, Nat.le_refl _⟩
  · rw [sy_v7 e] at h
    cases h
    rw [e, sy_kl_of]
    have hm := sy_k_max (w.2.2.1 (sy_py v))
    show (cond (Nat.beq (sy_tok tk (sy_py v)).1 0) (Nat.add (sy_tok tk (sy_py v)).2.1 9223372034707292160, Nat.add (sy_tok tk (sy_py v)).2.2 9223372034707292160) (9223372034707292160, 9223372039002259455)).1 ≤ _ ∧ _ ≤ (cond (Nat.beq (sy_tok tk (sy_py v)).1 0) (Nat.add (sy_tok tk (sy_py v)).2.1 9223372034707292160, Nat.add (sy_tok tk (sy_py v)).2.2 9223372034707292160) (9223372034707292160, 9223372039002259455)).2
    cases hc : Nat.beq (sy_tok tk (sy_py v)).1 0 with
    | true =>
      have := (hT (sy_py v)).1 (sy_beq hc)
      show (sy_tok tk (sy_py v)).2.1 + 9223372034707292160 ≤ _ ∧ _ ≤ (sy_tok tk (sy_py v)).2.2 + 9223372034707292160
      omega
    | false =>
      show 9223372034707292160 ≤ _ ∧ _ ≤ 9223372039002259455
      omega
theorem sy_unk_ge (a b pa pb : Nat) : 2 ≤ sy_unk a b pa pb := by
  unfold sy_unk
  cases Nat.ble 6 (sy_tg a) with
  | true => exact Nat.le_add_right 2 _
  | false => exact Nat.le_add_right 2 _
theorem sy_lt_ok {tk : sy_T} {a b : Nat} {x y : Nat} (h1 : (sy_iv tk a).1 ≤ x ∧ x ≤ (sy_iv tk a).2) (h2 : (sy_iv tk b).1 ≤ y ∧ y ≤ (sy_iv tk b).2) : (sy_lt tk a b = 1 → x < y) ∧ (sy_lt tk a b = 0 → ¬ x < y) := by
  unfold sy_lt
  cases hc : Nat.ble (Nat.succ (sy_iv tk a).2) (sy_iv tk b).1 with
  | true =>
    have := sy_ble hc
    exact ⟨fun _ => (by omega), fun h => by cases h⟩
  | false =>
    cases hd : Nat.ble (sy_iv tk b).2 (sy_iv tk a).1 with
    | true =>
      have := sy_ble hd
      exact ⟨fun h => (by cases h), fun _ => by omega⟩
    | false =>
      have hu := sy_unk_ge a b (sy_iv tk b).1 (Nat.succ (sy_iv tk a).1)
      exact ⟨fun h => (by have h : sy_unk a b _ _ = 1 := h; omega), fun h => by have h : sy_unk a b _ _ = 0 := h; omega⟩
theorem sy_eq_ok {tk : sy_T} {a b : Nat} {x y : Nat} (h1 : (sy_iv tk a).1 ≤ x ∧ x ≤ (sy_iv tk a).2) (h2 : (sy_iv tk b).1 ≤ y ∧ y ≤ (sy_iv tk b).2) : (sy_eq tk a b = 1 → x = y) ∧ (sy_eq tk a b = 0 → ¬ x = y) := by
  unfold sy_eq
  cases hc : Nat.ble (Nat.succ (sy_iv tk a).2) (sy_iv tk b).1 with
  | true =>
    have := sy_ble hc
    exact ⟨fun h => (by cases h), fun _ => by omega⟩
  | false =>
    cases hd : Nat.ble (Nat.succ (sy_iv tk b).2) (sy_iv tk a).1 with
    | true =>
      have := sy_ble hd
      exact ⟨fun h => (by cases h), fun _ => by omega⟩
    | false =>
      cases he : cond (Nat.beq (sy_iv tk a).1 (sy_iv tk a).2) (cond (Nat.beq (sy_iv tk b).1 (sy_iv tk b).2) (Nat.beq (sy_iv tk a).1 (sy_iv tk b).1) false) false with
      | true =>
        obtain ⟨e1, e2⟩ := sy_and he
        obtain ⟨e2, e3⟩ := sy_and e2
        have := sy_beq e1
        have := sy_beq e2
        have := sy_beq e3
        exact ⟨fun _ => (by omega), fun h => by cases h⟩
      | false =>
        cases hf : Nat.ble 6 (sy_tg a) with
        | true =>
          have hu := sy_unk_ge a b (cond (Nat.ble (sy_iv tk b).1 (sy_iv tk a).1) (Nat.succ (sy_iv tk a).1) (sy_iv tk b).1) 0
          exact ⟨fun h => (by have h : sy_unk a b _ _ = 1 := h; omega), fun h => by have h : sy_unk a b _ _ = 0 := h; omega⟩
        | false =>
          have hu := sy_unk_ge a b 0 (cond (Nat.ble (sy_iv tk a).1 (sy_iv tk b).1) (Nat.succ (sy_iv tk b).1) (sy_iv tk a).1)
          exact ⟨fun h => (by have h : sy_unk a b _ _ = 1 := h; omega), fun h => by have h : sy_unk a b _ _ = 0 := h; omega⟩
theorem sy_fork_inv {r : Nat} {yes no Y : sy_X} (h : sy_fork r yes no = Y) (hk : Y.1 ≠ 0) : (r = 1 ∧ yes = Y) ∨ (r = 0 ∧ no = Y) := by
  match r, h with
  | 0, h => exact Or.inr ⟨rfl, h⟩
  | 1, h => exact Or.inl ⟨rfl, h⟩
  | n + 2, h => exact absurd (by rw [← h]; rfl) hk
/-- an operation's worth: where it goes on, the machine goes on -/
def sy_OK (p : Program) (l : Launch) (e : Env) (R : Room) (s : State) (m : MethodId) (args : Array Value) (below : List Frame) (meth : Method) (c : Code) (Q : State → Prop) (w : sy_Wd) (A : Nat → Prop) (nL pc npc tpc : Nat) (f : Nat → List Nat → sy_H → Nat → Nat → sy_X) : Prop :=
  ∀ (L : Nat) (st : List Nat) (h : sy_H) (cells slots : Nat) (Y : sy_X), f L st h cells slots = Y → (Y.1 = 1 ∨ Y.1 = 2) → Y.2.2.2.2.2.1 ≤ R.cells → Y.2.2.2.2.2.2 ≤ R.slots →
  ∀ (ρ : Nat → Nat) (H : Heap) (locs : List Loc) (ls : Array Slot) (stC : List Value), sy_HP w A s.heap ρ h H locs → sy_LP w ρ nL h.1 L ls → sy_SP w ρ h.1 st stC →
  (∀ (ρ' : Nat → Nat) (H' : Heap) (locs' : List Loc) (ls' : Array Slot) (stC' : List Value), sy_ag h.1 ρ ρ' → h.1 ≤ Y.2.2.2.2.1.1 → sy_HP w A s.heap ρ' Y.2.2.2.2.1 H' locs' → sy_LP w ρ' nL Y.2.2.2.2.1.1 Y.2.2.1 ls' → sy_SP w ρ' Y.2.2.2.2.1.1 Y.2.2.2.1 stC' →
    W p l e R s m args below meth c H' locs' Y.2.2.2.2.2.1 Y.2.2.2.2.2.2 Q (F0 m (if Y.1 = 1 then npc else tpc) ls' stC')) →
  W p l e R s m args below meth c H locs cells slots Q (F0 m pc ls stC)
variable {p : Program} {l : Launch} {e : Env} {R : Room} {s : State} {m : MethodId} {args : Array Value} {below : List Frame} {meth : Method} {c : Code} {Q : State → Prop} {w : sy_Wd} {A : Nat → Prop} {nL pc npc tpc : Nat} {tk : sy_T}
/-- the machine's step from pc to pc', the stack changed so -/
def sy_ST (p : Program) (l : Launch) (e : Env) (R : Room) (s : State) (m : MethodId) (args : Array Value) (below : List Frame) (meth : Method) (c : Code) (Q : State → Prop) (pc npc : Nat) (ls : Array Slot) (now next : List Value) : Prop :=
  ∀ (H : Heap) (locs : List Loc) (cells slots : Nat), W p l e R s m args below meth c H locs cells slots Q (F0 m npc ls next) → W p l e R s m args below meth c H locs cells slots Q (F0 m pc ls now)
theorem sy_SPc {ρ : Nat → Nat} {n v : Nat} {r : List Nat} {stC : List Value} (h : sy_SP w ρ n (v :: r) stC) : stC = sy_v w ρ v :: r.map (sy_v w ρ) ∧ sy_wfV n v ∧ ∀ u ∈ r, sy_wfV n u :=
  ⟨h.1, h.2 v List.mem_cons_self, fun u hu => h.2 u (List.mem_cons_of_mem _ hu)⟩
theorem sy_SPm {ρ : Nat → Nat} {n v : Nat} {r : List Nat} (hv : sy_wfV n v) (hr : ∀ u ∈ r, sy_wfV n u) : sy_SP w ρ n (v :: r) (sy_v w ρ v :: r.map (sy_v w ρ)) :=
  ⟨rfl, fun u hu => (List.mem_cons.mp hu).elim (fun e => e ▸ hv) (fun hu => hr u hu)⟩
theorem sy_ok_push {x y : Nat} (hx : ∀ n, sy_wfV n x) (hs : ∀ (ρ : Nat → Nat) (ls : Array Slot) (st : List Value), sy_ST p l e R s m args below meth c Q pc npc ls st (sy_v w ρ x :: st)) : sy_OK p l e R s m args below meth c Q w A nL pc npc tpc (sy_push tk x y) := by
  intro L st h cells slots Y hY hk hc hsl ρ H locs ls stC hH hL hS kk
  subst hY
  have hS1 := hS.1
  subst hS1
  exact hs ρ ls _ _ _ _ _ (kk ρ H locs ls _ sy_ag.rf (Nat.le_refl _) hH hL (sy_SPm (hx _) hS.2))
theorem sy_ok_load {ty x y : Nat} (hs : ∀ (ρ : Nat → Nat) (ls : Array Slot) (st : List Value) (v : Nat), sy_ty v = ty → ls[x]? = some (.val (sy_v w ρ v)) → sy_ST p l e R s m args below meth c Q pc npc ls st (sy_v w ρ v :: st)) : sy_OK p l e R s m args below meth c Q w A nL pc npc tpc (sy_load ty tk x y) := by
  intro L st h cells slots Y hY hk hc hsl ρ H locs ls stC hH hL hS kk
  have hk0 : Y.1 ≠ 0 := by omega
  have hY : Nat.rec (motive := fun _ => sy_X) (sy_no 0) (fun v _ => sy_if (Nat.beq (sy_ty v) ty) (sy_go L (v :: st) h cells slots)) (sy_rd L x) = Y := hY
  cases hr : sy_rd L x with
  | zero =>
    rw [hr] at hY
    exact absurd (by rw [← hY]; rfl) hk0
  | succ v =>
    rw [hr] at hY
    obtain ⟨h1, h2⟩ := sy_if_inv hY hk0
    subst h2
    obtain ⟨h3, h4⟩ := hL.2.2 x v hr
    have hS1 := hS.1
    subst hS1
    exact hs ρ ls _ v (sy_beq h1) h3 _ _ _ _ (kk ρ H locs ls _ sy_ag.rf (Nat.le_refl _) hH hL (sy_SPm h4 hS.2))
theorem sy_ok_stor {ty x y : Nat} (hs : ∀ (ρ : Nat → Nat) (H : Heap) (locs : List Loc) (cells slots : Nat) (ls : Array Slot) (st : List Value) (v : Nat) (lv : List (Nat × Value)), sy_ty v = ty → lv_has ls nL lv →
      (∀ ls' : Array Slot, lv_has ls' nL ((x, sy_v w ρ v) :: lv.filter (fun q => !(q.1 == x) && !(q.1 + 1 == x && q.2.category == 2))) → W p l e R s m args below meth c H locs cells slots Q (F0 m npc ls' st)) → W p l e R s m args below meth c H locs cells slots Q (F0 m pc ls (sy_v w ρ v :: st))) :
    sy_OK p l e R s m args below meth c Q w A nL pc npc tpc (sy_stor ty tk x y) := by
  intro L st h cells slots Y hY hk hc hsl ρ H locs ls stC hH hL hS kk
  have hk0 : Y.1 ≠ 0 := by omega
  obtain ⟨v, r, e1, q1⟩ := sy_p1_inv hY hk0
  subst e1
  obtain ⟨h1, h2⟩ := sy_if_inv q1 hk0
  rw [sy_force_eq] at h2
  subst h2
  obtain ⟨hS1, hv, hr⟩ := sy_SPc hS
  subst hS1
  exact hs ρ H locs cells slots ls _ v _ (sy_beq h1) (sy_held_has hL) fun ls' h' => kk ρ H locs ls' _ sy_ag.rf (Nat.le_refl _) hH (sy_LP_sto hL hv h') ⟨rfl, hr⟩
theorem sy_ok_stor2 {ty x y : Nat} (hs : ∀ (ρ : Nat → Nat) (H : Heap) (locs : List Loc) (cells slots : Nat) (ls : Array Slot) (st : List Value) (v : Nat) (lv : List (Nat × Value)), sy_ty v = ty → lv_has ls nL lv →
      (∀ ls' : Array Slot, lv_has ls' nL ((x, sy_v w ρ v) :: lv.filter (fun q => !(q.1 == x) && (!(q.1 == x + 1) && !(q.1 + 1 == x && q.2.category == 2)))) → W p l e R s m args below meth c H locs cells slots Q (F0 m npc ls' st)) → W p l e R s m args below meth c H locs cells slots Q (F0 m pc ls (sy_v w ρ v :: st))) :
    sy_OK p l e R s m args below meth c Q w A nL pc npc tpc (sy_stor2 ty tk x y) := by
  intro L st h cells slots Y hY hk hc hsl ρ H locs ls stC hH hL hS kk
  have hk0 : Y.1 ≠ 0 := by omega
  obtain ⟨v, r, e1, q1⟩ := sy_p1_inv hY hk0
  subst e1
  obtain ⟨h1, h2⟩ := sy_if_inv q1 hk0
  rw [sy_force_eq] at h2
  subst h2
  obtain ⟨hS1, hv, hr⟩ := sy_SPc hS
  subst hS1
  exact hs ρ H locs cells slots ls _ v _ (sy_beq h1) (sy_held_has hL) fun ls' h' => kk ρ H locs ls' _ sy_ag.rf (Nat.le_refl _) hH (sy_LP_sto2 hL hv h') ⟨rfl, hr⟩
theorem sy_ok_iinc {x y : Nat} (hs : ∀ (ρ : Nat → Nat) (H : Heap) (locs : List Loc) (cells slots : Nat) (ls : Array Slot) (st : List Value) (v z : Nat) (lv : List (Nat × Value)), lv_has ls nL lv → (x, Value.int (nI v)) ∈ lv → x < nL → z = (v + (y + 4294934528)) % 4294967296 →
      (∀ ls' : Array Slot, lv_has ls' nL ((x, Value.int (nI z)) :: lv.filter (fun q => !(q.1 == x) && !(q.1 + 1 == x && q.2.category == 2))) → W p l e R s m args below meth c H locs cells slots Q (F0 m npc ls' st)) → W p l e R s m args below meth c H locs cells slots Q (F0 m pc ls st)) :
    sy_OK p l e R s m args below meth c Q w A nL pc npc tpc (sy_iinc tk x y) := by
  intro L st h cells slots Y hY hk hc hsl ρ H locs ls stC hH hL hS kk
  have hk0 : Y.1 ≠ 0 := by omega
  have hY : Nat.rec (motive := fun _ => sy_X) (sy_no 0) (fun v _ => sy_if (Nat.beq (sy_tg v) 0) (sy_force (sy_sto L x (sy_pk 0 (Nat.mod (Nat.add (sy_py v) (Nat.add y 4294934528)) 4294967296))) fun L => sy_go L st h cells slots)) (sy_rd L x) = Y := hY
  cases hr : sy_rd L x with
  | zero =>
    rw [hr] at hY
    exact absurd (by rw [← hY]; rfl) hk0
  | succ v =>
    rw [hr] at hY
    obtain ⟨h1, h2⟩ := sy_if_inv hY hk0
    rw [sy_force_eq] at h2
    subst h2
    have h0 := sy_beq h1
    have hS1 := hS.1
    subst hS1
    have hm := sy_held_mem (w := w) (ρ := ρ) (sy_LP_lt hL hr) hr
    rw [sy_v0 h0] at hm
    refine hs ρ H locs cells slots ls _ (sy_py v) _ _ (sy_held_has hL) hm (sy_LP_lt hL hr) rfl fun ls' h' => kk ρ H locs ls' _ sy_ag.rf (Nat.le_refl _) hH ?_ hS
    refine sy_LP_sto hL (sy_wfV_pk (by decide) (fun q => by cases q) (Nat.lt_trans (Nat.mod_lt _ (by decide)) (by decide))) ?_
    rw [sy_v0 (sy_tg_pk (by decide)), sy_py_pk (by decide)]
    exact h'
/-- two operands, one result -/
theorem sy_ok_bin {t x y : Nat} {f : Nat → Nat → Nat} (ht : t < 5) (hf : ∀ a b, f a b < 2 ^ 66) (hs : ∀ (ρ : Nat → Nat) (ls : Array Slot) (st : List Value) (a b : Nat), sy_tg a = t → sy_tg b = t → sy_py b < 2 ^ 67 → sy_ST p l e R s m args below meth c Q pc npc ls (sy_v w ρ b :: sy_v w ρ a :: st) (sy_v w ρ (sy_pk t (f (sy_py a) (sy_py b))) :: st)) :
    sy_OK p l e R s m args below meth c Q w A nL pc npc tpc (sy_bin t f tk x y) := by
  intro L st h cells slots Y hY hk hc hsl ρ H locs ls stC hH hL hS kk
  have hk0 : Y.1 ≠ 0 := by omega
  obtain ⟨b, r, e1, q1⟩ := sy_p1_inv hY hk0
  obtain ⟨a, r, e2, q2⟩ := sy_p1_inv q1 hk0
  subst e2
  subst e1
  obtain ⟨h1, h2⟩ := sy_if_inv q2 hk0
  rw [sy_force_eq] at h2
  subst h2
  obtain ⟨h1, h3⟩ := sy_and h1
  obtain ⟨hS1, hvb, hr⟩ := sy_SPc hS
  have hva := hr a List.mem_cons_self
  subst hS1
  refine hs ρ ls _ a b (sy_beq h1) (sy_beq h3) ?_ _ _ _ _ (kk ρ H locs ls _ sy_ag.rf (Nat.le_refl _) hH hL (sy_SPm (sy_wfV_pk (by omega) (fun q => absurd q (by omega)) (hf _ _)) fun u hu => hr u (List.mem_cons_of_mem _ hu)))
  have := hvb.1
  show b / 16 < _
  omega
end SYO
end
section
/-! comparisons, conversions, references -/
section SYO2
variable {p : Program} {l : Launch} {e : Env} {R : Room} {s : State} {m : MethodId} {args : Array Value} {below : List Frame} {meth : Method} {c : Code} {Q : State → Prop} {w : sy_Wd} {A : Nat → Prop} {nL pc npc tpc : Nat} {tk : sy_T}
theorem sy_p2_inv {st : List Nat} {f : Nat → Nat → List Nat → sy_X} {Y : sy_X} (h : (sy_p1 st fun b r => sy_p1 r fun a r => f a b r) = Y) (hk : Y.1 ≠ 0) : ∃ a b r, st = b :: a :: r ∧ f a b r = Y := by
  obtain ⟨b, r, e1, q1⟩ := sy_p1_inv h hk
  obtain ⟨a, r2, e2, q2⟩ := sy_p1_inv q1 hk
  subst e2
  exact ⟨a, b, r2, e1, q2⟩
theorem sy_SPc2 {ρ : Nat → Nat} {n a b : Nat} {r : List Nat} {stC : List Value} (h : sy_SP w ρ n (b :: a :: r) stC) : stC = sy_v w ρ b :: sy_v w ρ a :: r.map (sy_v w ρ) ∧ sy_wfV n b ∧ sy_wfV n a ∧ ∀ u ∈ r, sy_wfV n u :=
  ⟨h.1, h.2 b List.mem_cons_self, h.2 a (List.mem_cons_of_mem _ List.mem_cons_self), fun u hu => h.2 u (List.mem_cons_of_mem _ (List.mem_cons_of_mem _ hu))⟩
theorem sy_py_lt {n v : Nat} (h : sy_wfV n v) : sy_py v < 2 ^ 67 := by
  have := h.1
  show v / 16 < _
  omega
theorem sy_ok_iand {x y : Nat} (hT : sy_TK tk w.2.2.1) (hs : ∀ (ls : Array Slot) (st : List Value) (a b : Int32), sy_ST p l e R s m args below meth c Q pc npc ls (.int b :: .int a :: st) (.int (a &&& b) :: st)) :
    sy_OK p l e R s m args below meth c Q w A nL pc npc tpc (sy_iand tk x y) := by
  intro L st h cells slots Y hY hk hc hsl ρ H locs ls stC hH hL hS kk
  have hk0 : Y.1 ≠ 0 := by omega
  obtain ⟨a, b, r, e1, q1⟩ := sy_p2_inv hY hk0
  subst e1
  obtain ⟨hS1, hvb, hva, hr⟩ := sy_SPc2 hS
  subst hS1
  rcases sy_cond_inv q1 with ⟨c1, q2⟩ | ⟨c1, q2⟩
  · obtain ⟨h1, h2⟩ := sy_if_inv q2 hk0
    rw [sy_force_eq] at h2
    subst h2
    have ha := sy_beq c1
    have hb := sy_beq h1
    have hw : sy_wfV h.1 (sy_pk 0 (Nat.land (sy_py a) (sy_py b))) := by
      refine ⟨?_, fun q => ?_⟩
      · have h1 := hva.1
        have h2 : Nat.land (sy_py a) (sy_py b) ≤ sy_py a := Nat.and_le_left
        have h3 : sy_py a = a / 16 := rfl
        show 16 * Nat.land (sy_py a) (sy_py b) + 0 < 2 ^ 71
        omega
      · rw [sy_tg_pk (by decide)] at q
        cases q
    have K := kk ρ H locs ls _ sy_ag.rf (Nat.le_refl _) hH hL (sy_SPm hw hr)
    rw [sy_v0 (sy_tg_pk (by decide)), sy_py_pk (by decide)] at K
    rw [sy_v0 ha, sy_v0 hb]
    refine hs ls _ _ _ _ _ _ _ ?_
    rw [sy_land]
    exact K
  · obtain ⟨h1, h2⟩ := sy_if_inv q2 hk0
    rw [sy_force_eq] at h2
    subst h2
    obtain ⟨h1, h3⟩ := sy_and h1
    obtain ⟨h3, h4⟩ := sy_and h3
    have ha := sy_beq h1
    have hb : b = 1008 := sy_beq h3
    subst hb
    obtain ⟨t1, t2⟩ := (hT (sy_py a)).2.2 (sy_beq h4)
    have hw : sy_wfV h.1 (sy_pk 0 (sy_tok tk (sy_py a)).2.1) := sy_wfV_pk (by decide) (fun q => by cases q) (by omega)
    have K := kk ρ H locs ls _ sy_ag.rf (Nat.le_refl _) hH hL (sy_SPm hw hr)
    rw [sy_v0 (sy_tg_pk (by decide)), sy_py_pk (by decide), ← t1] at K
    rw [sy_v6 ha, sy_v0 (v := 1008) rfl]
    exact hs ls _ _ _ _ _ _ _ K
theorem sy_ext (m : Nat) : cond (Nat.ble 2147483648 m) (Nat.add m 18446744069414584320) m = if 2147483648 ≤ m then m + 18446744069414584320 else m := by
  by_cases hm : 2147483648 ≤ m
  · rw [if_pos hm, Nat.ble_eq_true_of_le hm]
    rfl
  · rw [if_neg hm]
    cases hb : Nat.ble 2147483648 m with
    | true => exact absurd (Nat.le_of_ble_eq_true hb) hm
    | false => rfl
theorem sy_i2l_eq' (n : Nat) : (nI n).toInt64 = lN (if 2147483648 ≤ Nat.mod n 4294967296 then Nat.mod n 4294967296 + 18446744069414584320 else Nat.mod n 4294967296) := sy_i2l_eq n
theorem sy_ok_i2l {x y : Nat} (hs : ∀ (ls : Array Slot) (st : List Value) (a : Int32), sy_ST p l e R s m args below meth c Q pc npc ls (.int a :: st) (.long a.toInt64 :: st)) :
    sy_OK p l e R s m args below meth c Q w A nL pc npc tpc (sy_i2l tk x y) := by
  intro L st h cells slots Y hY hk hc hsl ρ H locs ls stC hH hL hS kk
  have hk0 : Y.1 ≠ 0 := by omega
  obtain ⟨a, r, e1, q1⟩ := sy_p1_inv hY hk0
  subst e1
  obtain ⟨hS1, hva, hr⟩ := sy_SPc hS
  subst hS1
  rcases sy_cond_inv q1 with ⟨c1, q2⟩ | ⟨c1, q2⟩
  · rw [sy_force_eq] at q2
    subst q2
    have ha := sy_beq c1
    have he := sy_ext (Nat.mod (sy_py a) 4294967296)
    have hm : Nat.mod (sy_py a) 4294967296 < 4294967296 := Nat.mod_lt _ (by decide)
    have hw : sy_wfV h.1 (sy_pk 1 (cond (Nat.ble 2147483648 (Nat.mod (sy_py a) 4294967296)) (Nat.add (Nat.mod (sy_py a) 4294967296) 18446744069414584320) (Nat.mod (sy_py a) 4294967296))) :=
      sy_wfV_pk (by decide) (fun q => by cases q) (by rw [he]; split <;> omega)
    have K := kk ρ H locs ls _ sy_ag.rf (Nat.le_refl _) hH hL (sy_SPm hw hr)
    rw [sy_v1 (sy_tg_pk (by decide)), sy_py_pk (by decide), he, ← sy_i2l_eq'] at K
    rw [sy_v0 ha]
    exact hs ls _ _ _ _ _ _ K
  · obtain ⟨h1, h2⟩ := sy_if_inv q2 hk0
    rw [sy_force_eq] at h2
    subst h2
    have ha : a % 16 = 6 := sy_beq h1
    have t7 : sy_tg (Nat.succ a) = 7 := by
      show (a + 1) % 16 = 7
      omega
    have p7 : sy_py (Nat.succ a) = sy_py a := by
      show (a + 1) / 16 = a / 16
      omega
    have hw : sy_wfV h.1 (Nat.succ a) := ⟨by have := hva.1; show a + 1 < 2 ^ 71; omega, fun q => by rw [t7] at q; cases q⟩
    have K := kk ρ H locs ls _ sy_ag.rf (Nat.le_refl _) hH hL (sy_SPm hw hr)
    rw [sy_v7 t7, p7] at K
    rw [sy_v6 ha]
    exact hs ls _ _ _ _ _ _ K
theorem sy_ok_l2i {x y : Nat} (hs : ∀ (ls : Array Slot) (st : List Value) (a : Int64), sy_ST p l e R s m args below meth c Q pc npc ls (.long a :: st) (.int a.toInt32 :: st)) :
    sy_OK p l e R s m args below meth c Q w A nL pc npc tpc (sy_l2i tk x y) := by
  intro L st h cells slots Y hY hk hc hsl ρ H locs ls stC hH hL hS kk
  have hk0 : Y.1 ≠ 0 := by omega
  obtain ⟨a, r, e1, q1⟩ := sy_p1_inv hY hk0
  subst e1
  obtain ⟨hS1, hva, hr⟩ := sy_SPc hS
  subst hS1
  obtain ⟨h1, h2⟩ := sy_if_inv q1 hk0
  rw [sy_force_eq] at h2
  subst h2
  have K := kk ρ H locs ls _ sy_ag.rf (Nat.le_refl _) hH hL (sy_SPm (sy_wfV_pk (by decide) (fun q => by cases q) (Nat.lt_trans (Nat.mod_lt _ (by decide)) (by decide))) hr)
  rw [sy_v0 (sy_tg_pk (by decide)), sy_py_pk (by decide)] at K
  rw [sy_v1 (sy_beq h1)]
  refine hs ls _ _ _ _ _ _ ?_
  rw [sy_l2i_eq]
  exact K
theorem sy_ch_nI (n : Nat) : sy_ch (nI n) = nI (n % 65536) := by
  show (⟨UInt32.ofNat n % 65536⟩ : Int32) = ⟨UInt32.ofNat (n % 65536)⟩
  congr 1
  apply UInt32.toNat_inj.mp
  rw [UInt32.toNat_mod, UInt32.toNat_ofNat', UInt32.toNat_ofNat']
  have e : (65536 : UInt32).toNat = 65536 := rfl
  rw [e]
  omega
theorem sy_ok_i2c {x y : Nat} (hT : sy_TK tk w.2.2.1) (hs : ∀ (ls : Array Slot) (st : List Value) (a : Int32), sy_ST p l e R s m args below meth c Q pc npc ls (.int a :: st) (.int (sy_ch a) :: st)) :
    sy_OK p l e R s m args below meth c Q w A nL pc npc tpc (sy_i2c tk x y) := by
  intro L st h cells slots Y hY hk hc hsl ρ H locs ls stC hH hL hS kk
  have hk0 : Y.1 ≠ 0 := by omega
  obtain ⟨a, r, e1, q1⟩ := sy_p1_inv hY hk0
  subst e1
  obtain ⟨hS1, hva, hr⟩ := sy_SPc hS
  subst hS1
  rcases sy_cond_inv q1 with ⟨c1, q2⟩ | ⟨c1, q2⟩
  · rw [sy_force_eq] at q2
    subst q2
    have ha := sy_beq c1
    have K := kk ρ H locs ls _ sy_ag.rf (Nat.le_refl _) hH hL (sy_SPm (sy_wfV_pk (by decide) (fun q => by cases q) (Nat.lt_trans (Nat.mod_lt _ (by decide)) (by decide))) hr)
    rw [sy_v0 (sy_tg_pk (by decide)), sy_py_pk (by decide)] at K
    rw [sy_v0 ha]
    refine hs ls _ _ _ _ _ _ ?_
    rw [sy_ch_nI]
    exact K
  · obtain ⟨h1, h2⟩ := sy_if_inv q2 hk0
    obtain ⟨h1, h3⟩ := sy_and h1
    have ha : sy_tg a = 6 := sy_beq h1
    have hb := (hT (sy_py a)).2.1 (sy_beq h3)
    have hb2 := sy_ch_k (w.2.2.1 (sy_py a))
    rw [sy_v6 ha]
    rcases sy_cond_inv h2 with ⟨c2, q3⟩ | ⟨c2, q3⟩
    · rw [sy_force_eq] at q3
      subst q3
      have e2 := sy_beq c2
      have hlo : Nat.sub (sy_tok tk (sy_py a)).2.1 2147483648 = (sy_tok tk (sy_py a)).2.1 - 2147483648 := rfl
      have K := kk ρ H locs ls _ sy_ag.rf (Nat.le_refl _) hH hL (sy_SPm (sy_wfV_pk (by decide) (fun q => by cases q) (by rw [hlo]; omega)) hr)
      rw [sy_v0 (sy_tg_pk (by decide)), sy_py_pk (by decide)] at K
      have e3 : sy_ch (w.2.2.1 (sy_py a)) = nI (Nat.sub (sy_tok tk (sy_py a)).2.1 2147483648) := by
        rw [sy_k_eq, sy_k_nI, hlo]
        omega
      refine hs ls _ _ _ _ _ _ ?_
      rw [e3]
      exact K
    · rw [sy_force_eq] at q3
      subst q3
      have ha6 : a % 16 = 6 := ha
      have t8 : sy_tg (Nat.add a 2) = 8 := by
        show (a + 2) % 16 = 8
        omega
      have p8 : sy_py (Nat.add a 2) = sy_py a := by
        show (a + 2) / 16 = a / 16
        omega
      have hw : sy_wfV h.1 (Nat.add a 2) := ⟨by have := hva.1; show a + 2 < 2 ^ 71; omega, fun q => by rw [t8] at q; cases q⟩
      have K := kk ρ H locs ls _ sy_ag.rf (Nat.le_refl _) hH hL (sy_SPm hw hr)
      rw [sy_v8 t8, p8] at K
      exact hs ls _ _ _ _ _ _ K
/-- what q says of two ints -/
def sy_dec (w : sy_Wd) (tk : sy_T) (q : sy_T → Nat → Nat → Nat) (P : Int32 → Int32 → Prop) : Prop := ∀ (ρ : Nat → Nat) (a b : Nat) (x y : Int32), sy_v w ρ a = .int x → sy_v w ρ b = .int y → (q tk a b = 1 → P x y) ∧ (q tk a b = 0 → ¬ P x y)
theorem sy_dec_lt (hT : sy_TK tk w.2.2.1) : sy_dec w tk sy_lt (fun x y => x < y) := fun ρ a b x y ha hb => by
  have h := sy_lt_ok (tk := tk) (sy_iv_i hT ha) (sy_iv_i hT hb)
  exact ⟨fun q => sy_k_lt.mpr (h.1 q), fun q z => h.2 q (sy_k_lt.mp z)⟩
theorem sy_dec_gt (hT : sy_TK tk w.2.2.1) : sy_dec w tk sy_gt (fun x y => y < x) := fun ρ a b x y ha hb => by
  have h := sy_lt_ok (tk := tk) (sy_iv_i hT hb) (sy_iv_i hT ha)
  exact ⟨fun q => sy_k_lt.mpr (h.1 q), fun q z => h.2 q (sy_k_lt.mp z)⟩
theorem sy_dec_eq (hT : sy_TK tk w.2.2.1) : sy_dec w tk sy_eq (fun x y => x = y) := fun ρ a b x y ha hb => by
  have h := sy_eq_ok (tk := tk) (sy_iv_i hT ha) (sy_iv_i hT hb)
  exact ⟨fun q => sy_k_eq.mpr (h.1 q), fun q z => h.2 q (sy_k_eq.mp z)⟩
theorem sy_ok_icmp {q : sy_T → Nat → Nat → Nat} {P : Int32 → Int32 → Prop} (neg : Bool) {x y : Nat} (hq : sy_dec w tk q P)
    (hs : ∀ (H : Heap) (locs : List Loc) (cells slots : Nat) (ls : Array Slot) (st : List Value) (a b : Int32), (cond neg (¬ P a b) (P a b) → W p l e R s m args below meth c H locs cells slots Q (F0 m tpc ls st)) → (cond neg (P a b) (¬ P a b) → W p l e R s m args below meth c H locs cells slots Q (F0 m npc ls st)) → W p l e R s m args below meth c H locs cells slots Q (F0 m pc ls (.int b :: .int a :: st))) :
    sy_OK p l e R s m args below meth c Q w A nL pc npc tpc (sy_icmp q neg tk x y) := by
  intro L st h cells slots Y hY hk hc hsl ρ H locs ls stC hH hL hS kk
  have hk0 : Y.1 ≠ 0 := by omega
  obtain ⟨a, b, r, e1, q1⟩ := sy_p2_inv hY hk0
  subst e1
  obtain ⟨hS1, hvb, hva, hr⟩ := sy_SPc2 hS
  subst hS1
  obtain ⟨h1, h2⟩ := sy_if_inv q1 hk0
  obtain ⟨h1, h3⟩ := sy_and h1
  obtain ⟨va, ea⟩ := sy_vi_ex (w := w) (ρ := ρ) (sy_beq h1)
  obtain ⟨vb, eb⟩ := sy_vi_ex (w := w) (ρ := ρ) (sy_beq h3)
  obtain ⟨d1, d2⟩ := hq ρ a b va vb ea eb
  rw [ea, eb]
  rcases sy_fork_inv h2 hk0 with ⟨r1, q2⟩ | ⟨r1, q2⟩
  · have hP := d1 r1
    cases neg with
    | true =>
      have q2 : sy_go L r h cells slots = Y := q2
      subst q2
      exact hs _ _ _ _ _ _ _ _ (fun z => absurd hP z) (fun _ => kk ρ H locs ls _ sy_ag.rf (Nat.le_refl _) hH hL ⟨rfl, hr⟩)
    | false =>
      have q2 : sy_jmp x L r h cells slots = Y := q2
      subst q2
      exact hs _ _ _ _ _ _ _ _ (fun _ => kk ρ H locs ls _ sy_ag.rf (Nat.le_refl _) hH hL ⟨rfl, hr⟩) (fun z => absurd hP z)
  · have hP := d2 r1
    cases neg with
    | true =>
      have q2 : sy_jmp x L r h cells slots = Y := q2
      subst q2
      exact hs _ _ _ _ _ _ _ _ (fun _ => kk ρ H locs ls _ sy_ag.rf (Nat.le_refl _) hH hL ⟨rfl, hr⟩) (fun z => absurd z hP)
    | false =>
      have q2 : sy_go L r h cells slots = Y := q2
      subst q2
      exact hs _ _ _ _ _ _ _ _ (fun z => absurd z hP) (fun _ => kk ρ H locs ls _ sy_ag.rf (Nat.le_refl _) hH hL ⟨rfl, hr⟩)
theorem sy_ok_ifc {q : sy_T → Nat → Nat → Nat} {P : Int32 → Int32 → Prop} (neg : Bool) {x y : Nat} (hq : sy_dec w tk q P)
    (hs : ∀ (H : Heap) (locs : List Loc) (cells slots : Nat) (ls : Array Slot) (st : List Value) (a : Int32), (cond neg (¬ P a 0) (P a 0) → W p l e R s m args below meth c H locs cells slots Q (F0 m tpc ls st)) → (cond neg (P a 0) (¬ P a 0) → W p l e R s m args below meth c H locs cells slots Q (F0 m npc ls st)) → W p l e R s m args below meth c H locs cells slots Q (F0 m pc ls (.int a :: st))) :
    sy_OK p l e R s m args below meth c Q w A nL pc npc tpc (sy_ifc q neg tk x y) := by
  intro L st h cells slots Y hY hk hc hsl ρ H locs ls stC hH hL hS kk
  have hk0 : Y.1 ≠ 0 := by omega
  obtain ⟨a, r, e1, q1⟩ := sy_p1_inv hY hk0
  subst e1
  obtain ⟨hS1, hva, hr⟩ := sy_SPc hS
  subst hS1
  obtain ⟨h1, h2⟩ := sy_if_inv q1 hk0
  obtain ⟨h1, h3⟩ := sy_and h1
  obtain ⟨va, ea⟩ := sy_vi_ex (w := w) (ρ := ρ) (sy_beq h1)
  have eb : sy_v w ρ 0 = .int 0 := sy_v0 (v := 0) rfl
  obtain ⟨d1, d2⟩ := hq ρ a 0 va 0 ea eb
  rw [ea]
  rcases sy_fork_inv h2 hk0 with ⟨r1, q2⟩ | ⟨r1, q2⟩
  · have hP := d1 r1
    cases neg with
    | true =>
      have q2 : sy_go L r h cells slots = Y := q2
      subst q2
      exact hs _ _ _ _ _ _ _ (fun z => absurd hP z) (fun _ => kk ρ H locs ls _ sy_ag.rf (Nat.le_refl _) hH hL ⟨rfl, hr⟩)
    | false =>
      have q2 : sy_jmp x L r h cells slots = Y := q2
      subst q2
      exact hs _ _ _ _ _ _ _ (fun _ => kk ρ H locs ls _ sy_ag.rf (Nat.le_refl _) hH hL ⟨rfl, hr⟩) (fun z => absurd hP z)
  · have hP := d2 r1
    cases neg with
    | true =>
      have q2 : sy_jmp x L r h cells slots = Y := q2
      subst q2
      exact hs _ _ _ _ _ _ _ (fun _ => kk ρ H locs ls _ sy_ag.rf (Nat.le_refl _) hH hL ⟨rfl, hr⟩) (fun z => absurd z hP)
    | false =>
      have q2 : sy_go L r h cells slots = Y := q2
      subst q2
      exact hs _ _ _ _ _ _ _ (fun z => absurd z hP) (fun _ => kk ρ H locs ls _ sy_ag.rf (Nat.le_refl _) hH hL ⟨rfl, hr⟩)
theorem sy_ok_lcmp {x y : Nat} (hT : sy_TK tk w.2.2.1) (hs : ∀ (ls : Array Slot) (st : List Value) (a b : Int64), sy_ST p l e R s m args below meth c Q pc npc ls (.long b :: .long a :: st) (.int (lg_cmp a b) :: st)) :
    sy_OK p l e R s m args below meth c Q w A nL pc npc tpc (sy_lcmp tk x y) := by
  intro L st h cells slots Y hY hk hc hsl ρ H locs ls stC hH hL hS kk
  have hk0 : Y.1 ≠ 0 := by omega
  obtain ⟨a, b, r, e1, q1⟩ := sy_p2_inv hY hk0
  subst e1
  obtain ⟨hS1, hvb, hva, hr⟩ := sy_SPc2 hS
  subst hS1
  obtain ⟨h1, h2⟩ := sy_if_inv q1 hk0
  obtain ⟨h1, h3⟩ := sy_and h1
  obtain ⟨va, ea⟩ := sy_vl_ex (w := w) (ρ := ρ) (sy_beq h1)
  obtain ⟨vb, eb⟩ := sy_vl_ex (w := w) (ρ := ρ) (sy_beq h3)
  have d1 := sy_lt_ok (tk := tk) (sy_iv_l hT ea) (sy_iv_l hT eb)
  have d2 := sy_lt_ok (tk := tk) (sy_iv_l hT eb) (sy_iv_l hT ea)
  rw [ea, eb]
  have fin : ∀ v : Nat, sy_tg v = 0 → v < 2 ^ 71 → nI (sy_py v) = lg_cmp va vb → sy_go L (v :: r) h cells slots = Y → W p l e R s m args below meth c H locs cells slots Q (F0 m pc ls (.long vb :: .long va :: r.map (sy_v w ρ))) := by
    intro v hv hv2 he hg
    subst hg
    have K := kk ρ H locs ls _ sy_ag.rf (Nat.le_refl _) hH hL (sy_SPm ⟨hv2, fun q => by rw [hv] at q; cases q⟩ hr)
    rw [sy_v0 hv, he] at K
    exact hs ls _ _ _ _ _ _ _ K
  rcases sy_fork_inv h2 hk0 with ⟨r1, q2⟩ | ⟨r1, q2⟩
  · have hP := sy_kl_lt.mpr (d1.1 r1)
    exact fin 68719476720 rfl (by decide) (by
      have h9 : ¬ vb < va := fun z => by have := sy_kl_lt.mp z; have := sy_kl_lt.mp hP; omega
      have h8 : ¬ va = vb := fun z => by rw [z] at hP; have := sy_kl_lt.mp hP; omega
      simp [lg_cmp, h9, h8]
      first | rfl | decide) q2
  · have hP := fun z => d1.2 r1 (sy_kl_lt.mp z)
    rcases sy_fork_inv q2 hk0 with ⟨r2, q3⟩ | ⟨r2, q3⟩
    · have hP2 := sy_kl_lt.mpr (d2.1 r2)
      exact fin 16 rfl (by decide) (by simp [lg_cmp, hP2]; first | rfl | decide) q3
    · have hP2 := fun z => d2.2 r2 (sy_kl_lt.mp z)
      exact fin 0 rfl (by decide) (by
        have h8 : va = vb := by
          apply Int64.toInt_inj.mp
          have n1 := d1.2 r1
          have n2 := d2.2 r2
          have k1 := Int64.le_toInt va
          have k2 := Int64.le_toInt vb
          unfold sy_kl at n1 n2
          omega
        simp [lg_cmp, hP2, h8]
        first | rfl | decide) q3
theorem sy_ok_dup {x y : Nat} (hs : ∀ (ls : Array Slot) (st : List Value) (a : Value), a.category = 1 → sy_ST p l e R s m args below meth c Q pc npc ls (a :: st) (a :: a :: st)) : sy_OK p l e R s m args below meth c Q w A nL pc npc tpc (sy_dup tk x y) := by
  intro L st h cells slots Y hY hk hc hsl ρ H locs ls stC hH hL hS kk
  have hk0 : Y.1 ≠ 0 := by omega
  obtain ⟨a, r, e1, q1⟩ := sy_p1_inv hY hk0
  subst e1
  obtain ⟨hS1, hva, hr⟩ := sy_SPc hS
  obtain ⟨h1, h2⟩ := sy_if_inv q1 hk0
  subst h2
  have K := kk ρ H locs ls _ sy_ag.rf (Nat.le_refl _) hH hL (sy_SPm hva hS.2)
  subst hS1
  exact hs ls _ _ (sy_ct_cat'.trans (sy_beq h1)) _ _ _ _ K
theorem sy_ok_pop {x y : Nat} (hs : ∀ (ls : Array Slot) (st : List Value) (a : Value), a.category = 1 → sy_ST p l e R s m args below meth c Q pc npc ls (a :: st) st) : sy_OK p l e R s m args below meth c Q w A nL pc npc tpc (sy_pop tk x y) := by
  intro L st h cells slots Y hY hk hc hsl ρ H locs ls stC hH hL hS kk
  have hk0 : Y.1 ≠ 0 := by omega
  obtain ⟨a, r, e1, q1⟩ := sy_p1_inv hY hk0
  subst e1
  obtain ⟨hS1, hva, hr⟩ := sy_SPc hS
  obtain ⟨h1, h2⟩ := sy_if_inv q1 hk0
  subst h2
  subst hS1
  exact hs ls _ _ (sy_ct_cat'.trans (sy_beq h1)) _ _ _ _ (kk ρ H locs ls _ sy_ag.rf (Nat.le_refl _) hH hL ⟨rfl, hr⟩)
theorem sy_ok_goto {x y : Nat} (hs : ∀ (ls : Array Slot) (st : List Value), sy_ST p l e R s m args below meth c Q pc tpc ls st st) : sy_OK p l e R s m args below meth c Q w A nL pc npc tpc (sy_goto tk x y) := by
  intro L st h cells slots Y hY hk hc hsl ρ H locs ls stC hH hL hS kk
  subst hY
  exact hs ls _ _ _ _ _ (kk ρ H locs ls _ sy_ag.rf (Nat.le_refl _) hH hL hS)
theorem sy_isr_inv {v : Nat} (h : sy_isr v = true) : v = 4 ∨ sy_tg v = 5 := by
  unfold sy_isr at h
  cases h4 : Nat.beq v 4 with
  | true => exact Or.inl (sy_beq h4)
  | false =>
    rw [h4] at h
    exact Or.inr (sy_beq h)
theorem sy_isr_inv' {v : Nat} (h : sy_isr v = true) : sy_tg v = 4 ∨ sy_tg v = 5 := (sy_isr_inv h).elim (fun e => Or.inl (by rw [e]; rfl)) Or.inr
theorem sy_ok_nul (neg : Bool) {x y : Nat} (hs1 : ∀ (ls : Array Slot) (st : List Value) (a : Nat), sy_ST p l e R s m args below meth c Q pc (cond neg tpc npc) ls (.ref a :: st) st) (hs2 : ∀ (ls : Array Slot) (st : List Value), sy_ST p l e R s m args below meth c Q pc (cond neg npc tpc) ls (.null :: st) st) :
    sy_OK p l e R s m args below meth c Q w A nL pc npc tpc (sy_nul neg tk x y) := by
  intro L st h cells slots Y hY hk hc hsl ρ H locs ls stC hH hL hS kk
  have hk0 : Y.1 ≠ 0 := by omega
  obtain ⟨a, r, e1, q1⟩ := sy_p1_inv hY hk0
  subst e1
  obtain ⟨hS1, hva, hr⟩ := sy_SPc hS
  obtain ⟨h1, h2⟩ := sy_if_inv q1 hk0
  subst hS1
  rcases sy_isr_inv' h1 with ht | ht
  · rw [sy_v4 ht]
    rw [ht] at h2
    cases neg with
    | true =>
      have h2 : sy_go L r h cells slots = Y := h2
      subst h2
      exact hs2 ls _ _ _ _ _ (kk ρ H locs ls _ sy_ag.rf (Nat.le_refl _) hH hL ⟨rfl, hr⟩)
    | false =>
      have h2 : sy_jmp x L r h cells slots = Y := h2
      subst h2
      exact hs2 ls _ _ _ _ _ (kk ρ H locs ls _ sy_ag.rf (Nat.le_refl _) hH hL ⟨rfl, hr⟩)
  · rw [sy_v5 ht]
    rw [ht] at h2
    cases neg with
    | true =>
      have h2 : sy_jmp x L r h cells slots = Y := h2
      subst h2
      exact hs1 ls _ _ _ _ _ _ (kk ρ H locs ls _ sy_ag.rf (Nat.le_refl _) hH hL ⟨rfl, hr⟩)
    | false =>
      have h2 : sy_go L r h cells slots = Y := h2
      subst h2
      exact hs1 ls _ _ _ _ _ _ (kk ρ H locs ls _ sy_ag.rf (Nat.le_refl _) hH hL ⟨rfl, hr⟩)
/-- a reference as the rows write it -/
theorem sy_v_rf {ρ : Nat → Nat} {v : Nat} (h : sy_tg v = 4 ∨ sy_tg v = 5) : sy_v w ρ v = va_rf (if sy_tg v = 4 then none else some (ρ (sy_py v))) := by
  rcases h with h | h
  · rw [sy_v4 h, if_pos h]; rfl
  · rw [sy_v5 h, if_neg (by rw [h]; decide)]; rfl
theorem sy_ok_acmp (neg : Bool) {x y : Nat} (hs : ∀ (H : Heap) (locs : List Loc) (cells slots : Nat) (ls : Array Slot) (st : List Value) (a b : Option Nat), (cond neg (¬ a = b) (a = b) → W p l e R s m args below meth c H locs cells slots Q (F0 m tpc ls st)) → (cond neg (a = b) (¬ a = b) → W p l e R s m args below meth c H locs cells slots Q (F0 m npc ls st)) → W p l e R s m args below meth c H locs cells slots Q (F0 m pc ls (va_rf b :: va_rf a :: st))) :
    sy_OK p l e R s m args below meth c Q w A nL pc npc tpc (sy_acmp neg tk x y) := by
  intro L st h cells slots Y hY hk hc hsl ρ H locs ls stC hH hL hS kk
  have hk0 : Y.1 ≠ 0 := by omega
  obtain ⟨a, b, r, e1, q1⟩ := sy_p2_inv hY hk0
  subst e1
  obtain ⟨hS1, hvb, hva, hr⟩ := sy_SPc2 hS
  subst hS1
  obtain ⟨h1, h2⟩ := sy_if_inv q1 hk0
  obtain ⟨h1, h3⟩ := sy_and h1
  have ta := sy_isr_inv' h1
  have tb := sy_isr_inv' h3
  have key : (if sy_tg a = 4 then none else some (ρ (sy_py a))) = (if sy_tg b = 4 then none else some (ρ (sy_py b))) ↔ ((sy_tg a = 4 ∧ sy_tg b = 4) ∨ a = b) := by
    rcases ta with ta | ta <;> rcases tb with tb | tb
    · simp [ta, tb]
    · rw [if_pos ta, if_neg (by rw [tb]; decide)]
      refine ⟨fun q => (by cases q), fun q => ?_⟩
      rcases q with q | q
      · rw [tb] at q; cases q.2
      · rw [q, tb] at ta; cases ta
    · rw [if_pos tb, if_neg (by rw [ta]; decide)]
      refine ⟨fun q => (by cases q), fun q => ?_⟩
      rcases q with q | q
      · rw [ta] at q; cases q.1
      · rw [q, tb] at ta; cases ta
    · rw [if_neg (by rw [ta]; decide), if_neg (by rw [tb]; decide)]
      refine ⟨fun q => Or.inr ?_, fun q => ?_⟩
      · have h9 : ρ (sy_py a) = ρ (sy_py b) := Option.some.inj q
        have ia := hva.2 ta
        have ib := hvb.2 tb
        have g1 := sy_ws_get (w := w) (ρ := ρ) (h := h) ia
        have g2 := sy_ws_get (w := w) (ρ := ρ) (h := h) ib
        have e9 := hH.2.1.1 _ _ _ _ g1 g2 h9
        rw [← sy_pk_eq a, ← sy_pk_eq b, ta, tb, e9]
      · rcases q with q | q
        · rw [ta] at q; cases q.1
        · rw [q]
  rw [sy_v_rf ta, sy_v_rf tb]
  have kt : (cond neg (cond (Nat.beq a b) false true) (Nat.beq a b) = true) → ((sy_tg a = 4 ∧ sy_tg b = 4) → a = b) → cond neg (¬ (if sy_tg a = 4 then none else some (ρ (sy_py a))) = (if sy_tg b = 4 then none else some (ρ (sy_py b)))) ((if sy_tg a = 4 then none else some (ρ (sy_py a))) = (if sy_tg b = 4 then none else some (ρ (sy_py b)))) := by
    intro h9 h8
    cases neg with
    | true =>
      intro q
      have q := key.mp q
      have q : a = b := q.elim h8 id
      subst q
      have h9 : cond (Nat.beq a a) false true = true := h9
      rw [Nat.beq_refl] at h9
      cases h9
    | false => exact key.mpr (Or.inr (sy_beq h9))
  have kf : (cond neg (cond (Nat.beq a b) false true) (Nat.beq a b) = false) → ((sy_tg a = 4 ∧ sy_tg b = 4) → a = b) → cond neg ((if sy_tg a = 4 then none else some (ρ (sy_py a))) = (if sy_tg b = 4 then none else some (ρ (sy_py b)))) (¬ (if sy_tg a = 4 then none else some (ρ (sy_py a))) = (if sy_tg b = 4 then none else some (ρ (sy_py b)))) := by
    intro h9 h8
    cases neg with
    | false =>
      intro q
      have q := key.mp q
      have q : a = b := q.elim h8 id
      subst q
      have h9 : Nat.beq a a = false := h9
      rw [Nat.beq_refl] at h9
      cases h9
    | true =>
      cases hb : Nat.beq a b with
      | true => exact key.mpr (Or.inr (sy_beq hb))
      | false =>
        have h9 : cond (Nat.beq a b) false true = false := h9
        rw [hb] at h9
        cases h9
  have h48 : (sy_tg a = 4 ∧ sy_tg b = 4) → a = b := fun z => by
    rcases sy_isr_inv h1 with e1 | e1
    · rcases sy_isr_inv h3 with e2 | e2
      · rw [e1, e2]
      · rw [z.2] at e2; cases e2
    · rw [z.1] at e1; cases e1
  · rcases sy_cond_inv h2 with ⟨c2, q3⟩ | ⟨c2, q3⟩
    · subst q3
      exact hs _ _ _ _ _ _ _ _ (fun _ => kk ρ H locs ls _ sy_ag.rf (Nat.le_refl _) hH hL ⟨rfl, hr⟩) (fun z => by
        have z2 := kt c2 h48
        cases neg with
        | true => exact absurd z z2
        | false => exact absurd z2 z)
    · subst q3
      exact hs _ _ _ _ _ _ _ _ (fun z => by
        have z2 := kf c2 h48
        cases neg with
        | true => exact absurd z2 z
        | false => exact absurd z z2) (fun _ => kk ρ H locs ls _ sy_ag.rf (Nat.le_refl _) hH hL ⟨rfl, hr⟩)
end SYO2
end
section
/-! operations on the heap -/
section SYH
variable {p : Program} {l : Launch} {e : Env} {R : Room} {s : State} {m : MethodId} {args : Array Value} {below : List Frame} {meth : Method} {c : Code} {Q : State → Prop} {w : sy_Wd} {A : Nat → Prop} {nL pc npc tpc : Nat} {tk : sy_T}
theorem sy_ce_obj {ρ : Nat → Nat} {ci n d : Nat} : sy_ce w ρ (2 * ci, n, d) = .inr (ci, (List.range n).map fun k => sy_v w ρ (sy_rd d k)) := by
  unfold sy_ce
  rw [if_pos (by show 2 * ci % 2 = 0; omega)]
  show Sum.inr (2 * ci / 2, _) = _
  rw [show 2 * ci / 2 = ci by omega]
theorem sy_ce_arr {ρ : Nat → Nat} {t n d : Nat} : sy_ce w ρ (2 * t + 1, n, d) = .inl (w.2.1 t, n, sy_arr w ρ t d) := by
  unfold sy_ce
  rw [if_neg (by show ¬ (2 * t + 1) % 2 = 0; omega)]
  show Sum.inl (w.2.1 ((2 * t + 1) / 2), n, sy_arr w ρ ((2 * t + 1) / 2) d) = _
  rw [show (2 * t + 1) / 2 = t by omega]
theorem sy_fs_set {ρ : Nat → Nat} {n d j v : Nat} (hv : v < 2 ^ 72) : ((List.range n).map fun k => sy_v w ρ (sy_rd d k)).set j (sy_v w ρ v) = (List.range n).map fun k => sy_v w ρ (sy_rd (sy_wr d j v) k) := by
  apply List.ext_getElem?
  intro i
  by_cases hi : i < n
  · rw [List.getElem?_map, List.getElem?_range hi]
    show _ = some (sy_v w ρ (sy_rd (sy_wr d j v) i))
    rw [sy_rd_wr _ _ _ _ hv]
    by_cases hij : j = i
    · subst hij
      rw [List.getElem?_set_self (by simpa using hi), if_pos rfl]
    · rw [List.getElem?_set_ne hij, List.getElem?_map, List.getElem?_range hi, if_neg hij]
      rfl
  · rw [List.getElem?_eq_none (by simp; omega), List.getElem?_eq_none (by simp; omega)]
/-- a world with one cell changed -/
theorem sy_HP_set {ρ : Nat → Nat} {h : sy_H} {H1 : Heap} {H0 : Heap} {locs1 : List Loc} {i : Nat} {x : sy_O} (hw : sy_wfH h) (hi : i < h.1) (hx : sy_wfO h.1 x)
    (h1 : va_P w.1 sy_cl ((sy_ws w ρ h).set i (ρ i, sy_ce w ρ x)) H1) (h2 : va_D A ((sy_ws w ρ h).set i (ρ i, sy_ce w ρ x))) (h3 : va_S A H0 H1 locs1) : sy_HP w A H0 ρ (h.1, sy_hp h.2 i x) H1 locs1 := by
  rw [sy_ws_set hw x hi] at h1 h2
  exact ⟨h1, h2, h3, sy_wfH_put hw hi hx⟩
/-- a world with one cell more -/
theorem sy_HP_push {ρ : Nat → Nat} {h : sy_H} {H1 : Heap} {H0 : Heap} {locs1 : List Loc} {q : Nat} {x : sy_O} (hw : sy_wfH h) (h5 : h.1 + 1 ≤ 511) (hx : sy_wfO h.1 x)
    (h1 : va_P w.1 sy_cl (sy_ws w ρ h ++ [(q, sy_ce w ρ x)]) H1) (h2 : va_D A (sy_ws w ρ h ++ [(q, sy_ce w ρ x)])) (h3 : va_S A H0 H1 locs1) : sy_HP w A H0 (sy_up ρ h.1 q) (h.1 + 1, sy_hp h.2 h.1 x) H1 locs1 := by
  rw [sy_ws_push hw q hx] at h1 h2
  exact ⟨h1, h2, h3, sy_wfH_push hw h5 (hx.mono (Nat.le_succ _))⟩
theorem sy_ok_getf {x y : Nat} (hs : ∀ (ws : va_W) (H : Heap) (locs : List Loc) (cells slots : Nat) (ls : Array Slot) (st : List Value) (q0 a : Nat) (fs : List Value) (v : Value), va_P w.1 sy_cl ws H → ws[q0]? = some (a, .inr (x / 64, fs)) → fs[x % 64]? = some v →
      W p l e R s m args below meth c H locs cells slots Q (F0 m npc ls (v :: st)) → W p l e R s m args below meth c H locs cells slots Q (F0 m pc ls (.ref a :: st))) : sy_OK p l e R s m args below meth c Q w A nL pc npc tpc (sy_getf tk x y) := by
  intro L st h cells slots Y hY hk hc hsl ρ H locs ls stC hH hL hS kk
  have hk0 : Y.1 ≠ 0 := by omega
  obtain ⟨a, r, e1, q1⟩ := sy_p1_inv hY hk0
  subst e1
  obtain ⟨hS1, hva, hr⟩ := sy_SPc hS
  subst hS1
  obtain ⟨ht, hi, k, n, d, hg, q2⟩ := sy_cell_inv q1 hk0
  obtain ⟨h1, h2⟩ := sy_if_inv q2 hk0
  obtain ⟨h1, h3⟩ := sy_and h1
  rw [sy_force_eq] at h2
  subst h2
  have hk1 : k = 2 * (x / 64) := sy_beq h1
  have hn1 : x % 64 < n := sy_ble h3
  subst hk1
  have hge := sy_ws_get (w := w) (ρ := ρ) hi
  rw [hg, sy_ce_obj] at hge
  have hwf : sy_wfV h.1 (sy_rd d (x % 64)) := by
    have h9 := hH.2.2.2.2 _ hi (x % 64)
    rw [hg] at h9
    exact h9
  rw [sy_v5 ht]
  refine hs _ H locs cells slots ls _ _ _ _ (sy_v w ρ (sy_rd d (x % 64))) hH.1 hge ?_ (kk ρ H locs ls _ sy_ag.rf (Nat.le_refl _) hH hL (sy_SPm hwf hr))
  rw [List.getElem?_map, List.getElem?_range hn1]
  rfl
theorem sy_ok_putf {x y : Nat} (hs : ∀ (ws : va_W) (H : Heap) (locs : List Loc) (cells slots : Nat) (ls : Array Slot) (st : List Value) (q0 a : Nat) (fs : List Value) (ρ : Nat → Nat) (v : Nat), va_P w.1 sy_cl ws H → va_D A ws → va_S A s.heap H locs → ws[q0]? = some (a, .inr (x / 64, fs)) → x % 64 < fs.length → sy_okf (y % 8) v = true →
      (∀ (H1 : Heap) (locs1 : List Loc), va_P w.1 sy_cl (ws.set q0 (a, .inr (x / 64, fs.set (x % 64) (sy_v w ρ v)))) H1 → va_D A (ws.set q0 (a, .inr (x / 64, fs.set (x % 64) (sy_v w ρ v)))) → va_S A s.heap H1 locs1 → W p l e R s m args below meth c H1 locs1 cells slots Q (F0 m npc ls st)) →
      W p l e R s m args below meth c H locs cells slots Q (F0 m pc ls (sy_v w ρ v :: .ref a :: st))) : sy_OK p l e R s m args below meth c Q w A nL pc npc tpc (sy_putf tk x y) := by
  intro L st h cells slots Y hY hk hc hsl ρ H locs ls stC hH hL hS kk
  have hk0 : Y.1 ≠ 0 := by omega
  obtain ⟨a, v, r, e1, q1⟩ := sy_p2_inv hY hk0
  subst e1
  obtain ⟨hS1, hvv, hva, hr⟩ := sy_SPc2 hS
  subst hS1
  obtain ⟨ht, hi, k, n, d, hg, q2⟩ := sy_cell_inv q1 hk0
  obtain ⟨h1, h2⟩ := sy_if_inv q2 hk0
  obtain ⟨h1, h3⟩ := sy_and h1
  obtain ⟨h3, h4⟩ := sy_and h3
  rw [sy_force_eq] at h2
  subst h2
  have hk1 : k = 2 * (x / 64) := sy_beq h1
  have hn1 : x % 64 < n := sy_ble h3
  subst hk1
  have hge := sy_ws_get (w := w) (ρ := ρ) hi
  rw [hg, sy_ce_obj] at hge
  have hwf : ∀ j, sy_wfV h.1 (sy_rd d j) := by
    have h9 := hH.2.2.2.2 _ hi
    rw [hg] at h9
    exact h9
  rw [sy_v5 ht]
  refine hs _ H locs cells slots ls _ _ _ _ ρ v hH.1 hH.2.1 hH.2.2.1 hge (by simpa using hn1) h4 fun H1 locs1 g1 g2 g3 => ?_
  rw [sy_fs_set (Nat.lt_trans hvv.1 (by decide)), ← sy_ce_obj] at g1 g2
  exact kk ρ H1 locs1 ls _ sy_ag.rf (Nat.le_refl _) (sy_HP_set hH.2.2.2 hi (sy_wfO_wr hwf hvv) g1 g2 g3) hL ⟨rfl, hr⟩
/-- a new cell on top of the stack -/
theorem sy_alloc_ok {h : sy_H} {L k n d cells slots : Nat} {r : List Nat} {Y : sy_X} (hY : sy_alloc h L r cells slots k n d = Y) (hk : Y.1 = 1 ∨ Y.1 = 2) {ρ : Nat → Nat} {H : Heap} {locs : List Loc} {ls : Array Slot}
    (hH : sy_HP w A s.heap ρ h H locs) (hL : sy_LP w ρ nL h.1 L ls) (hr : ∀ u ∈ r, sy_wfV h.1 u) (hx : sy_wfO h.1 (k, n, d)) :
    Y.2.2.2.2.2.1 = cells + 1 ∧ Y.2.2.2.2.2.2 = slots + n ∧
    ((∀ (ρ' : Nat → Nat) (H' : Heap) (locs' : List Loc) (ls' : Array Slot) (stC' : List Value), sy_ag h.1 ρ ρ' → h.1 ≤ Y.2.2.2.2.1.1 → sy_HP w A s.heap ρ' Y.2.2.2.2.1 H' locs' → sy_LP w ρ' nL Y.2.2.2.2.1.1 Y.2.2.1 ls' → sy_SP w ρ' Y.2.2.2.2.1.1 Y.2.2.2.1 stC' →
      W p l e R s m args below meth c H' locs' Y.2.2.2.2.2.1 Y.2.2.2.2.2.2 Q (F0 m (if Y.1 = 1 then npc else tpc) ls' stC')) →
     ∀ (q : Nat) (H1 : Heap) (locs1 : List Loc), va_P w.1 sy_cl (sy_ws w ρ h ++ [(q, sy_ce w ρ (k, n, d))]) H1 → va_D A (sy_ws w ρ h ++ [(q, sy_ce w ρ (k, n, d))]) → va_S A s.heap H1 locs1 → W p l e R s m args below meth c H1 locs1 (cells + 1) (slots + n) Q (F0 m npc ls (.ref q :: r.map (sy_v w ρ)))) := by
  have hk0 : Y.1 ≠ 0 := by omega
  obtain ⟨h1, h2⟩ := sy_if_inv hY hk0
  rw [sy_force_eq, sy_force_eq, sy_force_eq, sy_force_eq] at h2
  have h5 : h.1 + 1 ≤ 511 := sy_ble h1
  subst h2
  refine ⟨rfl, rfl, fun kk q H1 locs1 g1 g2 g3 => ?_⟩
  have ha : sy_ag h.1 ρ (sy_up ρ h.1 q) := sy_ag.up q
  have hw : sy_wfV (h.1 + 1) (sy_pk 5 h.1) := sy_wfV_pk (by decide) (fun _ => Nat.lt_succ_self _) (by omega)
  have hSP : sy_SP w (sy_up ρ h.1 q) (h.1 + 1) (sy_pk 5 h.1 :: r) (sy_v w (sy_up ρ h.1 q) (sy_pk 5 h.1) :: r.map (sy_v w (sy_up ρ h.1 q))) := sy_SPm hw fun u hu => (hr u hu).mono (Nat.le_succ _)
  have K := kk (sy_up ρ h.1 q) H1 locs1 ls _ ha (Nat.le_succ _) (sy_HP_push hH.2.2.2 h5 hx g1 g2 g3) (hL.ag ha (Nat.le_succ _)) hSP
  rw [sy_v5 (sy_tg_pk (by decide)), sy_py_pk (by decide), show sy_up ρ h.1 q h.1 = q from if_pos rfl, List.map_congr_left (fun v hv => sy_v_ag (hr v hv) ha)] at K
  exact K
theorem sy_ok_new {F : Nat → Nat × Nat} {x y : Nat} (hd : ∀ n j, sy_wfV n (sy_rd (F x).2 j)) (hs : ∀ (ρ : Nat → Nat) (ws : va_W) (H : Heap) (locs : List Loc) (cells slots : Nat) (ls : Array Slot) (st : List Value), va_P w.1 sy_cl ws H → va_D A ws → va_S A s.heap H locs → cells + 1 ≤ R.cells → slots + (F x).1 ≤ R.slots →
      (∀ (q : Nat) (H1 : Heap) (locs1 : List Loc), va_P w.1 sy_cl (ws ++ [(q, .inr (x, (List.range (F x).1).map fun k => sy_v w ρ (sy_rd (F x).2 k)))]) H1 → va_D A (ws ++ [(q, .inr (x, (List.range (F x).1).map fun k => sy_v w ρ (sy_rd (F x).2 k)))]) → va_S A s.heap H1 locs1 → W p l e R s m args below meth c H1 locs1 (cells + 1) (slots + (F x).1) Q (F0 m npc ls (.ref q :: st))) →
      W p l e R s m args below meth c H locs cells slots Q (F0 m pc ls st)) : sy_OK p l e R s m args below meth c Q w A nL pc npc tpc (sy_new F tk x y) := by
  intro L st h cells slots Y hY hk hc hsl ρ H locs ls stC hH hL hS kk
  have hS1 := hS.1
  subst hS1
  have hY : sy_alloc h L st cells slots (2 * x) (F x).1 (F x).2 = Y := hY
  obtain ⟨z1, z2, z3⟩ := sy_alloc_ok (p := p) (l := l) (e := e) (R := R) (m := m) (args := args) (below := below) (meth := meth) (c := c) (Q := Q) (npc := npc) (tpc := tpc) hY hk hH hL hS.2 (fun j => hd _ j)
  rw [sy_ce_obj] at z3
  exact hs ρ _ H locs cells slots ls _ hH.1 hH.2.1 hH.2.2.1 (by omega) (by omega) (z3 kk)
theorem sy_rd0 (j : Nat) : sy_rd 0 j = 0 := by
  apply Nat.eq_of_testBit_eq
  intro i
  rw [sy_rd_bit]
  simp
theorem sy_wfV0 (n : Nat) : sy_wfV n 0 := ⟨by decide, fun q => absurd q (by decide)⟩
theorem sy_ok_newa {x y : Nat} (hs : ∀ (ρ : Nat → Nat) (ws : va_W) (H : Heap) (locs : List Loc) (cells slots : Nat) (ls : Array Slot) (st : List Value) (n : Nat), n ≤ 65535 → va_P w.1 sy_cl ws H → va_D A ws → va_S A s.heap H locs → cells + 1 ≤ R.cells → slots + n ≤ R.slots →
      (∀ (q : Nat) (H1 : Heap) (locs1 : List Loc), va_P w.1 sy_cl (ws ++ [(q, .inl (w.2.1 x, n, sy_arr w ρ x 0))]) H1 → va_D A (ws ++ [(q, .inl (w.2.1 x, n, sy_arr w ρ x 0))]) → va_S A s.heap H1 locs1 → W p l e R s m args below meth c H1 locs1 (cells + 1) (slots + n) Q (F0 m npc ls (.ref q :: st))) →
      W p l e R s m args below meth c H locs cells slots Q (F0 m pc ls (.int (nI n) :: st))) : sy_OK p l e R s m args below meth c Q w A nL pc npc tpc (sy_newa tk x y) := by
  intro L st h cells slots Y hY hk hc hsl ρ H locs ls stC hH hL hS kk
  have hk0 : Y.1 ≠ 0 := by omega
  obtain ⟨a, r, e1, q1⟩ := sy_p1_inv hY hk0
  subst e1
  obtain ⟨hS1, hva, hr⟩ := sy_SPc hS
  subst hS1
  obtain ⟨h1, h2⟩ := sy_if_inv q1 hk0
  obtain ⟨h1, h3⟩ := sy_and h1
  have h2 : sy_alloc h L r cells slots (2 * x + 1) (sy_py a) 0 = Y := h2
  obtain ⟨z1, z2, z3⟩ := sy_alloc_ok (p := p) (l := l) (e := e) (R := R) (m := m) (args := args) (below := below) (meth := meth) (c := c) (Q := Q) (npc := npc) (tpc := tpc) h2 hk hH hL hr (fun j => by show sy_wfV _ (sy_rd 0 j); rw [sy_rd0]; exact sy_wfV0 _)
  rw [sy_ce_arr] at z3
  rw [sy_v0 (sy_beq h1)]
  exact hs ρ _ H locs cells slots ls _ _ (sy_ble h3) hH.1 hH.2.1 hH.2.2.1 (by omega) (by omega) (z3 kk)
theorem sy_ix_inv {i n : Nat} {f : Nat → sy_X} {Y : sy_X} (h : sy_ix tk i n f = Y) (hk : Y.1 ≠ 0) : sy_tg i = 0 ∧ sy_py i < n ∧ n ≤ 65535 ∧ f (sy_py i) = Y := by
  rcases sy_cond_inv h with ⟨h1, h2⟩ | ⟨-, h2⟩
  · obtain ⟨h3, h4⟩ := sy_if_inv h2 hk
    obtain ⟨h3, h5⟩ := sy_and h3
    exact ⟨sy_beq h1, sy_ble h3, sy_ble h5, h4⟩
  · exfalso
    rcases sy_cond_inv h2 with ⟨-, h2⟩ | ⟨-, h2⟩
    · rcases sy_cond_inv h2 with ⟨-, h2⟩ | ⟨-, h2⟩
      · exact hk (by rw [← h2]; rfl)
      · exact hk (by rw [← h2]; rfl)
    · exact hk (by rw [← h2]; rfl)
theorem sy_vp_in {i n : Nat} (h : i < n) (hn : n ≤ 65535) : vp_in (nI i) n := vp_in_nI h (by omega)
theorem sy_cl_nI {i : Nat} (h : i ≤ 65535) : (nI i).toNatClampNeg = i := nI_clamp (by omega)
/-- the elements of an array, by its type -/
theorem sy_ok_ald {t et ty x y : Nat} (hs : ∀ (ρ : Nat → Nat) (ws : va_W) (H : Heap) (locs : List Loc) (cells slots : Nat) (ls : Array Slot) (st : List Value) (q0 a n d i v : Nat), va_P w.1 sy_cl ws H → ws[q0]? = some (a, .inl (w.2.1 t, n, sy_arr w ρ t d)) → i < n → n ≤ 65535 → v = sy_elt et (sy_rd d i) → sy_ty v = ty →
      W p l e R s m args below meth c H locs cells slots Q (F0 m npc ls (sy_v w ρ v :: st)) → W p l e R s m args below meth c H locs cells slots Q (F0 m pc ls (.int (nI i) :: .ref a :: st))) : sy_OK p l e R s m args below meth c Q w A nL pc npc tpc (sy_ald t et ty tk x y) := by
  intro L st h cells slots Y hY hk hc hsl ρ H locs ls stC hH hL hS kk
  have hk0 : Y.1 ≠ 0 := by omega
  obtain ⟨a, i, r, e1, q1⟩ := sy_p2_inv hY hk0
  subst e1
  obtain ⟨hS1, hvi, hva, hr⟩ := sy_SPc2 hS
  subst hS1
  obtain ⟨ht, hi, k, n, d, hg, q2⟩ := sy_cell_inv q1 hk0
  obtain ⟨h1, h2⟩ := sy_if_inv q2 hk0
  obtain ⟨i0, i1, i2, q3⟩ := sy_ix_inv h2 hk0
  rw [sy_force_eq] at q3
  obtain ⟨h3, h4⟩ := sy_if_inv q3 hk0
  subst h4
  have hk1 : k = 2 * t + 1 := sy_beq h1
  subst hk1
  have hge := sy_ws_get (w := w) (ρ := ρ) hi
  rw [hg, sy_ce_arr] at hge
  have hwf : sy_wfV h.1 (sy_rd d (sy_py i)) := by
    have h9 := hH.2.2.2.2 _ hi (sy_py i)
    rw [hg] at h9
    exact h9
  rw [sy_v5 ht, sy_v0 i0]
  exact hs ρ _ H locs cells slots ls _ _ _ n d (sy_py i) _ hH.1 hge i1 i2 rfl (sy_beq h3) (kk ρ H locs ls _ sy_ag.rf (Nat.le_refl _) hH hL (sy_SPm (sy_wfV_elt hwf) hr))
theorem sy_odd {k : Nat} (h : Nat.beq (Nat.mod k 2) 1 = true) : k = 2 * (k / 2) + 1 := by
  have h1 : k % 2 = 1 := sy_beq h
  omega
theorem sy_ok_aald {x y : Nat} (hs : ∀ (ρ : Nat → Nat) (ws : va_W) (H : Heap) (locs : List Loc) (cells slots : Nat) (ls : Array Slot) (st : List Value) (q0 a t n d i v : Nat), 6 ≤ t → t ≤ 12 → va_P w.1 sy_cl ws H → ws[q0]? = some (a, .inl (w.2.1 t, n, sy_arr w ρ t d)) → i < n → n ≤ 65535 → v = sy_elt 6 (sy_rd d i) → (v = 4 ∨ sy_tg v = 5) →
      W p l e R s m args below meth c H locs cells slots Q (F0 m npc ls (sy_v w ρ v :: st)) → W p l e R s m args below meth c H locs cells slots Q (F0 m pc ls (.int (nI i) :: .ref a :: st))) : sy_OK p l e R s m args below meth c Q w A nL pc npc tpc (sy_aald tk x y) := by
  intro L st h cells slots Y hY hk hc hsl ρ H locs ls stC hH hL hS kk
  have hk0 : Y.1 ≠ 0 := by omega
  obtain ⟨a, i, r, e1, q1⟩ := sy_p2_inv hY hk0
  subst e1
  obtain ⟨hS1, hvi, hva, hr⟩ := sy_SPc2 hS
  subst hS1
  obtain ⟨ht, hi, k, n, d, hg, q2⟩ := sy_cell_inv q1 hk0
  obtain ⟨h1, h2⟩ := sy_if_inv q2 hk0
  obtain ⟨h1, h5⟩ := sy_and h1
  obtain ⟨h5, h6⟩ := sy_and h5
  have h5 := sy_ble h5
  have h6 := sy_ble h6
  obtain ⟨i0, i1, i2, q3⟩ := sy_ix_inv h2 hk0
  rw [sy_force_eq] at q3
  obtain ⟨h3, h4⟩ := sy_if_inv q3 hk0
  subst h4
  have hk1 := sy_odd h1
  have hge := sy_ws_get (w := w) (ρ := ρ) hi
  rw [hg, hk1, sy_ce_arr] at hge
  have hwf : sy_wfV h.1 (sy_rd d (sy_py i)) := by
    have h9 := hH.2.2.2.2 _ hi (sy_py i)
    rw [hg] at h9
    exact h9
  rw [sy_v5 ht, sy_v0 i0]
  exact hs ρ _ H locs cells slots ls _ _ _ _ n d (sy_py i) _ (by omega) (by omega) hH.1 hge i1 i2 rfl (sy_isr_inv h3) (kk ρ H locs ls _ sy_ag.rf (Nat.le_refl _) hH hL (sy_SPm (sy_wfV_elt hwf) hr))
theorem sy_ok_alen {len x y : Nat} (hs1 : ∀ (ws : va_W) (H : Heap) (locs : List Loc) (cells slots : Nat) (ls : Array Slot) (st : List Value) (q0 a t : Nat) (z : vp_A), t ≤ 12 → va_P w.1 sy_cl ws H → ws[q0]? = some (a, .inl (w.2.1 t, z)) →
      W p l e R s m args below meth c H locs cells slots Q (F0 m npc ls (.int (nI z.1) :: st)) → W p l e R s m args below meth c H locs cells slots Q (F0 m pc ls (.ref a :: st)))
    (hl : len ≤ 65535) (hs2 : ∀ (H : Heap) (locs : List Loc) (cells slots : Nat) (ls : Array Slot) (st : List Value), va_S A s.heap H locs → W p l e R s m args below meth c H locs cells slots Q (F0 m npc ls (.int (nI len) :: st)) → W p l e R s m args below meth c H locs cells slots Q (F0 m pc ls (.ref w.2.2.2 :: st))) :
    sy_OK p l e R s m args below meth c Q w A nL pc npc tpc (sy_alen tk len tk x y) := by
  intro L st h cells slots Y hY hk hc hsl ρ H locs ls stC hH hL hS kk
  have hk0 : Y.1 ≠ 0 := by omega
  obtain ⟨a, r, e1, q1⟩ := sy_p1_inv hY hk0
  subst e1
  obtain ⟨hS1, hva, hr⟩ := sy_SPc hS
  subst hS1
  rcases sy_cond_inv q1 with ⟨c1, q2⟩ | ⟨c1, q2⟩
  · subst q2
    rw [sy_v9 (sy_beq c1)]
    have K := kk ρ H locs ls _ sy_ag.rf (Nat.le_refl _) hH hL (sy_SPm (sy_wfV_pk (x := len) (t := 0) (by decide) (fun q => by cases q) (by omega)) hr)
    rw [sy_v0 (sy_tg_pk (by decide)), sy_py_pk (by decide)] at K
    exact hs2 H locs cells slots ls _ hH.2.2.1 K
  · obtain ⟨ht, hi, k, n, d, hg, q2⟩ := sy_cell_inv q2 hk0
    obtain ⟨h1, h2⟩ := sy_if_inv q2 hk0
    obtain ⟨h1, h5⟩ := sy_and h1
    obtain ⟨h5, h6⟩ := sy_and h5
    have h5 := sy_ble h5
    have h6 := sy_ble h6
    rw [sy_force_eq] at h2
    subst h2
    have hk1 := sy_odd h1
    have hge := sy_ws_get (w := w) (ρ := ρ) hi
    rw [hg, hk1, sy_ce_arr] at hge
    have K := kk ρ H locs ls _ sy_ag.rf (Nat.le_refl _) hH hL (sy_SPm (sy_wfV_pk (x := n) (t := 0) (by decide) (fun q => by cases q) (by omega)) hr)
    rw [sy_v0 (sy_tg_pk (by decide)), sy_py_pk (by decide)] at K
    rw [sy_v5 ht]
    exact hs1 _ H locs cells slots ls _ _ _ _ _ (by omega) hH.1 hge K
theorem sy_ok_iald {len x y : Nat} (hT : sy_TK tk w.2.2.1) (hl : len ≤ 65535) (hA : sy_OK p l e R s m args below meth c Q w A nL pc npc tpc (sy_ald 0 0 0 tk x y))
    (hs2 : ∀ (H : Heap) (locs : List Loc) (cells slots : Nat) (ls : Array Slot) (st : List Value) (i : Nat), i < len → va_S A s.heap H locs → W p l e R s m args below meth c H locs cells slots Q (F0 m npc ls (.int (w.2.2.1 i) :: st)) → W p l e R s m args below meth c H locs cells slots Q (F0 m pc ls (.int (nI i) :: .ref w.2.2.2 :: st))) :
    sy_OK p l e R s m args below meth c Q w A nL pc npc tpc (sy_iald len tk x y) := by
  intro L st h cells slots Y hY hk hc hsl ρ H locs ls stC hH hL hS kk
  have hk0 : Y.1 ≠ 0 := by omega
  obtain ⟨a, i, r, e1, q1⟩ := sy_p2_inv hY hk0
  rcases sy_cond_inv q1 with ⟨c1, q2⟩ | ⟨c1, q2⟩
  · subst e1
    obtain ⟨hS1, hvi, hva, hr⟩ := sy_SPc2 hS
    subst hS1
    obtain ⟨h1, h2⟩ := sy_if_inv q2 hk0
    obtain ⟨h1, h3⟩ := sy_and h1
    have h3 : sy_py i < len := sy_ble h3
    have h1 := sy_beq h1
    have hT0 := hT
    cases tk with
    | nil =>
      have h2 : ((8, 0, L, i :: a :: r, h, cells, slots) : sy_X) = Y := h2
      subst h2
      rcases hk with hk | hk <;> cases hk
    | cons t0 tl =>
      rw [sy_v9 (sy_beq c1), sy_v0 h1]
      rcases sy_cond_inv h2 with ⟨c2, q3⟩ | ⟨c2, q3⟩
      · rw [sy_force_eq] at q3
        subst q3
        obtain ⟨c2, c3⟩ := sy_and c2
        have b1 := (hT (sy_py i)).1 (sy_beq c2)
        have b2 := sy_beq c3
        have b3 := sy_k_max (w.2.2.1 (sy_py i))
        have K := kk ρ H locs ls _ sy_ag.rf (Nat.le_refl _) hH hL (sy_SPm (sy_wfV_pk (t := 0) (by decide) (fun q => by cases q) (Nat.lt_trans (Nat.mod_lt _ (by decide)) (by decide))) hr)
        rw [sy_v0 (sy_tg_pk (by decide)), sy_py_pk (by decide)] at K
        have e9 : w.2.2.1 (sy_py i) = nI (((sy_tok (t0 :: tl) (sy_py i)).2.1 + 2147483648) % 4294967296) := by
          rw [sy_k_eq, sy_k_nI]
          omega
        refine hs2 H locs cells slots ls _ _ h3 hH.2.2.1 ?_
        rw [e9]
        exact K
      · rw [sy_force_eq] at q3
        subst q3
        have K := kk ρ H locs ls _ sy_ag.rf (Nat.le_refl _) hH hL (sy_SPm (sy_wfV_pk (x := sy_py i) (t := 6) (by decide) (fun q => by cases q) (by omega)) hr)
        rw [sy_v6 (sy_tg_pk (by decide)), sy_py_pk (by decide)] at K
        exact hs2 H locs cells slots ls _ _ h3 hH.2.2.1 K
  · subst e1
    exact hA L _ h cells slots Y q2 hk hc hsl ρ H locs ls stC hH hL hS kk
end SYH
end
section
/-! stores into arrays, clones, copies, arrays of arrays -/
section SYS
variable {p : Program} {l : Launch} {e : Env} {R : Room} {s : State} {m : MethodId} {args : Array Value} {below : List Frame} {meth : Method} {c : Code} {Q : State → Prop} {w : sy_Wd} {A : Nat → Prop} {nL pc npc tpc : Nat} {tk : sy_T}
theorem sy_p3_inv {st : List Nat} {f : Nat → Nat → Nat → List Nat → sy_X} {Y : sy_X} (h : (sy_p1 st fun v r => sy_p1 r fun i r => sy_p1 r fun a r => f a i v r) = Y) (hk : Y.1 ≠ 0) : ∃ a i v r, st = v :: i :: a :: r ∧ f a i v r = Y := by
  obtain ⟨v, r, e1, q1⟩ := sy_p1_inv h hk
  obtain ⟨i, r2, e2, q2⟩ := sy_p1_inv q1 hk
  obtain ⟨a, r3, e3, q3⟩ := sy_p1_inv q2 hk
  subst e3
  subst e2
  exact ⟨a, i, v, r3, e1, q3⟩
theorem sy_SPc3 {ρ : Nat → Nat} {n a i v : Nat} {r : List Nat} {stC : List Value} (h : sy_SP w ρ n (v :: i :: a :: r) stC) : stC = sy_v w ρ v :: sy_v w ρ i :: sy_v w ρ a :: r.map (sy_v w ρ) ∧ sy_wfV n v ∧ sy_wfV n i ∧ sy_wfV n a ∧ ∀ u ∈ r, sy_wfV n u :=
  ⟨h.1, h.2 v List.mem_cons_self, h.2 i (List.mem_cons_of_mem _ List.mem_cons_self), h.2 a (List.mem_cons_of_mem _ (List.mem_cons_of_mem _ List.mem_cons_self)), fun u hu => h.2 u (List.mem_cons_of_mem _ (List.mem_cons_of_mem _ (List.mem_cons_of_mem _ hu)))⟩
theorem sy_ok_ast {t ty x y : Nat} (hs : ∀ (ρ : Nat → Nat) (ws : va_W) (H : Heap) (locs : List Loc) (cells slots : Nat) (ls : Array Slot) (st : List Value) (q0 a n d i v : Nat), va_P w.1 sy_cl ws H → va_D A ws → va_S A s.heap H locs → ws[q0]? = some (a, .inl (w.2.1 t, n, sy_arr w ρ t d)) → i < n → n ≤ 65535 → sy_ty v = ty → v < 2 ^ 72 →
      (∀ (H1 : Heap) (locs1 : List Loc), va_P w.1 sy_cl (ws.set q0 (a, .inl (w.2.1 t, n, sy_arr w ρ t (sy_wr d i v)))) H1 → va_D A (ws.set q0 (a, .inl (w.2.1 t, n, sy_arr w ρ t (sy_wr d i v)))) → va_S A s.heap H1 locs1 → W p l e R s m args below meth c H1 locs1 cells slots Q (F0 m npc ls st)) →
      W p l e R s m args below meth c H locs cells slots Q (F0 m pc ls (sy_v w ρ v :: .int (nI i) :: .ref a :: st))) : sy_OK p l e R s m args below meth c Q w A nL pc npc tpc (sy_ast t ty tk x y) := by
  intro L st h cells slots Y hY hk hc hsl ρ H locs ls stC hH hL hS kk
  have hk0 : Y.1 ≠ 0 := by omega
  obtain ⟨a, i, v, r, e1, q1⟩ := sy_p3_inv hY hk0
  subst e1
  obtain ⟨hS1, hvv, hvi, hva, hr⟩ := sy_SPc3 hS
  subst hS1
  obtain ⟨ht, hi, k, n, d, hg, q2⟩ := sy_cell_inv q1 hk0
  obtain ⟨h1, h2⟩ := sy_if_inv q2 hk0
  obtain ⟨h1, h3⟩ := sy_and h1
  obtain ⟨i0, i1, i2, q3⟩ := sy_ix_inv h2 hk0
  rw [sy_force_eq] at q3
  subst q3
  have hk1 : k = 2 * t + 1 := sy_beq h1
  subst hk1
  have hge := sy_ws_get (w := w) (ρ := ρ) hi
  rw [hg, sy_ce_arr] at hge
  have hwf : ∀ j, sy_wfV h.1 (sy_rd d j) := by
    have h9 := hH.2.2.2.2 _ hi
    rw [hg] at h9
    exact h9
  rw [sy_v5 ht, sy_v0 i0]
  refine hs ρ _ H locs cells slots ls _ _ _ n d (sy_py i) v hH.1 hH.2.1 hH.2.2.1 hge i1 i2 (sy_beq h3) (Nat.lt_trans hvv.1 (by decide)) fun H1 locs1 g1 g2 g3 => ?_
  rw [← sy_ce_arr] at g1 g2
  exact kk ρ H1 locs1 ls _ sy_ag.rf (Nat.le_refl _) (sy_HP_set hH.2.2.2 hi (sy_wfO_wr hwf hvv) g1 g2 g3) hL ⟨rfl, hr⟩
/-- an int that is a char -/
def sy_isch (v : Nat) : Prop := sy_tg v = 8 ∨ (sy_tg v = 0 ∧ sy_py v ≤ 65535)
theorem sy_isch_of {v : Nat} (h : cond (Nat.beq (sy_tg v) 8) true (cond (Nat.beq (sy_tg v) 0) (Nat.ble (sy_py v) 65535) false) = true) : sy_isch v := by
  cases h8 : Nat.beq (sy_tg v) 8 with
  | true => exact Or.inl (sy_beq h8)
  | false =>
    rw [h8] at h
    obtain ⟨h1, h2⟩ := sy_and (a := Nat.beq (sy_tg v) 0) h
    exact Or.inr ⟨sy_beq h1, sy_ble h2⟩
theorem sy_ok_cast {x y : Nat} (hs : ∀ (ρ : Nat → Nat) (ws : va_W) (H : Heap) (locs : List Loc) (cells slots : Nat) (ls : Array Slot) (st : List Value) (q0 a n d i v : Nat), va_P w.1 sy_cl ws H → va_D A ws → va_S A s.heap H locs → ws[q0]? = some (a, .inl (w.2.1 3, n, sy_arr w ρ 3 d)) → i < n → n ≤ 65535 → sy_isch v → v < 2 ^ 72 →
      (∀ (H1 : Heap) (locs1 : List Loc), va_P w.1 sy_cl (ws.set q0 (a, .inl (w.2.1 3, n, sy_arr w ρ 3 (sy_wr d i v)))) H1 → va_D A (ws.set q0 (a, .inl (w.2.1 3, n, sy_arr w ρ 3 (sy_wr d i v)))) → va_S A s.heap H1 locs1 → W p l e R s m args below meth c H1 locs1 cells slots Q (F0 m npc ls st)) →
      W p l e R s m args below meth c H locs cells slots Q (F0 m pc ls (sy_v w ρ v :: .int (nI i) :: .ref a :: st))) : sy_OK p l e R s m args below meth c Q w A nL pc npc tpc (sy_cast tk x y) := by
  intro L st h cells slots Y hY hk hc hsl ρ H locs ls stC hH hL hS kk
  have hk0 : Y.1 ≠ 0 := by omega
  obtain ⟨a, i, v, r, e1, q1⟩ := sy_p3_inv hY hk0
  subst e1
  obtain ⟨hS1, hvv, hvi, hva, hr⟩ := sy_SPc3 hS
  subst hS1
  obtain ⟨ht, hi, k, n, d, hg, q2⟩ := sy_cell_inv q1 hk0
  obtain ⟨h1, h2⟩ := sy_if_inv q2 hk0
  obtain ⟨h1, h3⟩ := sy_and h1
  obtain ⟨i0, i1, i2, q3⟩ := sy_ix_inv h2 hk0
  rw [sy_force_eq] at q3
  subst q3
  have hk1 : k = 2 * 3 + 1 := sy_beq h1
  subst hk1
  have hge := sy_ws_get (w := w) (ρ := ρ) hi
  rw [hg, sy_ce_arr] at hge
  have hwf : ∀ j, sy_wfV h.1 (sy_rd d j) := by
    have h9 := hH.2.2.2.2 _ hi
    rw [hg] at h9
    exact h9
  rw [sy_v5 ht, sy_v0 i0]
  refine hs ρ _ H locs cells slots ls _ _ _ n d (sy_py i) v hH.1 hH.2.1 hH.2.2.1 hge i1 i2 (sy_isch_of h3) (Nat.lt_trans hvv.1 (by decide)) fun H1 locs1 g1 g2 g3 => ?_
  rw [← sy_ce_arr] at g1 g2
  exact kk ρ H1 locs1 ls _ sy_ag.rf (Nat.le_refl _) (sy_HP_set hH.2.2.2 hi (sy_wfO_wr hwf hvv) g1 g2 g3) hL ⟨rfl, hr⟩
theorem sy_ok_aast {T : Nat → Nat} {x y : Nat} (hs : ∀ (ρ : Nat → Nat) (ws : va_W) (H : Heap) (locs : List Loc) (cells slots : Nat) (ls : Array Slot) (st : List Value) (q0 a t n d i v : Nat), 6 ≤ t → t ≤ 11 → va_P w.1 sy_cl ws H → va_D A ws → va_S A s.heap H locs → ws[q0]? = some (a, .inl (w.2.1 t, n, sy_arr w ρ t d)) → i < n → n ≤ 65535 →
      (v = 4 ∨ (sy_tg v = 5 ∧ ∃ (qk : Nat) (vs : List Value), ws[qk]? = some (ρ (sy_py v), .inr (T t, vs)))) → v < 2 ^ 72 →
      (∀ (H1 : Heap) (locs1 : List Loc), va_P w.1 sy_cl (ws.set q0 (a, .inl (w.2.1 t, n, sy_arr w ρ t (sy_wr d i v)))) H1 → va_D A (ws.set q0 (a, .inl (w.2.1 t, n, sy_arr w ρ t (sy_wr d i v)))) → va_S A s.heap H1 locs1 → W p l e R s m args below meth c H1 locs1 cells slots Q (F0 m npc ls st)) →
      W p l e R s m args below meth c H locs cells slots Q (F0 m pc ls (sy_v w ρ v :: .int (nI i) :: .ref a :: st))) : sy_OK p l e R s m args below meth c Q w A nL pc npc tpc (sy_aast T tk x y) := by
  intro L st h cells slots Y hY hk hc hsl ρ H locs ls stC hH hL hS kk
  have hk0 : Y.1 ≠ 0 := by omega
  obtain ⟨a, i, v, r, e1, q1⟩ := sy_p3_inv hY hk0
  subst e1
  obtain ⟨hS1, hvv, hvi, hva, hr⟩ := sy_SPc3 hS
  subst hS1
  obtain ⟨ht, hi, k, n, d, hg, q2⟩ := sy_cell_inv q1 hk0
  obtain ⟨h1, h2⟩ := sy_if_inv q2 hk0
  obtain ⟨h1, h5⟩ := sy_and h1
  obtain ⟨h5, h6⟩ := sy_and h5
  have h5 := sy_ble h5
  have h6 := sy_ble h6
  have hk1 := sy_odd h1
  have hge := sy_ws_get (w := w) (ρ := ρ) hi
  rw [hg, hk1, sy_ce_arr] at hge
  have hwf : ∀ j, sy_wfV h.1 (sy_rd d j) := by
    have h9 := hH.2.2.2.2 _ hi
    rw [hg] at h9
    exact h9
  have fin : (v = 4 ∨ (sy_tg v = 5 ∧ ∃ (qk : Nat) (vs : List Value), (sy_ws w ρ h)[qk]? = some (ρ (sy_py v), .inr (T (k / 2), vs)))) → (sy_ix tk i n fun j => sy_force (sy_wr d j v) fun d => sy_go L r (h.1, sy_hp h.2 (sy_py a) (k, n, d)) cells slots) = Y →
      W p l e R s m args below meth c H locs cells slots Q (F0 m pc ls (sy_v w ρ v :: sy_v w ρ i :: sy_v w ρ a :: r.map (sy_v w ρ))) := by
    intro hv hq
    obtain ⟨i0, i1, i2, q3⟩ := sy_ix_inv hq hk0
    rw [sy_force_eq] at q3
    subst q3
    rw [sy_v5 ht, sy_v0 i0]
    refine hs ρ _ H locs cells slots ls _ _ _ (k / 2) n d (sy_py i) v (by omega) (by omega) hH.1 hH.2.1 hH.2.2.1 hge i1 i2 hv (Nat.lt_trans hvv.1 (by decide)) fun H1 locs1 g1 g2 g3 => ?_
    rw [← sy_ce_arr, ← hk1] at g1 g2
    exact kk ρ H1 locs1 ls _ sy_ag.rf (Nat.le_refl _) (sy_HP_set hH.2.2.2 hi (sy_wfO_wr hwf hvv) g1 g2 g3) hL ⟨rfl, hr⟩
  rcases sy_cond_inv h2 with ⟨c1, q3⟩ | ⟨c1, q3⟩
  · have hv4 : v = 4 := sy_beq c1
    subst hv4
    exact fin (Or.inl rfl) q3
  · obtain ⟨ht2, hi2, k2, n2, d2, hg2, q4⟩ := sy_cell_inv q3 hk0
    obtain ⟨h7, h8⟩ := sy_if_inv q4 hk0
    have hk2 : k2 = 2 * T (k / 2) := sy_beq h7
    have hge2 := sy_ws_get (w := w) (ρ := ρ) hi2
    rw [hg2, hk2, sy_ce_obj] at hge2
    exact fin (Or.inr ⟨ht2, _, _, hge2⟩) h8
theorem sy_ok_castA {x y : Nat} (hs : ∀ (ws : va_W) (H : Heap) (locs : List Loc) (cells slots : Nat) (ls : Array Slot) (st : List Value) (q0 a : Nat) (z : vp_A), va_P w.1 sy_cl ws H → ws[q0]? = some (a, .inl (w.2.1 x, z)) →
      W p l e R s m args below meth c H locs cells slots Q (F0 m npc ls (.ref a :: st)) → W p l e R s m args below meth c H locs cells slots Q (F0 m pc ls (.ref a :: st))) : sy_OK p l e R s m args below meth c Q w A nL pc npc tpc (sy_castA tk x y) := by
  intro L st h cells slots Y hY hk hc hsl ρ H locs ls stC hH hL hS kk
  have hk0 : Y.1 ≠ 0 := by omega
  obtain ⟨a, r, e1, q1⟩ := sy_p1_inv hY hk0
  subst e1
  obtain ⟨hS1, hva, hr⟩ := sy_SPc hS
  obtain ⟨ht, hi, k, n, d, hg, q2⟩ := sy_cell_inv q1 hk0
  obtain ⟨h1, h2⟩ := sy_if_inv q2 hk0
  subst h2
  have hk1 : k = 2 * x + 1 := sy_beq h1
  have hge := sy_ws_get (w := w) (ρ := ρ) hi
  rw [hg, hk1, sy_ce_arr] at hge
  have K := kk ρ H locs ls _ sy_ag.rf (Nat.le_refl _) hH hL hS
  subst hS1
  rw [sy_v5 ht] at K ⊢
  exact hs _ H locs cells slots ls _ _ _ _ hH.1 hge K
theorem sy_ok_clone {x y : Nat} (hs : ∀ (ρ : Nat → Nat) (ws : va_W) (H : Heap) (locs : List Loc) (cells slots : Nat) (ls : Array Slot) (st : List Value) (q0 a n d : Nat), ls.size = nL → (st.map fun v => v.category).sum ≤ 50 → va_P w.1 sy_cl ws H → va_D A ws → va_S A s.heap H locs → ws[q0]? = some (a, .inl (w.2.1 0, n, sy_arr w ρ 0 d)) → cells + 1 ≤ R.cells → slots + n ≤ R.slots →
      (∀ (q : Nat) (H1 : Heap) (locs1 : List Loc), va_P w.1 sy_cl (ws ++ [(q, .inl (w.2.1 0, n, sy_arr w ρ 0 d))]) H1 → va_D A (ws ++ [(q, .inl (w.2.1 0, n, sy_arr w ρ 0 d))]) → va_S A s.heap H1 locs1 → W p l e R s m args below meth c H1 locs1 (cells + 1) (slots + n) Q (F0 m npc ls (.ref q :: st))) →
      W p l e R s m args below meth c H locs cells slots Q (F0 m pc ls (.ref a :: st))) : sy_OK p l e R s m args below meth c Q w A nL pc npc tpc (sy_clone tk x y) := by
  intro L st h cells slots Y hY hk hc hsl ρ H locs ls stC hH hL hS kk
  have hk0 : Y.1 ≠ 0 := by omega
  obtain ⟨a, r, e1, q1⟩ := sy_p1_inv hY hk0
  subst e1
  obtain ⟨hS1, hva, hr⟩ := sy_SPc hS
  subst hS1
  obtain ⟨ht, hi, k, n, d, hg, q2⟩ := sy_cell_inv q1 hk0
  obtain ⟨h1, h2⟩ := sy_if_inv q2 hk0
  obtain ⟨h1, h9⟩ := sy_and h1
  have hk1 : k = 2 * 0 + 1 := sy_beq h1
  have hwf : ∀ j, sy_wfV h.1 (sy_rd d j) := by
    have h9 := hH.2.2.2.2 _ hi
    rw [hg] at h9
    exact h9
  obtain ⟨z1, z2, z3⟩ := sy_alloc_ok (p := p) (l := l) (e := e) (R := R) (m := m) (args := args) (below := below) (meth := meth) (c := c) (Q := Q) (npc := npc) (tpc := tpc) h2 hk hH hL hr hwf
  have hge := sy_ws_get (w := w) (ρ := ρ) hi
  rw [hg, hk1, sy_ce_arr] at hge
  rw [hk1, sy_ce_arr] at z3
  rw [sy_v5 ht]
  refine hs ρ _ H locs cells slots ls _ _ _ n d hL.1 ?_ hH.1 hH.2.1 hH.2.2.1 hge (by omega) (by omega) (z3 kk)
  have hcats : ∀ q : List Nat, ((q.map (sy_v w ρ)).map fun v => v.category).sum = sy_cats q := by
    intro q
    induction q with
    | nil => rfl
    | cons v q ih =>
      show (sy_v w ρ v).category + ((q.map (sy_v w ρ)).map fun v => v.category).sum = sy_ct v + sy_cats q
      rw [ih, sy_ct_cat']
  rw [hcats]
  exact sy_ble h9
/-- what a copy leaves -/
theorem sy_rd_cpy {d sp dp e : Nat} : ∀ (n j : Nat), sy_rd (sy_cpy d sp dp n e) j = if dp ≤ j ∧ j < dp + n then sy_rd d (sp + (j - dp)) else sy_rd e j
  | 0, j => by
    rw [if_neg (by omega)]
    rfl
  | n + 1, j => by
    show sy_rd (sy_wr (sy_cpy d sp dp n e) (dp + n) (sy_rd d (sp + n))) j = _
    rw [sy_rd_wr _ _ _ _ (sy_rd_lt _ _), sy_rd_cpy n j]
    by_cases h1 : dp + n = j
    · rw [if_pos h1, if_pos (by omega), show j - dp = n by omega]
    · rw [if_neg h1]
      by_cases h2 : dp ≤ j ∧ j < dp + n
      · rw [if_pos h2, if_pos (by omega)]
      · rw [if_neg h2, if_neg (by omega)]
theorem sy_ok_acpy {x y : Nat} (hs : ∀ (ρ : Nat → Nat) (ws : va_W) (H : Heap) (locs : List Loc) (cells slots : Nat) (ls : Array Slot) (st : List Value) (q0 q1 a0 a1 n0 n1 d0 d1 sp dp n : Nat), ls.size = nL → (st.map fun v => v.category).sum ≤ 50 → va_P w.1 sy_cl ws H → va_D A ws → va_S A s.heap H locs → ws[q0]? = some (a0, .inl (w.2.1 0, n0, sy_arr w ρ 0 d0)) → ws[q1]? = some (a1, .inl (w.2.1 0, n1, sy_arr w ρ 0 d1)) → sp + n ≤ n0 → dp + n ≤ n1 → n0 ≤ 65535 → n1 ≤ 65535 →
      (∀ (H1 : Heap) (locs1 : List Loc), va_P w.1 sy_cl (ws.set q1 (a1, .inl (w.2.1 0, n1, sy_arr w ρ 0 (sy_cpy d0 sp dp n d1)))) H1 → va_D A (ws.set q1 (a1, .inl (w.2.1 0, n1, sy_arr w ρ 0 (sy_cpy d0 sp dp n d1)))) → va_S A s.heap H1 locs1 → W p l e R s m args below meth c H1 locs1 cells slots Q (F0 m npc ls st)) →
      W p l e R s m args below meth c H locs cells slots Q (F0 m pc ls (.int (nI n) :: .int (nI dp) :: .ref a1 :: .int (nI sp) :: .ref a0 :: st))) : sy_OK p l e R s m args below meth c Q w A nL pc npc tpc (sy_acpy tk x y) := by
  intro L st h cells slots Y hY hk hc hsl ρ H locs ls stC hH hL hS kk
  have hk0 : Y.1 ≠ 0 := by omega
  obtain ⟨n, r1, e1, q1⟩ := sy_p1_inv hY hk0
  obtain ⟨dp, r2, e2, q2⟩ := sy_p1_inv q1 hk0
  obtain ⟨b, r3, e3, q3⟩ := sy_p1_inv q2 hk0
  obtain ⟨sp, r4, e4, q4⟩ := sy_p1_inv q3 hk0
  obtain ⟨a, r, e5, q5⟩ := sy_p1_inv q4 hk0
  subst e5
  subst e4
  subst e3
  subst e2
  subst e1
  have hS1 := hS.1
  have hr : ∀ u ∈ r, sy_wfV h.1 u := fun u hu => hS.2 u (List.mem_cons_of_mem _ (List.mem_cons_of_mem _ (List.mem_cons_of_mem _ (List.mem_cons_of_mem _ (List.mem_cons_of_mem _ hu)))))
  have hS1 : stC = sy_v w ρ n :: sy_v w ρ dp :: sy_v w ρ b :: sy_v w ρ sp :: sy_v w ρ a :: r.map (sy_v w ρ) := hS1
  subst hS1
  obtain ⟨ht, hi, k, n1, d, hg, q6⟩ := sy_cell_inv q5 hk0
  obtain ⟨ht2, hi2, k2, n2, d2, hg2, q7⟩ := sy_cell_inv q6 hk0
  obtain ⟨h1, h2⟩ := sy_if_inv q7 hk0
  obtain ⟨h1, h3⟩ := sy_and h1
  obtain ⟨h3, h4⟩ := sy_and h3
  obtain ⟨h4, h5⟩ := sy_and h4
  obtain ⟨h5, h6⟩ := sy_and h5
  obtain ⟨g1, g2⟩ := sy_if_inv h2 hk0
  obtain ⟨g1, g3⟩ := sy_and g1
  obtain ⟨g3, g4⟩ := sy_and g3
  obtain ⟨g4, g5⟩ := sy_and g4
  obtain ⟨g5, g6⟩ := sy_and g5
  rw [sy_force_eq] at g2
  subst g2
  have hk1 : k = 2 * 0 + 1 := sy_beq h1
  have hk2 : k2 = 2 * 0 + 1 := sy_beq h3
  have hge := sy_ws_get (w := w) (ρ := ρ) hi
  rw [hg, hk1, sy_ce_arr] at hge
  have hge2 := sy_ws_get (w := w) (ρ := ρ) hi2
  rw [hg2, hk2, sy_ce_arr] at hge2
  have hwf : ∀ j, sy_wfV h.1 (sy_rd d j) := by
    have h9 := hH.2.2.2.2 _ hi
    rw [hg] at h9
    exact h9
  have hwf2 : ∀ j, sy_wfV h.1 (sy_rd d2 j) := by
    have h9 := hH.2.2.2.2 _ hi2
    rw [hg2] at h9
    exact h9
  rw [sy_v0 (sy_beq h4), sy_v0 (sy_beq h5), sy_v0 (sy_beq h6), sy_v5 ht, sy_v5 ht2]
  have hcats : ∀ q : List Nat, ((q.map (sy_v w ρ)).map fun v => v.category).sum = sy_cats q := by
    intro q
    induction q with
    | nil => rfl
    | cons v q ih =>
      show (sy_v w ρ v).category + ((q.map (sy_v w ρ)).map fun v => v.category).sum = sy_ct v + sy_cats q
      rw [ih, sy_ct_cat']
  refine hs ρ _ H locs cells slots ls _ _ _ _ _ n1 n2 d d2 (sy_py sp) (sy_py dp) (sy_py n) hL.1 (by rw [hcats]; exact sy_ble g6) hH.1 hH.2.1 hH.2.2.1 hge hge2 (sy_ble g4) (sy_ble g5) (sy_ble g1) (sy_ble g3) fun H1 locs1 z1 z2 z3 => ?_
  rw [← sy_ce_arr, ← hk2] at z1 z2
  refine kk ρ H1 locs1 ls _ sy_ag.rf (Nat.le_refl _) (sy_HP_set hH.2.2.2 hi2 (fun j => ?_) z1 z2 z3) hL ⟨rfl, hr⟩
  show sy_wfV h.1 (sy_rd (sy_cpy d (sy_py sp) (sy_py dp) (sy_py n) d2) j)
  rw [sy_rd_cpy]
  split
  · exact hwf _
  · exact hwf2 _
end SYS
end
section
/-! boolean[n][k] -/
section SYM
variable {p : Program} {l : Launch} {e : Env} {R : Room} {s : State} {m : MethodId} {args : Array Value} {below : List Frame} {meth : Method} {c : Code} {Q : State → Prop} {w : sy_Wd} {A : Nat → Prop} {nL pc npc tpc : Nat} {tk : sy_T}
theorem sy_hg_rows {m K : Nat} {t : sy_U9} : ∀ (n i : Nat), m + 1 + n ≤ 511 → i < 512 → sy_hg (sy_rows m K n t) i = if m + 1 ≤ i ∧ i < m + 1 + n then (5, K, 0) else sy_hg t i
  | 0, i, _, _ => by
    rw [if_neg (by omega)]
    rfl
  | n + 1, i, h, hi => by
    show sy_hg (sy_hp (sy_rows m K n t) (m + 1 + n) (5, K, 0)) i = _
    rw [sy_hg_hp _ _ _ _ (by omega) hi, sy_hg_rows n i (by omega) hi]
    by_cases h1 : m + 1 + n = i
    · rw [if_pos h1, if_pos (by omega)]
    · rw [if_neg h1]
      by_cases h2 : m + 1 ≤ i ∧ i < m + 1 + n
      · rw [if_pos h2, if_pos (by omega)]
      · rw [if_neg h2, if_neg (by omega)]
theorem sy_rd_refs {m : Nat} : ∀ (n j : Nat), m + 1 + n ≤ 511 → sy_rd (sy_refs m n) j = if j < n then sy_pk 5 (m + 1 + j) else 0
  | 0, j, _ => by
    rw [if_neg (by omega)]
    exact sy_rd0 j
  | n + 1, j, h => by
    show sy_rd (sy_wr (sy_refs m n) n (sy_pk 5 (m + 1 + n))) j = _
    have hlt : sy_pk 5 (m + 1 + n) < 2 ^ 72 := by
      show 16 * (m + 1 + n) + 5 < _
      omega
    rw [sy_rd_wr _ _ _ _ hlt, sy_rd_refs n j (by omega)]
    by_cases h1 : n = j
    · subst h1
      rw [if_pos rfl, if_pos (by omega)]
    · rw [if_neg h1]
      by_cases h2 : j < n
      · rw [if_pos h2, if_pos (by omega)]
      · rw [if_neg h2, if_neg (by omega)]
def sy_um (ρ : Nat → Nat) (m q n : Nat) (r : Nat → Nat) : Nat → Nat := fun k => if k = m then q else if m < k ∧ k < m + 1 + n then r (k - (m + 1)) else ρ k
theorem sy_um_ag {ρ : Nat → Nat} {m q n : Nat} {r : Nat → Nat} : sy_ag m ρ (sy_um ρ m q n r) := fun k hk => by
  unfold sy_um
  rw [if_neg (by omega), if_neg (by omega)]
theorem sy_um_q {ρ : Nat → Nat} {m q n : Nat} {r : Nat → Nat} : sy_um ρ m q n r m = q := if_pos rfl
theorem sy_um_r {ρ : Nat → Nat} {m q n j : Nat} {r : Nat → Nat} (h : j < n) : sy_um ρ m q n r (m + 1 + j) = r j := by
  unfold sy_um
  rw [if_neg (by omega), if_pos (by omega), show m + 1 + j - (m + 1) = j by omega]
theorem sy_arr_refs {ρ : Nat → Nat} {m q n x : Nat} {r : Nat → Nat} (hx : 6 ≤ x) (h : m + 1 + n ≤ 511) : sy_arr w (sy_um ρ m q n r) x (sy_refs m n) = .inr (.inr (.inr (.inr fun i => if i < n then some (r i) else none))) := by
  unfold sy_arr
  rw [if_neg (by omega), if_neg (by omega), if_neg (by omega)]
  congr 4
  funext i
  rw [sy_rd_refs n i h]
  by_cases hi : i < n
  · rw [if_pos hi, if_pos hi]
    have e : sy_elt 6 (sy_pk 5 (m + 1 + i)) = sy_pk 5 (m + 1 + i) := rfl
    rw [e, sy_v5 (sy_tg_pk (by decide)), sy_py_pk (by decide), sy_um_r hi]
    rfl
  · rw [if_neg hi, if_neg hi]
    rfl
theorem sy_ws_multi {ρ : Nat → Nat} {h : sy_H} (hw : sy_wfH h) {x n K q : Nat} {r : Nat → Nat} (hx : 6 ≤ x) (h5 : h.1 + 1 + n ≤ 511) :
    (sy_ws w ρ h ++ [(q, .inl (w.2.1 x, n, .inr (.inr (.inr (.inr fun i => if i < n then some (r i) else none)))))]) ++ (List.range n).map (fun i => (r i, .inl (w.2.1 2, K, sy_arr w ρ 2 0))) =
      sy_ws w (sy_um ρ h.1 q n r) (h.1 + 1 + n, sy_rows h.1 K n (sy_hp h.2 h.1 (2 * x + 1, n, sy_refs h.1 n))) := by
  apply List.ext_getElem?
  intro j
  by_cases hj : j < h.1
  · rw [List.getElem?_append_left (by rw [List.length_append, sy_ws_len]; exact Nat.lt_succ_of_lt hj), List.getElem?_append_left (by rw [sy_ws_len]; exact hj), sy_ws_get hj,
      sy_ws_get (h := (h.1 + 1 + n, sy_rows h.1 K n (sy_hp h.2 h.1 (2 * x + 1, n, sy_refs h.1 n)))) (show j < h.1 + 1 + n by omega), sy_hg_rows n j h5 (by omega), if_neg (by omega), sy_hg_hp _ _ _ _ (by omega) (by omega), if_neg (by omega), sy_um_ag j hj, sy_ce_ag (hw.2 j hj) sy_um_ag]
  · by_cases hj2 : j = h.1
    · subst hj2
      rw [List.getElem?_append_left (by rw [List.length_append, sy_ws_len]; exact Nat.lt_succ_self _), List.getElem?_append_right (by rw [sy_ws_len]; exact Nat.le_refl _), sy_ws_len, Nat.sub_self,
        sy_ws_get (h := (h.1 + 1 + n, sy_rows h.1 K n (sy_hp h.2 h.1 (2 * x + 1, n, sy_refs h.1 n)))) (show h.1 < h.1 + 1 + n by omega), sy_hg_rows n _ h5 (by omega), if_neg (by omega), sy_hg_hp _ _ _ _ (by omega) (by omega), if_pos rfl, sy_ce_arr, sy_um_q, sy_arr_refs hx h5]
      rfl
    · by_cases hj3 : j < h.1 + 1 + n
      · rw [List.getElem?_append_right (by rw [List.length_append, sy_ws_len]; show h.1 + 1 ≤ j; omega), List.length_append, sy_ws_len, List.length_singleton,
          sy_ws_get (h := (h.1 + 1 + n, sy_rows h.1 K n (sy_hp h.2 h.1 (2 * x + 1, n, sy_refs h.1 n)))) hj3, sy_hg_rows n j h5 (by omega), if_pos (by omega), List.getElem?_map, List.getElem?_range (show j - (h.1 + 1) < n by omega)]
        have e : sy_um ρ h.1 q n r j = r (j - (h.1 + 1)) := by
          have := sy_um_r (ρ := ρ) (m := h.1) (q := q) (r := r) (show j - (h.1 + 1) < n by omega)
          rw [show h.1 + 1 + (j - (h.1 + 1)) = j by omega] at this
          exact this
        have e2 : sy_ce w (sy_um ρ h.1 q n r) (5, K, 0) = .inl (w.2.1 2, K, sy_arr w (sy_um ρ h.1 q n r) 2 0) := sy_ce_arr (t := 2)
        have e3 : sy_arr w (sy_um ρ h.1 q n r) 2 0 = sy_arr w ρ 2 0 := sy_arr_ag (n := h.1) (fun j => by rw [sy_rd0]; exact sy_wfV0 _) sy_um_ag
        rw [e, e2, e3]
        rfl
      · rw [List.getElem?_eq_none (by rw [List.length_append, List.length_append, sy_ws_len, List.length_map, List.length_range]; show h.1 + 1 + n ≤ j; omega), List.getElem?_eq_none (by rw [sy_ws_len]; show h.1 + 1 + n ≤ j; omega)]
theorem sy_wfH_multi {h : sy_H} (hw : sy_wfH h) {x n K : Nat} (h5 : h.1 + 1 + n ≤ 511) : sy_wfH (h.1 + 1 + n, sy_rows h.1 K n (sy_hp h.2 h.1 (2 * x + 1, n, sy_refs h.1 n))) := by
  refine ⟨h5, fun j hj => ?_⟩
  have hj : j < h.1 + 1 + n := hj
  show sy_wfO (h.1 + 1 + n) (sy_hg (sy_rows h.1 K n (sy_hp h.2 h.1 (2 * x + 1, n, sy_refs h.1 n))) j)
  rw [sy_hg_rows n j h5 (by omega)]
  split
  · intro i
    show sy_wfV _ (sy_rd 0 i)
    rw [sy_rd0]
    exact sy_wfV0 _
  · rw [sy_hg_hp _ _ _ _ (by omega) (by omega)]
    split
    · intro i
      show sy_wfV _ (sy_rd (sy_refs h.1 n) i)
      rw [sy_rd_refs n i h5]
      split
      · exact sy_wfV_pk (by decide) (fun _ => by omega) (by omega)
      · exact sy_wfV0 _
    · exact (hw.2 j (by omega)).mono (by omega)
theorem sy_ok_mna {x y : Nat} (hx : 6 ≤ x) (hs : ∀ (ρ : Nat → Nat) (ws : va_W) (H : Heap) (locs : List Loc) (cells slots : Nat) (ls : Array Slot) (st : List Value) (n k : Nat), n ≤ 511 → k ≤ 65535 → va_P w.1 sy_cl ws H → va_D A ws → va_S A s.heap H locs → cells + (1 + n) ≤ R.cells → slots + (n + n * k) ≤ R.slots →
      (∀ (q : Nat) (r : Nat → Nat) (H1 : Heap) (locs1 : List Loc), va_P w.1 sy_cl ((ws ++ [(q, .inl (w.2.1 x, n, .inr (.inr (.inr (.inr fun i => if i < n then some (r i) else none)))))]) ++ (List.range n).map (fun i => (r i, .inl (w.2.1 2, k, sy_arr w ρ 2 0)))) H1 →
        va_D A ((ws ++ [(q, .inl (w.2.1 x, n, .inr (.inr (.inr (.inr fun i => if i < n then some (r i) else none)))))]) ++ (List.range n).map (fun i => (r i, .inl (w.2.1 2, k, sy_arr w ρ 2 0)))) → va_S A s.heap H1 locs1 → W p l e R s m args below meth c H1 locs1 (cells + 1 + n) (slots + n + n * k) Q (F0 m npc ls (.ref q :: st))) →
      W p l e R s m args below meth c H locs cells slots Q (F0 m pc ls (.int (nI k) :: .int (nI n) :: st))) : sy_OK p l e R s m args below meth c Q w A nL pc npc tpc (sy_mna tk x y) := by
  intro L st h cells slots Y hY hk hc hsl ρ H locs ls stC hH hL hS kk
  have hk0 : Y.1 ≠ 0 := by omega
  obtain ⟨n, k, r0, e1, q1⟩ := sy_p2_inv hY hk0
  subst e1
  obtain ⟨hS1, hvk, hvn, hr⟩ := sy_SPc2 hS
  subst hS1
  obtain ⟨h1, h2⟩ := sy_if_inv q1 hk0
  obtain ⟨h1, h3⟩ := sy_and h1
  obtain ⟨h3, h4⟩ := sy_and h3
  obtain ⟨h4, h6⟩ := sy_and h4
  rw [sy_force_eq, sy_force_eq, sy_force_eq, sy_force_eq, sy_force_eq] at h2
  subst h2
  have h5 : h.1 + 1 + sy_py n ≤ 511 := sy_ble h6
  have hc : cells + 1 + sy_py n ≤ R.cells := hc
  have hsl : slots + sy_py n + sy_py n * sy_py k ≤ R.slots := hsl
  rw [sy_v0 (sy_beq h1), sy_v0 (sy_beq h3)]
  refine hs ρ _ H locs cells slots ls _ (sy_py n) (sy_py k) (by omega) (sy_ble h4) hH.1 hH.2.1 hH.2.2.1 (by omega) (by omega) fun q r H1 locs1 g1 g2 g3 => ?_
  rw [sy_ws_multi hH.2.2.2 hx h5] at g1 g2
  have ha : sy_ag h.1 ρ (sy_um ρ h.1 q (sy_py n) r) := sy_um_ag
  have hw : sy_wfV (h.1 + 1 + sy_py n) (sy_pk 5 h.1) := sy_wfV_pk (by decide) (fun _ => by omega) (by omega)
  have hSP : sy_SP w (sy_um ρ h.1 q (sy_py n) r) (h.1 + 1 + sy_py n) (sy_pk 5 h.1 :: r0) (sy_v w (sy_um ρ h.1 q (sy_py n) r) (sy_pk 5 h.1) :: r0.map (sy_v w (sy_um ρ h.1 q (sy_py n) r))) := sy_SPm hw fun u hu => (hr u hu).mono (by omega)
  have K := kk (sy_um ρ h.1 q (sy_py n) r) H1 locs1 ls _ ha (show h.1 ≤ h.1 + 1 + sy_py n by omega) ⟨g1, g2, g3, sy_wfH_multi hH.2.2.2 h5⟩ (hL.ag ha (show h.1 ≤ h.1 + 1 + sy_py n by omega)) hSP
  rw [sy_v5 (sy_tg_pk (by decide)), sy_py_pk (by decide), sy_um_q, List.map_congr_left (fun v hv => sy_v_ag (hr v hv) ha)] at K
  exact K
end SYM
end
section
/-! what is checked of each place of the code, and what follows for the machine -/
section SYQ
/-- words of nest mates and of casts: the tables hold them, no call keeps them -/
def sy_isN (u : Cond) : Bool := match u with
  | .fieldLinkNest .. => true
  | .methodLinkNest .. => true
  | .castable .. => true
  | .declares .. => true
  | _ => false
noncomputable def sy_gtb : List Cond := lw_tbl.filter goodWord
noncomputable def sy_nst : List Cond := lw_tbl.filter sy_isN
noncomputable def sy_tbl : List Cond := sy_gtb ++ sy_nst
def sy_dc (cc : ByteArray) (pc : Nat) (i : Instr) (n npc : Nat) : Bool := decide (decode cc pc = .ok (i, n)) && Nat.beq npc (pc + n)
def sy_dt (cc : ByteArray) (pc : Nat) (i : Instr) (n : Nat) : Bool := decide (decode cc pc = .ok (i, n))
def sy_wd (lw : List Cond) (u : Cond) : Bool := decide (u ∈ lw)
def sy_tyc (t : FieldType) : Nat := match t with
  | .int => 0
  | .long => 1
  | .object _ => 2
  | .array _ => 2
  | .float => 3
  | .double => 4
  | .boolean => 5
  | .char => 6
  | _ => 9
def sy_aty (t : Nat) : ArrayType := match t with
  | 0 => .int
  | 1 => .long
  | 2 => .boolean
  | 3 => .char
  | 4 => .byte
  | _ => .double
def sy_fr (ci k : Nat) : String × String × String × Bool := match sy_cl[ci]? with
  | some q => q.2.1 k
  | none => ("", "", "", false)
def sy_cn (ci : Nat) : String := match sy_cl[ci]? with
  | some q => q.1
  | none => ""
def sy_cN (ci : Nat) : Nat := match sy_cl[ci]? with
  | some q => q.2.2
  | none => 0
def sy_an (t : Nat) : String := match sy_fty t with
  | .object C => C
  | _ => ""
/-- the target of a jump: the place x has the pc y -/
noncomputable def sy_tgt (code : List sy_E) (x y : Nat) : Bool := Nat.beq (sy_nth sy_e0 code x).1 y
noncomputable def sy_ck (cc : ByteArray) (own host : String) (ini : Bool) (nL : Nat) (code : List sy_E) (lw : List Cond) (pc z x y npc : Nat) : Bool := match z with
  | 0 => true
  | 1 => sy_dc cc pc (.iconst ((y : Int) - 1)) 1 npc && (decide (Int32.ofInt ((y : Int) - 1) = nI (x / 16)) && (Nat.beq (x % 16) 0 && Nat.ble x 1000000000000000000000))
  | 2 => sy_dc cc pc (.bipush ((y : Int) - 128)) 2 npc && (decide ((Int8.ofInt ((y : Int) - 128)).toInt32 = nI (x / 16)) && (Nat.beq (x % 16) 0 && Nat.ble x 1000000000000000000000))
  | 3 => sy_dc cc pc (.sipush ((y : Int) - 32768)) 3 npc && (decide ((Int16.ofInt ((y : Int) - 32768)).toInt32 = nI (x / 16)) && (Nat.beq (x % 16) 0 && Nat.ble x 1000000000000000000000))
  | 4 => sy_dc cc pc (.lconst (Fin.ofNat 2 y)) 1 npc && (decide (Int64.ofNat ((Fin.ofNat 2 y : Fin 2) : Nat) = lN (x / 16)) && (Nat.beq (x % 16) 1 && Nat.ble x 1000000000000000000000))
  | 5 => sy_dc cc pc .aconst_null 1 npc && Nat.beq x 4
  | 6 => sy_dc cc pc (.ldc y) 2 npc && (sy_wd lw (.constant own y (nI (x / 16))) && (Nat.beq (x % 16) 0 && Nat.ble x 1000000000000000000000))
  | 7 => sy_dc cc pc (.ldc_w y) 3 npc && (sy_wd lw (.constant own y (nI (x / 16))) && (Nat.beq (x % 16) 0 && Nat.ble x 1000000000000000000000))
  | 8 => sy_dc cc pc (.ldc2_w y) 3 npc && (sy_wd lw (.constantLong own y (lN (x / 16))) && (Nat.beq (x % 16) 1 && Nat.ble x 1000000000000000000000))
  | 9 => sy_dc cc pc (.fconst 0) 1 npc && Nat.beq x 2
  | 10 => sy_dc cc pc (.dconst 0) 1 npc && Nat.beq x 3
  | 11 => sy_dc cc pc (.iload x) 2 npc
  | 12 => sy_dc cc pc (.iload_n (Fin.ofNat 4 x)) 1 npc && Nat.ble x 3
  | 13 => sy_dc cc pc (.lload x) 2 npc
  | 14 => sy_dc cc pc (.lload_n (Fin.ofNat 4 x)) 1 npc && Nat.ble x 3
  | 15 => sy_dc cc pc (.aload x) 2 npc
  | 16 => sy_dc cc pc (.aload_n (Fin.ofNat 4 x)) 1 npc && Nat.ble x 3
  | 17 => sy_dc cc pc (.istore x) 2 npc && Nat.ble (Nat.succ x) nL
  | 18 => sy_dc cc pc (.istore_n (Fin.ofNat 4 x)) 1 npc && (Nat.ble x 3 && Nat.ble (Nat.succ x) nL)
  | 19 => sy_dc cc pc (.lstore x) 2 npc && Nat.ble (Nat.succ (Nat.succ x)) nL
  | 20 => sy_dc cc pc (.lstore_n (Fin.ofNat 4 x)) 1 npc && (Nat.ble x 3 && Nat.ble (Nat.succ (Nat.succ x)) nL)
  | 21 => sy_dc cc pc (.astore x) 2 npc && Nat.ble (Nat.succ x) nL
  | 22 => sy_dc cc pc (.astore_n (Fin.ofNat 4 x)) 1 npc && (Nat.ble x 3 && Nat.ble (Nat.succ x) nL)
  | 23 => sy_dc cc pc (.fstore x) 2 npc && Nat.ble (Nat.succ x) nL
  | 24 => sy_dc cc pc (.dstore x) 2 npc && Nat.ble (Nat.succ (Nat.succ x)) nL
  | 25 => sy_dc cc pc (.iinc x ((y : Int) - 32768)) 3 npc && decide (Int32.ofInt ((y : Int) - 32768) = nI (y + 4294934528))
  | 26 => sy_dc cc pc .iadd 1 npc
  | 27 => sy_dc cc pc .isub 1 npc
  | 28 => sy_dc cc pc .imul 1 npc
  | 29 => sy_dc cc pc .iand 1 npc
  | 30 => sy_dc cc pc .ladd 1 npc
  | 31 => sy_dc cc pc .lsub 1 npc
  | 32 => sy_dc cc pc .lmul 1 npc
  | 33 => sy_dc cc pc .i2l 1 npc
  | 34 => sy_dc cc pc .l2i 1 npc
  | 35 => sy_dc cc pc .i2c 1 npc
  | 36 => sy_dc cc pc .lcmp 1 npc
  | 37 => sy_dc cc pc .dup 1 npc
  | 38 => sy_dc cc pc .pop 1 npc
  | 39 => sy_dc cc pc (.ifCond .eq ((y : Int) - pc)) 3 npc && sy_tgt code x y
  | 40 => sy_dc cc pc (.ifCond .ne ((y : Int) - pc)) 3 npc && sy_tgt code x y
  | 41 => sy_dc cc pc (.ifCond .lt ((y : Int) - pc)) 3 npc && sy_tgt code x y
  | 42 => sy_dc cc pc (.ifCond .ge ((y : Int) - pc)) 3 npc && sy_tgt code x y
  | 43 => sy_dc cc pc (.ifCond .gt ((y : Int) - pc)) 3 npc && sy_tgt code x y
  | 44 => sy_dc cc pc (.ifCond .le ((y : Int) - pc)) 3 npc && sy_tgt code x y
  | 45 => sy_dc cc pc (.if_icmp .eq ((y : Int) - pc)) 3 npc && sy_tgt code x y
  | 46 => sy_dc cc pc (.if_icmp .ne ((y : Int) - pc)) 3 npc && sy_tgt code x y
  | 47 => sy_dc cc pc (.if_icmp .lt ((y : Int) - pc)) 3 npc && sy_tgt code x y
  | 48 => sy_dc cc pc (.if_icmp .ge ((y : Int) - pc)) 3 npc && sy_tgt code x y
  | 49 => sy_dc cc pc (.if_icmp .gt ((y : Int) - pc)) 3 npc && sy_tgt code x y
  | 50 => sy_dc cc pc (.if_icmp .le ((y : Int) - pc)) 3 npc && sy_tgt code x y
  | 51 => sy_dc cc pc (.if_acmp .eq ((y : Int) - pc)) 3 npc && sy_tgt code x y
  | 52 => sy_dc cc pc (.if_acmp .ne ((y : Int) - pc)) 3 npc && sy_tgt code x y
  | 53 => sy_dc cc pc (.ifnull ((y : Int) - pc)) 3 npc && sy_tgt code x y
  | 54 => sy_dc cc pc (.ifnonnull ((y : Int) - pc)) 3 npc && sy_tgt code x y
  | 55 => sy_dt cc pc (.goto ((y : Int) - pc)) 3 && sy_tgt code x y
  | 56 => sy_dt cc pc .ireturn 1
  | 57 => sy_dt cc pc .lreturn 1
  | 58 => sy_dt cc pc .areturn 1
  | 59 => sy_dt cc pc .freturn 1
  | 60 => sy_dt cc pc .dreturn 1
  | 61 => sy_dt cc pc .return_ 1
  | 62 => sy_dc cc pc (.getfield (y / 8)) 3 npc && (Nat.ble (x / 64) 15 && (Nat.ble (Nat.succ (x % 64)) (sy_cN (x / 64)) && (sy_wd lw (.fieldLink own (y / 8) (sy_fr (x / 64) (x % 64)).1 (sy_fr (x / 64) (x % 64)).2.1 (sy_fr (x / 64) (x % 64)).2.2.1))))
  | 63 => sy_dc cc pc (.getfield (y / 8)) 3 npc && (Nat.ble (x / 64) 15 && (Nat.ble (Nat.succ (x % 64)) (sy_cN (x / 64)) && (sy_wd lw (.fieldLinkNest own (y / 8) (sy_fr (x / 64) (x % 64)).1 (sy_fr (x / 64) (x % 64)).2.1 (sy_fr (x / 64) (x % 64)).2.2.1 host))))
  | 64 => sy_dc cc pc (.putfield (y / 8)) 3 npc && (Nat.ble (x / 64) 15 && (Nat.ble (Nat.succ (x % 64)) (sy_cN (x / 64)) && (sy_wd lw (.fieldLink own (y / 8) (sy_fr (x / 64) (x % 64)).1 (sy_fr (x / 64) (x % 64)).2.1 (sy_fr (x / 64) (x % 64)).2.2.1) && (decide ((parseFieldDescriptor (sy_fr (x / 64) (x % 64)).2.2.1).map sy_tyc = some (y % 8)) && decide ((sy_fr (x / 64) (x % 64)).2.2.2 = false)))))
  | 65 => sy_dc cc pc (.putfield (y / 8)) 3 npc && (Nat.ble (x / 64) 15 && (Nat.ble (Nat.succ (x % 64)) (sy_cN (x / 64)) && (sy_wd lw (.fieldLinkNest own (y / 8) (sy_fr (x / 64) (x % 64)).1 (sy_fr (x / 64) (x % 64)).2.1 (sy_fr (x / 64) (x % 64)).2.2.1 host) && (decide ((parseFieldDescriptor (sy_fr (x / 64) (x % 64)).2.2.1).map sy_tyc = some (y % 8)) && decide ((sy_fr (x / 64) (x % 64)).2.2.2 = false)))))
  | 66 => sy_dc cc pc (.putfield (y / 8)) 3 npc && (Nat.ble (x / 64) 15 && (Nat.ble (Nat.succ (x % 64)) (sy_cN (x / 64)) && (sy_wd lw (.fieldLink own (y / 8) (sy_fr (x / 64) (x % 64)).1 (sy_fr (x / 64) (x % 64)).2.1 (sy_fr (x / 64) (x % 64)).2.2.1) && (decide ((parseFieldDescriptor (sy_fr (x / 64) (x % 64)).2.2.1).map sy_tyc = some (y % 8)) && (decide ((sy_fr (x / 64) (x % 64)).2.2.2 = true) && (ini && decide ((sy_fr (x / 64) (x % 64)).1 = own)))))))
  | 67 => sy_dc cc pc (.new y) 3 npc && (Nat.ble x 15 && (sy_wd lw (.classLink own y (sy_cn x)) && (sy_wd lw (.instantiable (sy_cn x) (sy_cN x)) && sy_wd lw (.initialized (sy_cn x)))))
  | 68 => sy_dc cc pc (.newarray (sy_aty x)) 2 npc && (Nat.ble x 5 && sy_wd lw (.arrayClass (newarray.typeOf (sy_aty x))))
  | 69 => sy_dc cc pc (.anewarray y) 3 npc && (Nat.ble 6 x && (Nat.ble x 11 && sy_wd lw (.classLink own y (sy_an x))))
  | 70 => sy_dc cc pc .arraylength 1 npc
  | 71 => sy_dc cc pc .iaload 1 npc
  | 72 => sy_dc cc pc .laload 1 npc
  | 73 => sy_dc cc pc .aaload 1 npc
  | 74 => sy_dc cc pc .baload 1 npc
  | 75 => sy_dc cc pc .iastore 1 npc
  | 76 => sy_dc cc pc .lastore 1 npc
  | 77 => sy_dc cc pc .aastore 1 npc
  | 78 => sy_dc cc pc .castore 1 npc
  | 79 => sy_dc cc pc (.checkcast y) 3 npc && (Nat.beq x 0 && sy_wd lw (.classLink own y "[I"))
  | 85 => sy_dc cc pc (.invokevirtual y) 3 npc && (sy_wd lw (.methodLink own y ⟨"[I", "clone", "()Ljava/lang/Object;"⟩) && (sy_wd lw (.sameMethod "[I" "java/lang/Object" "clone" "()Ljava/lang/Object;") && (sy_wd lw (.native ⟨"java/lang/Object", "clone", "()Ljava/lang/Object;"⟩) && (sy_wd lw (.instanceMethod ⟨"java/lang/Object", "clone", "()Ljava/lang/Object;"⟩) && sy_wd lw (.selects "[I" ⟨"[I", "clone", "()Ljava/lang/Object;"⟩ ⟨"java/lang/Object", "clone", "()Ljava/lang/Object;"⟩)))))
  | 86 => sy_dc cc pc (.invokestatic y) 3 npc && (sy_wd lw (.methodLink own y arraycopyName) && (sy_wd lw (.native arraycopyName) && (sy_wd lw (.static arraycopyName) && sy_wd lw (.initialized "java/lang/System"))))
  | 87 => sy_dc cc pc (.multianewarray y 2) 4 npc && (Nat.beq x 12 && (sy_wd lw (.classLink own y ("[" ++ (FieldType.array .boolean).toString)) && sy_wd lw (.arrayClass .boolean)))
  | 91 => sy_dc cc pc (.invokespecial y) 3 npc && (sy_wd lw (.methodLink own y Lib.objectInit) && (sy_wd lw (.instanceMethod Lib.objectInit) && sy_wd lw (.code Lib.objectInit ⟨#[0xb1]⟩ 1 none)))
  | _ => true
end SYQ
end
section
/-! a checked place does what its operation says -/
section SYZ
theorem sy_dc_of {cc : ByteArray} {pc n npc : Nat} {i : Instr} (h : sy_dc cc pc i n npc = true) : decode cc pc = .ok (i, n) ∧ npc = pc + n := by
  unfold sy_dc at h
  rw [Bool.and_eq_true] at h
  exact ⟨of_decide_eq_true h.1, sy_beq h.2⟩
theorem sy_dt_of {cc : ByteArray} {pc n : Nat} {i : Instr} (h : sy_dt cc pc i n = true) : decode cc pc = .ok (i, n) := of_decide_eq_true h
theorem sy_an2 {a b : Bool} (h : (a && b) = true) : a = true ∧ b = true := by rw [Bool.and_eq_true] at h; exact h
/-- what holds of the tables and of the cells outside, all through a method -/
def sy_G (w : sy_Wd) (len : Nat) (A : Nat → Prop) (U : State) (H : Heap) : Prop :=
  va_K w.1 sy_cl (sy_tys w) U ∧ (va_X w.2.2.2 len w.2.2.1 U H ∧ w.2.2.2 < H.size ∧ ¬ A w.2.2.2) ∧ len ≤ 65535 ∧ (∀ t, 6 ≤ t → t ≤ 11 → va_AO (sy_an t) U) ∧ va_AOA .boolean U ∧ va_Nw (.castable "[I" "java/lang/Cloneable") U
def sy_Cx (p : Program) (R : Room) (s : State) (m : MethodId) (args : Array Value) (meth : Method) (c : Code) (w : sy_Wd) (A : Nat → Prop) (tk : sy_T) (len : Nat) (cc : ByteArray) (own : String) (ini : Bool) (nL : Nat) (lw : List Cond) : Prop :=
  p.tables.exec = Jvm.exec ∧ c.code = cc ∧ c.maxLocals = nL ∧ s.vm.findClass own = some m.cls ∧ (∀ u ∈ sy_tbl, u.before args s = true) ∧ (∀ u ∈ lw, u ∈ sy_tbl) ∧ (ini = true → meth.name = "<init>") ∧ sy_G w len A s s.heap ∧ (∀ q, s.heap.size ≤ q → A q) ∧ sy_TK tk w.2.2.1 ∧ 4 ≤ R.frames ∧ 200 ≤ R.locals
theorem sy_tys_get {w : sy_Wd} {t : Nat} (h : t ≤ 12) : (sy_tys w)[t]? = some (w.2.1 t, sy_fty t) := by
  unfold sy_tys
  rw [List.getElem?_map, List.getElem?_range (by omega)]
  rfl
/-- the classes' words, fields and types -/
theorem sy_cls_ok : ∀ ci, ci ≤ 15 → sy_cl[ci]? = some (sy_cn ci, (match sy_cl[ci]? with | some q => q.2.1 | none => fun _ => ("", "", "", false)), sy_cN ci) := by
  intro ci h
  match ci, h with
  | 0, _ => rfl
  | 1, _ => rfl
  | 2, _ => rfl
  | 3, _ => rfl
  | 4, _ => rfl
  | 5, _ => rfl
  | 6, _ => rfl
  | 7, _ => rfl
  | 8, _ => rfl
  | 9, _ => rfl
  | 10, _ => rfl
  | 11, _ => rfl
  | 12, _ => rfl
  | 13, _ => rfl
  | 14, _ => rfl
  | 15, _ => rfl
theorem sy_fr_eq {ci k : Nat} : sy_fr ci k = (match sy_cl[ci]? with | some q => q.2.1 | none => fun _ => ("", "", "", false)) k := by
  unfold sy_fr
  cases sy_cl[ci]? <;> rfl
theorem sy_clsT {ci : Nat} (h : ci ≤ 15) : sy_cl[ci]? = some (sy_cn ci, sy_fr ci, sy_cN ci) := by
  rw [sy_cls_ok ci h]
  congr 3
  funext k
  exact sy_fr_eq.symm
set_option maxRecDepth 20000 in
theorem sy_uws : ∀ ci, ci ≤ 15 → ∀ u ∈ u_ws (sy_cn ci) (sy_fr ci) (sy_cN ci), u ∈ lw_tbl ∧ goodWord u = true := by
  intro ci h
  match ci, h with
  | 0, _ => decide +kernel
  | 1, _ => decide +kernel
  | 2, _ => decide +kernel
  | 3, _ => decide +kernel
  | 4, _ => decide +kernel
  | 5, _ => decide +kernel
  | 6, _ => decide +kernel
  | 7, _ => decide +kernel
  | 8, _ => decide +kernel
  | 9, _ => decide +kernel
  | 10, _ => decide +kernel
  | 11, _ => decide +kernel
  | 12, _ => decide +kernel
  | 13, _ => decide +kernel
  | 14, _ => decide +kernel
  | 15, _ => decide +kernel
theorem sy_tbl_mem {u : Cond} (h : u ∈ lw_tbl ∧ goodWord u = true) : u ∈ sy_tbl := List.mem_append_left _ (List.mem_filter.mpr h)
theorem sy_tbl_memN {u : Cond} (h : u ∈ lw_tbl ∧ sy_isN u = true) : u ∈ sy_tbl := List.mem_append_right _ (List.mem_filter.mpr h)
def sy_ft (ci k : Nat) : FieldType := (parseFieldDescriptor (sy_fr ci k).2.2.1).getD .int
theorem sy_ft_ok : ∀ ci, ci ≤ 15 → ∀ k, k < sy_cN ci → parseFieldDescriptor (sy_fr ci k).2.2.1 = some (sy_ft ci k) := by
  intro ci h
  match ci, h with
  | 0, _ => decide +kernel
  | 1, _ => decide +kernel
  | 2, _ => decide +kernel
  | 3, _ => decide +kernel
  | 4, _ => decide +kernel
  | 5, _ => decide +kernel
  | 6, _ => decide +kernel
  | 7, _ => decide +kernel
  | 8, _ => decide +kernel
  | 9, _ => decide +kernel
  | 10, _ => decide +kernel
  | 11, _ => decide +kernel
  | 12, _ => decide +kernel
  | 13, _ => decide +kernel
  | 14, _ => decide +kernel
  | 15, _ => decide +kernel
theorem sy_nm_ok : ∀ ci, ci ≤ 15 → ∀ a, a < sy_cN ci → ∀ b, b < sy_cN ci → a ≠ b → (sy_fr ci a).2.1 ≠ (sy_fr ci b).2.1 := by
  intro ci h
  match ci, h with
  | 0, _ => exact nmX0
  | 1, _ => exact nmX1
  | 2, _ => exact nmX2
  | 3, _ => exact nmX3
  | 4, _ => exact nmX4
  | 5, _ => exact nmX5
  | 6, _ => exact nmX6
  | 7, _ => exact nmX7
  | 8, _ => exact nmX8
  | 9, _ => exact nmX9
  | 10, _ => exact nmX10
  | 11, _ => exact nmX11
  | 12, _ => exact nmX12
  | 13, _ => exact nmX13
  | 14, _ => exact nmX14
  | 15, _ => exact nmX15
/-- a new object's fields -/
def sy_dfl (t : FieldType) (v : Nat) : Bool := match t with
  | .long => Nat.beq v 1
  | .object _ => Nat.beq v 4
  | .array _ => Nat.beq v 4
  | .float => Nat.beq v 2
  | .double => Nat.beq v 3
  | _ => Nat.beq v 0
theorem sy_dfl_ok {w : sy_Wd} {ρ : Nat → Nat} {t : FieldType} {v : Nat} (h : sy_dfl t v = true) : defaultValue t = sy_v w ρ v := by
  cases t <;> (have h := sy_beq h; subst h; rfl)
theorem sy_fi_ok : ∀ ci, ci ≤ 15 → (sy_fi ci).1 = sy_cN ci ∧ (∀ j, j < sy_cN ci → sy_dfl (sy_ft ci j) (sy_rd (sy_fi ci).2 j) = true) := by
  intro ci h
  match ci, h with
  | 0, _ => decide +kernel
  | 1, _ => decide +kernel
  | 2, _ => decide +kernel
  | 3, _ => decide +kernel
  | 4, _ => decide +kernel
  | 5, _ => decide +kernel
  | 6, _ => decide +kernel
  | 7, _ => decide +kernel
  | 8, _ => decide +kernel
  | 9, _ => decide +kernel
  | 10, _ => decide +kernel
  | 11, _ => decide +kernel
  | 12, _ => decide +kernel
  | 13, _ => decide +kernel
  | 14, _ => decide +kernel
  | 15, _ => decide +kernel
/-- the content of a new object holds numbers below 5 alone: 18 places and then nothing -/
theorem sy_fi_lt : ∀ ci, ci ≤ 15 → (sy_fi ci).2 < 2 ^ (72 * 18) ∧ ∀ j, j < 18 → sy_rd (sy_fi ci).2 j < 5 := by
  intro ci h
  match ci, h with
  | 0, _ => decide +kernel
  | 1, _ => decide +kernel
  | 2, _ => decide +kernel
  | 3, _ => decide +kernel
  | 4, _ => decide +kernel
  | 5, _ => decide +kernel
  | 6, _ => decide +kernel
  | 7, _ => decide +kernel
  | 8, _ => decide +kernel
  | 9, _ => decide +kernel
  | 10, _ => decide +kernel
  | 11, _ => decide +kernel
  | 12, _ => decide +kernel
  | 13, _ => decide +kernel
  | 14, _ => decide +kernel
  | 15, _ => decide +kernel
theorem sy_fi_wf {ci : Nat} (h : ci ≤ 15) (n j : Nat) : sy_wfV n (sy_rd (sy_fi ci).2 j) := by
  obtain ⟨h1, h2⟩ := sy_fi_lt ci h
  have h5 : sy_rd (sy_fi ci).2 j < 5 := by
    by_cases hj : j < 18
    · exact h2 j hj
    · have e : sy_rd (sy_fi ci).2 j = 0 := by
        apply Nat.eq_of_testBit_eq
        intro k
        rw [sy_rd_bit, Nat.zero_testBit, Nat.testBit_lt_two_pow (Nat.lt_of_lt_of_le h1 (Nat.pow_le_pow_right (by decide) (by omega)))]
        simp
      omega
  refine ⟨Nat.lt_trans h5 (by decide), fun q => ?_⟩
  have : sy_rd (sy_fi ci).2 j % 16 = 5 := q
  omega
/-- what may stand in a field, as the machine asks it -/
theorem sy_okf_ok {w : sy_Wd} {ρ : Nat → Nat} {t : FieldType} {y v : Nat} (ht : sy_tyc t = y) (hy : y < 7) (h : sy_okf y v = true) : narrow t (sy_v w ρ v) = sy_v w ρ v ∧ fits t (sy_v w ρ v) = true := by
  subst ht
  cases t with
  | int =>
    obtain ⟨x, hx⟩ := sy_vi_ex (w := w) (ρ := ρ) (sy_beq h)
    rw [hx]
    exact ⟨rfl, rfl⟩
  | long =>
    obtain ⟨x, hx⟩ := sy_vl_ex (w := w) (ρ := ρ) (sy_beq h)
    rw [hx]
    exact ⟨rfl, rfl⟩
  | float =>
    rcases sy_ty_tg (sy_beq h) (by decide) with ⟨q, -⟩ | ⟨q, -⟩ | ⟨q, -⟩ | ⟨-, q⟩ | ⟨q, -⟩
    · cases q
    · cases q
    · cases q
    · rw [sy_v2 q]
      exact ⟨rfl, rfl⟩
    · cases q
  | double =>
    rcases sy_ty_tg (sy_beq h) (by decide) with ⟨q, -⟩ | ⟨q, -⟩ | ⟨q, -⟩ | ⟨q, -⟩ | ⟨-, q⟩
    · cases q
    · cases q
    · cases q
    · cases q
    · rw [sy_v3 q]
      exact ⟨rfl, rfl⟩
  | object C =>
    rcases sy_vr_ex (w := w) (ρ := ρ) (sy_beq h) with hx | ⟨x, hx⟩
    · rw [hx]
      exact ⟨rfl, rfl⟩
    · rw [hx]
      exact ⟨rfl, rfl⟩
  | array C =>
    rcases sy_vr_ex (w := w) (ρ := ρ) (sy_beq h) with hx | ⟨x, hx⟩
    · rw [hx]
      exact ⟨rfl, rfl⟩
    · rw [hx]
      exact ⟨rfl, rfl⟩
  | boolean =>
    have h : cond (Nat.beq v 0) true (Nat.beq v 16) = true := h
    cases hc : Nat.beq v 0 with
    | true =>
      have e := sy_beq hc
      subst e
      exact ⟨rfl, rfl⟩
    | false =>
      rw [hc] at h
      have e : v = 16 := sy_beq h
      subst e
      exact ⟨rfl, rfl⟩
  | char =>
    have hc := sy_isch_of h
    obtain ⟨z, hz, hz2⟩ : ∃ z : Nat, sy_v w ρ v = .int (nI z) ∧ z ≤ 65535 := by
      rcases hc with hc | ⟨hc, h2⟩
      · rw [sy_v8 hc]
        have hk := sy_ch_k (w.2.2.1 (sy_py v))
        have e : sy_ch (w.2.2.1 (sy_py v)) = nI (sy_k (sy_ch (w.2.2.1 (sy_py v))) - 2147483648) := by
          rw [sy_k_eq, sy_k_nI]
          omega
        exact ⟨sy_k (sy_ch (w.2.2.1 (sy_py v))) - 2147483648, congrArg Value.int e, by omega⟩
      · exact ⟨_, sy_v0 hc, h2⟩
    rw [hz]
    have e1 : (nI z).toInt = (z : Int) := nI_toInt (by omega)
    refine ⟨?_, ?_⟩
    · show Value.int (nI z).toUInt32.toUInt16.toUInt32.toInt32 = _
      rw [← lg_i2c_nf, lg_i2c_word (by rw [e1]; omega) (by rw [e1]; omega)]
    · show (decide (0 ≤ nI z) && decide (nI z ≤ 65535)) = true
      rw [Bool.and_eq_true, decide_eq_true_iff, decide_eq_true_iff, Int32.le_iff_toInt_le, Int32.le_iff_toInt_le, e1]
      refine ⟨?_, ?_⟩
      · show (0 : Int) ≤ _
        omega
      · show _ ≤ (65535 : Int)
        omega
  | byte => exact absurd hy (by decide)
  | short => exact absurd hy (by decide)
end SYZ
end
section
/-! the operations, one by one: numbers, locals, jumps -/
section SYZ1
variable {p : Program} {l : Launch} {e : Env} {R : Room} {s : State} {m : MethodId} {args : Array Value} {below : List Frame} {meth : Method} {c : Code} {Q : State → Prop} {w : sy_Wd} {A : Nat → Prop} {tk : sy_T} {len : Nat} {cc : ByteArray} {own host : String} {ini : Bool} {nL : Nat} {code : List sy_E} {lw : List Cond} {pc x y npc : Nat}
theorem sy_r1 (hC : sy_Cx p R s m args meth c w A tk len cc own ini nL lw) (h : sy_ck cc own host ini nL code lw pc 1 x y npc = true) : sy_OK p l e R s m args below meth c Q w A nL pc npc y (sy_push tk x y) := by
  obtain ⟨hx, hb, hml, hown, hts, hlw, hini, hG, hA, hT, hRf, hRl⟩ := hC
  obtain ⟨g, h2⟩ := sy_an2 h
  obtain ⟨h1, hn⟩ := sy_dc_of g
  obtain ⟨h2, h3⟩ := sy_an2 h2
  obtain ⟨h3, h4⟩ := sy_an2 h3
  subst hn
  have ht : sy_tg x = 0 := sy_beq h3
  have hle := sy_ble h4
  refine sy_ok_push (fun n => ⟨by omega, fun q => by rw [ht] at q; cases q⟩) fun ρ ls st H locs cells slots k => ?_
  rw [sy_v0 ht] at k
  exact lv_iconst hx hb h1 (of_decide_eq_true h2) k
theorem sy_r2 (hC : sy_Cx p R s m args meth c w A tk len cc own ini nL lw) (h : sy_ck cc own host ini nL code lw pc 2 x y npc = true) : sy_OK p l e R s m args below meth c Q w A nL pc npc y (sy_push tk x y) := by
  obtain ⟨hx, hb, hml, hown, hts, hlw, hini, hG, hA, hT, hRf, hRl⟩ := hC
  obtain ⟨g, h2⟩ := sy_an2 h
  obtain ⟨h1, hn⟩ := sy_dc_of g
  obtain ⟨h2, h3⟩ := sy_an2 h2
  obtain ⟨h3, h4⟩ := sy_an2 h3
  subst hn
  have ht : sy_tg x = 0 := sy_beq h3
  have hle := sy_ble h4
  refine sy_ok_push (fun n => ⟨by omega, fun q => by rw [ht] at q; cases q⟩) fun ρ ls st H locs cells slots k => ?_
  rw [sy_v0 ht] at k
  exact lv_bipush hx hb h1 (of_decide_eq_true h2) k
theorem sy_r3 (hC : sy_Cx p R s m args meth c w A tk len cc own ini nL lw) (h : sy_ck cc own host ini nL code lw pc 3 x y npc = true) : sy_OK p l e R s m args below meth c Q w A nL pc npc y (sy_push tk x y) := by
  obtain ⟨hx, hb, hml, hown, hts, hlw, hini, hG, hA, hT, hRf, hRl⟩ := hC
  obtain ⟨g, h2⟩ := sy_an2 h
  obtain ⟨h1, hn⟩ := sy_dc_of g
  obtain ⟨h2, h3⟩ := sy_an2 h2
  obtain ⟨h3, h4⟩ := sy_an2 h3
  subst hn
  have ht : sy_tg x = 0 := sy_beq h3
  have hle := sy_ble h4
  refine sy_ok_push (fun n => ⟨by omega, fun q => by rw [ht] at q; cases q⟩) fun ρ ls st H locs cells slots k => ?_
  rw [sy_v0 ht] at k
  exact lv_sipush hx hb h1 (of_decide_eq_true h2) k
theorem sy_r4 (hC : sy_Cx p R s m args meth c w A tk len cc own ini nL lw) (h : sy_ck cc own host ini nL code lw pc 4 x y npc = true) : sy_OK p l e R s m args below meth c Q w A nL pc npc y (sy_push tk x y) := by
  obtain ⟨hx, hb, hml, hown, hts, hlw, hini, hG, hA, hT, hRf, hRl⟩ := hC
  obtain ⟨g, h2⟩ := sy_an2 h
  obtain ⟨h1, hn⟩ := sy_dc_of g
  obtain ⟨h2, h3⟩ := sy_an2 h2
  obtain ⟨h3, h4⟩ := sy_an2 h3
  subst hn
  have ht : sy_tg x = 1 := sy_beq h3
  have hle := sy_ble h4
  refine sy_ok_push (fun n => ⟨by omega, fun q => by rw [ht] at q; cases q⟩) fun ρ ls st H locs cells slots k => ?_
  rw [sy_v1 ht] at k
  exact lv_lconst hx hb h1 (of_decide_eq_true h2) k
theorem sy_r6 (hC : sy_Cx p R s m args meth c w A tk len cc own ini nL lw) (h : sy_ck cc own host ini nL code lw pc 6 x y npc = true) : sy_OK p l e R s m args below meth c Q w A nL pc npc y (sy_push tk x y) := by
  obtain ⟨hx, hb, hml, hown, hts, hlw, hini, hG, hA, hT, hRf, hRl⟩ := hC
  obtain ⟨g, h2⟩ := sy_an2 h
  obtain ⟨h1, hn⟩ := sy_dc_of g
  obtain ⟨h2, h3⟩ := sy_an2 h2
  obtain ⟨h3, h4⟩ := sy_an2 h3
  subst hn
  have ht : sy_tg x = 0 := sy_beq h3
  have hle := sy_ble h4
  refine sy_ok_push (fun n => ⟨by omega, fun q => by rw [ht] at q; cases q⟩) fun ρ ls st H locs cells slots k => ?_
  rw [sy_v0 ht] at k
  exact lv_ldc hx hb hown (hts _ (hlw _ (of_decide_eq_true h2))) h1 k
theorem sy_r7 (hC : sy_Cx p R s m args meth c w A tk len cc own ini nL lw) (h : sy_ck cc own host ini nL code lw pc 7 x y npc = true) : sy_OK p l e R s m args below meth c Q w A nL pc npc y (sy_push tk x y) := by
  obtain ⟨hx, hb, hml, hown, hts, hlw, hini, hG, hA, hT, hRf, hRl⟩ := hC
  obtain ⟨g, h2⟩ := sy_an2 h
  obtain ⟨h1, hn⟩ := sy_dc_of g
  obtain ⟨h2, h3⟩ := sy_an2 h2
  obtain ⟨h3, h4⟩ := sy_an2 h3
  subst hn
  have ht : sy_tg x = 0 := sy_beq h3
  have hle := sy_ble h4
  refine sy_ok_push (fun n => ⟨by omega, fun q => by rw [ht] at q; cases q⟩) fun ρ ls st H locs cells slots k => ?_
  rw [sy_v0 ht] at k
  exact lv_ldcw hx hb hown (hts _ (hlw _ (of_decide_eq_true h2))) h1 k
theorem sy_r8 (hC : sy_Cx p R s m args meth c w A tk len cc own ini nL lw) (h : sy_ck cc own host ini nL code lw pc 8 x y npc = true) : sy_OK p l e R s m args below meth c Q w A nL pc npc y (sy_push tk x y) := by
  obtain ⟨hx, hb, hml, hown, hts, hlw, hini, hG, hA, hT, hRf, hRl⟩ := hC
  obtain ⟨g, h2⟩ := sy_an2 h
  obtain ⟨h1, hn⟩ := sy_dc_of g
  obtain ⟨h2, h3⟩ := sy_an2 h2
  obtain ⟨h3, h4⟩ := sy_an2 h3
  subst hn
  have ht : sy_tg x = 1 := sy_beq h3
  have hle := sy_ble h4
  refine sy_ok_push (fun n => ⟨by omega, fun q => by rw [ht] at q; cases q⟩) fun ρ ls st H locs cells slots k => ?_
  rw [sy_v1 ht] at k
  exact lv_ldc2 hx hb hown (hts _ (hlw _ (of_decide_eq_true h2))) h1 k
theorem sy_r5 (hC : sy_Cx p R s m args meth c w A tk len cc own ini nL lw) (h : sy_ck cc own host ini nL code lw pc 5 x y npc = true) : sy_OK p l e R s m args below meth c Q w A nL pc npc y (sy_push tk x y) := by
  obtain ⟨hx, hb, hml, hown, hts, hlw, hini, hG, hA, hT, hRf, hRl⟩ := hC
  obtain ⟨g, h2⟩ := sy_an2 h
  obtain ⟨h1, hn⟩ := sy_dc_of g
  have h2 : x = 4 := sy_beq h2
  subst hn
  subst h2
  refine sy_ok_push (fun n => ⟨by decide, fun q => absurd q (by decide)⟩) fun ρ ls st H locs cells slots k => ?_
  exact lv_null hx hb h1 k
theorem sy_r9 (hC : sy_Cx p R s m args meth c w A tk len cc own ini nL lw) (h : sy_ck cc own host ini nL code lw pc 9 x y npc = true) : sy_OK p l e R s m args below meth c Q w A nL pc npc y (sy_push tk x y) := by
  obtain ⟨hx, hb, hml, hown, hts, hlw, hini, hG, hA, hT, hRf, hRl⟩ := hC
  obtain ⟨g, h2⟩ := sy_an2 h
  obtain ⟨h1, hn⟩ := sy_dc_of g
  have h2 : x = 2 := sy_beq h2
  subst hn
  subst h2
  refine sy_ok_push (fun n => ⟨by decide, fun q => absurd q (by decide)⟩) fun ρ ls st H locs cells slots k => ?_
  exact lv_fconst0 hx hb h1 k
theorem sy_r10 (hC : sy_Cx p R s m args meth c w A tk len cc own ini nL lw) (h : sy_ck cc own host ini nL code lw pc 10 x y npc = true) : sy_OK p l e R s m args below meth c Q w A nL pc npc y (sy_push tk x y) := by
  obtain ⟨hx, hb, hml, hown, hts, hlw, hini, hG, hA, hT, hRf, hRl⟩ := hC
  obtain ⟨g, h2⟩ := sy_an2 h
  obtain ⟨h1, hn⟩ := sy_dc_of g
  have h2 : x = 3 := sy_beq h2
  subst hn
  subst h2
  refine sy_ok_push (fun n => ⟨by decide, fun q => absurd q (by decide)⟩) fun ρ ls st H locs cells slots k => ?_
  exact lv_dconst0 hx hb h1 k
theorem sy_r11 (hC : sy_Cx p R s m args meth c w A tk len cc own ini nL lw) (h : sy_ck cc own host ini nL code lw pc 11 x y npc = true) : sy_OK p l e R s m args below meth c Q w A nL pc npc y (sy_load 0 tk x y) := by
  obtain ⟨hx, hb, hml, hown, hts, hlw, hini, hG, hA, hT, hRf, hRl⟩ := hC
  obtain ⟨h1, hn⟩ := sy_dc_of h
  subst hn
  refine sy_ok_load fun ρ ls st v hv hl H locs cells slots k => ?_
  obtain ⟨z, hz⟩ := sy_vi_ex (w := w) (ρ := ρ) hv
  rw [hz] at hl k
  exact lv_iload hx hb h1 hl k
theorem sy_r12 (hC : sy_Cx p R s m args meth c w A tk len cc own ini nL lw) (h : sy_ck cc own host ini nL code lw pc 12 x y npc = true) : sy_OK p l e R s m args below meth c Q w A nL pc npc y (sy_load 0 tk x y) := by
  obtain ⟨hx, hb, hml, hown, hts, hlw, hini, hG, hA, hT, hRf, hRl⟩ := hC
  obtain ⟨h, h2⟩ := sy_an2 h
  obtain ⟨h1, hn⟩ := sy_dc_of h
  have hi : ((Fin.ofNat 4 x : Fin 4) : Nat) = x := Nat.mod_eq_of_lt (Nat.lt_succ_of_le (sy_ble h2))
  subst hn
  refine sy_ok_load fun ρ ls st v hv hl H locs cells slots k => ?_
  obtain ⟨z, hz⟩ := sy_vi_ex (w := w) (ρ := ρ) hv
  rw [hz] at hl k
  exact lv_iload_n hx hb h1 hi hl k
theorem sy_r13 (hC : sy_Cx p R s m args meth c w A tk len cc own ini nL lw) (h : sy_ck cc own host ini nL code lw pc 13 x y npc = true) : sy_OK p l e R s m args below meth c Q w A nL pc npc y (sy_load 1 tk x y) := by
  obtain ⟨hx, hb, hml, hown, hts, hlw, hini, hG, hA, hT, hRf, hRl⟩ := hC
  obtain ⟨h1, hn⟩ := sy_dc_of h
  subst hn
  refine sy_ok_load fun ρ ls st v hv hl H locs cells slots k => ?_
  obtain ⟨z, hz⟩ := sy_vl_ex (w := w) (ρ := ρ) hv
  rw [hz] at hl k
  exact lv_lload hx hb h1 hl k
theorem sy_r14 (hC : sy_Cx p R s m args meth c w A tk len cc own ini nL lw) (h : sy_ck cc own host ini nL code lw pc 14 x y npc = true) : sy_OK p l e R s m args below meth c Q w A nL pc npc y (sy_load 1 tk x y) := by
  obtain ⟨hx, hb, hml, hown, hts, hlw, hini, hG, hA, hT, hRf, hRl⟩ := hC
  obtain ⟨h, h2⟩ := sy_an2 h
  obtain ⟨h1, hn⟩ := sy_dc_of h
  have hi : ((Fin.ofNat 4 x : Fin 4) : Nat) = x := Nat.mod_eq_of_lt (Nat.lt_succ_of_le (sy_ble h2))
  subst hn
  refine sy_ok_load fun ρ ls st v hv hl H locs cells slots k => ?_
  obtain ⟨z, hz⟩ := sy_vl_ex (w := w) (ρ := ρ) hv
  rw [hz] at hl k
  exact lv_lload_n hx hb h1 hi hl k
theorem sy_r15 (hC : sy_Cx p R s m args meth c w A tk len cc own ini nL lw) (h : sy_ck cc own host ini nL code lw pc 15 x y npc = true) : sy_OK p l e R s m args below meth c Q w A nL pc npc y (sy_load 2 tk x y) := by
  obtain ⟨hx, hb, hml, hown, hts, hlw, hini, hG, hA, hT, hRf, hRl⟩ := hC
  obtain ⟨h1, hn⟩ := sy_dc_of h
  subst hn
  refine sy_ok_load fun ρ ls st v hv hl H locs cells slots k => ?_
  rcases sy_vr_ex (w := w) (ρ := ρ) hv with hz | ⟨z, hz⟩
  · rw [hz] at hl k
    exact lv_aloadN hx hb h1 hl k
  · rw [hz] at hl k
    exact lv_aload hx hb h1 hl k
theorem sy_r16 (hC : sy_Cx p R s m args meth c w A tk len cc own ini nL lw) (h : sy_ck cc own host ini nL code lw pc 16 x y npc = true) : sy_OK p l e R s m args below meth c Q w A nL pc npc y (sy_load 2 tk x y) := by
  obtain ⟨hx, hb, hml, hown, hts, hlw, hini, hG, hA, hT, hRf, hRl⟩ := hC
  obtain ⟨h, h2⟩ := sy_an2 h
  obtain ⟨h1, hn⟩ := sy_dc_of h
  have hi : ((Fin.ofNat 4 x : Fin 4) : Nat) = x := Nat.mod_eq_of_lt (Nat.lt_succ_of_le (sy_ble h2))
  subst hn
  refine sy_ok_load fun ρ ls st v hv hl H locs cells slots k => ?_
  rcases sy_vr_ex (w := w) (ρ := ρ) hv with hz | ⟨z, hz⟩
  · rw [hz] at hl k
    exact lv_aload_nN hx hb h1 hi hl k
  · rw [hz] at hl k
    exact lv_aload_n hx hb h1 hi hl k
theorem sy_r17 (hC : sy_Cx p R s m args meth c w A tk len cc own ini nL lw) (h : sy_ck cc own host ini nL code lw pc 17 x y npc = true) : sy_OK p l e R s m args below meth c Q w A nL pc npc y (sy_stor 0 tk x y) := by
  obtain ⟨hx, hb, hml, hown, hts, hlw, hini, hG, hA, hT, hRf, hRl⟩ := hC
  obtain ⟨h, h2⟩ := sy_an2 h
  obtain ⟨h1, hn⟩ := sy_dc_of h
  have h3 := sy_ble h2
  subst hn
  refine sy_ok_stor fun ρ H locs cells slots ls st v lv hv hl k => ?_
  obtain ⟨z, hz⟩ := sy_vi_ex (w := w) (ρ := ρ) hv
  rw [hz] at k ⊢
  exact lv_istore hx hb h1 hl h3 rfl k
theorem sy_r18 (hC : sy_Cx p R s m args meth c w A tk len cc own ini nL lw) (h : sy_ck cc own host ini nL code lw pc 18 x y npc = true) : sy_OK p l e R s m args below meth c Q w A nL pc npc y (sy_stor 0 tk x y) := by
  obtain ⟨hx, hb, hml, hown, hts, hlw, hini, hG, hA, hT, hRf, hRl⟩ := hC
  obtain ⟨h, h2⟩ := sy_an2 h
  obtain ⟨h1, hn⟩ := sy_dc_of h
  obtain ⟨h2, h3⟩ := sy_an2 h2
  have hi : ((Fin.ofNat 4 x : Fin 4) : Nat) = x := Nat.mod_eq_of_lt (Nat.lt_succ_of_le (sy_ble h2))
  have h3 := sy_ble h3
  subst hn
  refine sy_ok_stor fun ρ H locs cells slots ls st v lv hv hl k => ?_
  obtain ⟨z, hz⟩ := sy_vi_ex (w := w) (ρ := ρ) hv
  rw [hz] at k ⊢
  exact lv_istore_n hx hb h1 hi hl h3 rfl k
theorem sy_r19 (hC : sy_Cx p R s m args meth c w A tk len cc own ini nL lw) (h : sy_ck cc own host ini nL code lw pc 19 x y npc = true) : sy_OK p l e R s m args below meth c Q w A nL pc npc y (sy_stor2 1 tk x y) := by
  obtain ⟨hx, hb, hml, hown, hts, hlw, hini, hG, hA, hT, hRf, hRl⟩ := hC
  obtain ⟨h, h2⟩ := sy_an2 h
  obtain ⟨h1, hn⟩ := sy_dc_of h
  have h3 := sy_ble h2
  subst hn
  refine sy_ok_stor2 fun ρ H locs cells slots ls st v lv hv hl k => ?_
  obtain ⟨z, hz⟩ := sy_vl_ex (w := w) (ρ := ρ) hv
  rw [hz] at k ⊢
  exact lv_lstore hx hb h1 hl h3 rfl k
theorem sy_r20 (hC : sy_Cx p R s m args meth c w A tk len cc own ini nL lw) (h : sy_ck cc own host ini nL code lw pc 20 x y npc = true) : sy_OK p l e R s m args below meth c Q w A nL pc npc y (sy_stor2 1 tk x y) := by
  obtain ⟨hx, hb, hml, hown, hts, hlw, hini, hG, hA, hT, hRf, hRl⟩ := hC
  obtain ⟨h, h2⟩ := sy_an2 h
  obtain ⟨h1, hn⟩ := sy_dc_of h
  obtain ⟨h2, h3⟩ := sy_an2 h2
  have hi : ((Fin.ofNat 4 x : Fin 4) : Nat) = x := Nat.mod_eq_of_lt (Nat.lt_succ_of_le (sy_ble h2))
  have h3 := sy_ble h3
  subst hn
  refine sy_ok_stor2 fun ρ H locs cells slots ls st v lv hv hl k => ?_
  obtain ⟨z, hz⟩ := sy_vl_ex (w := w) (ρ := ρ) hv
  rw [hz] at k ⊢
  exact lv_lstore_n hx hb h1 hi hl h3 rfl k
theorem sy_r21 (hC : sy_Cx p R s m args meth c w A tk len cc own ini nL lw) (h : sy_ck cc own host ini nL code lw pc 21 x y npc = true) : sy_OK p l e R s m args below meth c Q w A nL pc npc y (sy_stor 2 tk x y) := by
  obtain ⟨hx, hb, hml, hown, hts, hlw, hini, hG, hA, hT, hRf, hRl⟩ := hC
  obtain ⟨h, h2⟩ := sy_an2 h
  obtain ⟨h1, hn⟩ := sy_dc_of h
  have h3 := sy_ble h2
  subst hn
  refine sy_ok_stor fun ρ H locs cells slots ls st v lv hv hl k => ?_
  rcases sy_vr_ex (w := w) (ρ := ρ) hv with hz | ⟨z, hz⟩
  · rw [hz] at k ⊢
    exact lv_astoreN hx hb h1 hl h3 rfl k
  · rw [hz] at k ⊢
    exact lv_astore hx hb h1 hl h3 rfl k
theorem sy_r22 (hC : sy_Cx p R s m args meth c w A tk len cc own ini nL lw) (h : sy_ck cc own host ini nL code lw pc 22 x y npc = true) : sy_OK p l e R s m args below meth c Q w A nL pc npc y (sy_stor 2 tk x y) := by
  obtain ⟨hx, hb, hml, hown, hts, hlw, hini, hG, hA, hT, hRf, hRl⟩ := hC
  obtain ⟨h, h2⟩ := sy_an2 h
  obtain ⟨h1, hn⟩ := sy_dc_of h
  obtain ⟨h2, h3⟩ := sy_an2 h2
  have hi : ((Fin.ofNat 4 x : Fin 4) : Nat) = x := Nat.mod_eq_of_lt (Nat.lt_succ_of_le (sy_ble h2))
  have h3 := sy_ble h3
  subst hn
  refine sy_ok_stor fun ρ H locs cells slots ls st v lv hv hl k => ?_
  rcases sy_vr_ex (w := w) (ρ := ρ) hv with hz | ⟨z, hz⟩
  · rw [hz] at k ⊢
    exact lv_astore_nN hx hb h1 hi hl h3 rfl k
  · rw [hz] at k ⊢
    exact lv_astore_n hx hb h1 hi hl h3 rfl k
theorem sy_r23 (hC : sy_Cx p R s m args meth c w A tk len cc own ini nL lw) (h : sy_ck cc own host ini nL code lw pc 23 x y npc = true) : sy_OK p l e R s m args below meth c Q w A nL pc npc y (sy_stor 3 tk x y) := by
  obtain ⟨hx, hb, hml, hown, hts, hlw, hini, hG, hA, hT, hRf, hRl⟩ := hC
  obtain ⟨h, h2⟩ := sy_an2 h
  obtain ⟨h1, hn⟩ := sy_dc_of h
  have h3 := sy_ble h2
  subst hn
  refine sy_ok_stor fun ρ H locs cells slots ls st v lv hv hl k => ?_
  have hz : sy_v w ρ v = .float (UInt32.ofNat (sy_py v)) := by
    rcases sy_ty_tg hv (by decide) with ⟨q, -⟩ | ⟨q, -⟩ | ⟨q, -⟩ | ⟨-, q⟩ | ⟨q, -⟩
    · cases q
    · cases q
    · cases q
    · exact sy_v2 q
    · cases q
  rw [hz] at k ⊢
  exact lv_fstore hx hb h1 hl h3 rfl k
theorem sy_r24 (hC : sy_Cx p R s m args meth c w A tk len cc own ini nL lw) (h : sy_ck cc own host ini nL code lw pc 24 x y npc = true) : sy_OK p l e R s m args below meth c Q w A nL pc npc y (sy_stor2 4 tk x y) := by
  obtain ⟨hx, hb, hml, hown, hts, hlw, hini, hG, hA, hT, hRf, hRl⟩ := hC
  obtain ⟨h, h2⟩ := sy_an2 h
  obtain ⟨h1, hn⟩ := sy_dc_of h
  have h3 := sy_ble h2
  subst hn
  refine sy_ok_stor2 fun ρ H locs cells slots ls st v lv hv hl k => ?_
  have hz : sy_v w ρ v = .double (UInt64.ofNat (sy_py v)) := by
    rcases sy_ty_tg hv (by decide) with ⟨q, -⟩ | ⟨q, -⟩ | ⟨q, -⟩ | ⟨q, -⟩ | ⟨-, q⟩
    · cases q
    · cases q
    · cases q
    · cases q
    · exact sy_v3 q
  rw [hz] at k ⊢
  exact lv_dstore hx hb h1 hl h3 rfl k
theorem sy_r25 (hC : sy_Cx p R s m args meth c w A tk len cc own ini nL lw) (h : sy_ck cc own host ini nL code lw pc 25 x y npc = true) : sy_OK p l e R s m args below meth c Q w A nL pc npc y (sy_iinc tk x y) := by
  obtain ⟨hx, hb, hml, hown, hts, hlw, hini, hG, hA, hT, hRf, hRl⟩ := hC
  obtain ⟨h, h2⟩ := sy_an2 h
  obtain ⟨h1, hn⟩ := sy_dc_of h
  subst hn
  have h2 := of_decide_eq_true h2
  refine sy_ok_iinc fun ρ H locs cells slots ls st v z lv hl hm hxn hz k => ?_
  obtain ⟨i, hi⟩ := List.getElem?_of_mem hm
  exact lv_iinc hx hb h1 hl hi (by rw [h2, sy_iadd, ← hz]) hxn rfl k
theorem sy_r26 (hC : sy_Cx p R s m args meth c w A tk len cc own ini nL lw) (h : sy_ck cc own host ini nL code lw pc 26 x y npc = true) : sy_OK p l e R s m args below meth c Q w A nL pc npc y (sy_bin 0 (fun a b => Nat.mod (Nat.add a b) 4294967296) tk x y) := by
  obtain ⟨hx, hb, hml, hown, hts, hlw, hini, hG, hA, hT, hRf, hRl⟩ := hC
  obtain ⟨h1, hn⟩ := sy_dc_of h
  subst hn
  refine sy_ok_bin (by decide) (fun a b => Nat.lt_trans (Nat.mod_lt _ (by decide)) (by decide)) fun ρ ls st a b ha hb2 hlt H locs cells slots k => ?_
  rw [sy_v0 (sy_tg_pk (by decide)), sy_py_pk (by decide)] at k
  rw [sy_v0 ha, sy_v0 hb2]
  refine lv_iadd hx hb h1 ?_
  rw [sy_iadd]
  exact k
theorem sy_r27 (hC : sy_Cx p R s m args meth c w A tk len cc own ini nL lw) (h : sy_ck cc own host ini nL code lw pc 27 x y npc = true) : sy_OK p l e R s m args below meth c Q w A nL pc npc y (sy_bin 0 (fun a b => Nat.mod (Nat.sub (Nat.add a 295147905179352825856) b) 4294967296) tk x y) := by
  obtain ⟨hx, hb, hml, hown, hts, hlw, hini, hG, hA, hT, hRf, hRl⟩ := hC
  obtain ⟨h1, hn⟩ := sy_dc_of h
  subst hn
  refine sy_ok_bin (by decide) (fun a b => Nat.lt_trans (Nat.mod_lt _ (by decide)) (by decide)) fun ρ ls st a b ha hb2 hlt H locs cells slots k => ?_
  rw [sy_v0 (sy_tg_pk (by decide)), sy_py_pk (by decide)] at k
  rw [sy_v0 ha, sy_v0 hb2]
  refine lv_isub hx hb h1 ?_
  rw [sy_isub _ _ hlt]
  exact k
theorem sy_r28 (hC : sy_Cx p R s m args meth c w A tk len cc own ini nL lw) (h : sy_ck cc own host ini nL code lw pc 28 x y npc = true) : sy_OK p l e R s m args below meth c Q w A nL pc npc y (sy_bin 0 (fun a b => Nat.mod (Nat.mul a b) 4294967296) tk x y) := by
  obtain ⟨hx, hb, hml, hown, hts, hlw, hini, hG, hA, hT, hRf, hRl⟩ := hC
  obtain ⟨h1, hn⟩ := sy_dc_of h
  subst hn
  refine sy_ok_bin (by decide) (fun a b => Nat.lt_trans (Nat.mod_lt _ (by decide)) (by decide)) fun ρ ls st a b ha hb2 hlt H locs cells slots k => ?_
  rw [sy_v0 (sy_tg_pk (by decide)), sy_py_pk (by decide)] at k
  rw [sy_v0 ha, sy_v0 hb2]
  refine lv_imul hx hb h1 ?_
  rw [sy_imul]
  exact k
theorem sy_r30 (hC : sy_Cx p R s m args meth c w A tk len cc own ini nL lw) (h : sy_ck cc own host ini nL code lw pc 30 x y npc = true) : sy_OK p l e R s m args below meth c Q w A nL pc npc y (sy_bin 1 (fun a b => Nat.mod (Nat.add a b) 18446744073709551616) tk x y) := by
  obtain ⟨hx, hb, hml, hown, hts, hlw, hini, hG, hA, hT, hRf, hRl⟩ := hC
  obtain ⟨h1, hn⟩ := sy_dc_of h
  subst hn
  refine sy_ok_bin (by decide) (fun a b => Nat.lt_trans (Nat.mod_lt _ (by decide)) (by decide)) fun ρ ls st a b ha hb2 hlt H locs cells slots k => ?_
  rw [sy_v1 (sy_tg_pk (by decide)), sy_py_pk (by decide)] at k
  rw [sy_v1 ha, sy_v1 hb2]
  refine lv_ladd hx hb h1 ?_
  rw [sy_ladd]
  exact k
theorem sy_r31 (hC : sy_Cx p R s m args meth c w A tk len cc own ini nL lw) (h : sy_ck cc own host ini nL code lw pc 31 x y npc = true) : sy_OK p l e R s m args below meth c Q w A nL pc npc y (sy_bin 1 (fun a b => Nat.mod (Nat.sub (Nat.add a 295147905179352825856) b) 18446744073709551616) tk x y) := by
  obtain ⟨hx, hb, hml, hown, hts, hlw, hini, hG, hA, hT, hRf, hRl⟩ := hC
  obtain ⟨h1, hn⟩ := sy_dc_of h
  subst hn
  refine sy_ok_bin (by decide) (fun a b => Nat.lt_trans (Nat.mod_lt _ (by decide)) (by decide)) fun ρ ls st a b ha hb2 hlt H locs cells slots k => ?_
  rw [sy_v1 (sy_tg_pk (by decide)), sy_py_pk (by decide)] at k
  rw [sy_v1 ha, sy_v1 hb2]
  refine lv_lsub hx hb h1 ?_
  rw [sy_lsub _ _ hlt]
  exact k
theorem sy_r32 (hC : sy_Cx p R s m args meth c w A tk len cc own ini nL lw) (h : sy_ck cc own host ini nL code lw pc 32 x y npc = true) : sy_OK p l e R s m args below meth c Q w A nL pc npc y (sy_bin 1 (fun a b => Nat.mod (Nat.mul a b) 18446744073709551616) tk x y) := by
  obtain ⟨hx, hb, hml, hown, hts, hlw, hini, hG, hA, hT, hRf, hRl⟩ := hC
  obtain ⟨h1, hn⟩ := sy_dc_of h
  subst hn
  refine sy_ok_bin (by decide) (fun a b => Nat.lt_trans (Nat.mod_lt _ (by decide)) (by decide)) fun ρ ls st a b ha hb2 hlt H locs cells slots k => ?_
  rw [sy_v1 (sy_tg_pk (by decide)), sy_py_pk (by decide)] at k
  rw [sy_v1 ha, sy_v1 hb2]
  refine lv_lmul hx hb h1 ?_
  rw [sy_lmul]
  exact k
theorem sy_r29 (hC : sy_Cx p R s m args meth c w A tk len cc own ini nL lw) (h : sy_ck cc own host ini nL code lw pc 29 x y npc = true) : sy_OK p l e R s m args below meth c Q w A nL pc npc y (sy_iand tk x y) := by
  obtain ⟨hx, hb, hml, hown, hts, hlw, hini, hG, hA, hT, hRf, hRl⟩ := hC
  obtain ⟨h1, hn⟩ := sy_dc_of h
  subst hn
  exact sy_ok_iand hT fun ls st a b H locs cells slots k => lv_iand hx hb h1 k
theorem sy_r33 (hC : sy_Cx p R s m args meth c w A tk len cc own ini nL lw) (h : sy_ck cc own host ini nL code lw pc 33 x y npc = true) : sy_OK p l e R s m args below meth c Q w A nL pc npc y (sy_i2l tk x y) := by
  obtain ⟨hx, hb, hml, hown, hts, hlw, hini, hG, hA, hT, hRf, hRl⟩ := hC
  obtain ⟨h1, hn⟩ := sy_dc_of h
  subst hn
  exact sy_ok_i2l fun ls st a H locs cells slots k => lv_i2l hx hb h1 rfl k
theorem sy_r34 (hC : sy_Cx p R s m args meth c w A tk len cc own ini nL lw) (h : sy_ck cc own host ini nL code lw pc 34 x y npc = true) : sy_OK p l e R s m args below meth c Q w A nL pc npc y (sy_l2i tk x y) := by
  obtain ⟨hx, hb, hml, hown, hts, hlw, hini, hG, hA, hT, hRf, hRl⟩ := hC
  obtain ⟨h1, hn⟩ := sy_dc_of h
  subst hn
  exact sy_ok_l2i fun ls st a H locs cells slots k => lv_l2i hx hb h1 rfl k
theorem sy_r35 (hC : sy_Cx p R s m args meth c w A tk len cc own ini nL lw) (h : sy_ck cc own host ini nL code lw pc 35 x y npc = true) : sy_OK p l e R s m args below meth c Q w A nL pc npc y (sy_i2c tk x y) := by
  obtain ⟨hx, hb, hml, hown, hts, hlw, hini, hG, hA, hT, hRf, hRl⟩ := hC
  obtain ⟨h1, hn⟩ := sy_dc_of h
  subst hn
  exact sy_ok_i2c hT fun ls st a H locs cells slots k => lv_i2c hx hb h1 rfl k
theorem sy_r36 (hC : sy_Cx p R s m args meth c w A tk len cc own ini nL lw) (h : sy_ck cc own host ini nL code lw pc 36 x y npc = true) : sy_OK p l e R s m args below meth c Q w A nL pc npc y (sy_lcmp tk x y) := by
  obtain ⟨hx, hb, hml, hown, hts, hlw, hini, hG, hA, hT, hRf, hRl⟩ := hC
  obtain ⟨h1, hn⟩ := sy_dc_of h
  subst hn
  exact sy_ok_lcmp hT fun ls st a b H locs cells slots k => W.lcmp hx hb h1 k
theorem sy_r37 (hC : sy_Cx p R s m args meth c w A tk len cc own ini nL lw) (h : sy_ck cc own host ini nL code lw pc 37 x y npc = true) : sy_OK p l e R s m args below meth c Q w A nL pc npc y (sy_dup tk x y) := by
  obtain ⟨hx, hb, hml, hown, hts, hlw, hini, hG, hA, hT, hRf, hRl⟩ := hC
  obtain ⟨h1, hn⟩ := sy_dc_of h
  subst hn
  exact sy_ok_dup fun ls st a ha H locs cells slots k => lv_dup hx hb h1 ha k
theorem sy_r38 (hC : sy_Cx p R s m args meth c w A tk len cc own ini nL lw) (h : sy_ck cc own host ini nL code lw pc 38 x y npc = true) : sy_OK p l e R s m args below meth c Q w A nL pc npc y (sy_pop tk x y) := by
  obtain ⟨hx, hb, hml, hown, hts, hlw, hini, hG, hA, hT, hRf, hRl⟩ := hC
  obtain ⟨h1, hn⟩ := sy_dc_of h
  subst hn
  exact sy_ok_pop fun ls st a ha H locs cells slots k => lv_pop hx hb h1 ha k
theorem sy_r39 (hC : sy_Cx p R s m args meth c w A tk len cc own ini nL lw) (h : sy_ck cc own host ini nL code lw pc 39 x y npc = true) : sy_OK p l e R s m args below meth c Q w A nL pc npc y (sy_ifc sy_eq false tk x y) := by
  obtain ⟨hx, hb, hml, hown, hts, hlw, hini, hG, hA, hT, hRf, hRl⟩ := hC
  obtain ⟨h, h2⟩ := sy_an2 h
  obtain ⟨h1, hn⟩ := sy_dc_of h
  subst hn
  have ht : (pc : Int) + ((y : Int) - pc) = (y : Int) := by omega
  exact sy_ok_ifc false (sy_dec_eq hT) fun H locs cells slots ls st a kt kf => lv_if_eq hx hb h1 ht kt kf
theorem sy_r45 (hC : sy_Cx p R s m args meth c w A tk len cc own ini nL lw) (h : sy_ck cc own host ini nL code lw pc 45 x y npc = true) : sy_OK p l e R s m args below meth c Q w A nL pc npc y (sy_icmp sy_eq false tk x y) := by
  obtain ⟨hx, hb, hml, hown, hts, hlw, hini, hG, hA, hT, hRf, hRl⟩ := hC
  obtain ⟨h, h2⟩ := sy_an2 h
  obtain ⟨h1, hn⟩ := sy_dc_of h
  subst hn
  have ht : (pc : Int) + ((y : Int) - pc) = (y : Int) := by omega
  exact sy_ok_icmp false (sy_dec_eq hT) fun H locs cells slots ls st a b kt kf => lv_icmp_eq hx hb h1 ht kt kf
theorem sy_r40 (hC : sy_Cx p R s m args meth c w A tk len cc own ini nL lw) (h : sy_ck cc own host ini nL code lw pc 40 x y npc = true) : sy_OK p l e R s m args below meth c Q w A nL pc npc y (sy_ifc sy_eq true tk x y) := by
  obtain ⟨hx, hb, hml, hown, hts, hlw, hini, hG, hA, hT, hRf, hRl⟩ := hC
  obtain ⟨h, h2⟩ := sy_an2 h
  obtain ⟨h1, hn⟩ := sy_dc_of h
  subst hn
  have ht : (pc : Int) + ((y : Int) - pc) = (y : Int) := by omega
  exact sy_ok_ifc true (sy_dec_eq hT) fun H locs cells slots ls st a kt kf => lv_if_ne hx hb h1 ht kt kf
theorem sy_r46 (hC : sy_Cx p R s m args meth c w A tk len cc own ini nL lw) (h : sy_ck cc own host ini nL code lw pc 46 x y npc = true) : sy_OK p l e R s m args below meth c Q w A nL pc npc y (sy_icmp sy_eq true tk x y) := by
  obtain ⟨hx, hb, hml, hown, hts, hlw, hini, hG, hA, hT, hRf, hRl⟩ := hC
  obtain ⟨h, h2⟩ := sy_an2 h
  obtain ⟨h1, hn⟩ := sy_dc_of h
  subst hn
  have ht : (pc : Int) + ((y : Int) - pc) = (y : Int) := by omega
  exact sy_ok_icmp true (sy_dec_eq hT) fun H locs cells slots ls st a b kt kf => lv_icmp_ne hx hb h1 ht kt kf
theorem sy_r41 (hC : sy_Cx p R s m args meth c w A tk len cc own ini nL lw) (h : sy_ck cc own host ini nL code lw pc 41 x y npc = true) : sy_OK p l e R s m args below meth c Q w A nL pc npc y (sy_ifc sy_lt false tk x y) := by
  obtain ⟨hx, hb, hml, hown, hts, hlw, hini, hG, hA, hT, hRf, hRl⟩ := hC
  obtain ⟨h, h2⟩ := sy_an2 h
  obtain ⟨h1, hn⟩ := sy_dc_of h
  subst hn
  have ht : (pc : Int) + ((y : Int) - pc) = (y : Int) := by omega
  exact sy_ok_ifc false (sy_dec_lt hT) fun H locs cells slots ls st a kt kf => lv_if_lt hx hb h1 ht kt kf
theorem sy_r47 (hC : sy_Cx p R s m args meth c w A tk len cc own ini nL lw) (h : sy_ck cc own host ini nL code lw pc 47 x y npc = true) : sy_OK p l e R s m args below meth c Q w A nL pc npc y (sy_icmp sy_lt false tk x y) := by
  obtain ⟨hx, hb, hml, hown, hts, hlw, hini, hG, hA, hT, hRf, hRl⟩ := hC
  obtain ⟨h, h2⟩ := sy_an2 h
  obtain ⟨h1, hn⟩ := sy_dc_of h
  subst hn
  have ht : (pc : Int) + ((y : Int) - pc) = (y : Int) := by omega
  exact sy_ok_icmp false (sy_dec_lt hT) fun H locs cells slots ls st a b kt kf => lv_icmp_lt hx hb h1 ht kt kf
theorem sy_r42 (hC : sy_Cx p R s m args meth c w A tk len cc own ini nL lw) (h : sy_ck cc own host ini nL code lw pc 42 x y npc = true) : sy_OK p l e R s m args below meth c Q w A nL pc npc y (sy_ifc sy_lt true tk x y) := by
  obtain ⟨hx, hb, hml, hown, hts, hlw, hini, hG, hA, hT, hRf, hRl⟩ := hC
  obtain ⟨h, h2⟩ := sy_an2 h
  obtain ⟨h1, hn⟩ := sy_dc_of h
  subst hn
  have ht : (pc : Int) + ((y : Int) - pc) = (y : Int) := by omega
  exact sy_ok_ifc true (sy_dec_lt hT) fun H locs cells slots ls st a kt kf => lv_if_ge hx hb h1 ht (fun z => kt (Int32_not_lt.mpr z)) (fun z => kf (Classical.not_not.mp fun q => z (Int32_not_lt.mp q)))
theorem sy_r48 (hC : sy_Cx p R s m args meth c w A tk len cc own ini nL lw) (h : sy_ck cc own host ini nL code lw pc 48 x y npc = true) : sy_OK p l e R s m args below meth c Q w A nL pc npc y (sy_icmp sy_lt true tk x y) := by
  obtain ⟨hx, hb, hml, hown, hts, hlw, hini, hG, hA, hT, hRf, hRl⟩ := hC
  obtain ⟨h, h2⟩ := sy_an2 h
  obtain ⟨h1, hn⟩ := sy_dc_of h
  subst hn
  have ht : (pc : Int) + ((y : Int) - pc) = (y : Int) := by omega
  exact sy_ok_icmp true (sy_dec_lt hT) fun H locs cells slots ls st a b kt kf => lv_icmp_ge hx hb h1 ht (fun z => kt (Int32_not_lt.mpr z)) (fun z => kf (Classical.not_not.mp fun q => z (Int32_not_lt.mp q)))
theorem sy_r43 (hC : sy_Cx p R s m args meth c w A tk len cc own ini nL lw) (h : sy_ck cc own host ini nL code lw pc 43 x y npc = true) : sy_OK p l e R s m args below meth c Q w A nL pc npc y (sy_ifc sy_gt false tk x y) := by
  obtain ⟨hx, hb, hml, hown, hts, hlw, hini, hG, hA, hT, hRf, hRl⟩ := hC
  obtain ⟨h, h2⟩ := sy_an2 h
  obtain ⟨h1, hn⟩ := sy_dc_of h
  subst hn
  have ht : (pc : Int) + ((y : Int) - pc) = (y : Int) := by omega
  exact sy_ok_ifc false (sy_dec_gt hT) fun H locs cells slots ls st a kt kf => lv_if_gt hx hb h1 ht kt kf
theorem sy_r49 (hC : sy_Cx p R s m args meth c w A tk len cc own ini nL lw) (h : sy_ck cc own host ini nL code lw pc 49 x y npc = true) : sy_OK p l e R s m args below meth c Q w A nL pc npc y (sy_icmp sy_gt false tk x y) := by
  obtain ⟨hx, hb, hml, hown, hts, hlw, hini, hG, hA, hT, hRf, hRl⟩ := hC
  obtain ⟨h, h2⟩ := sy_an2 h
  obtain ⟨h1, hn⟩ := sy_dc_of h
  subst hn
  have ht : (pc : Int) + ((y : Int) - pc) = (y : Int) := by omega
  exact sy_ok_icmp false (sy_dec_gt hT) fun H locs cells slots ls st a b kt kf => lv_icmp_gt hx hb h1 ht kt kf
theorem sy_r44 (hC : sy_Cx p R s m args meth c w A tk len cc own ini nL lw) (h : sy_ck cc own host ini nL code lw pc 44 x y npc = true) : sy_OK p l e R s m args below meth c Q w A nL pc npc y (sy_ifc sy_gt true tk x y) := by
  obtain ⟨hx, hb, hml, hown, hts, hlw, hini, hG, hA, hT, hRf, hRl⟩ := hC
  obtain ⟨h, h2⟩ := sy_an2 h
  obtain ⟨h1, hn⟩ := sy_dc_of h
  subst hn
  have ht : (pc : Int) + ((y : Int) - pc) = (y : Int) := by omega
  exact sy_ok_ifc true (sy_dec_gt hT) fun H locs cells slots ls st a kt kf => lv_if_le hx hb h1 ht (fun z => kt (Int32_not_lt.mpr z)) (fun z => kf (Classical.not_not.mp fun q => z (Int32_not_lt.mp q)))
theorem sy_r50 (hC : sy_Cx p R s m args meth c w A tk len cc own ini nL lw) (h : sy_ck cc own host ini nL code lw pc 50 x y npc = true) : sy_OK p l e R s m args below meth c Q w A nL pc npc y (sy_icmp sy_gt true tk x y) := by
  obtain ⟨hx, hb, hml, hown, hts, hlw, hini, hG, hA, hT, hRf, hRl⟩ := hC
  obtain ⟨h, h2⟩ := sy_an2 h
  obtain ⟨h1, hn⟩ := sy_dc_of h
  subst hn
  have ht : (pc : Int) + ((y : Int) - pc) = (y : Int) := by omega
  exact sy_ok_icmp true (sy_dec_gt hT) fun H locs cells slots ls st a b kt kf => lv_icmp_le hx hb h1 ht (fun z => kt (Int32_not_lt.mpr z)) (fun z => kf (Classical.not_not.mp fun q => z (Int32_not_lt.mp q)))
theorem sy_r51 (hC : sy_Cx p R s m args meth c w A tk len cc own ini nL lw) (h : sy_ck cc own host ini nL code lw pc 51 x y npc = true) : sy_OK p l e R s m args below meth c Q w A nL pc npc y (sy_acmp false tk x y) := by
  obtain ⟨hx, hb, hml, hown, hts, hlw, hini, hG, hA, hT, hRf, hRl⟩ := hC
  obtain ⟨h, h2⟩ := sy_an2 h
  obtain ⟨h1, hn⟩ := sy_dc_of h
  subst hn
  have ht : (pc : Int) + ((y : Int) - pc) = (y : Int) := by omega
  exact sy_ok_acmp false fun H locs cells slots ls st a b kt kf => lv_acmp_eq hx hb h1 ht kt kf
theorem sy_r52 (hC : sy_Cx p R s m args meth c w A tk len cc own ini nL lw) (h : sy_ck cc own host ini nL code lw pc 52 x y npc = true) : sy_OK p l e R s m args below meth c Q w A nL pc npc y (sy_acmp true tk x y) := by
  obtain ⟨hx, hb, hml, hown, hts, hlw, hini, hG, hA, hT, hRf, hRl⟩ := hC
  obtain ⟨h, h2⟩ := sy_an2 h
  obtain ⟨h1, hn⟩ := sy_dc_of h
  subst hn
  have ht : (pc : Int) + ((y : Int) - pc) = (y : Int) := by omega
  exact sy_ok_acmp true fun H locs cells slots ls st a b kt kf => lv_acmp_ne hx hb h1 ht kt kf
theorem sy_r53 (hC : sy_Cx p R s m args meth c w A tk len cc own ini nL lw) (h : sy_ck cc own host ini nL code lw pc 53 x y npc = true) : sy_OK p l e R s m args below meth c Q w A nL pc npc y (sy_nul false tk x y) := by
  obtain ⟨hx, hb, hml, hown, hts, hlw, hini, hG, hA, hT, hRf, hRl⟩ := hC
  obtain ⟨h, h2⟩ := sy_an2 h
  obtain ⟨h1, hn⟩ := sy_dc_of h
  subst hn
  have ht : (pc : Int) + ((y : Int) - pc) = (y : Int) := by omega
  exact sy_ok_nul false (fun ls st a H locs cells slots k => lv_ifnull hx hb h1 k) (fun ls st H locs cells slots k => lv_ifnullN hx hb h1 ht k)
theorem sy_r54 (hC : sy_Cx p R s m args meth c w A tk len cc own ini nL lw) (h : sy_ck cc own host ini nL code lw pc 54 x y npc = true) : sy_OK p l e R s m args below meth c Q w A nL pc npc y (sy_nul true tk x y) := by
  obtain ⟨hx, hb, hml, hown, hts, hlw, hini, hG, hA, hT, hRf, hRl⟩ := hC
  obtain ⟨h, h2⟩ := sy_an2 h
  obtain ⟨h1, hn⟩ := sy_dc_of h
  subst hn
  have ht : (pc : Int) + ((y : Int) - pc) = (y : Int) := by omega
  exact sy_ok_nul true (fun ls st a H locs cells slots k => lv_ifnonnull hx hb h1 ht k) (fun ls st H locs cells slots k => lv_ifnonnullN hx hb h1 k)
theorem sy_r55 (hC : sy_Cx p R s m args meth c w A tk len cc own ini nL lw) (h : sy_ck cc own host ini nL code lw pc 55 x y npc = true) : sy_OK p l e R s m args below meth c Q w A nL pc npc y (sy_goto tk x y) := by
  obtain ⟨hx, hb, hml, hown, hts, hlw, hini, hG, hA, hT, hRf, hRl⟩ := hC
  obtain ⟨h1, h2⟩ := sy_an2 h
  have h1 := sy_dt_of h1
  have ht : (pc : Int) + ((y : Int) - pc) = (y : Int) := by omega
  exact sy_ok_goto fun ls st H locs cells slots k => lv_goto hx hb h1 ht k
end SYZ1
end
section
/-! the operations, one by one: the heap -/
section SYZ2
theorem sy_elt_self {t v : Nat} (h : v = 0 → sy_dv t = 0) : sy_elt t v = v := by
  cases v with
  | zero => exact h rfl
  | succ k => rfl
theorem sy_arr_i {w : sy_Wd} {ρ : Nat → Nat} {t d i v : Nat} {z : Int32} (h1 : t ≠ 1) (h5 : t ≠ 5) (h6 : t < 6) (hv : v < 2 ^ 72) (hz : sy_v w ρ v = .int z) : sy_arr w ρ t (sy_wr d i v) = .inl (upd (fun j => sy_vi (sy_v w ρ (sy_elt 0 (sy_rd d j)))) i z) := by
  unfold sy_arr
  rw [if_neg h1, if_neg h5, if_pos h6]
  congr 1
  funext j
  rw [sy_rd_wr _ _ _ _ hv]
  unfold upd
  by_cases hij : i = j
  · subst hij
    rw [if_pos rfl, if_pos rfl, sy_elt_self (fun _ => rfl), hz]
    rfl
  · rw [if_neg hij, if_neg (fun q => hij q.symm)]
theorem sy_arr_l {w : sy_Wd} {ρ : Nat → Nat} {d i v : Nat} {z : Int64} (hv : v < 2 ^ 72) (hz : sy_v w ρ v = .long z) : sy_arr w ρ 1 (sy_wr d i v) = .inr (.inl (vp_updL (fun j => sy_vl (sy_v w ρ (sy_elt 1 (sy_rd d j)))) i z)) := by
  unfold sy_arr
  rw [if_pos rfl]
  congr 2
  funext j
  rw [sy_rd_wr _ _ _ _ hv]
  unfold vp_updL
  by_cases hij : i = j
  · subst hij
    rw [if_pos rfl, if_pos rfl, sy_elt_self (fun q => by rw [q] at hz; cases hz), hz]
    rfl
  · rw [if_neg hij, if_neg (fun q => hij q.symm)]
theorem sy_arr_r {w : sy_Wd} {ρ : Nat → Nat} {t d i v : Nat} (h6 : 6 ≤ t) (hv : v < 2 ^ 72) (h0 : v ≠ 0) : sy_arr w ρ t (sy_wr d i v) = .inr (.inr (.inr (.inr (va_up (fun j => sy_vr (sy_v w ρ (sy_elt 6 (sy_rd d j)))) i (sy_vr (sy_v w ρ v)))))) := by
  unfold sy_arr
  rw [if_neg (by omega), if_neg (by omega), if_neg (by omega)]
  congr 4
  funext j
  rw [sy_rd_wr _ _ _ _ hv]
  unfold va_up
  by_cases hij : i = j
  · subst hij
    rw [if_pos rfl, if_pos rfl, sy_elt_self (fun q => absurd q h0)]
  · rw [if_neg hij, if_neg (fun q => hij q.symm)]
variable {p : Program} {l : Launch} {e : Env} {R : Room} {s : State} {m : MethodId} {args : Array Value} {below : List Frame} {meth : Method} {c : Code} {Q : State → Prop} {w : sy_Wd} {A : Nat → Prop} {tk : sy_T} {len : Nat} {cc : ByteArray} {own host : String} {ini : Bool} {nL : Nat} {code : List sy_E} {lw : List Cond} {pc x y npc : Nat}
theorem sy_r62 (hC : sy_Cx p R s m args meth c w A tk len cc own ini nL lw) (h : sy_ck cc own host ini nL code lw pc 62 x y npc = true) : sy_OK p l e R s m args below meth c Q w A nL pc npc y (sy_getf tk x y) := by
  obtain ⟨hx, hb, hml, hown, hts, hlw, hini, hG, hA, hT, hRf, hRl⟩ := hC
  obtain ⟨hK, ⟨hX, hbl, hbA⟩, hlen, hAO, hAOA, hCl⟩ := hG
  obtain ⟨g, h2⟩ := sy_an2 h
  obtain ⟨h1, hn⟩ := sy_dc_of g
  obtain ⟨h3, h4⟩ := sy_an2 h2
  obtain ⟨h4, h5⟩ := sy_an2 h4
  have h3 := sy_ble h3
  have h4 : x % 64 < sy_cN (x / 64) := sy_ble h4
  subst hn
  have hin : ∀ u ∈ u_ws (sy_cn (x / 64)) (sy_fr (x / 64)) (sy_cN (x / 64)), u ∈ sy_tbl := fun u hu => sy_tbl_mem (sy_uws _ h3 u hu)
  have hl := hts _ (hlw _ (of_decide_eq_true h5))
  exact sy_ok_getf fun ws H locs cells slots ls st q0 a fs v hP he hv k => va_get hx hb hts hin hown hK hP q0 he (sy_clsT h3) (x % 64) h4 hl (fun _ z => z) hv h1 k
theorem sy_r63 (hC : sy_Cx p R s m args meth c w A tk len cc own ini nL lw) (h : sy_ck cc own host ini nL code lw pc 63 x y npc = true) : sy_OK p l e R s m args below meth c Q w A nL pc npc y (sy_getf tk x y) := by
  obtain ⟨hx, hb, hml, hown, hts, hlw, hini, hG, hA, hT, hRf, hRl⟩ := hC
  obtain ⟨hK, ⟨hX, hbl, hbA⟩, hlen, hAO, hAOA, hCl⟩ := hG
  obtain ⟨g, h2⟩ := sy_an2 h
  obtain ⟨h1, hn⟩ := sy_dc_of g
  obtain ⟨h3, h4⟩ := sy_an2 h2
  obtain ⟨h4, h5⟩ := sy_an2 h4
  have h3 := sy_ble h3
  have h4 : x % 64 < sy_cN (x / 64) := sy_ble h4
  subst hn
  have hin : ∀ u ∈ u_ws (sy_cn (x / 64)) (sy_fr (x / 64)) (sy_cN (x / 64)), u ∈ sy_tbl := fun u hu => sy_tbl_mem (sy_uws _ h3 u hu)
  have hl := hts _ (hlw _ (of_decide_eq_true h5))
  exact sy_ok_getf fun ws H locs cells slots ls st q0 a fs v hP he hv k => va_getN hx hb hts hin hown hK hP q0 he (sy_clsT h3) (x % 64) h4 hl (fun _ z => z) hv h1 k
theorem sy_r64 (hC : sy_Cx p R s m args meth c w A tk len cc own ini nL lw) (h : sy_ck cc own host ini nL code lw pc 64 x y npc = true) : sy_OK p l e R s m args below meth c Q w A nL pc npc y (sy_putf tk x y) := by
  obtain ⟨hx, hb, hml, hown, hts, hlw, hini, hG, hA, hT, hRf, hRl⟩ := hC
  obtain ⟨hK, ⟨hX, hbl, hbA⟩, hlen, hAO, hAOA, hCl⟩ := hG
  obtain ⟨g, h2⟩ := sy_an2 h
  obtain ⟨h1, hn⟩ := sy_dc_of g
  obtain ⟨h3, h4⟩ := sy_an2 h2
  obtain ⟨h4, h5⟩ := sy_an2 h4
  have h3 := sy_ble h3
  have h4 : x % 64 < sy_cN (x / 64) := sy_ble h4
  subst hn
  have hin : ∀ u ∈ u_ws (sy_cn (x / 64)) (sy_fr (x / 64)) (sy_cN (x / 64)), u ∈ sy_tbl := fun u hu => sy_tbl_mem (sy_uws _ h3 u hu)
  obtain ⟨h5, h6⟩ := sy_an2 h5
  obtain ⟨h6, h7⟩ := sy_an2 h6
  have hl := hts _ (hlw _ (of_decide_eq_true h5))
  have h6 := of_decide_eq_true h6
  have hd := sy_ft_ok _ h3 _ h4
  rw [hd] at h6
  have h6 : sy_tyc (sy_ft (x / 64) (x % 64)) = y % 8 := Option.some.inj h6
  have h7 := of_decide_eq_true h7
  refine sy_ok_putf fun ws H locs cells slots ls st q0 a fs ρ v hP hD hS he hlf hok k => ?_
  have hy7 : y % 8 < 7 := by
    have h9 : y % 8 < 8 := Nat.mod_lt _ (by decide)
    have h8 : ¬ y % 8 = 7 := fun q => by rw [q] at hok; cases hok
    omega
  obtain ⟨hn1, hn2⟩ := sy_okf_ok (w := w) (ρ := ρ) h6 hy7 hok
  exact va_put hx hb hts hin (sy_ft (x / 64)) (sy_ft_ok _ h3) (sy_nm_ok _ h3) hown hK hP hD hS q0 he (sy_clsT h3) (x % 64) h4 hl (fun _ z => z) h7 hd hn1 hn2 hlf h1 k
theorem sy_r65 (hC : sy_Cx p R s m args meth c w A tk len cc own ini nL lw) (h : sy_ck cc own host ini nL code lw pc 65 x y npc = true) : sy_OK p l e R s m args below meth c Q w A nL pc npc y (sy_putf tk x y) := by
  obtain ⟨hx, hb, hml, hown, hts, hlw, hini, hG, hA, hT, hRf, hRl⟩ := hC
  obtain ⟨hK, ⟨hX, hbl, hbA⟩, hlen, hAO, hAOA, hCl⟩ := hG
  obtain ⟨g, h2⟩ := sy_an2 h
  obtain ⟨h1, hn⟩ := sy_dc_of g
  obtain ⟨h3, h4⟩ := sy_an2 h2
  obtain ⟨h4, h5⟩ := sy_an2 h4
  have h3 := sy_ble h3
  have h4 : x % 64 < sy_cN (x / 64) := sy_ble h4
  subst hn
  have hin : ∀ u ∈ u_ws (sy_cn (x / 64)) (sy_fr (x / 64)) (sy_cN (x / 64)), u ∈ sy_tbl := fun u hu => sy_tbl_mem (sy_uws _ h3 u hu)
  obtain ⟨h5, h6⟩ := sy_an2 h5
  obtain ⟨h6, h7⟩ := sy_an2 h6
  have hl := hts _ (hlw _ (of_decide_eq_true h5))
  have h6 := of_decide_eq_true h6
  have hd := sy_ft_ok _ h3 _ h4
  rw [hd] at h6
  have h6 : sy_tyc (sy_ft (x / 64) (x % 64)) = y % 8 := Option.some.inj h6
  have h7 := of_decide_eq_true h7
  refine sy_ok_putf fun ws H locs cells slots ls st q0 a fs ρ v hP hD hS he hlf hok k => ?_
  have hy7 : y % 8 < 7 := by
    have h9 : y % 8 < 8 := Nat.mod_lt _ (by decide)
    have h8 : ¬ y % 8 = 7 := fun q => by rw [q] at hok; cases hok
    omega
  obtain ⟨hn1, hn2⟩ := sy_okf_ok (w := w) (ρ := ρ) h6 hy7 hok
  exact va_putN hx hb hts hin (sy_ft (x / 64)) (sy_ft_ok _ h3) (sy_nm_ok _ h3) hown hK hP hD hS q0 he (sy_clsT h3) (x % 64) h4 hl (fun _ z => z) h7 hd hn1 hn2 hlf h1 k
theorem sy_r66 (hC : sy_Cx p R s m args meth c w A tk len cc own ini nL lw) (h : sy_ck cc own host ini nL code lw pc 66 x y npc = true) : sy_OK p l e R s m args below meth c Q w A nL pc npc y (sy_putf tk x y) := by
  obtain ⟨hx, hb, hml, hown, hts, hlw, hini, hG, hA, hT, hRf, hRl⟩ := hC
  obtain ⟨hK, ⟨hX, hbl, hbA⟩, hlen, hAO, hAOA, hCl⟩ := hG
  obtain ⟨g, h2⟩ := sy_an2 h
  obtain ⟨h1, hn⟩ := sy_dc_of g
  obtain ⟨h3, h4⟩ := sy_an2 h2
  obtain ⟨h4, h5⟩ := sy_an2 h4
  have h3 := sy_ble h3
  have h4 : x % 64 < sy_cN (x / 64) := sy_ble h4
  subst hn
  have hin : ∀ u ∈ u_ws (sy_cn (x / 64)) (sy_fr (x / 64)) (sy_cN (x / 64)), u ∈ sy_tbl := fun u hu => sy_tbl_mem (sy_uws _ h3 u hu)
  obtain ⟨h5, h6⟩ := sy_an2 h5
  obtain ⟨h6, h7⟩ := sy_an2 h6
  have hl := hts _ (hlw _ (of_decide_eq_true h5))
  have h6 := of_decide_eq_true h6
  have hd := sy_ft_ok _ h3 _ h4
  rw [hd] at h6
  have h6 : sy_tyc (sy_ft (x / 64) (x % 64)) = y % 8 := Option.some.inj h6
  obtain ⟨h7, h8⟩ := sy_an2 h7
  obtain ⟨h8, h9⟩ := sy_an2 h8
  have h7 := of_decide_eq_true h7
  have h9 := of_decide_eq_true h9
  refine sy_ok_putf fun ws H locs cells slots ls st q0 a fs ρ v hP hD hS he hlf hok k => ?_
  have hy7 : y % 8 < 7 := by
    have z9 : y % 8 < 8 := Nat.mod_lt _ (by decide)
    have z8 : ¬ y % 8 = 7 := fun q => by rw [q] at hok; cases hok
    omega
  obtain ⟨hn1, hn2⟩ := sy_okf_ok (w := w) (ρ := ρ) h6 hy7 hok
  exact va_putF hx hb hts hin (sy_ft (x / 64)) (sy_ft_ok _ h3) (sy_nm_ok _ h3) hown hK hP hD hS q0 he (sy_clsT h3) (x % 64) h4 hl (fun _ z => z) h7 (hini h8) h9 hd hn1 hn2 hlf h1 k
theorem sy_r67 (hC : sy_Cx p R s m args meth c w A tk len cc own ini nL lw) (h : sy_ck cc own host ini nL code lw pc 67 x y npc = true) : sy_OK p l e R s m args below meth c Q w A nL pc npc y (sy_new sy_fi tk x y) := by
  obtain ⟨hx, hb, hml, hown, hts, hlw, hini, hG, hA, hT, hRf, hRl⟩ := hC
  obtain ⟨hK, ⟨hX, hbl, hbA⟩, hlen, hAO, hAOA, hCl⟩ := hG
  obtain ⟨g, h2⟩ := sy_an2 h
  obtain ⟨h1, hn⟩ := sy_dc_of g
  obtain ⟨h3, h4⟩ := sy_an2 h2
  obtain ⟨h4, h5⟩ := sy_an2 h4
  obtain ⟨h5, h6⟩ := sy_an2 h5
  have h3 := sy_ble h3
  subst hn
  have hin : ∀ u ∈ u_ws (sy_cn x) (sy_fr x) (sy_cN x), u ∈ sy_tbl := fun u hu => sy_tbl_mem (sy_uws _ h3 u hu)
  obtain ⟨f1, f2⟩ := sy_fi_ok x h3
  refine sy_ok_new (sy_fi_wf h3) fun ρ ws H locs cells slots ls st hP hD hS hc hs k => ?_
  rw [f1] at hs k
  refine va_new hx hb hts hin (sy_ft x) (sy_ft_ok _ h3) hown (hts _ (hlw _ (of_decide_eq_true h4))) (hts _ (hlw _ (of_decide_eq_true h5))) (hts _ (hlw _ (of_decide_eq_true h6))) hK hP hD hS hA (sy_clsT h3) (fs := (List.range (sy_cN x)).map fun k => sy_v w ρ (sy_rd (sy_fi x).2 k)) (fun j hj => ?_) hc hs h1 fun q H1 g1 g2 g3 => k q H1 locs g1 g2 g3
  unfold vp_V
  rw [List.getD_eq_getElem?_getD, List.getElem?_map, List.getElem?_range hj]
  exact sy_dfl_ok (f2 j hj)
theorem sy_r68 (hC : sy_Cx p R s m args meth c w A tk len cc own ini nL lw) (h : sy_ck cc own host ini nL code lw pc 68 x y npc = true) : sy_OK p l e R s m args below meth c Q w A nL pc npc y (sy_newa tk x y) := by
  obtain ⟨hx, hb, hml, hown, hts, hlw, hini, hG, hA, hT, hRf, hRl⟩ := hC
  obtain ⟨hK, ⟨hX, hbl, hbA⟩, hlen, hAO, hAOA, hCl⟩ := hG
  obtain ⟨g, h2⟩ := sy_an2 h
  obtain ⟨h1, hn⟩ := sy_dc_of g
  obtain ⟨h3, h4⟩ := sy_an2 h2
  have h3 := sy_ble h3
  have h4 := hts _ (hlw _ (of_decide_eq_true h4))
  subst hn
  have hty : newarray.typeOf (sy_aty x) = sy_fty x := by
    match x, h3 with
    | 0, _ => rfl
    | 1, _ => rfl
    | 2, _ => rfl
    | 3, _ => rfl
    | 4, _ => rfl
    | 5, _ => rfl
  have hcb : componentBytes (sy_fty x) ≤ 8 := by
    match x, h3 with
    | 0, _ => decide
    | 1, _ => decide
    | 2, _ => decide
    | 3, _ => decide
    | 4, _ => decide
    | 5, _ => decide
  refine sy_ok_newa fun ρ ws H locs cells slots ls st n hn hP hD hS hc hs k => ?_
  refine va_newa hx hb h4 hty hK hP hD hS hA (a0 := (n, sy_arr w ρ x 0)) (fun cA => ?_) (nI_pos (by omega)) (nI_clamp (by omega)) (Nat.le_trans (Nat.mul_le_mul hn hcb) (by decide)) hc hs h1 fun q cA H1 g0 g1 g2 g3 => ?_
  · match x, h3 with
    | 0, _ => show arrV cA n (fun j => .int (sy_vi (sy_v w ρ (sy_elt 0 (sy_rd 0 j))))) = _; simp only [sy_rd0]; rfl
    | 1, _ => show arrV cA n (fun j => .long (sy_vl (sy_v w ρ (sy_elt 1 (sy_rd 0 j))))) = _; simp only [sy_rd0]; rfl
    | 2, _ => show arrV cA n (fun j => .int (sy_vi (sy_v w ρ (sy_elt 0 (sy_rd 0 j))))) = _; simp only [sy_rd0]; rfl
    | 3, _ => show arrV cA n (fun j => .int (sy_vi (sy_v w ρ (sy_elt 0 (sy_rd 0 j))))) = _; simp only [sy_rd0]; rfl
    | 4, _ => show arrV cA n (fun j => .int (sy_vi (sy_v w ρ (sy_elt 0 (sy_rd 0 j))))) = _; simp only [sy_rd0]; rfl
    | 5, _ => show arrV cA n (fun j => .double (sy_vd (sy_v w ρ (sy_elt 5 (sy_rd 0 j))))) = _; simp only [sy_rd0]; rfl
  · have e1 := (g0.2 (sy_tys w).length _ (by rw [List.getElem?_append_right (Nat.le_refl _), Nat.sub_self]; rfl)).2
    have e2 := (hK.2 x _ (sy_tys_get (w := w) (by omega))).2
    have e3 : cA = w.2.1 x := by
      match x, h3 with
      | 0, _ => exact Option.some.inj (e1.symm.trans e2)
      | 1, _ => exact Option.some.inj (e1.symm.trans e2)
      | 2, _ => exact Option.some.inj (e1.symm.trans e2)
      | 3, _ => exact Option.some.inj (e1.symm.trans e2)
      | 4, _ => exact Option.some.inj (e1.symm.trans e2)
      | 5, _ => exact Option.some.inj (e1.symm.trans e2)
    subst e3
    exact k q H1 locs g1 g2 g3
theorem sy_r69 (hC : sy_Cx p R s m args meth c w A tk len cc own ini nL lw) (h : sy_ck cc own host ini nL code lw pc 69 x y npc = true) : sy_OK p l e R s m args below meth c Q w A nL pc npc y (sy_newa tk x y) := by
  obtain ⟨hx, hb, hml, hown, hts, hlw, hini, hG, hA, hT, hRf, hRl⟩ := hC
  obtain ⟨hK, ⟨hX, hbl, hbA⟩, hlen, hAO, hAOA, hCl⟩ := hG
  obtain ⟨g, h2⟩ := sy_an2 h
  obtain ⟨h1, hn⟩ := sy_dc_of g
  obtain ⟨h3, h4⟩ := sy_an2 h2
  obtain ⟨h4, h5⟩ := sy_an2 h4
  have h3 := sy_ble h3
  have h4 := sy_ble h4
  have h5 := hts _ (hlw _ (of_decide_eq_true h5))
  subst hn
  have hty : sy_fty x = .object (sy_an x) := by
    match x, h3, h4 with
    | 6, _, _ => rfl
    | 7, _, _ => rfl
    | 8, _, _ => rfl
    | 9, _, _ => rfl
    | 10, _, _ => rfl
    | 11, _, _ => rfl
  have harr : ∀ ρ, sy_arr w ρ x 0 = .inr (.inr (.inr (.inr fun _ => none))) := by
    intro ρ
    unfold sy_arr
    rw [if_neg (by omega), if_neg (by omega), if_neg (by omega)]
    simp only [sy_rd0]
    rfl
  refine sy_ok_newa fun ρ ws H locs cells slots ls st n hn hP hD hS hc hs k => ?_
  rw [harr] at k
  refine va_newq hx hb hown h5 (hAO x h3 h4) hK hP hD hS hA (nI_pos (by omega)) (nI_clamp (by omega)) (by omega) hc hs h1 fun q cA H1 g0 g1 g2 g3 => ?_
  have e1 := (g0.2 (sy_tys w).length _ (by rw [List.getElem?_append_right (Nat.le_refl _), Nat.sub_self]; rfl)).2
  have e2 := (hK.2 x _ (sy_tys_get (w := w) (by omega))).2
  rw [hty] at e2
  obtain ⟨_, _, _, _, _, e1⟩ := e1
  obtain ⟨_, _, _, _, _, e2⟩ := e2
  have e3 : cA = w.2.1 x := Option.some.inj (e1.symm.trans e2)
  subst e3
  exact k q H1 locs g1 g2 g3
theorem sy_r70 (hC : sy_Cx p R s m args meth c w A tk len cc own ini nL lw) (h : sy_ck cc own host ini nL code lw pc 70 x y npc = true) : sy_OK p l e R s m args below meth c Q w A nL pc npc y (sy_alen tk len tk x y) := by
  obtain ⟨hx, hb, hml, hown, hts, hlw, hini, hG, hA, hT, hRf, hRl⟩ := hC
  obtain ⟨hK, ⟨hX, hbl, hbA⟩, hlen, hAO, hAOA, hCl⟩ := hG
  obtain ⟨h1, hn⟩ := sy_dc_of h
  subst hn
  exact sy_ok_alen (fun ws H locs cells slots ls st q0 a t z ht hP ha k => va_alen hx hb hK hP q0 t ha (sy_tys_get ht) rfl h1 k) hlen fun H locs cells slots ls st hS k => va_slen hx hb hX hbl hbA hS h1 k
theorem sy_r71 (hC : sy_Cx p R s m args meth c w A tk len cc own ini nL lw) (h : sy_ck cc own host ini nL code lw pc 71 x y npc = true) : sy_OK p l e R s m args below meth c Q w A nL pc npc y (sy_iald len tk x y) := by
  obtain ⟨hx, hb, hml, hown, hts, hlw, hini, hG, hA, hT, hRf, hRl⟩ := hC
  obtain ⟨hK, ⟨hX, hbl, hbA⟩, hlen, hAO, hAOA, hCl⟩ := hG
  obtain ⟨h1, hn⟩ := sy_dc_of h
  subst hn
  refine sy_ok_iald hT hlen (sy_ok_ald fun ρ ws H locs cells slots ls st q0 a n d i v hP ha hi hn hv ht k => ?_) fun H locs cells slots ls st i hi hS k => ?_
  · obtain ⟨z, hz⟩ := sy_vi_ex (w := w) (ρ := ρ) ht
    refine va_iald hx hb hK hP q0 0 ha (sy_tys_get (by decide)) (sy_vp_in hi hn) h1 ?_
    rw [sy_cl_nI (by omega)]
    show W p l e R s m args below meth c H locs cells slots Q (F0 m (pc + 1) ls (.int (sy_vi (sy_v w ρ (sy_elt 0 (sy_rd d i)))) :: st))
    rw [← hv, hz]
    rw [hz] at k
    exact k
  · refine va_sld hx hb hX hbl hbA hS (sy_vp_in hi (by omega)) h1 ?_
    rw [sy_cl_nI (by omega)]
    exact k
theorem sy_r72 (hC : sy_Cx p R s m args meth c w A tk len cc own ini nL lw) (h : sy_ck cc own host ini nL code lw pc 72 x y npc = true) : sy_OK p l e R s m args below meth c Q w A nL pc npc y (sy_ald 1 1 1 tk x y) := by
  obtain ⟨hx, hb, hml, hown, hts, hlw, hini, hG, hA, hT, hRf, hRl⟩ := hC
  obtain ⟨hK, ⟨hX, hbl, hbA⟩, hlen, hAO, hAOA, hCl⟩ := hG
  obtain ⟨h1, hn⟩ := sy_dc_of h
  subst hn
  refine sy_ok_ald fun ρ ws H locs cells slots ls st q0 a n d i v hP ha hi hn hv ht k => ?_
  obtain ⟨z, hz⟩ := sy_vl_ex (w := w) (ρ := ρ) ht
  refine va_lald hx hb hK hP q0 1 ha (sy_tys_get (by decide)) (sy_vp_in hi hn) h1 ?_
  rw [sy_cl_nI (by omega)]
  show W p l e R s m args below meth c H locs cells slots Q (F0 m (pc + 1) ls (.long (sy_vl (sy_v w ρ (sy_elt 1 (sy_rd d i)))) :: st))
  rw [← hv, hz]
  rw [hz] at k
  exact k
theorem sy_r74 (hC : sy_Cx p R s m args meth c w A tk len cc own ini nL lw) (h : sy_ck cc own host ini nL code lw pc 74 x y npc = true) : sy_OK p l e R s m args below meth c Q w A nL pc npc y (sy_ald 2 0 0 tk x y) := by
  obtain ⟨hx, hb, hml, hown, hts, hlw, hini, hG, hA, hT, hRf, hRl⟩ := hC
  obtain ⟨hK, ⟨hX, hbl, hbA⟩, hlen, hAO, hAOA, hCl⟩ := hG
  obtain ⟨h1, hn⟩ := sy_dc_of h
  subst hn
  refine sy_ok_ald fun ρ ws H locs cells slots ls st q0 a n d i v hP ha hi hn hv ht k => ?_
  obtain ⟨z, hz⟩ := sy_vi_ex (w := w) (ρ := ρ) ht
  refine va_zald hx hb hK hP q0 2 ha (sy_tys_get (by decide)) (sy_vp_in hi hn) h1 ?_
  rw [sy_cl_nI (by omega)]
  show W p l e R s m args below meth c H locs cells slots Q (F0 m (pc + 1) ls (.int (sy_vi (sy_v w ρ (sy_elt 0 (sy_rd d i)))) :: st))
  rw [← hv, hz]
  rw [hz] at k
  exact k
theorem sy_r73 (hC : sy_Cx p R s m args meth c w A tk len cc own ini nL lw) (h : sy_ck cc own host ini nL code lw pc 73 x y npc = true) : sy_OK p l e R s m args below meth c Q w A nL pc npc y (sy_aald tk x y) := by
  obtain ⟨hx, hb, hml, hown, hts, hlw, hini, hG, hA, hT, hRf, hRl⟩ := hC
  obtain ⟨hK, ⟨hX, hbl, hbA⟩, hlen, hAO, hAOA, hCl⟩ := hG
  obtain ⟨h1, hn⟩ := sy_dc_of h
  subst hn
  refine sy_ok_aald fun ρ ws H locs cells slots ls st q0 a t n d i v h6 h12 hP ha hi hn hv ht k => ?_
  have harr : sy_arr w ρ t d = .inr (.inr (.inr (.inr fun i => sy_vr (sy_v w ρ (sy_elt 6 (sy_rd d i)))))) := by
    unfold sy_arr
    rw [if_neg (by omega), if_neg (by omega), if_neg (by omega)]
  rw [harr] at ha
  have hz : va_rf (sy_vr (sy_v w ρ (sy_elt 6 (sy_rd d i)))) = sy_v w ρ v := by
    rw [← hv]
    rcases ht with ht | ht
    · rw [ht]
      rfl
    · rw [sy_v5 ht]
      rfl
  rw [← hz] at k
  have hin := sy_vp_in hi hn
  by_cases ht12 : t = 12
  · subst ht12
    have hlt : (nI i).toNatClampNeg < n := Nat.not_le.mp fun q => hin (Or.inr q)
    have hti := hK.2 12 _ (sy_tys_get (w := w) (by decide))
    refine W.aald (v := va_rf (sy_vr (sy_v w ρ (sy_elt 6 (sy_rd d i))))) (ty := .array .boolean) hx hb (hP q0 _ ha) (hti.1 n (fun j => va_rf (sy_vr (sy_v w ρ (sy_elt 6 (sy_rd d j)))))) rfl (fun q => by cases q) (by show ¬ ((nI i) < 0 ∨ (arrV _ _ _).slots.size ≤ _); rw [arrV_size]; exact hin) (by show (arrV _ _ _).slots[_]? = _; rw [arrV_read _ _ hlt, sy_cl_nI (by omega)]) rfl rfl h1 k
  · have hty : sy_fty t = .object (sy_an t) := by
      have h11 : t ≤ 11 := by omega
      match t, h6, h11 with
      | 6, _, _ => rfl
      | 7, _, _ => rfl
      | 8, _, _ => rfl
      | 9, _, _ => rfl
      | 10, _, _ => rfl
      | 11, _, _ => rfl
    refine va_aldq hx hb hK hP q0 t ha (by rw [sy_tys_get h12, hty]) hin h1 ?_
    rw [sy_cl_nI (by omega)]
    exact k
theorem sy_r75 (hC : sy_Cx p R s m args meth c w A tk len cc own ini nL lw) (h : sy_ck cc own host ini nL code lw pc 75 x y npc = true) : sy_OK p l e R s m args below meth c Q w A nL pc npc y (sy_ast 0 0 tk x y) := by
  obtain ⟨hx, hb, hml, hown, hts, hlw, hini, hG, hA, hT, hRf, hRl⟩ := hC
  obtain ⟨hK, ⟨hX, hbl, hbA⟩, hlen, hAO, hAOA, hCl⟩ := hG
  obtain ⟨h1, hn⟩ := sy_dc_of h
  subst hn
  refine sy_ok_ast fun ρ ws H locs cells slots ls st q0 a n d i v hP hD hS ha hi hn ht hv k => ?_
  obtain ⟨z, hz⟩ := sy_vi_ex (w := w) (ρ := ρ) ht
  rw [sy_arr_i (by decide) (by decide) (by decide) hv hz] at k
  rw [hz]
  refine va_iast hx hb hK hP hD hS q0 0 ha (sy_tys_get (by decide)) (sy_vp_in hi hn) h1 fun H1 locs1 g1 g2 g3 => ?_
  rw [sy_cl_nI (by omega)] at g1 g2
  exact k H1 locs1 g1 g2 g3
theorem sy_r76 (hC : sy_Cx p R s m args meth c w A tk len cc own ini nL lw) (h : sy_ck cc own host ini nL code lw pc 76 x y npc = true) : sy_OK p l e R s m args below meth c Q w A nL pc npc y (sy_ast 1 1 tk x y) := by
  obtain ⟨hx, hb, hml, hown, hts, hlw, hini, hG, hA, hT, hRf, hRl⟩ := hC
  obtain ⟨hK, ⟨hX, hbl, hbA⟩, hlen, hAO, hAOA, hCl⟩ := hG
  obtain ⟨h1, hn⟩ := sy_dc_of h
  subst hn
  refine sy_ok_ast fun ρ ws H locs cells slots ls st q0 a n d i v hP hD hS ha hi hn ht hv k => ?_
  obtain ⟨z, hz⟩ := sy_vl_ex (w := w) (ρ := ρ) ht
  rw [sy_arr_l hv hz] at k
  rw [hz]
  refine va_last hx hb hK hP hD hS q0 1 ha (sy_tys_get (by decide)) (sy_vp_in hi hn) h1 fun H1 locs1 g1 g2 g3 => ?_
  rw [sy_cl_nI (by omega)] at g1 g2
  exact k H1 locs1 g1 g2 g3
theorem sy_r77 (hC : sy_Cx p R s m args meth c w A tk len cc own ini nL lw) (h : sy_ck cc own host ini nL code lw pc 77 x y npc = true) : sy_OK p l e R s m args below meth c Q w A nL pc npc y (sy_aast sy_at tk x y) := by
  obtain ⟨hx, hb, hml, hown, hts, hlw, hini, hG, hA, hT, hRf, hRl⟩ := hC
  obtain ⟨hK, ⟨hX, hbl, hbA⟩, hlen, hAO, hAOA, hCl⟩ := hG
  obtain ⟨h1, hn⟩ := sy_dc_of h
  subst hn
  refine sy_ok_aast fun ρ ws H locs cells slots ls st q0 a t n d i v h6 h11 hP hD hS ha hi hn hv hlt k => ?_
  have harr : sy_arr w ρ t d = .inr (.inr (.inr (.inr fun i => sy_vr (sy_v w ρ (sy_elt 6 (sy_rd d i)))))) := by
    unfold sy_arr
    rw [if_neg (by omega), if_neg (by omega), if_neg (by omega)]
  rw [harr] at ha
  have hty : sy_fty t = .object (sy_an t) ∧ sy_at t ≤ 15 ∧ sy_cn (sy_at t) = sy_an t := by
    match t, h6, h11 with
    | 6, _, _ => exact ⟨rfl, by decide, rfl⟩
    | 7, _, _ => exact ⟨rfl, by decide, rfl⟩
    | 8, _, _ => exact ⟨rfl, by decide, rfl⟩
    | 9, _, _ => exact ⟨rfl, by decide, rfl⟩
    | 10, _, _ => exact ⟨rfl, by decide, rfl⟩
    | 11, _, _ => exact ⟨rfl, by decide, rfl⟩
  have hv0 : v ≠ 0 := by
    rcases hv with hv | ⟨hv, -⟩
    · omega
    · intro q
      rw [q] at hv
      cases hv
  rw [sy_arr_r h6 hlt hv0] at k
  have ht : (sy_tys w)[t]? = some (w.2.1 t, .object (sy_an t)) := by rw [sy_tys_get (by omega), hty.1]
  rcases hv with hv | ⟨hv, qk, vs, hq⟩
  · subst hv
    refine va_astqN hx hb hK hP hD hS q0 t ha ht (sy_vp_in hi hn) h1 fun H1 locs1 g1 g2 g3 => ?_
    rw [sy_cl_nI (by omega)] at g1 g2
    exact k H1 locs1 g1 g2 g3
  · rw [sy_v5 hv] at k ⊢
    refine va_astq hx hb hK hP hD hS q0 t qk (sy_at t) ha (r := (sy_cn (sy_at t), sy_fr (sy_at t), sy_cN (sy_at t))) (by rw [ht, hty.2.2]) hq (sy_clsT hty.2.1) (sy_vp_in hi hn) h1 fun H1 locs1 g1 g2 g3 => ?_
    rw [sy_cl_nI (by omega)] at g1 g2
    exact k H1 locs1 g1 g2 g3
theorem sy_r78 (hC : sy_Cx p R s m args meth c w A tk len cc own ini nL lw) (h : sy_ck cc own host ini nL code lw pc 78 x y npc = true) : sy_OK p l e R s m args below meth c Q w A nL pc npc y (sy_cast tk x y) := by
  obtain ⟨hx, hb, hml, hown, hts, hlw, hini, hG, hA, hT, hRf, hRl⟩ := hC
  obtain ⟨hK, ⟨hX, hbl, hbA⟩, hlen, hAO, hAOA, hCl⟩ := hG
  obtain ⟨h1, hn⟩ := sy_dc_of h
  subst hn
  refine sy_ok_cast fun ρ ws H locs cells slots ls st q0 a n d i v hP hD hS ha hi hn ht hv k => ?_
  have hok : sy_okf 6 v = true := by
    show cond (Nat.beq (sy_tg v) 8) true (cond (Nat.beq (sy_tg v) 0) (Nat.ble (sy_py v) 65535) false) = true
    rcases ht with ht | ⟨ht, h2⟩
    · rw [ht]
      rfl
    · rw [ht]
      exact Nat.ble_eq_true_of_le h2
  obtain ⟨n1, -⟩ := sy_okf_ok (w := w) (ρ := ρ) (t := .char) rfl (by decide) hok
  have hty0 : sy_ty v = 0 := by
    rcases ht with ht | ⟨ht, -⟩
    · unfold sy_ty
      rw [ht]
      decide
    · unfold sy_ty
      rw [ht]
      decide
  obtain ⟨z, hz⟩ := sy_vi_ex (w := w) (ρ := ρ) hty0
  rw [sy_arr_i (by decide) (by decide) (by decide) hv hz] at k
  rw [hz] at n1 ⊢
  refine va_cast hx hb hK hP hD hS q0 3 ha (sy_tys_get (by decide)) (sy_vp_in hi hn) h1 fun H1 locs1 g1 g2 g3 => ?_
  have e : vp_nar .char z = z := by
    unfold vp_nar
    rw [n1]
  rw [sy_cl_nI (by omega), e] at g1 g2
  exact k H1 locs1 g1 g2 g3
theorem sy_r79 (hC : sy_Cx p R s m args meth c w A tk len cc own ini nL lw) (h : sy_ck cc own host ini nL code lw pc 79 x y npc = true) : sy_OK p l e R s m args below meth c Q w A nL pc npc y (sy_castA tk x y) := by
  obtain ⟨hx, hb, hml, hown, hts, hlw, hini, hG, hA, hT, hRf, hRl⟩ := hC
  obtain ⟨hK, ⟨hX, hbl, hbA⟩, hlen, hAO, hAOA, hCl⟩ := hG
  obtain ⟨g, h2⟩ := sy_an2 h
  obtain ⟨h1, hn⟩ := sy_dc_of g
  obtain ⟨h3, h4⟩ := sy_an2 h2
  have h3 : x = 0 := sy_beq h3
  subst hn
  subst h3
  have hnm : s.vm.findClass "[I" = some (w.2.1 0) := (hK.2 0 _ (sy_tys_get (w := w) (by decide))).2
  exact sy_ok_castA fun ws H locs cells slots ls st q0 a z hP ha k => va_castA hx hb hown (hts _ (hlw _ (of_decide_eq_true h4))) hP q0 ha hnm h1 k
theorem sy_r85 (hC : sy_Cx p R s m args meth c w A tk len cc own ini nL lw) (h : sy_ck cc own host ini nL code lw pc 85 x y npc = true) : sy_OK p l e R s m args below meth c Q w A nL pc npc y (sy_clone tk x y) := by
  obtain ⟨hx, hb, hml, hown, hts, hlw, hini, hG, hA, hT, hRf, hRl⟩ := hC
  obtain ⟨hK, ⟨hX, hbl, hbA⟩, hlen, hAO, hAOA, hCl⟩ := hG
  obtain ⟨g, h2⟩ := sy_an2 h
  obtain ⟨h1, hn⟩ := sy_dc_of g
  obtain ⟨h3, h4⟩ := sy_an2 h2
  obtain ⟨h4, h5⟩ := sy_an2 h4
  obtain ⟨h5, h6⟩ := sy_an2 h5
  obtain ⟨h6, h7⟩ := sy_an2 h6
  subst hn
  have hnm : s.vm.findClass "[I" = some (w.2.1 0) := (hK.2 0 _ (sy_tys_get (w := w) (by decide))).2
  refine sy_ok_clone fun ρ ws H locs cells slots ls st q0 a n d hls hcat hP hD hS ha hc hs k => ?_
  refine va_clone hx hb (hml.trans hls.symm) hown (hts _ (hlw _ (of_decide_eq_true h3))) (hts _ (hlw _ (of_decide_eq_true h4))) (hts _ (hlw _ (of_decide_eq_true h5))) (hts _ (hlw _ (of_decide_eq_true h6))) (hts _ (hlw _ (of_decide_eq_true h7))) hCl hK hP hD hS hA q0 0 ha (sy_tys_get (by decide)) hnm (fun i v hv => ?_) (by omega) (by omega) hc hs h1 fun q H1 g0 g1 g2 g3 => k q H1 locs g1 g2 g3
  have hv : (arrV (w.2.1 0) n (fun j => .int (sy_vi (sy_v w ρ (sy_elt 0 (sy_rd d j)))))).slots[i]? = some v := hv
  have hlt := (Array.getElem?_eq_some_iff.mp hv).1
  rw [arrV_size] at hlt
  rw [arrV_read _ _ hlt] at hv
  cases hv
  rfl
theorem sy_r86 (hC : sy_Cx p R s m args meth c w A tk len cc own ini nL lw) (h : sy_ck cc own host ini nL code lw pc 86 x y npc = true) : sy_OK p l e R s m args below meth c Q w A nL pc npc y (sy_acpy tk x y) := by
  obtain ⟨hx, hb, hml, hown, hts, hlw, hini, hG, hA, hT, hRf, hRl⟩ := hC
  obtain ⟨hK, ⟨hX, hbl, hbA⟩, hlen, hAO, hAOA, hCl⟩ := hG
  obtain ⟨g, h2⟩ := sy_an2 h
  obtain ⟨h1, hn⟩ := sy_dc_of g
  obtain ⟨h3, h4⟩ := sy_an2 h2
  obtain ⟨h4, h5⟩ := sy_an2 h4
  obtain ⟨h5, h6⟩ := sy_an2 h5
  subst hn
  refine sy_ok_acpy fun ρ ws H locs cells slots ls st q0 q1 a0 a1 n0 n1 d0 d1 sp dp n hls hcat hP hD hS ha0 ha1 hb0 hb1 hc0 hc1 k => ?_
  have e : sy_arr w ρ 0 (sy_cpy d0 sp dp n d1) = .inl (va_cpy (fun j => sy_vi (sy_v w ρ (sy_elt 0 (sy_rd d0 j)))) (fun j => sy_vi (sy_v w ρ (sy_elt 0 (sy_rd d1 j)))) sp dp n) := by
    unfold sy_arr
    rw [if_neg (by decide), if_neg (by decide), if_pos (by decide)]
    congr 1
    funext j
    rw [sy_rd_cpy]
    unfold va_cpy
    split <;> rfl
  rw [e] at k
  refine va_copyi hx hb (hml.trans hls.symm) hown (hts _ (hlw _ (of_decide_eq_true h3))) (hts _ (hlw _ (of_decide_eq_true h4))) (hts _ (hlw _ (of_decide_eq_true h5))) (hts _ (hlw _ (of_decide_eq_true h6))) hK hP hD hS q0 q1 0 0 ha0 ha1 (sy_tys_get (by decide)) (sy_tys_get (by decide)) rfl (nI_pos (by omega)) (nI_pos (by omega)) (nI_pos (by omega)) (by rw [sy_cl_nI (by omega), sy_cl_nI (by omega)]; exact hb0) (by rw [sy_cl_nI (by omega), sy_cl_nI (by omega)]; exact hb1) (fun i _ => rfl) (by omega) ?_ h1 fun H1 locs1 g1 g2 g3 => ?_
  · have : nativeFrameWords "java/lang/System" "arraycopy" 5 ≤ 100 := by decide +kernel
    omega
  · rw [sy_cl_nI (by omega), sy_cl_nI (by omega), sy_cl_nI (by omega)] at g1 g2
    exact k H1 locs1 g1 g2 g3
theorem sy_r87 (hC : sy_Cx p R s m args meth c w A tk len cc own ini nL lw) (h : sy_ck cc own host ini nL code lw pc 87 x y npc = true) : sy_OK p l e R s m args below meth c Q w A nL pc npc y (sy_mna tk x y) := by
  obtain ⟨hx, hb, hml, hown, hts, hlw, hini, hG, hA, hT, hRf, hRl⟩ := hC
  obtain ⟨hK, ⟨hX, hbl, hbA⟩, hlen, hAO, hAOA, hCl⟩ := hG
  obtain ⟨g, h2⟩ := sy_an2 h
  obtain ⟨h1, hn⟩ := sy_dc_of g
  obtain ⟨h3, h4⟩ := sy_an2 h2
  obtain ⟨h4, h5⟩ := sy_an2 h4
  have h3 : x = 12 := sy_beq h3
  subst hn
  subst h3
  have hcy : s.vm.findClass (FieldType.array .boolean).toString = some (w.2.1 2) := (hK.2 2 _ (sy_tys_get (w := w) (by decide))).2
  refine sy_ok_mna (by decide) fun ρ ws H locs cells slots ls st n k hn hk hP hD hS hc hs kk => ?_
  have hP' : va_P w.1 sy_cl (ws ++ va_pl [] (fun _ => .inl (w.2.1 2, k, sy_arr w ρ 2 0))) H := by
    show va_P w.1 sy_cl (ws ++ []) H
    rw [List.append_nil]
    exact hP
  have hD' : va_D A (ws ++ va_pl [] (fun _ => .inl (w.2.1 2, k, sy_arr w ρ 2 0))) := by
    show va_D A (ws ++ [])
    rw [List.append_nil]
    exact hD
  refine va_mna (ty := .boolean) hx hb hown (hts _ (hlw _ (of_decide_eq_true h4))) hAOA (hts _ (hlw _ (of_decide_eq_true h5))) hcy hK hP' hD' hS hA (z := (k, sy_arr w ρ 2 0)) (nI_pos (by omega)) (nI_pos (by omega)) (nI_clamp (by omega)) (nI_clamp (by omega)) (by omega) (by show k * 1 ≤ _; omega) (by omega) rfl rfl hc hs (fun cc => ?_) h1 fun q r cA H1 r1 r2 g0 g1 g2 g3 => ?_
  · show _ = arrV cc k (fun j => .int (sy_vi (sy_v w ρ (sy_elt 0 (sy_rd 0 j)))))
    simp only [sy_rd0]
    exact arrV_new _ _ _
  · have e1 := (g0.2 (sy_tys w).length _ (by rw [List.getElem?_append_right (Nat.le_refl _), Nat.sub_self]; rfl)).2
    have e2 := (hK.2 12 _ (sy_tys_get (w := w) (by decide))).2
    have e3 : cA = w.2.1 12 := Option.some.inj (e1.symm.trans e2)
    subst e3
    have e4 : va_pl ([] ++ (List.range n).map r) (vr_up (fun _ => Sum.inl (w.2.1 2, k, sy_arr w ρ 2 0)) ((List.range n).map r) (.inl (w.2.1 2, k, sy_arr w ρ 2 0))) = (List.range n).map (fun i => (r i, .inl (w.2.1 2, k, sy_arr w ρ 2 0))) := by
      unfold va_pl vr_up
      rw [List.nil_append, List.map_map]
      apply List.map_congr_left
      intro i _
      simp
    rw [e4] at g1 g2
    exact kk q r H1 locs g1 g2 g3
end SYZ2
end
section
/-! printed by wip/p1/gen2.py: the methods that are reached, as the claim's tables have them -/
section SYI
/-- name; code; locals; result; handlers; the nest's host; the words that its places ask for -/
abbrev sy_Inf : Type := MethodName × ByteArray × Nat × Option FieldType × List (Nat × Nat × Nat × Nat) × String × List Cond
noncomputable def si_0 : sy_Inf := (x, code, 9, (some .boolean), [], "", [.classLink "ManypensLaw" 8 "Manypens", .instantiable "Manypens" 9, .initialized "Manypens", .methodLink "ManypensLaw" 159 ⟨"Manypens", "<init>", "()V"⟩, .instanceMethod ⟨"Manypens", "<init>", "()V"⟩, .classLink "ManypensLaw" 160 "ManypensModel", .instantiable "ManypensModel" 8, .initialized "ManypensModel", .methodLink "ManypensLaw" 162 ⟨"ManypensModel", "<init>", "()V"⟩, .instanceMethod ⟨"ManypensModel", "<init>", "()V"⟩, .arrayClass .long, .arrayClass .double, .methodLink "ManypensLaw" 163 ⟨"ManypensLaw", "type", "(LManypens;C[J)I"⟩, .static ⟨"ManypensLaw", "type", "(LManypens;C[J)I"⟩, .initialized "ManypensLaw", .methodLink "ManypensLaw" 168 ⟨"ManypensModel", "type", "(C)I"⟩, .instanceMethod ⟨"ManypensModel", "type", "(C)I"⟩, .selects "ManypensModel" ⟨"ManypensModel", "type", "(C)I"⟩ ⟨"ManypensModel", "type", "(C)I"⟩, .methodLink "ManypensLaw" 169 ⟨"ManypensModel", "thrown", "()I"⟩, .instanceMethod ⟨"ManypensModel", "thrown", "()I"⟩, .selects "ManypensModel" ⟨"ManypensModel", "thrown", "()I"⟩ ⟨"ManypensModel", "thrown", "()I"⟩, .methodLink "ManypensLaw" 172 ⟨"Manypens", "erase", "()I"⟩, .instanceMethod ⟨"Manypens", "erase", "()I"⟩, .selects "Manypens" ⟨"Manypens", "erase", "()I"⟩ ⟨"Manypens", "erase", "()I"⟩, .methodLink "ManypensLaw" 175 ⟨"ManypensModel", "erase", "()I"⟩, .instanceMethod ⟨"ManypensModel", "erase", "()I"⟩, .selects "ManypensModel" ⟨"ManypensModel", "erase", "()I"⟩ ⟨"ManypensModel", "erase", "()I"⟩, .methodLink "ManypensLaw" 176 ⟨"ManypensLaw", "put", "(LManypens;II[J)I"⟩, .static ⟨"ManypensLaw", "put", "(LManypens;II[J)I"⟩, .methodLink "ManypensLaw" 179 ⟨"ManypensModel", "put", "(II)I"⟩, .instanceMethod ⟨"ManypensModel", "put", "(II)I"⟩, .selects "ManypensModel" ⟨"ManypensModel", "put", "(II)I"⟩ ⟨"ManypensModel", "put", "(II)I"⟩, .methodLink "ManypensLaw" 180 ⟨"ManypensLaw", "take", "(LManypens;III[J)I"⟩, .static ⟨"ManypensLaw", "take", "(LManypens;III[J)I"⟩, .methodLink "ManypensLaw" 183 ⟨"ManypensModel", "take", "(III)I"⟩, .instanceMethod ⟨"ManypensModel", "take", "(III)I"⟩, .selects "ManypensModel" ⟨"ManypensModel", "take", "(III)I"⟩ ⟨"ManypensModel", "take", "(III)I"⟩, .methodLink "ManypensLaw" 184 ⟨"ManypensLaw", "replace", "(LManypens;III[J)I"⟩, .static ⟨"ManypensLaw", "replace", "(LManypens;III[J)I"⟩, .methodLink "ManypensLaw" 186 ⟨"ManypensModel", "replace", "(III)I"⟩, .instanceMethod ⟨"ManypensModel", "replace", "(III)I"⟩, .selects "ManypensModel" ⟨"ManypensModel", "replace", "(III)I"⟩ ⟨"ManypensModel", "replace", "(III)I"⟩, .methodLink "ManypensLaw" 187 ⟨"ManypensLaw", "move", "(LManypens;IIII[J)I"⟩, .static ⟨"ManypensLaw", "move", "(LManypens;IIII[J)I"⟩, .methodLink "ManypensLaw" 190 ⟨"ManypensModel", "move", "(IIII)I"⟩, .instanceMethod ⟨"ManypensModel", "move", "(IIII)I"⟩, .selects "ManypensModel" ⟨"ManypensModel", "move", "(IIII)I"⟩ ⟨"ManypensModel", "move", "(IIII)I"⟩, .methodLink "ManypensLaw" 191 ⟨"ManypensLaw", "mark", "(LManypens;IIICZZ[J)I"⟩, .static ⟨"ManypensLaw", "mark", "(LManypens;IIICZZ[J)I"⟩, .methodLink "ManypensLaw" 194 ⟨"ManypensModel", "mark", "(IIICZZ)I"⟩, .instanceMethod ⟨"ManypensModel", "mark", "(IIICZZ)I"⟩, .selects "ManypensModel" ⟨"ManypensModel", "mark", "(IIICZZ)I"⟩ ⟨"ManypensModel", "mark", "(IIICZZ)I"⟩, .methodLink "ManypensLaw" 195 ⟨"ManypensLaw", "comment", "(LManypens;IIII[J)I"⟩, .static ⟨"ManypensLaw", "comment", "(LManypens;IIII[J)I"⟩, .methodLink "ManypensLaw" 197 ⟨"ManypensModel", "comment", "(IIII)I"⟩, .instanceMethod ⟨"ManypensModel", "comment", "(IIII)I"⟩, .selects "ManypensModel" ⟨"ManypensModel", "comment", "(IIII)I"⟩ ⟨"ManypensModel", "comment", "(IIII)I"⟩, .methodLink "ManypensLaw" 198 ⟨"ManypensLaw", "write", "(LManypens;I[J)I"⟩, .static ⟨"ManypensLaw", "write", "(LManypens;I[J)I"⟩, .methodLink "ManypensLaw" 201 ⟨"ManypensModel", "write", "(I)I"⟩, .instanceMethod ⟨"ManypensModel", "write", "(I)I"⟩, .selects "ManypensModel" ⟨"ManypensModel", "write", "(I)I"⟩ ⟨"ManypensModel", "write", "(I)I"⟩, .methodLink "ManypensLaw" 202 ⟨"ManypensLaw", "open", "(LManypens;I[J)I"⟩, .static ⟨"ManypensLaw", "open", "(LManypens;I[J)I"⟩, .methodLink "ManypensLaw" 204 ⟨"ManypensModel", "open", "(I)I"⟩, .instanceMethod ⟨"ManypensModel", "open", "(I)I"⟩, .selects "ManypensModel" ⟨"ManypensModel", "open", "(I)I"⟩ ⟨"ManypensModel", "open", "(I)I"⟩, .methodLink "ManypensLaw" 205 ⟨"ManypensLaw", "close", "(LManypens;I[J)I"⟩, .static ⟨"ManypensLaw", "close", "(LManypens;I[J)I"⟩, .methodLink "ManypensLaw" 207 ⟨"ManypensModel", "close", "(I)I"⟩, .instanceMethod ⟨"ManypensModel", "close", "(I)I"⟩, .selects "ManypensModel" ⟨"ManypensModel", "close", "(I)I"⟩ ⟨"ManypensModel", "close", "(I)I"⟩, .methodLink "ManypensLaw" 208 ⟨"ManypensLaw", "undo", "(LManypens;I[J)I"⟩, .static ⟨"ManypensLaw", "undo", "(LManypens;I[J)I"⟩, .methodLink "ManypensLaw" 210 ⟨"ManypensModel", "undo", "(I)I"⟩, .instanceMethod ⟨"ManypensModel", "undo", "(I)I"⟩, .selects "ManypensModel" ⟨"ManypensModel", "undo", "(I)I"⟩ ⟨"ManypensModel", "undo", "(I)I"⟩, .methodLink "ManypensLaw" 211 ⟨"ManypensLaw", "redo", "(LManypens;I[J)I"⟩, .static ⟨"ManypensLaw", "redo", "(LManypens;I[J)I"⟩, .methodLink "ManypensLaw" 213 ⟨"ManypensModel", "redo", "(I)I"⟩, .instanceMethod ⟨"ManypensModel", "redo", "(I)I"⟩, .selects "ManypensModel" ⟨"ManypensModel", "redo", "(I)I"⟩ ⟨"ManypensModel", "redo", "(I)I"⟩, .methodLink "ManypensLaw" 214 ⟨"ManypensLaw", "groups", "(LManypens;IZ[J)I"⟩, .static ⟨"ManypensLaw", "groups", "(LManypens;IZ[J)I"⟩, .methodLink "ManypensLaw" 217 ⟨"ManypensModel", "groups", "(IZ)I"⟩, .instanceMethod ⟨"ManypensModel", "groups", "(IZ)I"⟩, .selects "ManypensModel" ⟨"ManypensModel", "groups", "(IZ)I"⟩ ⟨"ManypensModel", "groups", "(IZ)I"⟩, .methodLink "ManypensLaw" 218 ⟨"ManypensLaw", "length", "(LManypens;I[J)I"⟩, .static ⟨"ManypensLaw", "length", "(LManypens;I[J)I"⟩, .methodLink "ManypensLaw" 220 ⟨"ManypensModel", "length", "(I)I"⟩, .instanceMethod ⟨"ManypensModel", "length", "(I)I"⟩, .selects "ManypensModel" ⟨"ManypensModel", "length", "(I)I"⟩ ⟨"ManypensModel", "length", "(I)I"⟩, .methodLink "ManypensLaw" 221 ⟨"ManypensLaw", "signAt", "(LManypens;II[J)I"⟩, .static ⟨"ManypensLaw", "signAt", "(LManypens;II[J)I"⟩, .methodLink "ManypensLaw" 223 ⟨"ManypensModel", "signAt", "(II)C"⟩, .instanceMethod ⟨"ManypensModel", "signAt", "(II)C"⟩, .selects "ManypensModel" ⟨"ManypensModel", "signAt", "(II)C"⟩ ⟨"ManypensModel", "signAt", "(II)C"⟩, .methodLink "ManypensLaw" 224 ⟨"ManypensLaw", "birth", "(LManypens;II[J)I"⟩, .static ⟨"ManypensLaw", "birth", "(LManypens;II[J)I"⟩, .methodLink "ManypensLaw" 226 ⟨"ManypensModel", "birth", "(II)I"⟩, .instanceMethod ⟨"ManypensModel", "birth", "(II)I"⟩, .selects "ManypensModel" ⟨"ManypensModel", "birth", "(II)I"⟩ ⟨"ManypensModel", "birth", "(II)I"⟩, .methodLink "ManypensLaw" 227 ⟨"ManypensLaw", "isMarked", "(LManypens;IIC[J)I"⟩, .static ⟨"ManypensLaw", "isMarked", "(LManypens;IIC[J)I"⟩, .methodLink "ManypensLaw" 230 ⟨"ManypensModel", "isMarked", "(IIC)Z"⟩, .instanceMethod ⟨"ManypensModel", "isMarked", "(IIC)Z"⟩, .selects "ManypensModel" ⟨"ManypensModel", "isMarked", "(IIC)Z"⟩ ⟨"ManypensModel", "isMarked", "(IIC)Z"⟩, .methodLink "ManypensLaw" 231 ⟨"ManypensLaw", "runs", "(LManypens;I[J)I"⟩, .static ⟨"ManypensLaw", "runs", "(LManypens;I[J)I"⟩, .methodLink "ManypensLaw" 233 ⟨"ManypensModel", "runs", "(I)I"⟩, .instanceMethod ⟨"ManypensModel", "runs", "(I)I"⟩, .selects "ManypensModel" ⟨"ManypensModel", "runs", "(I)I"⟩ ⟨"ManypensModel", "runs", "(I)I"⟩, .methodLink "ManypensLaw" 234 ⟨"ManypensLaw", "comments", "(LManypens;I[J)I"⟩, .static ⟨"ManypensLaw", "comments", "(LManypens;I[J)I"⟩, .methodLink "ManypensLaw" 236 ⟨"ManypensModel", "comments", "(I)I"⟩, .instanceMethod ⟨"ManypensModel", "comments", "(I)I"⟩, .selects "ManypensModel" ⟨"ManypensModel", "comments", "(I)I"⟩ ⟨"ManypensModel", "comments", "(I)I"⟩, .methodLink "ManypensLaw" 237 ⟨"ManypensLaw", "commentAt", "(LManypens;IIC[J)I"⟩, .static ⟨"ManypensLaw", "commentAt", "(LManypens;IIC[J)I"⟩, .methodLink "ManypensLaw" 239 ⟨"ManypensModel", "commentAt", "(IIC)I"⟩, .instanceMethod ⟨"ManypensModel", "commentAt", "(IIC)I"⟩, .selects "ManypensModel" ⟨"ManypensModel", "commentAt", "(IIC)I"⟩ ⟨"ManypensModel", "commentAt", "(IIC)I"⟩, .methodLink "ManypensLaw" 240 ⟨"ManypensLaw", "setCursor", "(LManypens;II[J)I"⟩, .static ⟨"ManypensLaw", "setCursor", "(LManypens;II[J)I"⟩, .methodLink "ManypensLaw" 242 ⟨"ManypensModel", "setCursor", "(II)I"⟩, .instanceMethod ⟨"ManypensModel", "setCursor", "(II)I"⟩, .selects "ManypensModel" ⟨"ManypensModel", "setCursor", "(II)I"⟩ ⟨"ManypensModel", "setCursor", "(II)I"⟩, .methodLink "ManypensLaw" 243 ⟨"ManypensLaw", "cursor", "(LManypens;I[J)I"⟩, .static ⟨"ManypensLaw", "cursor", "(LManypens;I[J)I"⟩, .methodLink "ManypensLaw" 245 ⟨"ManypensModel", "cursor", "(I)I"⟩, .instanceMethod ⟨"ManypensModel", "cursor", "(I)I"⟩, .selects "ManypensModel" ⟨"ManypensModel", "cursor", "(I)I"⟩ ⟨"ManypensModel", "cursor", "(I)I"⟩, .methodLink "ManypensLaw" 246 ⟨"ManypensLaw", "onWay", "(LManypens;I[J)I"⟩, .static ⟨"ManypensLaw", "onWay", "(LManypens;I[J)I"⟩, .methodLink "ManypensLaw" 248 ⟨"ManypensModel", "onWay", "(I)I"⟩, .instanceMethod ⟨"ManypensModel", "onWay", "(I)I"⟩, .selects "ManypensModel" ⟨"ManypensModel", "onWay", "(I)I"⟩ ⟨"ManypensModel", "onWay", "(I)I"⟩, .methodLink "ManypensLaw" 249 ⟨"ManypensLaw", "wayAt", "(LManypens;II[J)I"⟩, .static ⟨"ManypensLaw", "wayAt", "(LManypens;II[J)I"⟩, .methodLink "ManypensLaw" 251 ⟨"ManypensModel", "wayAt", "(II)I"⟩, .instanceMethod ⟨"ManypensModel", "wayAt", "(II)I"⟩, .selects "ManypensModel" ⟨"ManypensModel", "wayAt", "(II)I"⟩ ⟨"ManypensModel", "wayAt", "(II)I"⟩, .methodLink "ManypensLaw" 252 ⟨"ManypensLaw", "deliver", "(LManypens;II[J)I"⟩, .static ⟨"ManypensLaw", "deliver", "(LManypens;II[J)I"⟩, .methodLink "ManypensLaw" 254 ⟨"ManypensModel", "deliver", "(II)C"⟩, .instanceMethod ⟨"ManypensModel", "deliver", "(II)C"⟩, .selects "ManypensModel" ⟨"ManypensModel", "deliver", "(II)C"⟩ ⟨"ManypensModel", "deliver", "(II)C"⟩, .methodLink "ManypensLaw" 255 ⟨"ManypensLaw", "repeat", "(LManypens;II[J)I"⟩, .static ⟨"ManypensLaw", "repeat", "(LManypens;II[J)I"⟩, .methodLink "ManypensLaw" 257 ⟨"ManypensModel", "repeat", "(II)I"⟩, .instanceMethod ⟨"ManypensModel", "repeat", "(II)I"⟩, .selects "ManypensModel" ⟨"ManypensModel", "repeat", "(II)I"⟩ ⟨"ManypensModel", "repeat", "(II)I"⟩, .methodLink "ManypensLaw" 258 ⟨"ManypensLaw", "lose", "(LManypens;II[J)I"⟩, .static ⟨"ManypensLaw", "lose", "(LManypens;II[J)I"⟩, .methodLink "ManypensLaw" 260 ⟨"ManypensModel", "lose", "(II)I"⟩, .instanceMethod ⟨"ManypensModel", "lose", "(II)I"⟩, .selects "ManypensModel" ⟨"ManypensModel", "lose", "(II)I"⟩ ⟨"ManypensModel", "lose", "(II)I"⟩, .methodLink "ManypensLaw" 261 ⟨"ManypensLaw", "meet", "(LManypens;II[J)I"⟩, .static ⟨"ManypensLaw", "meet", "(LManypens;II[J)I"⟩, .methodLink "ManypensLaw" 263 ⟨"ManypensModel", "meet", "(II)I"⟩, .instanceMethod ⟨"ManypensModel", "meet", "(II)I"⟩, .selects "ManypensModel" ⟨"ManypensModel", "meet", "(II)I"⟩ ⟨"ManypensModel", "meet", "(II)I"⟩, .methodLink "ManypensLaw" 264 ⟨"ManypensLaw", "waiting", "(LManypens;I[J)I"⟩, .static ⟨"ManypensLaw", "waiting", "(LManypens;I[J)I"⟩, .methodLink "ManypensLaw" 266 ⟨"ManypensModel", "waiting", "(I)I"⟩, .instanceMethod ⟨"ManypensModel", "waiting", "(I)I"⟩, .selects "ManypensModel" ⟨"ManypensModel", "waiting", "(I)I"⟩ ⟨"ManypensModel", "waiting", "(I)I"⟩, .methodLink "ManypensLaw" 267 ⟨"ManypensLaw", "lacks", "(LManypens;II[J)I"⟩, .static ⟨"ManypensLaw", "lacks", "(LManypens;II[J)I"⟩, .methodLink "ManypensLaw" 269 ⟨"ManypensModel", "lacks", "(II)I"⟩, .instanceMethod ⟨"ManypensModel", "lacks", "(II)I"⟩, .selects "ManypensModel" ⟨"ManypensModel", "lacks", "(II)I"⟩ ⟨"ManypensModel", "lacks", "(II)I"⟩, .methodLink "ManypensLaw" 270 ⟨"ManypensLaw", "heard", "(LManypens;II[J)I"⟩, .static ⟨"ManypensLaw", "heard", "(LManypens;II[J)I"⟩, .methodLink "ManypensLaw" 272 ⟨"ManypensModel", "heard", "(II)I"⟩, .instanceMethod ⟨"ManypensModel", "heard", "(II)I"⟩, .selects "ManypensModel" ⟨"ManypensModel", "heard", "(II)I"⟩ ⟨"ManypensModel", "heard", "(II)I"⟩, .methodLink "ManypensLaw" 273 ⟨"ManypensLaw", "leans", "(LManypens;III[J)I"⟩, .static ⟨"ManypensLaw", "leans", "(LManypens;III[J)I"⟩, .methodLink "ManypensLaw" 275 ⟨"ManypensModel", "leans", "(III)I"⟩, .instanceMethod ⟨"ManypensModel", "leans", "(III)I"⟩, .selects "ManypensModel" ⟨"ManypensModel", "leans", "(III)I"⟩ ⟨"ManypensModel", "leans", "(III)I"⟩, .methodLink "ManypensLaw" 276 ⟨"ManypensLaw", "steps", "(LManypens;I[J)I"⟩, .static ⟨"ManypensLaw", "steps", "(LManypens;I[J)I"⟩, .methodLink "ManypensLaw" 278 ⟨"ManypensModel", "steps", "(I)I"⟩, .instanceMethod ⟨"ManypensModel", "steps", "(I)I"⟩, .selects "ManypensModel" ⟨"ManypensModel", "steps", "(I)I"⟩ ⟨"ManypensModel", "steps", "(I)I"⟩, .methodLink "ManypensLaw" 279 ⟨"ManypensLaw", "lengthThen", "(LManypens;II[J)I"⟩, .static ⟨"ManypensLaw", "lengthThen", "(LManypens;II[J)I"⟩, .methodLink "ManypensLaw" 281 ⟨"ManypensModel", "lengthThen", "(II)I"⟩, .instanceMethod ⟨"ManypensModel", "lengthThen", "(II)I"⟩, .selects "ManypensModel" ⟨"ManypensModel", "lengthThen", "(II)I"⟩ ⟨"ManypensModel", "lengthThen", "(II)I"⟩, .methodLink "ManypensLaw" 282 ⟨"ManypensLaw", "signThen", "(LManypens;III[J)I"⟩, .static ⟨"ManypensLaw", "signThen", "(LManypens;III[J)I"⟩, .methodLink "ManypensLaw" 284 ⟨"ManypensModel", "signThen", "(III)C"⟩, .instanceMethod ⟨"ManypensModel", "signThen", "(III)C"⟩, .selects "ManypensModel" ⟨"ManypensModel", "signThen", "(III)C"⟩ ⟨"ManypensModel", "signThen", "(III)C"⟩, .methodLink "ManypensLaw" 285 ⟨"ManypensLaw", "differ", "(LManypens;II[J)I"⟩, .static ⟨"ManypensLaw", "differ", "(LManypens;II[J)I"⟩, .methodLink "ManypensLaw" 287 ⟨"ManypensModel", "differ", "(II)I"⟩, .instanceMethod ⟨"ManypensModel", "differ", "(II)I"⟩, .selects "ManypensModel" ⟨"ManypensModel", "differ", "(II)I"⟩ ⟨"ManypensModel", "differ", "(II)I"⟩, .methodLink "ManypensLaw" 288 ⟨"ManypensLaw", "isAlike", "(LManypens;II[J)I"⟩, .static ⟨"ManypensLaw", "isAlike", "(LManypens;II[J)I"⟩, .methodLink "ManypensLaw" 290 ⟨"ManypensModel", "isAlike", "(II)Z"⟩, .instanceMethod ⟨"ManypensModel", "isAlike", "(II)Z"⟩, .selects "ManypensModel" ⟨"ManypensModel", "isAlike", "(II)Z"⟩ ⟨"ManypensModel", "isAlike", "(II)Z"⟩, .methodLink "ManypensLaw" 291 ⟨"ManypensLaw", "forget", "(LManypens;[J)I"⟩, .static ⟨"ManypensLaw", "forget", "(LManypens;[J)I"⟩, .methodLink "ManypensLaw" 294 ⟨"ManypensModel", "forget", "()I"⟩, .instanceMethod ⟨"ManypensModel", "forget", "()I"⟩, .selects "ManypensModel" ⟨"ManypensModel", "forget", "()I"⟩ ⟨"ManypensModel", "forget", "()I"⟩, .methodLink "ManypensLaw" 295 ⟨"ManypensLaw", "kept", "(LManypens;I[J)I"⟩, .static ⟨"ManypensLaw", "kept", "(LManypens;I[J)I"⟩, .methodLink "ManypensLaw" 297 ⟨"ManypensModel", "kept", "(I)I"⟩, .instanceMethod ⟨"ManypensModel", "kept", "(I)I"⟩, .selects "ManypensModel" ⟨"ManypensModel", "kept", "(I)I"⟩ ⟨"ManypensModel", "kept", "(I)I"⟩, .methodLink "ManypensLaw" 298 ⟨"ManypensLaw", "othersShare", "(LManypens;I[D)I"⟩, .static ⟨"ManypensLaw", "othersShare", "(LManypens;I[D)I"⟩, .methodLink "ManypensLaw" 301 ⟨"ManypensModel", "othersShare", "(I)F"⟩, .instanceMethod ⟨"ManypensModel", "othersShare", "(I)F"⟩, .selects "ManypensModel" ⟨"ManypensModel", "othersShare", "(I)F"⟩ ⟨"ManypensModel", "othersShare", "(I)F"⟩, .methodLink "ManypensLaw" 302 ⟨"ManypensLaw", "meanTime", "(LManypens;I[D)I"⟩, .static ⟨"ManypensLaw", "meanTime", "(LManypens;I[D)I"⟩, .methodLink "ManypensLaw" 304 ⟨"ManypensModel", "meanTime", "(I)D"⟩, .instanceMethod ⟨"ManypensModel", "meanTime", "(I)D"⟩, .selects "ManypensModel" ⟨"ManypensModel", "meanTime", "(I)D"⟩ ⟨"ManypensModel", "meanTime", "(I)D"⟩, .methodLink "ManypensLaw" 305 ⟨"Manypens", "checksum", "()J"⟩, .instanceMethod ⟨"Manypens", "checksum", "()J"⟩, .selects "Manypens" ⟨"Manypens", "checksum", "()J"⟩ ⟨"Manypens", "checksum", "()J"⟩, .methodLink "ManypensLaw" 309 ⟨"ManypensModel", "checksum", "()J"⟩, .instanceMethod ⟨"ManypensModel", "checksum", "()J"⟩, .selects "ManypensModel" ⟨"ManypensModel", "checksum", "()J"⟩ ⟨"ManypensModel", "checksum", "()J"⟩, .methodLink "ManypensLaw" 310 ⟨"Manypens", "isTrue", "()Z"⟩, .instanceMethod ⟨"Manypens", "isTrue", "()Z"⟩, .selects "Manypens" ⟨"Manypens", "isTrue", "()Z"⟩ ⟨"Manypens", "isTrue", "()Z"⟩, .methodLink "ManypensLaw" 314 ⟨"ManypensModel", "isTrue", "()Z"⟩, .instanceMethod ⟨"ManypensModel", "isTrue", "()Z"⟩, .selects "ManypensModel" ⟨"ManypensModel", "isTrue", "()Z"⟩ ⟨"ManypensModel", "isTrue", "()Z"⟩])
noncomputable def si_1 : sy_Inf := (⟨"Manypens", "<init>", "()V"⟩, prog_1_method_1_code, 2, none, [], "Manypens", [.methodLink "Manypens" 3 ⟨"java/lang/Object", "<init>", "()V"⟩, .instanceMethod ⟨"java/lang/Object", "<init>", "()V"⟩, .code ⟨"java/lang/Object", "<init>", "()V"⟩ object_method_1_code 1 none, .classLink "Manypens" 9 "Manypens$Ints", .instantiable "Manypens$Ints" 2, .initialized "Manypens$Ints", .methodLink "Manypens" 11 ⟨"Manypens$Ints", "<init>", "(I)V"⟩, .instanceMethod ⟨"Manypens$Ints", "<init>", "(I)V"⟩, .fieldLink "Manypens" 14 "Manypens" "typed" "LManypens$Ints;", .classLink "Manypens" 18 "Manypens$Book", .instantiable "Manypens$Book" 8, .initialized "Manypens$Book", .methodLink "Manypens" 20 ⟨"Manypens$Book", "<init>", "()V"⟩, .instanceMethod ⟨"Manypens$Book", "<init>", "()V"⟩, .fieldLink "Manypens" 21 "Manypens" "book" "LManypens$Book;", .classLink "Manypens" 25 "Manypens$Row", .instantiable "Manypens$Row" 7, .initialized "Manypens$Row", .methodLink "Manypens" 27 ⟨"Manypens$Row", "<init>", "(LManypens$Book;)V"⟩, .instanceMethod ⟨"Manypens$Row", "<init>", "(LManypens$Book;)V"⟩, .fieldLink "Manypens" 30 "Manypens" "row" "LManypens$Row;", .classLink "Manypens" 34 "Manypens$Hand", .fieldLink "Manypens" 36 "Manypens" "hands" "[LManypens$Hand;", .instantiable "Manypens$Hand" 13, .initialized "Manypens$Hand", .classLink "Manypens" 40 "Manypens$View", .instantiable "Manypens$View" 14, .initialized "Manypens$View", .methodLink "Manypens" 42 ⟨"Manypens$View", "<init>", "(LManypens$Book;LManypens$Row;)V"⟩, .instanceMethod ⟨"Manypens$View", "<init>", "(LManypens$Book;LManypens$Row;)V"⟩, .methodLink "Manypens" 45 ⟨"Manypens$Hand", "<init>", "(LManypens$View;)V"⟩, .instanceMethod ⟨"Manypens$Hand", "<init>", "(LManypens$View;)V"⟩, .fieldLink "Manypens" 48 "Manypens" "past" "LManypens$View;", .arrayClass .int, .fieldLink "Manypens" 52 "Manypens" "heardThen" "[I", .fieldLink "Manypens" 56 "Manypens" "anew" "LManypens$View;", .classLink "Manypens" 59 "Manypens$InTime", .instantiable "Manypens$InTime" 3, .initialized "Manypens$InTime", .methodLink "Manypens" 61 ⟨"Manypens$InTime", "<init>", "(LManypens$Book;)V"⟩, .instanceMethod ⟨"Manypens$InTime", "<init>", "(LManypens$Book;)V"⟩, .fieldLink "Manypens" 62 "Manypens" "forOne" "LManypens$InTime;", .fieldLink "Manypens" 66 "Manypens" "forOther" "LManypens$InTime;"])
noncomputable def si_2 : sy_Inf := (⟨"Manypens", "birth", "(II)I"⟩, prog_1_method_18_code, 3, (some .int), [], "Manypens", [.methodLink "Manypens" 91 ⟨"Manypens", "needHand", "(I)V"⟩, .instanceMethod ⟨"Manypens", "needHand", "(I)V"⟩, .selects "Manypens" ⟨"Manypens", "needHand", "(I)V"⟩ ⟨"Manypens", "needHand", "(I)V"⟩, .initialized "Manypens", .methodLink "Manypens" 94 ⟨"Manypens", "viewOf", "(I)LManypens$View;"⟩, .instanceMethod ⟨"Manypens", "viewOf", "(I)LManypens$View;"⟩, .selects "Manypens" ⟨"Manypens", "viewOf", "(I)LManypens$View;"⟩ ⟨"Manypens", "viewOf", "(I)LManypens$View;"⟩, .methodLink "Manypens" 238 ⟨"Manypens", "needLetter", "(LManypens$View;I)V"⟩, .instanceMethod ⟨"Manypens", "needLetter", "(LManypens$View;I)V"⟩, .selects "Manypens" ⟨"Manypens", "needLetter", "(LManypens$View;I)V"⟩ ⟨"Manypens", "needLetter", "(LManypens$View;I)V"⟩])
noncomputable def si_3 : sy_Inf := (⟨"Manypens", "checksum", "()J"⟩, prog_1_method_44_code, 6, (some .long), [], "Manypens", [.constantLong "Manypens" 408 7, .methodLink "Manypens" 94 ⟨"Manypens", "viewOf", "(I)LManypens$View;"⟩, .instanceMethod ⟨"Manypens", "viewOf", "(I)LManypens$View;"⟩, .selects "Manypens" ⟨"Manypens", "viewOf", "(I)LManypens$View;"⟩ ⟨"Manypens", "viewOf", "(I)LManypens$View;"⟩, .initialized "Manypens", .constantLong "Manypens" 410 31, .fieldLink "Manypens" 36 "Manypens" "hands" "[LManypens$Hand;", .fieldLinkNest "Manypens" 318 "Manypens$Hand" "heard" "[I" "Manypens", .methodLink "Manypens" 412 ⟨"Manypens", "sumOn", "(JLManypens$View;)J"⟩, .instanceMethod ⟨"Manypens", "sumOn", "(JLManypens$View;)J"⟩, .selects "Manypens" ⟨"Manypens", "sumOn", "(JLManypens$View;)J"⟩ ⟨"Manypens", "sumOn", "(JLManypens$View;)J"⟩, .fieldLinkNest "Manypens" 196 "Manypens$Hand" "cursor" "J" "Manypens", .methodLink "Manypens" 199 ⟨"Manypens$View", "placeBehind", "(J)J"⟩, .instanceMethod ⟨"Manypens$View", "placeBehind", "(J)J"⟩, .selects "Manypens$View" ⟨"Manypens$View", "placeBehind", "(J)J"⟩ ⟨"Manypens$View", "placeBehind", "(J)J"⟩, .initialized "Manypens$View", .fieldLinkNest "Manypens" 287 "Manypens$Hand" "way" "LManypens$Ints;" "Manypens", .methodLink "Manypens" 76 ⟨"Manypens$Ints", "size", "()I"⟩, .instanceMethod ⟨"Manypens$Ints", "size", "()I"⟩, .selects "Manypens$Ints" ⟨"Manypens$Ints", "size", "()I"⟩ ⟨"Manypens$Ints", "size", "()I"⟩, .initialized "Manypens$Ints", .fieldLink "Manypens" 14 "Manypens" "typed" "LManypens$Ints;"])
noncomputable def si_4 : sy_Inf := (⟨"Manypens", "close", "(I)I"⟩, prog_1_method_12_code, 2, (some .int), [], "Manypens", [.methodLink "Manypens" 91 ⟨"Manypens", "needHand", "(I)V"⟩, .instanceMethod ⟨"Manypens", "needHand", "(I)V"⟩, .selects "Manypens" ⟨"Manypens", "needHand", "(I)V"⟩ ⟨"Manypens", "needHand", "(I)V"⟩, .initialized "Manypens", .fieldLink "Manypens" 36 "Manypens" "hands" "[LManypens$Hand;", .fieldLinkNest "Manypens" 208 "Manypens$Hand" "isOpen" "Z" "Manypens", .classLink "Manypens" 80 "java/lang/IllegalStateException", .initialized "java/lang/IllegalStateException"])
noncomputable def si_5 : sy_Inf := (⟨"Manypens", "comment", "(IIII)I"⟩, prog_1_method_9_code, 6, (some .int), [], "Manypens", [.methodLink "Manypens" 91 ⟨"Manypens", "needHand", "(I)V"⟩, .instanceMethod ⟨"Manypens", "needHand", "(I)V"⟩, .selects "Manypens" ⟨"Manypens", "needHand", "(I)V"⟩ ⟨"Manypens", "needHand", "(I)V"⟩, .initialized "Manypens", .methodLink "Manypens" 94 ⟨"Manypens", "viewOf", "(I)LManypens$View;"⟩, .instanceMethod ⟨"Manypens", "viewOf", "(I)LManypens$View;"⟩, .selects "Manypens" ⟨"Manypens", "viewOf", "(I)LManypens$View;"⟩ ⟨"Manypens", "viewOf", "(I)LManypens$View;"⟩, .methodLink "Manypens" 135 ⟨"Manypens", "needLetters", "(LManypens$View;II)V"⟩, .instanceMethod ⟨"Manypens", "needLetters", "(LManypens$View;II)V"⟩, .selects "Manypens" ⟨"Manypens", "needLetters", "(LManypens$View;II)V"⟩ ⟨"Manypens", "needLetters", "(LManypens$View;II)V"⟩])
noncomputable def si_6 : sy_Inf := (⟨"Manypens", "commentAt", "(IIC)I"⟩, prog_1_method_22_code, 6, (some .int), [], "Manypens", [.methodLink "Manypens" 91 ⟨"Manypens", "needHand", "(I)V"⟩, .instanceMethod ⟨"Manypens", "needHand", "(I)V"⟩, .selects "Manypens" ⟨"Manypens", "needHand", "(I)V"⟩ ⟨"Manypens", "needHand", "(I)V"⟩, .initialized "Manypens", .methodLink "Manypens" 94 ⟨"Manypens", "viewOf", "(I)LManypens$View;"⟩, .instanceMethod ⟨"Manypens", "viewOf", "(I)LManypens$View;"⟩, .selects "Manypens" ⟨"Manypens", "viewOf", "(I)LManypens$View;"⟩ ⟨"Manypens", "viewOf", "(I)LManypens$View;"⟩, .fieldLinkNest "Manypens" 264 "Manypens$View" "hung" "LManypens$Ints;" "Manypens", .methodLink "Manypens" 76 ⟨"Manypens$Ints", "size", "()I"⟩, .instanceMethod ⟨"Manypens$Ints", "size", "()I"⟩, .selects "Manypens$Ints" ⟨"Manypens$Ints", "size", "()I"⟩ ⟨"Manypens$Ints", "size", "()I"⟩, .initialized "Manypens$Ints", .classLink "Manypens" 224 "java/util/NoSuchElementException", .initialized "java/util/NoSuchElementException"])
noncomputable def si_7 : sy_Inf := (⟨"Manypens", "comments", "(I)I"⟩, prog_1_method_21_code, 2, (some .int), [], "Manypens", [.methodLink "Manypens" 91 ⟨"Manypens", "needHand", "(I)V"⟩, .instanceMethod ⟨"Manypens", "needHand", "(I)V"⟩, .selects "Manypens" ⟨"Manypens", "needHand", "(I)V"⟩ ⟨"Manypens", "needHand", "(I)V"⟩, .initialized "Manypens", .methodLink "Manypens" 94 ⟨"Manypens", "viewOf", "(I)LManypens$View;"⟩, .instanceMethod ⟨"Manypens", "viewOf", "(I)LManypens$View;"⟩, .selects "Manypens" ⟨"Manypens", "viewOf", "(I)LManypens$View;"⟩ ⟨"Manypens", "viewOf", "(I)LManypens$View;"⟩, .fieldLinkNest "Manypens" 264 "Manypens$View" "hung" "LManypens$Ints;" "Manypens", .methodLink "Manypens" 76 ⟨"Manypens$Ints", "size", "()I"⟩, .instanceMethod ⟨"Manypens$Ints", "size", "()I"⟩, .selects "Manypens$Ints" ⟨"Manypens$Ints", "size", "()I"⟩ ⟨"Manypens$Ints", "size", "()I"⟩, .initialized "Manypens$Ints"])
noncomputable def si_8 : sy_Inf := (⟨"Manypens", "cursor", "(I)I"⟩, prog_1_method_24_code, 2, (some .int), [], "Manypens", [.methodLink "Manypens" 91 ⟨"Manypens", "needHand", "(I)V"⟩, .instanceMethod ⟨"Manypens", "needHand", "(I)V"⟩, .selects "Manypens" ⟨"Manypens", "needHand", "(I)V"⟩ ⟨"Manypens", "needHand", "(I)V"⟩, .initialized "Manypens", .methodLink "Manypens" 94 ⟨"Manypens", "viewOf", "(I)LManypens$View;"⟩, .instanceMethod ⟨"Manypens", "viewOf", "(I)LManypens$View;"⟩, .selects "Manypens" ⟨"Manypens", "viewOf", "(I)LManypens$View;"⟩ ⟨"Manypens", "viewOf", "(I)LManypens$View;"⟩, .fieldLink "Manypens" 36 "Manypens" "hands" "[LManypens$Hand;", .fieldLinkNest "Manypens" 196 "Manypens$Hand" "cursor" "J" "Manypens", .methodLink "Manypens" 199 ⟨"Manypens$View", "placeBehind", "(J)J"⟩, .instanceMethod ⟨"Manypens$View", "placeBehind", "(J)J"⟩, .selects "Manypens$View" ⟨"Manypens$View", "placeBehind", "(J)J"⟩ ⟨"Manypens$View", "placeBehind", "(J)J"⟩, .initialized "Manypens$View", .methodLink "Manypens" 131 ⟨"Manypens", "told", "(J)I"⟩, .static ⟨"Manypens", "told", "(J)I"⟩])
noncomputable def si_9 : sy_Inf := (⟨"Manypens", "deliver", "(II)C"⟩, prog_1_method_27_code, 5, (some .char), [], "Manypens", [.methodLink "Manypens" 91 ⟨"Manypens", "needHand", "(I)V"⟩, .instanceMethod ⟨"Manypens", "needHand", "(I)V"⟩, .selects "Manypens" ⟨"Manypens", "needHand", "(I)V"⟩ ⟨"Manypens", "needHand", "(I)V"⟩, .initialized "Manypens", .methodLink "Manypens" 290 ⟨"Manypens", "needOnWay", "(II)V"⟩, .instanceMethod ⟨"Manypens", "needOnWay", "(II)V"⟩, .selects "Manypens" ⟨"Manypens", "needOnWay", "(II)V"⟩ ⟨"Manypens", "needOnWay", "(II)V"⟩])
noncomputable def si_10 : sy_Inf := (⟨"Manypens", "differ", "(II)I"⟩, prog_1_method_38_code, 5, (some .int), [], "Manypens", [.methodLink "Manypens" 91 ⟨"Manypens", "needHand", "(I)V"⟩, .instanceMethod ⟨"Manypens", "needHand", "(I)V"⟩, .selects "Manypens" ⟨"Manypens", "needHand", "(I)V"⟩ ⟨"Manypens", "needHand", "(I)V"⟩, .initialized "Manypens", .methodLink "Manypens" 94 ⟨"Manypens", "viewOf", "(I)LManypens$View;"⟩, .instanceMethod ⟨"Manypens", "viewOf", "(I)LManypens$View;"⟩, .selects "Manypens" ⟨"Manypens", "viewOf", "(I)LManypens$View;"⟩ ⟨"Manypens", "viewOf", "(I)LManypens$View;"⟩, .methodLink "Manypens" 98 ⟨"Manypens$View", "size", "()J"⟩, .instanceMethod ⟨"Manypens$View", "size", "()J"⟩, .selects "Manypens$View" ⟨"Manypens$View", "size", "()J"⟩ ⟨"Manypens$View", "size", "()J"⟩, .initialized "Manypens$View", .constantLong "Manypens" 358 2, .methodLink "Manypens" 360 ⟨"Manypens$View", "manyInCommon", "(LManypens$View;)J"⟩, .instanceMethod ⟨"Manypens$View", "manyInCommon", "(LManypens$View;)J"⟩, .selects "Manypens$View" ⟨"Manypens$View", "manyInCommon", "(LManypens$View;)J"⟩ ⟨"Manypens$View", "manyInCommon", "(LManypens$View;)J"⟩, .methodLink "Manypens" 131 ⟨"Manypens", "told", "(J)I"⟩, .static ⟨"Manypens", "told", "(J)I"⟩])
noncomputable def si_11 : sy_Inf := (⟨"Manypens", "erase", "()I"⟩, prog_1_method_3_code, 2, (some .int), [], "Manypens", [.fieldLink "Manypens" 14 "Manypens" "typed" "LManypens$Ints;", .methodLink "Manypens" 76 ⟨"Manypens$Ints", "size", "()I"⟩, .instanceMethod ⟨"Manypens$Ints", "size", "()I"⟩, .selects "Manypens$Ints" ⟨"Manypens$Ints", "size", "()I"⟩ ⟨"Manypens$Ints", "size", "()I"⟩, .initialized "Manypens$Ints", .methodLink "Manypens" 88 ⟨"Manypens$Ints", "clear", "()V"⟩, .instanceMethod ⟨"Manypens$Ints", "clear", "()V"⟩, .selects "Manypens$Ints" ⟨"Manypens$Ints", "clear", "()V"⟩ ⟨"Manypens$Ints", "clear", "()V"⟩])
noncomputable def si_12 : sy_Inf := (⟨"Manypens", "forget", "()I"⟩, prog_1_method_40_code, 5, (some .int), [], "Manypens", [.methodLink "Manypens" 368 ⟨"Manypens", "haveAllHeardAll", "()Z"⟩, .instanceMethod ⟨"Manypens", "haveAllHeardAll", "()Z"⟩, .selects "Manypens" ⟨"Manypens", "haveAllHeardAll", "()Z"⟩ ⟨"Manypens", "haveAllHeardAll", "()Z"⟩, .initialized "Manypens", .methodLink "Manypens" 94 ⟨"Manypens", "viewOf", "(I)LManypens$View;"⟩, .instanceMethod ⟨"Manypens", "viewOf", "(I)LManypens$View;"⟩, .selects "Manypens" ⟨"Manypens", "viewOf", "(I)LManypens$View;"⟩ ⟨"Manypens", "viewOf", "(I)LManypens$View;"⟩, .fieldLink "Manypens" 30 "Manypens" "row" "LManypens$Row;", .methodLink "Manypens" 374 ⟨"Manypens$Row", "size", "()J"⟩, .instanceMethod ⟨"Manypens$Row", "size", "()J"⟩, .selects "Manypens$Row" ⟨"Manypens$Row", "size", "()J"⟩ ⟨"Manypens$Row", "size", "()J"⟩, .initialized "Manypens$Row", .methodLink "Manypens" 98 ⟨"Manypens$View", "size", "()J"⟩, .instanceMethod ⟨"Manypens$View", "size", "()J"⟩, .selects "Manypens$View" ⟨"Manypens$View", "size", "()J"⟩ ⟨"Manypens$View", "size", "()J"⟩, .initialized "Manypens$View", .fieldLink "Manypens" 21 "Manypens" "book" "LManypens$Book;", .methodLink "Manypens" 272 ⟨"Manypens$Book", "editAt", "(I)LManypens$Edit;"⟩, .instanceMethod ⟨"Manypens$Book", "editAt", "(I)LManypens$Edit;"⟩, .selects "Manypens$Book" ⟨"Manypens$Book", "editAt", "(I)LManypens$Edit;"⟩ ⟨"Manypens$Book", "editAt", "(I)LManypens$Edit;"⟩, .initialized "Manypens$Book", .methodLink "Manypens" 375 ⟨"Manypens$View", "settle", "(LManypens$Edit;)V"⟩, .instanceMethod ⟨"Manypens$View", "settle", "(LManypens$Edit;)V"⟩, .selects "Manypens$View" ⟨"Manypens$View", "settle", "(LManypens$Edit;)V"⟩ ⟨"Manypens$View", "settle", "(LManypens$Edit;)V"⟩, .fieldLink "Manypens" 36 "Manypens" "hands" "[LManypens$Hand;", .fieldLinkNest "Manypens" 196 "Manypens$Hand" "cursor" "J" "Manypens", .methodLink "Manypens" 199 ⟨"Manypens$View", "placeBehind", "(J)J"⟩, .instanceMethod ⟨"Manypens$View", "placeBehind", "(J)J"⟩, .selects "Manypens$View" ⟨"Manypens$View", "placeBehind", "(J)J"⟩ ⟨"Manypens$View", "placeBehind", "(J)J"⟩, .methodLink "Manypens" 119 ⟨"Manypens$View", "letterAhead", "(J)J"⟩, .instanceMethod ⟨"Manypens$View", "letterAhead", "(J)J"⟩, .selects "Manypens$View" ⟨"Manypens$View", "letterAhead", "(J)J"⟩ ⟨"Manypens$View", "letterAhead", "(J)J"⟩, .fieldLinkNest "Manypens" 378 "Manypens$View" "text" "LManypens$Ints;" "Manypens", .methodLink "Manypens" 381 ⟨"Manypens$Row", "lay", "(LManypens$Ints;)V"⟩, .instanceMethod ⟨"Manypens$Row", "lay", "(LManypens$Ints;)V"⟩, .selects "Manypens$Row" ⟨"Manypens$Row", "lay", "(LManypens$Ints;)V"⟩ ⟨"Manypens$Row", "lay", "(LManypens$Ints;)V"⟩, .methodLink "Manypens" 385 ⟨"Manypens$Book", "setBase", "()V"⟩, .instanceMethod ⟨"Manypens$Book", "setBase", "()V"⟩, .selects "Manypens$Book" ⟨"Manypens$Book", "setBase", "()V"⟩ ⟨"Manypens$Book", "setBase", "()V"⟩, .methodLink "Manypens" 388 ⟨"Manypens$Hand", "startAnew", "()V"⟩, .instanceMethod ⟨"Manypens$Hand", "startAnew", "()V"⟩, .selects "Manypens$Hand" ⟨"Manypens$Hand", "startAnew", "()V"⟩ ⟨"Manypens$Hand", "startAnew", "()V"⟩, .initialized "Manypens$Hand", .methodLink "Manypens" 131 ⟨"Manypens", "told", "(J)I"⟩, .static ⟨"Manypens", "told", "(J)I"⟩])
noncomputable def si_13 : sy_Inf := (⟨"Manypens", "goBack", "(II)V"⟩, prog_1_method_74_code, 5, none, [], "Manypens", [.fieldLink "Manypens" 21 "Manypens" "book" "LManypens$Book;", .fieldLinkNest "Manypens" 552 "Manypens$Book" "base" "[I" "Manypens", .fieldLink "Manypens" 52 "Manypens" "heardThen" "[I", .methodLink "Manypens" 555 ⟨"java/lang/System", "arraycopy", "(Ljava/lang/Object;ILjava/lang/Object;II)V"⟩, .native ⟨"java/lang/System", "arraycopy", "(Ljava/lang/Object;ILjava/lang/Object;II)V"⟩, .static ⟨"java/lang/System", "arraycopy", "(Ljava/lang/Object;ILjava/lang/Object;II)V"⟩, .initialized "java/lang/System", .fieldLink "Manypens" 48 "Manypens" "past" "LManypens$View;", .methodLink "Manypens" 545 ⟨"Manypens$View", "see", "([I)V"⟩, .instanceMethod ⟨"Manypens$View", "see", "([I)V"⟩, .selects "Manypens$View" ⟨"Manypens$View", "see", "([I)V"⟩ ⟨"Manypens$View", "see", "([I)V"⟩, .initialized "Manypens$View"])
noncomputable def si_14 : sy_Inf := (⟨"Manypens", "groups", "(IZ)I"⟩, prog_1_method_15_code, 3, (some .int), [], "Manypens", [.methodLink "Manypens" 91 ⟨"Manypens", "needHand", "(I)V"⟩, .instanceMethod ⟨"Manypens", "needHand", "(I)V"⟩, .selects "Manypens" ⟨"Manypens", "needHand", "(I)V"⟩ ⟨"Manypens", "needHand", "(I)V"⟩, .initialized "Manypens", .fieldLink "Manypens" 36 "Manypens" "hands" "[LManypens$Hand;", .fieldLinkNest "Manypens" 229 "Manypens$Hand" "redoable" "LManypens$Ints;" "Manypens", .methodLink "Manypens" 76 ⟨"Manypens$Ints", "size", "()I"⟩, .instanceMethod ⟨"Manypens$Ints", "size", "()I"⟩, .selects "Manypens$Ints" ⟨"Manypens$Ints", "size", "()I"⟩ ⟨"Manypens$Ints", "size", "()I"⟩, .initialized "Manypens$Ints", .fieldLinkNest "Manypens" 216 "Manypens$Hand" "undoable" "LManypens$Ints;" "Manypens"])
noncomputable def si_15 : sy_Inf := (⟨"Manypens", "haveAllHeardAll", "()Z"⟩, prog_1_method_71_code, 3, (some .boolean), [], "Manypens", [.fieldLink "Manypens" 36 "Manypens" "hands" "[LManypens$Hand;", .fieldLinkNest "Manypens" 318 "Manypens$Hand" "heard" "[I" "Manypens", .fieldLink "Manypens" 21 "Manypens" "book" "LManypens$Book;", .fieldLinkNest "Manypens" 338 "Manypens$Book" "made" "[I" "Manypens"])
noncomputable def si_16 : sy_Inf := (⟨"Manypens", "haveHeardSame", "(II)Z"⟩, prog_1_method_72_code, 4, (some .boolean), [], "Manypens", [.fieldLink "Manypens" 36 "Manypens" "hands" "[LManypens$Hand;", .fieldLinkNest "Manypens" 318 "Manypens$Hand" "heard" "[I" "Manypens"])
noncomputable def si_17 : sy_Inf := (⟨"Manypens", "hearAll", "(LManypens$Hand;LManypens$InTime;)I"⟩, prog_1_method_70_code, 6, (some .int), [], "Manypens", [.methodLink "Manypens" 533 ⟨"Manypens$InTime", "next", "()I"⟩, .instanceMethod ⟨"Manypens$InTime", "next", "()I"⟩, .selects "Manypens$InTime" ⟨"Manypens$InTime", "next", "()I"⟩ ⟨"Manypens$InTime", "next", "()I"⟩, .initialized "Manypens$InTime"])
noncomputable def si_18 : sy_Inf := (⟨"Manypens", "hearAnew", "(I)V"⟩, prog_1_method_75_code, 4, none, [], "Manypens", [.fieldLink "Manypens" 30 "Manypens" "row" "LManypens$Row;", .fieldLink "Manypens" 56 "Manypens" "anew" "LManypens$View;", .fieldLinkNest "Manypens" 378 "Manypens$View" "text" "LManypens$Ints;" "Manypens", .methodLink "Manypens" 561 ⟨"Manypens$Row", "gatherBase", "(LManypens$Ints;)V"⟩, .instanceMethod ⟨"Manypens$Row", "gatherBase", "(LManypens$Ints;)V"⟩, .selects "Manypens$Row" ⟨"Manypens$Row", "gatherBase", "(LManypens$Ints;)V"⟩ ⟨"Manypens$Row", "gatherBase", "(LManypens$Ints;)V"⟩, .initialized "Manypens$Row", .fieldLinkNest "Manypens" 564 "Manypens$View" "row" "LManypens$Row;" "Manypens", .methodLink "Manypens" 381 ⟨"Manypens$Row", "lay", "(LManypens$Ints;)V"⟩, .instanceMethod ⟨"Manypens$Row", "lay", "(LManypens$Ints;)V"⟩, .selects "Manypens$Row" ⟨"Manypens$Row", "lay", "(LManypens$Ints;)V"⟩ ⟨"Manypens$Row", "lay", "(LManypens$Ints;)V"⟩, .fieldLink "Manypens" 62 "Manypens" "forOne" "LManypens$InTime;", .fieldLink "Manypens" 21 "Manypens" "book" "LManypens$Book;", .fieldLinkNest "Manypens" 552 "Manypens$Book" "base" "[I" "Manypens", .fieldLink "Manypens" 36 "Manypens" "hands" "[LManypens$Hand;", .fieldLinkNest "Manypens" 318 "Manypens$Hand" "heard" "[I" "Manypens", .methodLink "Manypens" 321 ⟨"Manypens$InTime", "start", "([I[I)V"⟩, .instanceMethod ⟨"Manypens$InTime", "start", "([I[I)V"⟩, .selects "Manypens$InTime" ⟨"Manypens$InTime", "start", "([I[I)V"⟩ ⟨"Manypens$InTime", "start", "([I[I)V"⟩, .initialized "Manypens$InTime", .methodLink "Manypens" 533 ⟨"Manypens$InTime", "next", "()I"⟩, .instanceMethod ⟨"Manypens$InTime", "next", "()I"⟩, .selects "Manypens$InTime" ⟨"Manypens$InTime", "next", "()I"⟩ ⟨"Manypens$InTime", "next", "()I"⟩, .methodLink "Manypens" 524 ⟨"Manypens$Row", "number", "()V"⟩, .instanceMethod ⟨"Manypens$Row", "number", "()V"⟩, .selects "Manypens$Row" ⟨"Manypens$Row", "number", "()V"⟩ ⟨"Manypens$Row", "number", "()V"⟩, .methodLink "Manypens" 545 ⟨"Manypens$View", "see", "([I)V"⟩, .instanceMethod ⟨"Manypens$View", "see", "([I)V"⟩, .selects "Manypens$View" ⟨"Manypens$View", "see", "([I)V"⟩ ⟨"Manypens$View", "see", "([I)V"⟩, .initialized "Manypens$View", .methodLink "Manypens" 549 ⟨"Manypens$View", "dress", "()V"⟩, .instanceMethod ⟨"Manypens$View", "dress", "()V"⟩, .selects "Manypens$View" ⟨"Manypens$View", "dress", "()V"⟩ ⟨"Manypens$View", "dress", "()V"⟩])
noncomputable def si_19 : sy_Inf := (⟨"Manypens", "heard", "(II)I"⟩, prog_1_method_33_code, 3, (some .int), [], "Manypens", [.methodLink "Manypens" 91 ⟨"Manypens", "needHand", "(I)V"⟩, .instanceMethod ⟨"Manypens", "needHand", "(I)V"⟩, .selects "Manypens" ⟨"Manypens", "needHand", "(I)V"⟩ ⟨"Manypens", "needHand", "(I)V"⟩, .initialized "Manypens", .fieldLink "Manypens" 36 "Manypens" "hands" "[LManypens$Hand;", .fieldLinkNest "Manypens" 318 "Manypens$Hand" "heard" "[I" "Manypens"])
noncomputable def si_20 : sy_Inf := (⟨"Manypens", "isAlike", "(II)Z"⟩, prog_1_method_39_code, 3, (some .boolean), [], "Manypens", [.methodLink "Manypens" 91 ⟨"Manypens", "needHand", "(I)V"⟩, .instanceMethod ⟨"Manypens", "needHand", "(I)V"⟩, .selects "Manypens" ⟨"Manypens", "needHand", "(I)V"⟩ ⟨"Manypens", "needHand", "(I)V"⟩, .initialized "Manypens", .methodLink "Manypens" 94 ⟨"Manypens", "viewOf", "(I)LManypens$View;"⟩, .instanceMethod ⟨"Manypens", "viewOf", "(I)LManypens$View;"⟩, .selects "Manypens" ⟨"Manypens", "viewOf", "(I)LManypens$View;"⟩ ⟨"Manypens", "viewOf", "(I)LManypens$View;"⟩, .methodLink "Manypens" 364 ⟨"Manypens$View", "isSame", "(LManypens$View;)Z"⟩, .instanceMethod ⟨"Manypens$View", "isSame", "(LManypens$View;)Z"⟩, .selects "Manypens$View" ⟨"Manypens$View", "isSame", "(LManypens$View;)Z"⟩ ⟨"Manypens$View", "isSame", "(LManypens$View;)Z"⟩, .initialized "Manypens$View"])
noncomputable def si_21 : sy_Inf := (⟨"Manypens", "isHand", "(I)Z"⟩, prog_1_method_47_code, 1, (some .boolean), [], "Manypens", [])
noncomputable def si_22 : sy_Inf := (⟨"Manypens", "isMarked", "(IIC)Z"⟩, prog_1_method_19_code, 4, (some .boolean), [], "Manypens", [.methodLink "Manypens" 91 ⟨"Manypens", "needHand", "(I)V"⟩, .instanceMethod ⟨"Manypens", "needHand", "(I)V"⟩, .selects "Manypens" ⟨"Manypens", "needHand", "(I)V"⟩ ⟨"Manypens", "needHand", "(I)V"⟩, .initialized "Manypens", .methodLink "Manypens" 156 ⟨"Manypens", "needKind", "(C)V"⟩, .instanceMethod ⟨"Manypens", "needKind", "(C)V"⟩, .selects "Manypens" ⟨"Manypens", "needKind", "(C)V"⟩ ⟨"Manypens", "needKind", "(C)V"⟩, .methodLink "Manypens" 94 ⟨"Manypens", "viewOf", "(I)LManypens$View;"⟩, .instanceMethod ⟨"Manypens", "viewOf", "(I)LManypens$View;"⟩, .selects "Manypens" ⟨"Manypens", "viewOf", "(I)LManypens$View;"⟩ ⟨"Manypens", "viewOf", "(I)LManypens$View;"⟩, .methodLink "Manypens" 238 ⟨"Manypens", "needLetter", "(LManypens$View;I)V"⟩, .instanceMethod ⟨"Manypens", "needLetter", "(LManypens$View;I)V"⟩, .selects "Manypens" ⟨"Manypens", "needLetter", "(LManypens$View;I)V"⟩ ⟨"Manypens", "needLetter", "(LManypens$View;I)V"⟩])
noncomputable def si_23 : sy_Inf := (⟨"Manypens", "isTrue", "()Z"⟩, prog_1_method_45_code, 3, (some .boolean), [], "Manypens", [.methodLink "Manypens" 416 ⟨"Manypens", "hearAnew", "(I)V"⟩, .instanceMethod ⟨"Manypens", "hearAnew", "(I)V"⟩, .selects "Manypens" ⟨"Manypens", "hearAnew", "(I)V"⟩ ⟨"Manypens", "hearAnew", "(I)V"⟩, .initialized "Manypens", .methodLink "Manypens" 94 ⟨"Manypens", "viewOf", "(I)LManypens$View;"⟩, .instanceMethod ⟨"Manypens", "viewOf", "(I)LManypens$View;"⟩, .selects "Manypens" ⟨"Manypens", "viewOf", "(I)LManypens$View;"⟩ ⟨"Manypens", "viewOf", "(I)LManypens$View;"⟩, .fieldLink "Manypens" 56 "Manypens" "anew" "LManypens$View;", .methodLink "Manypens" 364 ⟨"Manypens$View", "isSame", "(LManypens$View;)Z"⟩, .instanceMethod ⟨"Manypens$View", "isSame", "(LManypens$View;)Z"⟩, .selects "Manypens$View" ⟨"Manypens$View", "isSame", "(LManypens$View;)Z"⟩ ⟨"Manypens$View", "isSame", "(LManypens$View;)Z"⟩, .initialized "Manypens$View", .methodLink "Manypens" 419 ⟨"Manypens", "haveHeardSame", "(II)Z"⟩, .instanceMethod ⟨"Manypens", "haveHeardSame", "(II)Z"⟩, .selects "Manypens" ⟨"Manypens", "haveHeardSame", "(II)Z"⟩ ⟨"Manypens", "haveHeardSame", "(II)Z"⟩])
noncomputable def si_24 : sy_Inf := (⟨"Manypens", "kept", "(I)I"⟩, prog_1_method_41_code, 2, (some .int), [], "Manypens", [.methodLink "Manypens" 91 ⟨"Manypens", "needHand", "(I)V"⟩, .instanceMethod ⟨"Manypens", "needHand", "(I)V"⟩, .selects "Manypens" ⟨"Manypens", "needHand", "(I)V"⟩ ⟨"Manypens", "needHand", "(I)V"⟩, .initialized "Manypens", .methodLink "Manypens" 94 ⟨"Manypens", "viewOf", "(I)LManypens$View;"⟩, .instanceMethod ⟨"Manypens", "viewOf", "(I)LManypens$View;"⟩, .selects "Manypens" ⟨"Manypens", "viewOf", "(I)LManypens$View;"⟩ ⟨"Manypens", "viewOf", "(I)LManypens$View;"⟩, .fieldLinkNest "Manypens" 391 "Manypens$View" "kept" "J" "Manypens", .methodLink "Manypens" 131 ⟨"Manypens", "told", "(J)I"⟩, .static ⟨"Manypens", "told", "(J)I"⟩])
noncomputable def si_25 : sy_Inf := (⟨"Manypens", "lacks", "(II)I"⟩, prog_1_method_32_code, 5, (some .int), [], "Manypens", [.methodLink "Manypens" 91 ⟨"Manypens", "needHand", "(I)V"⟩, .instanceMethod ⟨"Manypens", "needHand", "(I)V"⟩, .selects "Manypens" ⟨"Manypens", "needHand", "(I)V"⟩ ⟨"Manypens", "needHand", "(I)V"⟩, .initialized "Manypens", .fieldLink "Manypens" 36 "Manypens" "hands" "[LManypens$Hand;", .fieldLinkNest "Manypens" 318 "Manypens$Hand" "heard" "[I" "Manypens", .methodLink "Manypens" 332 ⟨"java/lang/Math", "max", "(II)I"⟩, .static ⟨"java/lang/Math", "max", "(II)I"⟩, .initialized "java/lang/Math"])
noncomputable def si_26 : sy_Inf := (⟨"Manypens", "leans", "(III)I"⟩, prog_1_method_34_code, 4, (some .int), [], "Manypens", [.methodLink "Manypens" 91 ⟨"Manypens", "needHand", "(I)V"⟩, .instanceMethod ⟨"Manypens", "needHand", "(I)V"⟩, .selects "Manypens" ⟨"Manypens", "needHand", "(I)V"⟩ ⟨"Manypens", "needHand", "(I)V"⟩, .initialized "Manypens", .fieldLink "Manypens" 21 "Manypens" "book" "LManypens$Book;", .fieldLinkNest "Manypens" 338 "Manypens$Book" "made" "[I" "Manypens", .classLink "Manypens" 224 "java/util/NoSuchElementException", .initialized "java/util/NoSuchElementException"])
noncomputable def si_27 : sy_Inf := (⟨"Manypens", "length", "(I)I"⟩, prog_1_method_16_code, 2, (some .int), [], "Manypens", [.methodLink "Manypens" 91 ⟨"Manypens", "needHand", "(I)V"⟩, .instanceMethod ⟨"Manypens", "needHand", "(I)V"⟩, .selects "Manypens" ⟨"Manypens", "needHand", "(I)V"⟩ ⟨"Manypens", "needHand", "(I)V"⟩, .initialized "Manypens", .methodLink "Manypens" 94 ⟨"Manypens", "viewOf", "(I)LManypens$View;"⟩, .instanceMethod ⟨"Manypens", "viewOf", "(I)LManypens$View;"⟩, .selects "Manypens" ⟨"Manypens", "viewOf", "(I)LManypens$View;"⟩ ⟨"Manypens", "viewOf", "(I)LManypens$View;"⟩, .methodLink "Manypens" 98 ⟨"Manypens$View", "size", "()J"⟩, .instanceMethod ⟨"Manypens$View", "size", "()J"⟩, .selects "Manypens$View" ⟨"Manypens$View", "size", "()J"⟩ ⟨"Manypens$View", "size", "()J"⟩, .initialized "Manypens$View", .methodLink "Manypens" 131 ⟨"Manypens", "told", "(J)I"⟩, .static ⟨"Manypens", "told", "(J)I"⟩])
noncomputable def si_28 : sy_Inf := (⟨"Manypens", "lengthThen", "(II)I"⟩, prog_1_method_36_code, 3, (some .int), [], "Manypens", [.methodLink "Manypens" 91 ⟨"Manypens", "needHand", "(I)V"⟩, .instanceMethod ⟨"Manypens", "needHand", "(I)V"⟩, .selects "Manypens" ⟨"Manypens", "needHand", "(I)V"⟩ ⟨"Manypens", "needHand", "(I)V"⟩, .initialized "Manypens", .methodLink "Manypens" 352 ⟨"Manypens", "needStep", "(II)V"⟩, .instanceMethod ⟨"Manypens", "needStep", "(II)V"⟩, .selects "Manypens" ⟨"Manypens", "needStep", "(II)V"⟩ ⟨"Manypens", "needStep", "(II)V"⟩, .methodLink "Manypens" 355 ⟨"Manypens", "goBack", "(II)V"⟩, .instanceMethod ⟨"Manypens", "goBack", "(II)V"⟩, .selects "Manypens" ⟨"Manypens", "goBack", "(II)V"⟩ ⟨"Manypens", "goBack", "(II)V"⟩, .fieldLink "Manypens" 48 "Manypens" "past" "LManypens$View;", .methodLink "Manypens" 98 ⟨"Manypens$View", "size", "()J"⟩, .instanceMethod ⟨"Manypens$View", "size", "()J"⟩, .selects "Manypens$View" ⟨"Manypens$View", "size", "()J"⟩ ⟨"Manypens$View", "size", "()J"⟩, .initialized "Manypens$View", .methodLink "Manypens" 131 ⟨"Manypens", "told", "(J)I"⟩, .static ⟨"Manypens", "told", "(J)I"⟩])
noncomputable def si_29 : sy_Inf := (⟨"Manypens", "lose", "(II)I"⟩, prog_1_method_29_code, 3, (some .int), [], "Manypens", [.methodLink "Manypens" 91 ⟨"Manypens", "needHand", "(I)V"⟩, .instanceMethod ⟨"Manypens", "needHand", "(I)V"⟩, .selects "Manypens" ⟨"Manypens", "needHand", "(I)V"⟩ ⟨"Manypens", "needHand", "(I)V"⟩, .initialized "Manypens", .methodLink "Manypens" 290 ⟨"Manypens", "needOnWay", "(II)V"⟩, .instanceMethod ⟨"Manypens", "needOnWay", "(II)V"⟩, .selects "Manypens" ⟨"Manypens", "needOnWay", "(II)V"⟩ ⟨"Manypens", "needOnWay", "(II)V"⟩])
noncomputable def si_30 : sy_Inf := (⟨"Manypens", "mark", "(IIICZZ)I"⟩, prog_1_method_8_code, 8, (some .int), [], "Manypens", [.methodLink "Manypens" 91 ⟨"Manypens", "needHand", "(I)V"⟩, .instanceMethod ⟨"Manypens", "needHand", "(I)V"⟩, .selects "Manypens" ⟨"Manypens", "needHand", "(I)V"⟩ ⟨"Manypens", "needHand", "(I)V"⟩, .initialized "Manypens", .methodLink "Manypens" 156 ⟨"Manypens", "needKind", "(C)V"⟩, .instanceMethod ⟨"Manypens", "needKind", "(C)V"⟩, .selects "Manypens" ⟨"Manypens", "needKind", "(C)V"⟩ ⟨"Manypens", "needKind", "(C)V"⟩, .methodLink "Manypens" 94 ⟨"Manypens", "viewOf", "(I)LManypens$View;"⟩, .instanceMethod ⟨"Manypens", "viewOf", "(I)LManypens$View;"⟩, .selects "Manypens" ⟨"Manypens", "viewOf", "(I)LManypens$View;"⟩ ⟨"Manypens", "viewOf", "(I)LManypens$View;"⟩, .methodLink "Manypens" 135 ⟨"Manypens", "needLetters", "(LManypens$View;II)V"⟩, .instanceMethod ⟨"Manypens", "needLetters", "(LManypens$View;II)V"⟩, .selects "Manypens" ⟨"Manypens", "needLetters", "(LManypens$View;II)V"⟩ ⟨"Manypens", "needLetters", "(LManypens$View;II)V"⟩])
noncomputable def si_31 : sy_Inf := (⟨"Manypens", "meanTime", "(I)D"⟩, prog_1_method_43_code, 6, (some .double), [], "Manypens", [.methodLink "Manypens" 91 ⟨"Manypens", "needHand", "(I)V"⟩, .instanceMethod ⟨"Manypens", "needHand", "(I)V"⟩, .selects "Manypens" ⟨"Manypens", "needHand", "(I)V"⟩ ⟨"Manypens", "needHand", "(I)V"⟩, .initialized "Manypens", .methodLink "Manypens" 94 ⟨"Manypens", "viewOf", "(I)LManypens$View;"⟩, .instanceMethod ⟨"Manypens", "viewOf", "(I)LManypens$View;"⟩, .selects "Manypens" ⟨"Manypens", "viewOf", "(I)LManypens$View;"⟩ ⟨"Manypens", "viewOf", "(I)LManypens$View;"⟩, .methodLink "Manypens" 98 ⟨"Manypens$View", "size", "()J"⟩, .instanceMethod ⟨"Manypens$View", "size", "()J"⟩, .selects "Manypens$View" ⟨"Manypens$View", "size", "()J"⟩ ⟨"Manypens$View", "size", "()J"⟩, .initialized "Manypens$View", .classLink "Manypens" 394 "java/lang/ArithmeticException", .initialized "java/lang/ArithmeticException"])
noncomputable def si_32 : sy_Inf := (⟨"Manypens", "meet", "(II)I"⟩, prog_1_method_30_code, 3, (some .int), [], "Manypens", [.methodLink "Manypens" 91 ⟨"Manypens", "needHand", "(I)V"⟩, .instanceMethod ⟨"Manypens", "needHand", "(I)V"⟩, .selects "Manypens" ⟨"Manypens", "needHand", "(I)V"⟩ ⟨"Manypens", "needHand", "(I)V"⟩, .initialized "Manypens", .classLink "Manypens" 69 "java/lang/IllegalArgumentException", .initialized "java/lang/IllegalArgumentException", .fieldLink "Manypens" 62 "Manypens" "forOne" "LManypens$InTime;", .fieldLink "Manypens" 36 "Manypens" "hands" "[LManypens$Hand;", .fieldLinkNest "Manypens" 318 "Manypens$Hand" "heard" "[I" "Manypens", .methodLink "Manypens" 321 ⟨"Manypens$InTime", "start", "([I[I)V"⟩, .instanceMethod ⟨"Manypens$InTime", "start", "([I[I)V"⟩, .selects "Manypens$InTime" ⟨"Manypens$InTime", "start", "([I[I)V"⟩ ⟨"Manypens$InTime", "start", "([I[I)V"⟩, .initialized "Manypens$InTime", .fieldLink "Manypens" 66 "Manypens" "forOther" "LManypens$InTime;", .methodLink "Manypens" 325 ⟨"Manypens", "hearAll", "(LManypens$Hand;LManypens$InTime;)I"⟩, .instanceMethod ⟨"Manypens", "hearAll", "(LManypens$Hand;LManypens$InTime;)I"⟩, .selects "Manypens" ⟨"Manypens", "hearAll", "(LManypens$Hand;LManypens$InTime;)I"⟩ ⟨"Manypens", "hearAll", "(LManypens$Hand;LManypens$InTime;)I"⟩])
noncomputable def si_33 : sy_Inf := (⟨"Manypens", "move", "(IIII)I"⟩, prog_1_method_7_code, 7, (some .int), [], "Manypens", [.methodLink "Manypens" 91 ⟨"Manypens", "needHand", "(I)V"⟩, .instanceMethod ⟨"Manypens", "needHand", "(I)V"⟩, .selects "Manypens" ⟨"Manypens", "needHand", "(I)V"⟩ ⟨"Manypens", "needHand", "(I)V"⟩, .initialized "Manypens", .methodLink "Manypens" 94 ⟨"Manypens", "viewOf", "(I)LManypens$View;"⟩, .instanceMethod ⟨"Manypens", "viewOf", "(I)LManypens$View;"⟩, .selects "Manypens" ⟨"Manypens", "viewOf", "(I)LManypens$View;"⟩ ⟨"Manypens", "viewOf", "(I)LManypens$View;"⟩, .methodLink "Manypens" 135 ⟨"Manypens", "needLetters", "(LManypens$View;II)V"⟩, .instanceMethod ⟨"Manypens", "needLetters", "(LManypens$View;II)V"⟩, .selects "Manypens" ⟨"Manypens", "needLetters", "(LManypens$View;II)V"⟩ ⟨"Manypens", "needLetters", "(LManypens$View;II)V"⟩])
noncomputable def si_34 : sy_Inf := (⟨"Manypens", "needHand", "(I)V"⟩, prog_1_method_48_code, 2, none, [], "Manypens", [.methodLink "Manypens" 433 ⟨"Manypens", "isHand", "(I)Z"⟩, .static ⟨"Manypens", "isHand", "(I)Z"⟩, .initialized "Manypens", .classLink "Manypens" 437 "java/lang/IndexOutOfBoundsException", .initialized "java/lang/IndexOutOfBoundsException"])
noncomputable def si_35 : sy_Inf := (⟨"Manypens", "needKind", "(C)V"⟩, prog_1_method_52_code, 2, none, [], "Manypens", [.classLink "Manypens" 69 "java/lang/IllegalArgumentException", .initialized "java/lang/IllegalArgumentException"])
noncomputable def si_36 : sy_Inf := (⟨"Manypens", "needLetter", "(LManypens$View;I)V"⟩, prog_1_method_50_code, 3, none, [], "Manypens", [.methodLink "Manypens" 98 ⟨"Manypens$View", "size", "()J"⟩, .instanceMethod ⟨"Manypens$View", "size", "()J"⟩, .selects "Manypens$View" ⟨"Manypens$View", "size", "()J"⟩ ⟨"Manypens$View", "size", "()J"⟩, .initialized "Manypens$View", .classLink "Manypens" 224 "java/util/NoSuchElementException", .initialized "java/util/NoSuchElementException"])
noncomputable def si_37 : sy_Inf := (⟨"Manypens", "needLetters", "(LManypens$View;II)V"⟩, prog_1_method_51_code, 4, none, [], "Manypens", [.methodLink "Manypens" 98 ⟨"Manypens$View", "size", "()J"⟩, .instanceMethod ⟨"Manypens$View", "size", "()J"⟩, .selects "Manypens$View" ⟨"Manypens$View", "size", "()J"⟩ ⟨"Manypens$View", "size", "()J"⟩, .initialized "Manypens$View", .classLink "Manypens" 224 "java/util/NoSuchElementException", .initialized "java/util/NoSuchElementException"])
noncomputable def si_38 : sy_Inf := (⟨"Manypens", "needOnWay", "(II)V"⟩, prog_1_method_56_code, 3, none, [], "Manypens", [.fieldLink "Manypens" 36 "Manypens" "hands" "[LManypens$Hand;", .fieldLinkNest "Manypens" 287 "Manypens$Hand" "way" "LManypens$Ints;" "Manypens", .methodLink "Manypens" 76 ⟨"Manypens$Ints", "size", "()I"⟩, .instanceMethod ⟨"Manypens$Ints", "size", "()I"⟩, .selects "Manypens$Ints" ⟨"Manypens$Ints", "size", "()I"⟩ ⟨"Manypens$Ints", "size", "()I"⟩, .initialized "Manypens$Ints", .classLink "Manypens" 224 "java/util/NoSuchElementException", .initialized "java/util/NoSuchElementException"])
noncomputable def si_39 : sy_Inf := (⟨"Manypens", "needPlace", "(IJ)V"⟩, prog_1_method_49_code, 4, none, [], "Manypens", [.classLink "Manypens" 224 "java/util/NoSuchElementException", .initialized "java/util/NoSuchElementException"])
noncomputable def si_40 : sy_Inf := (⟨"Manypens", "needStep", "(II)V"⟩, prog_1_method_57_code, 3, none, [], "Manypens", [.fieldLink "Manypens" 36 "Manypens" "hands" "[LManypens$Hand;", .fieldLinkNest "Manypens" 350 "Manypens$Hand" "past" "LManypens$Ints;" "Manypens", .methodLink "Manypens" 76 ⟨"Manypens$Ints", "size", "()I"⟩, .instanceMethod ⟨"Manypens$Ints", "size", "()I"⟩, .selects "Manypens$Ints" ⟨"Manypens$Ints", "size", "()I"⟩ ⟨"Manypens$Ints", "size", "()I"⟩, .initialized "Manypens$Ints", .classLink "Manypens" 224 "java/util/NoSuchElementException", .initialized "java/util/NoSuchElementException"])
noncomputable def si_41 : sy_Inf := (⟨"Manypens", "needTyped", "()V"⟩, prog_1_method_53_code, 1, none, [], "Manypens", [.fieldLink "Manypens" 14 "Manypens" "typed" "LManypens$Ints;", .methodLink "Manypens" 76 ⟨"Manypens$Ints", "size", "()I"⟩, .instanceMethod ⟨"Manypens$Ints", "size", "()I"⟩, .selects "Manypens$Ints" ⟨"Manypens$Ints", "size", "()I"⟩ ⟨"Manypens$Ints", "size", "()I"⟩, .initialized "Manypens$Ints", .classLink "Manypens" 448 "java/lang/UnsupportedOperationException", .initialized "java/lang/UnsupportedOperationException"])
noncomputable def si_42 : sy_Inf := (⟨"Manypens", "onWay", "(I)I"⟩, prog_1_method_25_code, 2, (some .int), [], "Manypens", [.methodLink "Manypens" 91 ⟨"Manypens", "needHand", "(I)V"⟩, .instanceMethod ⟨"Manypens", "needHand", "(I)V"⟩, .selects "Manypens" ⟨"Manypens", "needHand", "(I)V"⟩ ⟨"Manypens", "needHand", "(I)V"⟩, .initialized "Manypens", .fieldLink "Manypens" 36 "Manypens" "hands" "[LManypens$Hand;", .fieldLinkNest "Manypens" 287 "Manypens$Hand" "way" "LManypens$Ints;" "Manypens", .methodLink "Manypens" 76 ⟨"Manypens$Ints", "size", "()I"⟩, .instanceMethod ⟨"Manypens$Ints", "size", "()I"⟩, .selects "Manypens$Ints" ⟨"Manypens$Ints", "size", "()I"⟩ ⟨"Manypens$Ints", "size", "()I"⟩, .initialized "Manypens$Ints"])
noncomputable def si_43 : sy_Inf := (⟨"Manypens", "open", "(I)I"⟩, prog_1_method_11_code, 2, (some .int), [], "Manypens", [.methodLink "Manypens" 91 ⟨"Manypens", "needHand", "(I)V"⟩, .instanceMethod ⟨"Manypens", "needHand", "(I)V"⟩, .selects "Manypens" ⟨"Manypens", "needHand", "(I)V"⟩ ⟨"Manypens", "needHand", "(I)V"⟩, .initialized "Manypens", .fieldLink "Manypens" 36 "Manypens" "hands" "[LManypens$Hand;", .fieldLinkNest "Manypens" 208 "Manypens$Hand" "isOpen" "Z" "Manypens", .methodLink "Manypens" 213 ⟨"Manypens$Hand", "openGroup", "()V"⟩, .instanceMethod ⟨"Manypens$Hand", "openGroup", "()V"⟩, .selects "Manypens$Hand" ⟨"Manypens$Hand", "openGroup", "()V"⟩ ⟨"Manypens$Hand", "openGroup", "()V"⟩, .initialized "Manypens$Hand", .fieldLinkNest "Manypens" 216 "Manypens$Hand" "undoable" "LManypens$Ints;" "Manypens", .methodLink "Manypens" 76 ⟨"Manypens$Ints", "size", "()I"⟩, .instanceMethod ⟨"Manypens$Ints", "size", "()I"⟩, .selects "Manypens$Ints" ⟨"Manypens$Ints", "size", "()I"⟩ ⟨"Manypens$Ints", "size", "()I"⟩, .initialized "Manypens$Ints"])
noncomputable def si_44 : sy_Inf := (⟨"Manypens", "othersShare", "(I)F"⟩, prog_1_method_42_code, 6, (some .float), [], "Manypens", [.methodLink "Manypens" 91 ⟨"Manypens", "needHand", "(I)V"⟩, .instanceMethod ⟨"Manypens", "needHand", "(I)V"⟩, .selects "Manypens" ⟨"Manypens", "needHand", "(I)V"⟩ ⟨"Manypens", "needHand", "(I)V"⟩, .initialized "Manypens", .methodLink "Manypens" 94 ⟨"Manypens", "viewOf", "(I)LManypens$View;"⟩, .instanceMethod ⟨"Manypens", "viewOf", "(I)LManypens$View;"⟩, .selects "Manypens" ⟨"Manypens", "viewOf", "(I)LManypens$View;"⟩ ⟨"Manypens", "viewOf", "(I)LManypens$View;"⟩, .methodLink "Manypens" 98 ⟨"Manypens$View", "size", "()J"⟩, .instanceMethod ⟨"Manypens$View", "size", "()J"⟩, .selects "Manypens$View" ⟨"Manypens$View", "size", "()J"⟩ ⟨"Manypens$View", "size", "()J"⟩, .initialized "Manypens$View", .classLink "Manypens" 394 "java/lang/ArithmeticException", .initialized "java/lang/ArithmeticException"])
noncomputable def si_45 : sy_Inf := (⟨"Manypens", "put", "(II)I"⟩, prog_1_method_4_code, 5, (some .int), [], "Manypens", [.methodLink "Manypens" 91 ⟨"Manypens", "needHand", "(I)V"⟩, .instanceMethod ⟨"Manypens", "needHand", "(I)V"⟩, .selects "Manypens" ⟨"Manypens", "needHand", "(I)V"⟩ ⟨"Manypens", "needHand", "(I)V"⟩, .initialized "Manypens", .methodLink "Manypens" 94 ⟨"Manypens", "viewOf", "(I)LManypens$View;"⟩, .instanceMethod ⟨"Manypens", "viewOf", "(I)LManypens$View;"⟩, .selects "Manypens" ⟨"Manypens", "viewOf", "(I)LManypens$View;"⟩ ⟨"Manypens", "viewOf", "(I)LManypens$View;"⟩, .methodLink "Manypens" 98 ⟨"Manypens$View", "size", "()J"⟩, .instanceMethod ⟨"Manypens$View", "size", "()J"⟩, .selects "Manypens$View" ⟨"Manypens$View", "size", "()J"⟩ ⟨"Manypens$View", "size", "()J"⟩, .initialized "Manypens$View", .methodLink "Manypens" 101 ⟨"Manypens", "needPlace", "(IJ)V"⟩, .instanceMethod ⟨"Manypens", "needPlace", "(IJ)V"⟩, .selects "Manypens" ⟨"Manypens", "needPlace", "(IJ)V"⟩ ⟨"Manypens", "needPlace", "(IJ)V"⟩, .methodLink "Manypens" 105 ⟨"Manypens", "needTyped", "()V"⟩, .instanceMethod ⟨"Manypens", "needTyped", "()V"⟩, .selects "Manypens" ⟨"Manypens", "needTyped", "()V"⟩ ⟨"Manypens", "needTyped", "()V"⟩])
noncomputable def si_46 : sy_Inf := (⟨"Manypens", "redo", "(I)I"⟩, prog_1_method_14_code, 3, (some .int), [], "Manypens", [.methodLink "Manypens" 91 ⟨"Manypens", "needHand", "(I)V"⟩, .instanceMethod ⟨"Manypens", "needHand", "(I)V"⟩, .selects "Manypens" ⟨"Manypens", "needHand", "(I)V"⟩ ⟨"Manypens", "needHand", "(I)V"⟩, .initialized "Manypens", .fieldLink "Manypens" 36 "Manypens" "hands" "[LManypens$Hand;", .fieldLinkNest "Manypens" 229 "Manypens$Hand" "redoable" "LManypens$Ints;" "Manypens", .methodLink "Manypens" 76 ⟨"Manypens$Ints", "size", "()I"⟩, .instanceMethod ⟨"Manypens$Ints", "size", "()I"⟩, .selects "Manypens$Ints" ⟨"Manypens$Ints", "size", "()I"⟩ ⟨"Manypens$Ints", "size", "()I"⟩, .initialized "Manypens$Ints", .classLink "Manypens" 224 "java/util/NoSuchElementException", .initialized "java/util/NoSuchElementException"])
noncomputable def si_47 : sy_Inf := (⟨"Manypens", "repeat", "(II)I"⟩, prog_1_method_28_code, 4, (some .int), [], "Manypens", [.methodLink "Manypens" 91 ⟨"Manypens", "needHand", "(I)V"⟩, .instanceMethod ⟨"Manypens", "needHand", "(I)V"⟩, .selects "Manypens" ⟨"Manypens", "needHand", "(I)V"⟩ ⟨"Manypens", "needHand", "(I)V"⟩, .initialized "Manypens", .methodLink "Manypens" 290 ⟨"Manypens", "needOnWay", "(II)V"⟩, .instanceMethod ⟨"Manypens", "needOnWay", "(II)V"⟩, .selects "Manypens" ⟨"Manypens", "needOnWay", "(II)V"⟩ ⟨"Manypens", "needOnWay", "(II)V"⟩])
noncomputable def si_48 : sy_Inf := (⟨"Manypens", "replace", "(III)I"⟩, prog_1_method_6_code, 6, (some .int), [], "Manypens", [.methodLink "Manypens" 91 ⟨"Manypens", "needHand", "(I)V"⟩, .instanceMethod ⟨"Manypens", "needHand", "(I)V"⟩, .selects "Manypens" ⟨"Manypens", "needHand", "(I)V"⟩ ⟨"Manypens", "needHand", "(I)V"⟩, .initialized "Manypens", .methodLink "Manypens" 94 ⟨"Manypens", "viewOf", "(I)LManypens$View;"⟩, .instanceMethod ⟨"Manypens", "viewOf", "(I)LManypens$View;"⟩, .selects "Manypens" ⟨"Manypens", "viewOf", "(I)LManypens$View;"⟩ ⟨"Manypens", "viewOf", "(I)LManypens$View;"⟩, .methodLink "Manypens" 135 ⟨"Manypens", "needLetters", "(LManypens$View;II)V"⟩, .instanceMethod ⟨"Manypens", "needLetters", "(LManypens$View;II)V"⟩, .selects "Manypens" ⟨"Manypens", "needLetters", "(LManypens$View;II)V"⟩ ⟨"Manypens", "needLetters", "(LManypens$View;II)V"⟩])
noncomputable def si_49 : sy_Inf := (⟨"Manypens", "runs", "(I)I"⟩, prog_1_method_20_code, 5, (some .int), [], "Manypens", [.methodLink "Manypens" 91 ⟨"Manypens", "needHand", "(I)V"⟩, .instanceMethod ⟨"Manypens", "needHand", "(I)V"⟩, .selects "Manypens" ⟨"Manypens", "needHand", "(I)V"⟩ ⟨"Manypens", "needHand", "(I)V"⟩, .initialized "Manypens", .methodLink "Manypens" 94 ⟨"Manypens", "viewOf", "(I)LManypens$View;"⟩, .instanceMethod ⟨"Manypens", "viewOf", "(I)LManypens$View;"⟩, .selects "Manypens" ⟨"Manypens", "viewOf", "(I)LManypens$View;"⟩ ⟨"Manypens", "viewOf", "(I)LManypens$View;"⟩, .methodLink "Manypens" 261 ⟨"Manypens$View", "pieces", "()I"⟩, .instanceMethod ⟨"Manypens$View", "pieces", "()I"⟩, .selects "Manypens$View" ⟨"Manypens$View", "pieces", "()I"⟩ ⟨"Manypens$View", "pieces", "()I"⟩, .initialized "Manypens$View"])
noncomputable def si_50 : sy_Inf := (⟨"Manypens", "setCursor", "(II)I"⟩, prog_1_method_23_code, 6, (some .int), [], "Manypens", [.methodLink "Manypens" 91 ⟨"Manypens", "needHand", "(I)V"⟩, .instanceMethod ⟨"Manypens", "needHand", "(I)V"⟩, .selects "Manypens" ⟨"Manypens", "needHand", "(I)V"⟩ ⟨"Manypens", "needHand", "(I)V"⟩, .initialized "Manypens", .methodLink "Manypens" 94 ⟨"Manypens", "viewOf", "(I)LManypens$View;"⟩, .instanceMethod ⟨"Manypens", "viewOf", "(I)LManypens$View;"⟩, .selects "Manypens" ⟨"Manypens", "viewOf", "(I)LManypens$View;"⟩ ⟨"Manypens", "viewOf", "(I)LManypens$View;"⟩, .methodLink "Manypens" 98 ⟨"Manypens$View", "size", "()J"⟩, .instanceMethod ⟨"Manypens$View", "size", "()J"⟩, .selects "Manypens$View" ⟨"Manypens$View", "size", "()J"⟩ ⟨"Manypens$View", "size", "()J"⟩, .initialized "Manypens$View", .methodLink "Manypens" 101 ⟨"Manypens", "needPlace", "(IJ)V"⟩, .instanceMethod ⟨"Manypens", "needPlace", "(IJ)V"⟩, .selects "Manypens" ⟨"Manypens", "needPlace", "(IJ)V"⟩ ⟨"Manypens", "needPlace", "(IJ)V"⟩, .fieldLink "Manypens" 36 "Manypens" "hands" "[LManypens$Hand;", .fieldLinkNest "Manypens" 196 "Manypens$Hand" "cursor" "J" "Manypens", .methodLink "Manypens" 199 ⟨"Manypens$View", "placeBehind", "(J)J"⟩, .instanceMethod ⟨"Manypens$View", "placeBehind", "(J)J"⟩, .selects "Manypens$View" ⟨"Manypens$View", "placeBehind", "(J)J"⟩ ⟨"Manypens$View", "placeBehind", "(J)J"⟩, .methodLink "Manypens" 119 ⟨"Manypens$View", "letterAhead", "(J)J"⟩, .instanceMethod ⟨"Manypens$View", "letterAhead", "(J)J"⟩, .selects "Manypens$View" ⟨"Manypens$View", "letterAhead", "(J)J"⟩ ⟨"Manypens$View", "letterAhead", "(J)J"⟩, .methodLink "Manypens" 131 ⟨"Manypens", "told", "(J)I"⟩, .static ⟨"Manypens", "told", "(J)I"⟩])
noncomputable def si_51 : sy_Inf := (⟨"Manypens", "signAt", "(II)C"⟩, prog_1_method_17_code, 3, (some .char), [], "Manypens", [.methodLink "Manypens" 91 ⟨"Manypens", "needHand", "(I)V"⟩, .instanceMethod ⟨"Manypens", "needHand", "(I)V"⟩, .selects "Manypens" ⟨"Manypens", "needHand", "(I)V"⟩ ⟨"Manypens", "needHand", "(I)V"⟩, .initialized "Manypens", .methodLink "Manypens" 94 ⟨"Manypens", "viewOf", "(I)LManypens$View;"⟩, .instanceMethod ⟨"Manypens", "viewOf", "(I)LManypens$View;"⟩, .selects "Manypens" ⟨"Manypens", "viewOf", "(I)LManypens$View;"⟩ ⟨"Manypens", "viewOf", "(I)LManypens$View;"⟩, .methodLink "Manypens" 238 ⟨"Manypens", "needLetter", "(LManypens$View;I)V"⟩, .instanceMethod ⟨"Manypens", "needLetter", "(LManypens$View;I)V"⟩, .selects "Manypens" ⟨"Manypens", "needLetter", "(LManypens$View;I)V"⟩ ⟨"Manypens", "needLetter", "(LManypens$View;I)V"⟩])
noncomputable def si_52 : sy_Inf := (⟨"Manypens", "signThen", "(III)C"⟩, prog_1_method_37_code, 4, (some .char), [], "Manypens", [.methodLink "Manypens" 91 ⟨"Manypens", "needHand", "(I)V"⟩, .instanceMethod ⟨"Manypens", "needHand", "(I)V"⟩, .selects "Manypens" ⟨"Manypens", "needHand", "(I)V"⟩ ⟨"Manypens", "needHand", "(I)V"⟩, .initialized "Manypens", .methodLink "Manypens" 352 ⟨"Manypens", "needStep", "(II)V"⟩, .instanceMethod ⟨"Manypens", "needStep", "(II)V"⟩, .selects "Manypens" ⟨"Manypens", "needStep", "(II)V"⟩ ⟨"Manypens", "needStep", "(II)V"⟩, .methodLink "Manypens" 355 ⟨"Manypens", "goBack", "(II)V"⟩, .instanceMethod ⟨"Manypens", "goBack", "(II)V"⟩, .selects "Manypens" ⟨"Manypens", "goBack", "(II)V"⟩ ⟨"Manypens", "goBack", "(II)V"⟩, .fieldLink "Manypens" 48 "Manypens" "past" "LManypens$View;", .methodLink "Manypens" 238 ⟨"Manypens", "needLetter", "(LManypens$View;I)V"⟩, .instanceMethod ⟨"Manypens", "needLetter", "(LManypens$View;I)V"⟩, .selects "Manypens" ⟨"Manypens", "needLetter", "(LManypens$View;I)V"⟩ ⟨"Manypens", "needLetter", "(LManypens$View;I)V"⟩])
noncomputable def si_53 : sy_Inf := (⟨"Manypens", "steps", "(I)I"⟩, prog_1_method_35_code, 2, (some .int), [], "Manypens", [.methodLink "Manypens" 91 ⟨"Manypens", "needHand", "(I)V"⟩, .instanceMethod ⟨"Manypens", "needHand", "(I)V"⟩, .selects "Manypens" ⟨"Manypens", "needHand", "(I)V"⟩ ⟨"Manypens", "needHand", "(I)V"⟩, .initialized "Manypens", .fieldLink "Manypens" 36 "Manypens" "hands" "[LManypens$Hand;", .fieldLinkNest "Manypens" 350 "Manypens$Hand" "past" "LManypens$Ints;" "Manypens", .methodLink "Manypens" 76 ⟨"Manypens$Ints", "size", "()I"⟩, .instanceMethod ⟨"Manypens$Ints", "size", "()I"⟩, .selects "Manypens$Ints" ⟨"Manypens$Ints", "size", "()I"⟩ ⟨"Manypens$Ints", "size", "()I"⟩, .initialized "Manypens$Ints"])
noncomputable def si_54 : sy_Inf := (⟨"Manypens", "sumOn", "(JLManypens$View;)J"⟩, prog_1_method_46_code, 11, (some .long), [], "Manypens", [.methodLink "Manypens" 261 ⟨"Manypens$View", "pieces", "()I"⟩, .instanceMethod ⟨"Manypens$View", "pieces", "()I"⟩, .selects "Manypens$View" ⟨"Manypens$View", "pieces", "()I"⟩ ⟨"Manypens$View", "pieces", "()I"⟩, .initialized "Manypens$View"])
noncomputable def si_55 : sy_Inf := (⟨"Manypens", "take", "(III)I"⟩, prog_1_method_5_code, 5, (some .int), [], "Manypens", [.methodLink "Manypens" 91 ⟨"Manypens", "needHand", "(I)V"⟩, .instanceMethod ⟨"Manypens", "needHand", "(I)V"⟩, .selects "Manypens" ⟨"Manypens", "needHand", "(I)V"⟩ ⟨"Manypens", "needHand", "(I)V"⟩, .initialized "Manypens", .methodLink "Manypens" 94 ⟨"Manypens", "viewOf", "(I)LManypens$View;"⟩, .instanceMethod ⟨"Manypens", "viewOf", "(I)LManypens$View;"⟩, .selects "Manypens" ⟨"Manypens", "viewOf", "(I)LManypens$View;"⟩ ⟨"Manypens", "viewOf", "(I)LManypens$View;"⟩, .methodLink "Manypens" 135 ⟨"Manypens", "needLetters", "(LManypens$View;II)V"⟩, .instanceMethod ⟨"Manypens", "needLetters", "(LManypens$View;II)V"⟩, .selects "Manypens" ⟨"Manypens", "needLetters", "(LManypens$View;II)V"⟩ ⟨"Manypens", "needLetters", "(LManypens$View;II)V"⟩])
noncomputable def si_56 : sy_Inf := (⟨"Manypens", "told", "(J)I"⟩, prog_1_method_58_code, 2, (some .int), [], "Manypens", [.constantLong "Manypens" 463 2147483647, .methodLink "Manypens" 465 ⟨"java/lang/Math", "min", "(JJ)J"⟩, .static ⟨"java/lang/Math", "min", "(JJ)J"⟩, .initialized "java/lang/Math"])
noncomputable def si_57 : sy_Inf := (⟨"Manypens", "type", "(C)I"⟩, prog_1_method_2_code, 2, (some .int), [], "Manypens", [.classLink "Manypens" 69 "java/lang/IllegalArgumentException", .initialized "java/lang/IllegalArgumentException", .fieldLink "Manypens" 14 "Manypens" "typed" "LManypens$Ints;", .methodLink "Manypens" 76 ⟨"Manypens$Ints", "size", "()I"⟩, .instanceMethod ⟨"Manypens$Ints", "size", "()I"⟩, .selects "Manypens$Ints" ⟨"Manypens$Ints", "size", "()I"⟩ ⟨"Manypens$Ints", "size", "()I"⟩, .initialized "Manypens$Ints", .methodLink "Manypens" 85 ⟨"Manypens$Ints", "add", "(I)V"⟩, .instanceMethod ⟨"Manypens$Ints", "add", "(I)V"⟩, .selects "Manypens$Ints" ⟨"Manypens$Ints", "add", "(I)V"⟩ ⟨"Manypens$Ints", "add", "(I)V"⟩])
noncomputable def si_58 : sy_Inf := (⟨"Manypens", "undo", "(I)I"⟩, prog_1_method_13_code, 3, (some .int), [], "Manypens", [.methodLink "Manypens" 91 ⟨"Manypens", "needHand", "(I)V"⟩, .instanceMethod ⟨"Manypens", "needHand", "(I)V"⟩, .selects "Manypens" ⟨"Manypens", "needHand", "(I)V"⟩ ⟨"Manypens", "needHand", "(I)V"⟩, .initialized "Manypens", .fieldLink "Manypens" 36 "Manypens" "hands" "[LManypens$Hand;", .fieldLinkNest "Manypens" 216 "Manypens$Hand" "undoable" "LManypens$Ints;" "Manypens", .methodLink "Manypens" 76 ⟨"Manypens$Ints", "size", "()I"⟩, .instanceMethod ⟨"Manypens$Ints", "size", "()I"⟩, .selects "Manypens$Ints" ⟨"Manypens$Ints", "size", "()I"⟩ ⟨"Manypens$Ints", "size", "()I"⟩, .initialized "Manypens$Ints", .classLink "Manypens" 224 "java/util/NoSuchElementException", .initialized "java/util/NoSuchElementException"])
noncomputable def si_59 : sy_Inf := (⟨"Manypens", "viewOf", "(I)LManypens$View;"⟩, prog_1_method_73_code, 3, (some (.object "Manypens$View")), [], "Manypens", [.fieldLink "Manypens" 36 "Manypens" "hands" "[LManypens$Hand;", .fieldLinkNest "Manypens" 536 "Manypens$Hand" "isStale" "Z" "Manypens", .fieldLinkNest "Manypens" 539 "Manypens$Hand" "view" "LManypens$View;" "Manypens", .methodLink "Manypens" 542 ⟨"Manypens$View", "isOld", "()Z"⟩, .instanceMethod ⟨"Manypens$View", "isOld", "()Z"⟩, .selects "Manypens$View" ⟨"Manypens$View", "isOld", "()Z"⟩ ⟨"Manypens$View", "isOld", "()Z"⟩, .initialized "Manypens$View"])
noncomputable def si_60 : sy_Inf := (⟨"Manypens", "waiting", "(I)I"⟩, prog_1_method_31_code, 2, (some .int), [], "Manypens", [.methodLink "Manypens" 91 ⟨"Manypens", "needHand", "(I)V"⟩, .instanceMethod ⟨"Manypens", "needHand", "(I)V"⟩, .selects "Manypens" ⟨"Manypens", "needHand", "(I)V"⟩ ⟨"Manypens", "needHand", "(I)V"⟩, .initialized "Manypens", .fieldLink "Manypens" 36 "Manypens" "hands" "[LManypens$Hand;", .methodLink "Manypens" 329 ⟨"Manypens$Hand", "manyWaiting", "()I"⟩, .instanceMethod ⟨"Manypens$Hand", "manyWaiting", "()I"⟩, .selects "Manypens$Hand" ⟨"Manypens$Hand", "manyWaiting", "()I"⟩ ⟨"Manypens$Hand", "manyWaiting", "()I"⟩, .initialized "Manypens$Hand"])
noncomputable def si_61 : sy_Inf := (⟨"Manypens", "wayAt", "(II)I"⟩, prog_1_method_26_code, 3, (some .int), [], "Manypens", [.methodLink "Manypens" 91 ⟨"Manypens", "needHand", "(I)V"⟩, .instanceMethod ⟨"Manypens", "needHand", "(I)V"⟩, .selects "Manypens" ⟨"Manypens", "needHand", "(I)V"⟩ ⟨"Manypens", "needHand", "(I)V"⟩, .initialized "Manypens", .methodLink "Manypens" 290 ⟨"Manypens", "needOnWay", "(II)V"⟩, .instanceMethod ⟨"Manypens", "needOnWay", "(II)V"⟩, .selects "Manypens" ⟨"Manypens", "needOnWay", "(II)V"⟩ ⟨"Manypens", "needOnWay", "(II)V"⟩])
noncomputable def si_62 : sy_Inf := (⟨"Manypens", "write", "(I)I"⟩, prog_1_method_10_code, 4, (some .int), [], "Manypens", [.methodLink "Manypens" 91 ⟨"Manypens", "needHand", "(I)V"⟩, .instanceMethod ⟨"Manypens", "needHand", "(I)V"⟩, .selects "Manypens" ⟨"Manypens", "needHand", "(I)V"⟩ ⟨"Manypens", "needHand", "(I)V"⟩, .initialized "Manypens", .methodLink "Manypens" 105 ⟨"Manypens", "needTyped", "()V"⟩, .instanceMethod ⟨"Manypens", "needTyped", "()V"⟩, .selects "Manypens" ⟨"Manypens", "needTyped", "()V"⟩ ⟨"Manypens", "needTyped", "()V"⟩])
noncomputable def si_63 : sy_Inf := (⟨"Manypens$Book", "<init>", "()V"⟩, prog_2_method_1_code, 1, none, [], "Manypens", [.methodLink "Manypens$Book" 3 ⟨"java/lang/Object", "<init>", "()V"⟩, .instanceMethod ⟨"java/lang/Object", "<init>", "()V"⟩, .code ⟨"java/lang/Object", "<init>", "()V"⟩ object_method_1_code 1 none, .classLink "Manypens$Book" 9 "Manypens$Edit", .instantiable "Manypens$Edit" 17, .initialized "Manypens$Edit", .arrayClass .int, .methodLink "Manypens$Book" 11 ⟨"Manypens$Edit", "<init>", "(III[I)V"⟩, .instanceMethod ⟨"Manypens$Edit", "<init>", "(III[I)V"⟩, .fieldLink "Manypens$Book" 14 "Manypens$Book" "none" "LManypens$Edit;", .fieldLink "Manypens$Book" 20 "Manypens$Book" "edits" "[LManypens$Edit;", .fieldLink "Manypens$Book" 24 "Manypens$Book" "made" "[I", .fieldLink "Manypens$Book" 28 "Manypens$Book" "base" "[I", .classLink "Manypens$Book" 31 "Manypens$Pieces", .instantiable "Manypens$Pieces" 6, .initialized "Manypens$Pieces", .methodLink "Manypens$Book" 33 ⟨"Manypens$Pieces", "<init>", "()V"⟩, .instanceMethod ⟨"Manypens$Pieces", "<init>", "()V"⟩, .fieldLink "Manypens$Book" 34 "Manypens$Book" "pieces" "LManypens$Pieces;", .classLink "Manypens$Book" 38 "Manypens$Signs", .instantiable "Manypens$Signs" 6, .initialized "Manypens$Signs", .methodLink "Manypens$Book" 40 ⟨"Manypens$Signs", "<init>", "()V"⟩, .instanceMethod ⟨"Manypens$Signs", "<init>", "()V"⟩, .fieldLink "Manypens$Book" 41 "Manypens$Book" "signs" "LManypens$Signs;", .classLink "Manypens$Book" 45 "Manypens$Ints", .instantiable "Manypens$Ints" 2, .initialized "Manypens$Ints", .methodLink "Manypens$Book" 47 ⟨"Manypens$Ints", "<init>", "(I)V"⟩, .instanceMethod ⟨"Manypens$Ints", "<init>", "(I)V"⟩, .fieldLink "Manypens$Book" 50 "Manypens$Book" "marks" "LManypens$Ints;", .fieldLink "Manypens$Book" 54 "Manypens$Book" "comments" "LManypens$Ints;"])
noncomputable def si_64 : sy_Inf := (⟨"Manypens$Book", "editAt", "(I)LManypens$Edit;"⟩, prog_2_method_2_code, 3, (some (.object "Manypens$Edit")), [], "Manypens", [.fieldLink "Manypens$Book" 20 "Manypens$Book" "edits" "[LManypens$Edit;", .fieldLink "Manypens$Book" 14 "Manypens$Book" "none" "LManypens$Edit;"])
noncomputable def si_65 : sy_Inf := (⟨"Manypens$Book", "setBase", "()V"⟩, prog_2_method_7_code, 1, none, [], "Manypens", [.fieldLink "Manypens$Book" 24 "Manypens$Book" "made" "[I", .fieldLink "Manypens$Book" 28 "Manypens$Book" "base" "[I", .methodLink "Manypens$Book" 115 ⟨"java/lang/System", "arraycopy", "(Ljava/lang/Object;ILjava/lang/Object;II)V"⟩, .native ⟨"java/lang/System", "arraycopy", "(Ljava/lang/Object;ILjava/lang/Object;II)V"⟩, .static ⟨"java/lang/System", "arraycopy", "(Ljava/lang/Object;ILjava/lang/Object;II)V"⟩, .initialized "java/lang/System"])
noncomputable def si_66 : sy_Inf := (⟨"Manypens$Edit", "<init>", "(III[I)V"⟩, prog_3_method_1_code, 5, none, [], "", [.methodLink "Manypens$Edit" 3 ⟨"java/lang/Object", "<init>", "()V"⟩, .instanceMethod ⟨"java/lang/Object", "<init>", "()V"⟩, .code ⟨"java/lang/Object", "<init>", "()V"⟩ object_method_1_code 1 none, .fieldLink "Manypens$Edit" 9 "Manypens$Edit" "hand" "I", .fieldLink "Manypens$Edit" 15 "Manypens$Edit" "number" "I", .fieldLink "Manypens$Edit" 18 "Manypens$Edit" "id" "I", .fieldLink "Manypens$Edit" 21 "Manypens$Edit" "time" "I", .methodLink "Manypens$Edit" 24 ⟨"[I", "clone", "()Ljava/lang/Object;"⟩, .sameMethod "[I" "java/lang/Object" "clone" "()Ljava/lang/Object;", .native ⟨"java/lang/Object", "clone", "()Ljava/lang/Object;"⟩, .instanceMethod ⟨"java/lang/Object", "clone", "()Ljava/lang/Object;"⟩, .selects "[I" ⟨"[I", "clone", "()Ljava/lang/Object;"⟩ ⟨"java/lang/Object", "clone", "()Ljava/lang/Object;"⟩, .classLink "Manypens$Edit" 25 "[I", .fieldLink "Manypens$Edit" 30 "Manypens$Edit" "leaning" "[I"])
noncomputable def si_67 : sy_Inf := (⟨"Manypens$Hand", "<init>", "(LManypens$View;)V"⟩, prog_4_method_1_code, 2, none, [], "Manypens", [.methodLink "Manypens$Hand" 3 ⟨"java/lang/Object", "<init>", "()V"⟩, .instanceMethod ⟨"java/lang/Object", "<init>", "()V"⟩, .code ⟨"java/lang/Object", "<init>", "()V"⟩ object_method_1_code 1 none, .fieldLink "Manypens$Hand" 9 "Manypens$Hand" "view" "LManypens$View;", .arrayClass .int, .fieldLink "Manypens$Hand" 15 "Manypens$Hand" "heard" "[I", .classLink "Manypens$Hand" 19 "Manypens$Ints", .instantiable "Manypens$Ints" 2, .initialized "Manypens$Ints", .methodLink "Manypens$Hand" 21 ⟨"Manypens$Ints", "<init>", "(I)V"⟩, .instanceMethod ⟨"Manypens$Ints", "<init>", "(I)V"⟩, .fieldLink "Manypens$Hand" 24 "Manypens$Hand" "past" "LManypens$Ints;", .fieldLink "Manypens$Hand" 28 "Manypens$Hand" "way" "LManypens$Ints;", .fieldLink "Manypens$Hand" 31 "Manypens$Hand" "waits" "[I", .fieldLink "Manypens$Hand" 34 "Manypens$Hand" "undoable" "LManypens$Ints;", .fieldLink "Manypens$Hand" 37 "Manypens$Hand" "redoable" "LManypens$Ints;", .fieldLink "Manypens$Hand" 40 "Manypens$Hand" "sizes" "LManypens$Ints;", .fieldLink "Manypens$Hand" 43 "Manypens$Hand" "opened" "I", .fieldLink "Manypens$Hand" 47 "Manypens$Hand" "cursor" "J"])
noncomputable def si_68 : sy_Inf := (⟨"Manypens$Hand", "closeGroup", "()I"⟩, prog_4_method_11_code, 2, (some .int), [], "Manypens", [.fieldLink "Manypens$Hand" 43 "Manypens$Hand" "opened" "I", .methodLink "Manypens$Hand" 105 ⟨"Manypens$Hand", "sizeOf", "(I)I"⟩, .instanceMethod ⟨"Manypens$Hand", "sizeOf", "(I)I"⟩, .selects "Manypens$Hand" ⟨"Manypens$Hand", "sizeOf", "(I)I"⟩ ⟨"Manypens$Hand", "sizeOf", "(I)I"⟩, .initialized "Manypens$Hand", .fieldLink "Manypens$Hand" 102 "Manypens$Hand" "isOpen" "Z"])
noncomputable def si_69 : sy_Inf := (⟨"Manypens$Hand", "manyWaiting", "()I"⟩, prog_4_method_8_code, 3, (some .int), [], "Manypens", [.fieldLink "Manypens$Hand" 31 "Manypens$Hand" "waits" "[I"])
noncomputable def si_70 : sy_Inf := (⟨"Manypens$Hand", "openGroup", "()V"⟩, prog_4_method_10_code, 1, none, [], "Manypens", [.fieldLink "Manypens$Hand" 102 "Manypens$Hand" "isOpen" "Z", .fieldLink "Manypens$Hand" 43 "Manypens$Hand" "opened" "I"])
noncomputable def si_71 : sy_Inf := (⟨"Manypens$Hand", "sizeOf", "(I)I"⟩, prog_4_method_12_code, 2, (some .int), [], "Manypens", [.fieldLink "Manypens$Hand" 40 "Manypens$Hand" "sizes" "LManypens$Ints;", .methodLink "Manypens$Hand" 109 ⟨"Manypens$Ints", "at", "(I)I"⟩, .instanceMethod ⟨"Manypens$Ints", "at", "(I)I"⟩, .selects "Manypens$Ints" ⟨"Manypens$Ints", "at", "(I)I"⟩ ⟨"Manypens$Ints", "at", "(I)I"⟩, .initialized "Manypens$Ints"])
noncomputable def si_72 : sy_Inf := (⟨"Manypens$Hand", "startAnew", "()V"⟩, prog_4_method_14_code, 1, none, [], "Manypens", [.fieldLink "Manypens$Hand" 24 "Manypens$Hand" "past" "LManypens$Ints;", .methodLink "Manypens$Hand" 112 ⟨"Manypens$Ints", "clear", "()V"⟩, .instanceMethod ⟨"Manypens$Ints", "clear", "()V"⟩, .selects "Manypens$Ints" ⟨"Manypens$Ints", "clear", "()V"⟩ ⟨"Manypens$Ints", "clear", "()V"⟩, .initialized "Manypens$Ints", .fieldLink "Manypens$Hand" 34 "Manypens$Hand" "undoable" "LManypens$Ints;", .fieldLink "Manypens$Hand" 37 "Manypens$Hand" "redoable" "LManypens$Ints;", .methodLink "Manypens$Hand" 126 ⟨"Manypens$Hand", "closeGroup", "()I"⟩, .instanceMethod ⟨"Manypens$Hand", "closeGroup", "()I"⟩, .selects "Manypens$Hand" ⟨"Manypens$Hand", "closeGroup", "()I"⟩ ⟨"Manypens$Hand", "closeGroup", "()I"⟩, .initialized "Manypens$Hand", .fieldLink "Manypens$Hand" 88 "Manypens$Hand" "isStale" "Z"])
noncomputable def si_73 : sy_Inf := (⟨"Manypens$InTime", "<init>", "(LManypens$Book;)V"⟩, prog_5_method_1_code, 2, none, [], "Manypens", [.methodLink "Manypens$InTime" 3 ⟨"java/lang/Object", "<init>", "()V"⟩, .instanceMethod ⟨"java/lang/Object", "<init>", "()V"⟩, .code ⟨"java/lang/Object", "<init>", "()V"⟩ object_method_1_code 1 none, .fieldLink "Manypens$InTime" 9 "Manypens$InTime" "book" "LManypens$Book;", .arrayClass .int, .fieldLink "Manypens$InTime" 15 "Manypens$InTime" "at" "[I", .fieldLink "Manypens$InTime" 19 "Manypens$InTime" "end" "[I"])
noncomputable def si_74 : sy_Inf := (⟨"Manypens$InTime", "next", "()I"⟩, prog_5_method_3_code, 3, (some .int), [], "Manypens", [.fieldLink "Manypens$InTime" 15 "Manypens$InTime" "at" "[I", .fieldLink "Manypens$InTime" 19 "Manypens$InTime" "end" "[I"])
noncomputable def si_75 : sy_Inf := (⟨"Manypens$InTime", "start", "([I[I)V"⟩, prog_5_method_2_code, 4, none, [], "Manypens", [.fieldLink "Manypens$InTime" 15 "Manypens$InTime" "at" "[I", .fieldLink "Manypens$InTime" 19 "Manypens$InTime" "end" "[I"])
noncomputable def si_76 : sy_Inf := (⟨"Manypens$Ints", "<init>", "(I)V"⟩, prog_6_method_1_code, 2, none, [], "", [.methodLink "Manypens$Ints" 1 ⟨"java/lang/Object", "<init>", "()V"⟩, .instanceMethod ⟨"java/lang/Object", "<init>", "()V"⟩, .code ⟨"java/lang/Object", "<init>", "()V"⟩ object_method_1_code 1 none, .arrayClass .int, .fieldLink "Manypens$Ints" 7 "Manypens$Ints" "all" "[I"])
noncomputable def si_77 : sy_Inf := (⟨"Manypens$Ints", "add", "(I)V"⟩, prog_6_method_6_code, 2, none, [], "", [.fieldLink "Manypens$Ints" 13 "Manypens$Ints" "size" "I", .methodLink "Manypens$Ints" 17 ⟨"Manypens$Ints", "makeRoom", "(I)Z"⟩, .instanceMethod ⟨"Manypens$Ints", "makeRoom", "(I)Z"⟩, .selects "Manypens$Ints" ⟨"Manypens$Ints", "makeRoom", "(I)Z"⟩ ⟨"Manypens$Ints", "makeRoom", "(I)Z"⟩, .initialized "Manypens$Ints", .fieldLink "Manypens$Ints" 7 "Manypens$Ints" "all" "[I"])
noncomputable def si_78 : sy_Inf := (⟨"Manypens$Ints", "at", "(I)I"⟩, prog_6_method_3_code, 2, (some .int), [], "", [.fieldLink "Manypens$Ints" 13 "Manypens$Ints" "size" "I", .fieldLink "Manypens$Ints" 7 "Manypens$Ints" "all" "[I"])
noncomputable def si_79 : sy_Inf := (⟨"Manypens$Ints", "clear", "()V"⟩, prog_6_method_5_code, 1, none, [], "", [.fieldLink "Manypens$Ints" 13 "Manypens$Ints" "size" "I"])
noncomputable def si_80 : sy_Inf := (⟨"Manypens$Ints", "isEqual", "(LManypens$Ints;)Z"⟩, prog_6_method_10_code, 3, (some .boolean), [], "", [.fieldLink "Manypens$Ints" 13 "Manypens$Ints" "size" "I"])
noncomputable def si_81 : sy_Inf := (⟨"Manypens$Ints", "makeRoom", "(I)Z"⟩, prog_6_method_11_code, 2, (some .boolean), [], "", [.constant "Manypens$Ints" 37 1048576, .fieldLink "Manypens$Ints" 7 "Manypens$Ints" "all" "[I"])
noncomputable def si_82 : sy_Inf := (⟨"Manypens$Ints", "set", "(II)V"⟩, prog_6_method_4_code, 3, none, [], "", [.fieldLink "Manypens$Ints" 13 "Manypens$Ints" "size" "I", .fieldLink "Manypens$Ints" 7 "Manypens$Ints" "all" "[I"])
noncomputable def si_83 : sy_Inf := (⟨"Manypens$Ints", "size", "()I"⟩, prog_6_method_2_code, 1, (some .int), [], "", [.fieldLink "Manypens$Ints" 13 "Manypens$Ints" "size" "I"])
noncomputable def si_84 : sy_Inf := (⟨"Manypens$Ints", "widen", "(I)V"⟩, prog_6_method_9_code, 2, none, [], "", [.fieldLink "Manypens$Ints" 13 "Manypens$Ints" "size" "I", .methodLink "Manypens$Ints" 17 ⟨"Manypens$Ints", "makeRoom", "(I)Z"⟩, .instanceMethod ⟨"Manypens$Ints", "makeRoom", "(I)Z"⟩, .selects "Manypens$Ints" ⟨"Manypens$Ints", "makeRoom", "(I)Z"⟩ ⟨"Manypens$Ints", "makeRoom", "(I)Z"⟩, .initialized "Manypens$Ints", .fieldLink "Manypens$Ints" 7 "Manypens$Ints" "all" "[I", .methodLink "Manypens$Ints" 27 ⟨"java/util/Arrays", "fill", "([IIII)V"⟩, .static ⟨"java/util/Arrays", "fill", "([IIII)V"⟩, .initialized "java/util/Arrays"])
noncomputable def si_85 : sy_Inf := (⟨"Manypens$Longs", "<init>", "(I)V"⟩, prog_7_method_1_code, 2, none, [], "", [.methodLink "Manypens$Longs" 1 ⟨"java/lang/Object", "<init>", "()V"⟩, .instanceMethod ⟨"java/lang/Object", "<init>", "()V"⟩, .code ⟨"java/lang/Object", "<init>", "()V"⟩ object_method_1_code 1 none, .arrayClass .long, .fieldLink "Manypens$Longs" 7 "Manypens$Longs" "all" "[J"])
noncomputable def si_86 : sy_Inf := (⟨"Manypens$Longs", "add", "(J)V"⟩, prog_7_method_6_code, 3, none, [], "", [.fieldLink "Manypens$Longs" 13 "Manypens$Longs" "size" "I", .methodLink "Manypens$Longs" 17 ⟨"Manypens$Longs", "makeRoom", "(I)Z"⟩, .instanceMethod ⟨"Manypens$Longs", "makeRoom", "(I)Z"⟩, .selects "Manypens$Longs" ⟨"Manypens$Longs", "makeRoom", "(I)Z"⟩ ⟨"Manypens$Longs", "makeRoom", "(I)Z"⟩, .initialized "Manypens$Longs", .fieldLink "Manypens$Longs" 7 "Manypens$Longs" "all" "[J"])
noncomputable def si_87 : sy_Inf := (⟨"Manypens$Longs", "clear", "()V"⟩, prog_7_method_5_code, 1, none, [], "", [.fieldLink "Manypens$Longs" 13 "Manypens$Longs" "size" "I"])
noncomputable def si_88 : sy_Inf := (⟨"Manypens$Longs", "makeRoom", "(I)Z"⟩, prog_7_method_10_code, 2, (some .boolean), [], "", [.constant "Manypens$Longs" 33 1048576, .fieldLink "Manypens$Longs" 7 "Manypens$Longs" "all" "[J"])
noncomputable def si_89 : sy_Inf := (⟨"Manypens$Longs", "widen", "(I)V"⟩, prog_7_method_8_code, 2, none, [], "", [.fieldLink "Manypens$Longs" 13 "Manypens$Longs" "size" "I", .methodLink "Manypens$Longs" 17 ⟨"Manypens$Longs", "makeRoom", "(I)Z"⟩, .instanceMethod ⟨"Manypens$Longs", "makeRoom", "(I)Z"⟩, .selects "Manypens$Longs" ⟨"Manypens$Longs", "makeRoom", "(I)Z"⟩ ⟨"Manypens$Longs", "makeRoom", "(I)Z"⟩, .initialized "Manypens$Longs", .fieldLink "Manypens$Longs" 7 "Manypens$Longs" "all" "[J", .methodLink "Manypens$Longs" 27 ⟨"java/util/Arrays", "fill", "([JIIJ)V"⟩, .static ⟨"java/util/Arrays", "fill", "([JIIJ)V"⟩, .initialized "java/util/Arrays"])
noncomputable def si_90 : sy_Inf := (⟨"Manypens$Pieces", "<init>", "()V"⟩, prog_8_method_1_code, 1, none, [], "", [.methodLink "Manypens$Pieces" 3 ⟨"java/lang/Object", "<init>", "()V"⟩, .instanceMethod ⟨"java/lang/Object", "<init>", "()V"⟩, .code ⟨"java/lang/Object", "<init>", "()V"⟩ object_method_1_code 1 none, .classLink "Manypens$Pieces" 9 "Manypens$Longs", .instantiable "Manypens$Longs" 2, .initialized "Manypens$Longs", .methodLink "Manypens$Pieces" 11 ⟨"Manypens$Longs", "<init>", "(I)V"⟩, .instanceMethod ⟨"Manypens$Longs", "<init>", "(I)V"⟩, .fieldLink "Manypens$Pieces" 14 "Manypens$Pieces" "firsts" "LManypens$Longs;", .fieldLink "Manypens$Pieces" 20 "Manypens$Pieces" "sizes" "LManypens$Longs;", .classLink "Manypens$Pieces" 23 "Manypens$Ints", .instantiable "Manypens$Ints" 2, .initialized "Manypens$Ints", .methodLink "Manypens$Pieces" 25 ⟨"Manypens$Ints", "<init>", "(I)V"⟩, .instanceMethod ⟨"Manypens$Ints", "<init>", "(I)V"⟩, .fieldLink "Manypens$Pieces" 26 "Manypens$Pieces" "makers" "LManypens$Ints;", .fieldLink "Manypens$Pieces" 30 "Manypens$Pieces" "takers" "LManypens$Longs;", .fieldLink "Manypens$Pieces" 33 "Manypens$Pieces" "sorted" "LManypens$Ints;", .fieldLink "Manypens$Pieces" 36 "Manypens$Pieces" "starts" "LManypens$Longs;", .methodLink "Manypens$Pieces" 39 ⟨"Manypens$Pieces", "add", "(JJI)V"⟩, .instanceMethod ⟨"Manypens$Pieces", "add", "(JJI)V"⟩, .selects "Manypens$Pieces" ⟨"Manypens$Pieces", "add", "(JJI)V"⟩ ⟨"Manypens$Pieces", "add", "(JJI)V"⟩, .initialized "Manypens$Pieces"])
noncomputable def si_91 : sy_Inf := (⟨"Manypens$Pieces", "add", "(JJI)V"⟩, prog_8_method_3_code, 6, none, [], "", [.fieldLink "Manypens$Pieces" 33 "Manypens$Pieces" "sorted" "LManypens$Ints;", .fieldLink "Manypens$Pieces" 26 "Manypens$Pieces" "makers" "LManypens$Ints;", .methodLink "Manypens$Pieces" 43 ⟨"Manypens$Ints", "size", "()I"⟩, .instanceMethod ⟨"Manypens$Ints", "size", "()I"⟩, .selects "Manypens$Ints" ⟨"Manypens$Ints", "size", "()I"⟩ ⟨"Manypens$Ints", "size", "()I"⟩, .initialized "Manypens$Ints", .methodLink "Manypens$Pieces" 47 ⟨"Manypens$Ints", "add", "(I)V"⟩, .instanceMethod ⟨"Manypens$Ints", "add", "(I)V"⟩, .selects "Manypens$Ints" ⟨"Manypens$Ints", "add", "(I)V"⟩ ⟨"Manypens$Ints", "add", "(I)V"⟩, .fieldLink "Manypens$Pieces" 36 "Manypens$Pieces" "starts" "LManypens$Longs;", .methodLink "Manypens$Pieces" 49 ⟨"Manypens$Longs", "add", "(J)V"⟩, .instanceMethod ⟨"Manypens$Longs", "add", "(J)V"⟩, .selects "Manypens$Longs" ⟨"Manypens$Longs", "add", "(J)V"⟩ ⟨"Manypens$Longs", "add", "(J)V"⟩, .initialized "Manypens$Longs", .fieldLink "Manypens$Pieces" 14 "Manypens$Pieces" "firsts" "LManypens$Longs;", .fieldLink "Manypens$Pieces" 20 "Manypens$Pieces" "sizes" "LManypens$Longs;", .fieldLink "Manypens$Pieces" 30 "Manypens$Pieces" "takers" "LManypens$Longs;", .methodLink "Manypens$Pieces" 52 ⟨"Manypens$Longs", "widen", "(I)V"⟩, .instanceMethod ⟨"Manypens$Longs", "widen", "(I)V"⟩, .selects "Manypens$Longs" ⟨"Manypens$Longs", "widen", "(I)V"⟩ ⟨"Manypens$Longs", "widen", "(I)V"⟩])
noncomputable def si_92 : sy_Inf := (⟨"Manypens$Pieces", "size", "()I"⟩, prog_8_method_2_code, 1, (some .int), [], "", [.fieldLink "Manypens$Pieces" 33 "Manypens$Pieces" "sorted" "LManypens$Ints;", .methodLink "Manypens$Pieces" 43 ⟨"Manypens$Ints", "size", "()I"⟩, .instanceMethod ⟨"Manypens$Ints", "size", "()I"⟩, .selects "Manypens$Ints" ⟨"Manypens$Ints", "size", "()I"⟩ ⟨"Manypens$Ints", "size", "()I"⟩, .initialized "Manypens$Ints"])
noncomputable def si_93 : sy_Inf := (⟨"Manypens$Row", "<init>", "(LManypens$Book;)V"⟩, prog_9_method_1_code, 2, none, [], "Manypens", [.methodLink "Manypens$Row" 3 ⟨"java/lang/Object", "<init>", "()V"⟩, .instanceMethod ⟨"java/lang/Object", "<init>", "()V"⟩, .code ⟨"java/lang/Object", "<init>", "()V"⟩ object_method_1_code 1 none, .fieldLink "Manypens$Row" 9 "Manypens$Row" "book" "LManypens$Book;", .fieldLinkNest "Manypens$Row" 15 "Manypens$Book" "pieces" "LManypens$Pieces;" "Manypens", .fieldLink "Manypens$Row" 21 "Manypens$Row" "pieces" "LManypens$Pieces;", .classLink "Manypens$Row" 22 "Manypens$Ints", .instantiable "Manypens$Ints" 2, .initialized "Manypens$Ints", .methodLink "Manypens$Row" 24 ⟨"Manypens$Ints", "<init>", "(I)V"⟩, .instanceMethod ⟨"Manypens$Ints", "<init>", "(I)V"⟩, .fieldLink "Manypens$Row" 27 "Manypens$Row" "next" "LManypens$Ints;", .classLink "Manypens$Row" 31 "Manypens$Longs", .instantiable "Manypens$Longs" 2, .initialized "Manypens$Longs", .methodLink "Manypens$Row" 33 ⟨"Manypens$Longs", "<init>", "(I)V"⟩, .instanceMethod ⟨"Manypens$Longs", "<init>", "(I)V"⟩, .fieldLink "Manypens$Row" 34 "Manypens$Row" "ahead" "LManypens$Longs;", .methodLink "Manypens$Row" 38 ⟨"Manypens$Ints", "widen", "(I)V"⟩, .instanceMethod ⟨"Manypens$Ints", "widen", "(I)V"⟩, .selects "Manypens$Ints" ⟨"Manypens$Ints", "widen", "(I)V"⟩ ⟨"Manypens$Ints", "widen", "(I)V"⟩, .methodLink "Manypens$Row" 41 ⟨"Manypens$Longs", "widen", "(I)V"⟩, .instanceMethod ⟨"Manypens$Longs", "widen", "(I)V"⟩, .selects "Manypens$Longs" ⟨"Manypens$Longs", "widen", "(I)V"⟩ ⟨"Manypens$Longs", "widen", "(I)V"⟩])
noncomputable def si_94 : sy_Inf := (⟨"Manypens$Row", "gatherBase", "(LManypens$Ints;)V"⟩, prog_9_method_5_code, 4, none, [], "Manypens", [.methodLink "Manypens$Row" 86 ⟨"Manypens$Ints", "clear", "()V"⟩, .instanceMethod ⟨"Manypens$Ints", "clear", "()V"⟩, .selects "Manypens$Ints" ⟨"Manypens$Ints", "clear", "()V"⟩ ⟨"Manypens$Ints", "clear", "()V"⟩, .initialized "Manypens$Ints", .fieldLink "Manypens$Row" 27 "Manypens$Row" "next" "LManypens$Ints;", .methodLink "Manypens$Row" 55 ⟨"Manypens$Ints", "at", "(I)I"⟩, .instanceMethod ⟨"Manypens$Ints", "at", "(I)I"⟩, .selects "Manypens$Ints" ⟨"Manypens$Ints", "at", "(I)I"⟩ ⟨"Manypens$Ints", "at", "(I)I"⟩, .fieldLink "Manypens$Row" 79 "Manypens$Row" "links" "I"])
noncomputable def si_95 : sy_Inf := (⟨"Manypens$Row", "lay", "(LManypens$Ints;)V"⟩, prog_9_method_6_code, 4, none, [], "Manypens", [.fieldLink "Manypens$Row" 27 "Manypens$Row" "next" "LManypens$Ints;", .fieldLink "Manypens$Row" 21 "Manypens$Row" "pieces" "LManypens$Pieces;", .methodLink "Manypens$Row" 100 ⟨"Manypens$Pieces", "size", "()I"⟩, .instanceMethod ⟨"Manypens$Pieces", "size", "()I"⟩, .selects "Manypens$Pieces" ⟨"Manypens$Pieces", "size", "()I"⟩ ⟨"Manypens$Pieces", "size", "()I"⟩, .initialized "Manypens$Pieces", .methodLink "Manypens$Row" 38 ⟨"Manypens$Ints", "widen", "(I)V"⟩, .instanceMethod ⟨"Manypens$Ints", "widen", "(I)V"⟩, .selects "Manypens$Ints" ⟨"Manypens$Ints", "widen", "(I)V"⟩ ⟨"Manypens$Ints", "widen", "(I)V"⟩, .initialized "Manypens$Ints", .methodLink "Manypens$Row" 103 ⟨"Manypens$Ints", "size", "()I"⟩, .instanceMethod ⟨"Manypens$Ints", "size", "()I"⟩, .selects "Manypens$Ints" ⟨"Manypens$Ints", "size", "()I"⟩ ⟨"Manypens$Ints", "size", "()I"⟩, .fieldLink "Manypens$Row" 79 "Manypens$Row" "links" "I", .fieldLink "Manypens$Row" 42 "Manypens$Row" "size" "J", .methodLink "Manypens$Row" 72 ⟨"Manypens$Ints", "set", "(II)V"⟩, .instanceMethod ⟨"Manypens$Ints", "set", "(II)V"⟩, .selects "Manypens$Ints" ⟨"Manypens$Ints", "set", "(II)V"⟩ ⟨"Manypens$Ints", "set", "(II)V"⟩, .methodLink "Manypens$Row" 104 ⟨"Manypens$Row", "number", "()V"⟩, .instanceMethod ⟨"Manypens$Row", "number", "()V"⟩, .selects "Manypens$Row" ⟨"Manypens$Row", "number", "()V"⟩ ⟨"Manypens$Row", "number", "()V"⟩, .initialized "Manypens$Row"])
noncomputable def si_96 : sy_Inf := (⟨"Manypens$Row", "number", "()V"⟩, prog_9_method_8_code, 5, none, [], "Manypens", [.fieldLink "Manypens$Row" 34 "Manypens$Row" "ahead" "LManypens$Longs;", .fieldLink "Manypens$Row" 21 "Manypens$Row" "pieces" "LManypens$Pieces;", .methodLink "Manypens$Row" 100 ⟨"Manypens$Pieces", "size", "()I"⟩, .instanceMethod ⟨"Manypens$Pieces", "size", "()I"⟩, .selects "Manypens$Pieces" ⟨"Manypens$Pieces", "size", "()I"⟩ ⟨"Manypens$Pieces", "size", "()I"⟩, .initialized "Manypens$Pieces", .methodLink "Manypens$Row" 41 ⟨"Manypens$Longs", "widen", "(I)V"⟩, .instanceMethod ⟨"Manypens$Longs", "widen", "(I)V"⟩, .selects "Manypens$Longs" ⟨"Manypens$Longs", "widen", "(I)V"⟩ ⟨"Manypens$Longs", "widen", "(I)V"⟩, .initialized "Manypens$Longs", .fieldLink "Manypens$Row" 27 "Manypens$Row" "next" "LManypens$Ints;", .methodLink "Manypens$Row" 55 ⟨"Manypens$Ints", "at", "(I)I"⟩, .instanceMethod ⟨"Manypens$Ints", "at", "(I)I"⟩, .selects "Manypens$Ints" ⟨"Manypens$Ints", "at", "(I)I"⟩ ⟨"Manypens$Ints", "at", "(I)I"⟩, .initialized "Manypens$Ints", .fieldLink "Manypens$Row" 79 "Manypens$Row" "links" "I", .fieldLink "Manypens$Row" 83 "Manypens$Row" "changes" "I"])
noncomputable def si_97 : sy_Inf := (⟨"Manypens$Row", "size", "()J"⟩, prog_9_method_2_code, 1, (some .long), [], "Manypens", [.fieldLink "Manypens$Row" 42 "Manypens$Row" "size" "J"])
noncomputable def si_98 : sy_Inf := (⟨"Manypens$Signs", "<init>", "()V"⟩, prog_10_method_1_code, 1, none, [], "", [.methodLink "Manypens$Signs" 3 ⟨"java/lang/Object", "<init>", "()V"⟩, .instanceMethod ⟨"java/lang/Object", "<init>", "()V"⟩, .code ⟨"java/lang/Object", "<init>", "()V"⟩ object_method_1_code 1 none, .classLink "Manypens$Signs" 9 "Manypens$Ints", .instantiable "Manypens$Ints" 2, .initialized "Manypens$Ints", .methodLink "Manypens$Signs" 11 ⟨"Manypens$Ints", "<init>", "(I)V"⟩, .instanceMethod ⟨"Manypens$Ints", "<init>", "(I)V"⟩, .fieldLink "Manypens$Signs" 14 "Manypens$Signs" "written" "LManypens$Ints;", .classLink "Manypens$Signs" 20 "Manypens$Longs", .instantiable "Manypens$Longs" 2, .initialized "Manypens$Longs", .methodLink "Manypens$Signs" 22 ⟨"Manypens$Longs", "<init>", "(I)V"⟩, .instanceMethod ⟨"Manypens$Longs", "<init>", "(I)V"⟩, .fieldLink "Manypens$Signs" 23 "Manypens$Signs" "starts" "LManypens$Longs;", .fieldLink "Manypens$Signs" 27 "Manypens$Signs" "sources" "LManypens$Longs;", .fieldLink "Manypens$Signs" 30 "Manypens$Signs" "shifts" "LManypens$Longs;"])
noncomputable def si_99 : sy_Inf := (⟨"Manypens$View", "<init>", "(LManypens$Book;LManypens$Row;)V"⟩, prog_11_method_1_code, 3, none, [], "Manypens", [.methodLink "Manypens$View" 3 ⟨"java/lang/Object", "<init>", "()V"⟩, .instanceMethod ⟨"java/lang/Object", "<init>", "()V"⟩, .code ⟨"java/lang/Object", "<init>", "()V"⟩ object_method_1_code 1 none, .fieldLink "Manypens$View" 9 "Manypens$View" "book" "LManypens$Book;", .fieldLink "Manypens$View" 15 "Manypens$View" "row" "LManypens$Row;", .arrayClass .long, .fieldLink "Manypens$View" 19 "Manypens$View" "inForce" "[J", .arrayClass .int, .fieldLink "Manypens$View" 23 "Manypens$View" "isOff" "[I", .classLink "Manypens$View" 27 "Manypens$Ints", .instantiable "Manypens$Ints" 2, .initialized "Manypens$Ints", .methodLink "Manypens$View" 29 ⟨"Manypens$Ints", "<init>", "(I)V"⟩, .instanceMethod ⟨"Manypens$Ints", "<init>", "(I)V"⟩, .fieldLink "Manypens$View" 32 "Manypens$View" "text" "LManypens$Ints;", .classLink "Manypens$View" 36 "Manypens$Longs", .instantiable "Manypens$Longs" 2, .initialized "Manypens$Longs", .methodLink "Manypens$View" 38 ⟨"Manypens$Longs", "<init>", "(I)V"⟩, .instanceMethod ⟨"Manypens$Longs", "<init>", "(I)V"⟩, .fieldLink "Manypens$View" 39 "Manypens$View" "places" "LManypens$Longs;", .fieldLink "Manypens$View" 43 "Manypens$View" "aheads" "LManypens$Longs;", .fieldLink "Manypens$View" 46 "Manypens$View" "marks" "LManypens$Ints;", .fieldLink "Manypens$View" 49 "Manypens$View" "hung" "LManypens$Ints;", .fieldLink "Manypens$View" 52 "Manypens$View" "firsts" "LManypens$Ints;", .fieldLink "Manypens$View" 55 "Manypens$View" "ends" "LManypens$Ints;"])
noncomputable def si_100 : sy_Inf := (⟨"Manypens$View", "dress", "()V"⟩, prog_11_method_18_code, 3, none, [], "Manypens", [.fieldLink "Manypens$View" 46 "Manypens$View" "marks" "LManypens$Ints;", .methodLink "Manypens$View" 143 ⟨"Manypens$Ints", "clear", "()V"⟩, .instanceMethod ⟨"Manypens$Ints", "clear", "()V"⟩, .selects "Manypens$Ints" ⟨"Manypens$Ints", "clear", "()V"⟩ ⟨"Manypens$Ints", "clear", "()V"⟩, .initialized "Manypens$Ints", .fieldLink "Manypens$View" 32 "Manypens$View" "text" "LManypens$Ints;", .methodLink "Manypens$View" 69 ⟨"Manypens$Ints", "size", "()I"⟩, .instanceMethod ⟨"Manypens$Ints", "size", "()I"⟩, .selects "Manypens$Ints" ⟨"Manypens$Ints", "size", "()I"⟩ ⟨"Manypens$Ints", "size", "()I"⟩, .methodLink "Manypens$View" 183 ⟨"Manypens$Ints", "widen", "(I)V"⟩, .instanceMethod ⟨"Manypens$Ints", "widen", "(I)V"⟩, .selects "Manypens$Ints" ⟨"Manypens$Ints", "widen", "(I)V"⟩ ⟨"Manypens$Ints", "widen", "(I)V"⟩, .fieldLink "Manypens$View" 9 "Manypens$View" "book" "LManypens$Book;", .fieldLinkNest "Manypens$View" 186 "Manypens$Book" "marks" "LManypens$Ints;" "Manypens", .fieldLink "Manypens$View" 49 "Manypens$View" "hung" "LManypens$Ints;", .fieldLink "Manypens$View" 52 "Manypens$View" "firsts" "LManypens$Ints;", .fieldLink "Manypens$View" 55 "Manypens$View" "ends" "LManypens$Ints;", .fieldLinkNest "Manypens$View" 201 "Manypens$Book" "comments" "LManypens$Ints;" "Manypens"])
noncomputable def si_101 : sy_Inf := (⟨"Manypens$View", "gather", "([I)V"⟩, prog_11_method_17_code, 5, none, [], "Manypens", [.fieldLink "Manypens$View" 32 "Manypens$View" "text" "LManypens$Ints;", .methodLink "Manypens$View" 143 ⟨"Manypens$Ints", "clear", "()V"⟩, .instanceMethod ⟨"Manypens$Ints", "clear", "()V"⟩, .selects "Manypens$Ints" ⟨"Manypens$Ints", "clear", "()V"⟩ ⟨"Manypens$Ints", "clear", "()V"⟩, .initialized "Manypens$Ints", .fieldLink "Manypens$View" 39 "Manypens$View" "places" "LManypens$Longs;", .methodLink "Manypens$View" 146 ⟨"Manypens$Longs", "clear", "()V"⟩, .instanceMethod ⟨"Manypens$Longs", "clear", "()V"⟩, .selects "Manypens$Longs" ⟨"Manypens$Longs", "clear", "()V"⟩ ⟨"Manypens$Longs", "clear", "()V"⟩, .initialized "Manypens$Longs", .fieldLink "Manypens$View" 43 "Manypens$View" "aheads" "LManypens$Longs;", .fieldLink "Manypens$View" 58 "Manypens$View" "size" "J", .fieldLink "Manypens$View" 147 "Manypens$View" "kept" "J", .fieldLink "Manypens$View" 15 "Manypens$View" "row" "LManypens$Row;", .fieldLinkNest "Manypens$View" 150 "Manypens$Row" "next" "LManypens$Ints;" "Manypens", .methodLink "Manypens$View" 72 ⟨"Manypens$Ints", "at", "(I)I"⟩, .instanceMethod ⟨"Manypens$Ints", "at", "(I)I"⟩, .selects "Manypens$Ints" ⟨"Manypens$Ints", "at", "(I)I"⟩ ⟨"Manypens$Ints", "at", "(I)I"⟩, .fieldLinkNest "Manypens$View" 153 "Manypens$Row" "links" "I" "Manypens"])
noncomputable def si_102 : sy_Inf := (⟨"Manypens$View", "isOld", "()Z"⟩, prog_11_method_3_code, 1, (some .boolean), [], "Manypens", [.fieldLink "Manypens$View" 62 "Manypens$View" "changes" "I", .fieldLink "Manypens$View" 15 "Manypens$View" "row" "LManypens$Row;", .fieldLinkNest "Manypens$View" 66 "Manypens$Row" "changes" "I" "Manypens"])
noncomputable def si_103 : sy_Inf := (⟨"Manypens$View", "isSame", "(LManypens$View;)Z"⟩, prog_11_method_28_code, 2, (some .boolean), [], "Manypens", [.fieldLink "Manypens$View" 32 "Manypens$View" "text" "LManypens$Ints;", .methodLink "Manypens$View" 261 ⟨"Manypens$Ints", "isEqual", "(LManypens$Ints;)Z"⟩, .instanceMethod ⟨"Manypens$Ints", "isEqual", "(LManypens$Ints;)Z"⟩, .selects "Manypens$Ints" ⟨"Manypens$Ints", "isEqual", "(LManypens$Ints;)Z"⟩ ⟨"Manypens$Ints", "isEqual", "(LManypens$Ints;)Z"⟩, .initialized "Manypens$Ints", .fieldLink "Manypens$View" 46 "Manypens$View" "marks" "LManypens$Ints;", .fieldLink "Manypens$View" 49 "Manypens$View" "hung" "LManypens$Ints;", .fieldLink "Manypens$View" 52 "Manypens$View" "firsts" "LManypens$Ints;", .fieldLink "Manypens$View" 55 "Manypens$View" "ends" "LManypens$Ints;"])
noncomputable def si_104 : sy_Inf := (⟨"Manypens$View", "judge", "(II)V"⟩, prog_11_method_14_code, 5, none, [], "Manypens", [.fieldLink "Manypens$View" 23 "Manypens$View" "isOff" "[I", .methodLink "Manypens$View" 122 ⟨"java/util/Arrays", "fill", "([II)V"⟩, .static ⟨"java/util/Arrays", "fill", "([II)V"⟩, .initialized "java/util/Arrays"])
noncomputable def si_105 : sy_Inf := (⟨"Manypens$View", "letterAhead", "(J)J"⟩, prog_11_method_12_code, 3, (some .long), [], "Manypens", [.methodLink "Manypens$View" 104 ⟨"Manypens$View", "letterAt", "(J)J"⟩, .instanceMethod ⟨"Manypens$View", "letterAt", "(J)J"⟩, .selects "Manypens$View" ⟨"Manypens$View", "letterAt", "(J)J"⟩ ⟨"Manypens$View", "letterAt", "(J)J"⟩, .initialized "Manypens$View"])
noncomputable def si_106 : sy_Inf := (⟨"Manypens$View", "letterAt", "(J)J"⟩, prog_11_method_11_code, 4, (some .long), [], "Manypens", [])
noncomputable def si_107 : sy_Inf := (⟨"Manypens$View", "manyInCommon", "(LManypens$View;)J"⟩, prog_11_method_27_code, 6, (some .long), [], "Manypens", [.fieldLink "Manypens$View" 32 "Manypens$View" "text" "LManypens$Ints;", .methodLink "Manypens$View" 69 ⟨"Manypens$Ints", "size", "()I"⟩, .instanceMethod ⟨"Manypens$Ints", "size", "()I"⟩, .selects "Manypens$Ints" ⟨"Manypens$Ints", "size", "()I"⟩ ⟨"Manypens$Ints", "size", "()I"⟩, .initialized "Manypens$Ints"])
noncomputable def si_108 : sy_Inf := (⟨"Manypens$View", "pieces", "()I"⟩, prog_11_method_4_code, 1, (some .int), [], "Manypens", [.fieldLink "Manypens$View" 32 "Manypens$View" "text" "LManypens$Ints;", .methodLink "Manypens$View" 69 ⟨"Manypens$Ints", "size", "()I"⟩, .instanceMethod ⟨"Manypens$Ints", "size", "()I"⟩, .selects "Manypens$Ints" ⟨"Manypens$Ints", "size", "()I"⟩ ⟨"Manypens$Ints", "size", "()I"⟩, .initialized "Manypens$Ints"])
noncomputable def si_109 : sy_Inf := (⟨"Manypens$View", "placeBehind", "(J)J"⟩, prog_11_method_22_code, 6, (some .long), [], "Manypens", [])
noncomputable def si_110 : sy_Inf := (⟨"Manypens$View", "see", "([I)V"⟩, prog_11_method_13_code, 3, none, [], "Manypens", [.fieldLink "Manypens$View" 19 "Manypens$View" "inForce" "[J", .methodLink "Manypens$View" 108 ⟨"java/util/Arrays", "fill", "([JJ)V"⟩, .static ⟨"java/util/Arrays", "fill", "([JJ)V"⟩, .initialized "java/util/Arrays", .methodLink "Manypens$View" 114 ⟨"Manypens$View", "judge", "(II)V"⟩, .instanceMethod ⟨"Manypens$View", "judge", "(II)V"⟩, .selects "Manypens$View" ⟨"Manypens$View", "judge", "(II)V"⟩ ⟨"Manypens$View", "judge", "(II)V"⟩, .initialized "Manypens$View", .methodLink "Manypens$View" 118 ⟨"Manypens$View", "gather", "([I)V"⟩, .instanceMethod ⟨"Manypens$View", "gather", "([I)V"⟩, .selects "Manypens$View" ⟨"Manypens$View", "gather", "([I)V"⟩ ⟨"Manypens$View", "gather", "([I)V"⟩, .fieldLink "Manypens$View" 15 "Manypens$View" "row" "LManypens$Row;", .fieldLinkNest "Manypens$View" 66 "Manypens$Row" "changes" "I" "Manypens", .fieldLink "Manypens$View" 62 "Manypens$View" "changes" "I"])
noncomputable def si_111 : sy_Inf := (⟨"Manypens$View", "settle", "(LManypens$Edit;)V"⟩, prog_11_method_25_code, 2, none, [], "Manypens", [.fieldLinkNest "Manypens$View" 207 "Manypens$Edit" "mark" "I" "Manypens", .fieldLinkNest "Manypens$View" 248 "Manypens$Edit" "isComment" "Z" "Manypens"])
noncomputable def si_112 : sy_Inf := (⟨"Manypens$View", "size", "()J"⟩, prog_11_method_2_code, 1, (some .long), [], "Manypens", [.fieldLink "Manypens$View" 58 "Manypens$View" "size" "J"])
noncomputable def si_113 : sy_Inf := (⟨"ManypensLaw", "birth", "(LManypens;II[J)I"⟩, method_18_code, 5, (some .int), [(0, 10, 13, 21), (0, 10, 17, 23)], "", [.methodLink "ManypensLaw" 72 ⟨"Manypens", "birth", "(II)I"⟩, .instanceMethod ⟨"Manypens", "birth", "(II)I"⟩, .selects "Manypens" ⟨"Manypens", "birth", "(II)I"⟩ ⟨"Manypens", "birth", "(II)I"⟩, .initialized "Manypens", .classLink "ManypensLaw" 21 "java/lang/IndexOutOfBoundsException", .classLink "ManypensLaw" 23 "java/util/NoSuchElementException"])
noncomputable def si_114 : sy_Inf := (⟨"ManypensLaw", "close", "(LManypens;I[J)I"⟩, method_12_code, 4, (some .int), [(0, 9, 12, 21), (0, 9, 15, 15)], "", [.methodLink "ManypensLaw" 52 ⟨"Manypens", "close", "(I)I"⟩, .instanceMethod ⟨"Manypens", "close", "(I)I"⟩, .selects "Manypens" ⟨"Manypens", "close", "(I)I"⟩ ⟨"Manypens", "close", "(I)I"⟩, .initialized "Manypens", .classLink "ManypensLaw" 21 "java/lang/IndexOutOfBoundsException", .classLink "ManypensLaw" 15 "java/lang/IllegalStateException"])
noncomputable def si_115 : sy_Inf := (⟨"ManypensLaw", "comment", "(LManypens;IIII[J)I"⟩, method_9_code, 7, (some .int), [(0, 14, 17, 21), (0, 14, 21, 23), (0, 14, 25, 15)], "", [.methodLink "ManypensLaw" 42 ⟨"Manypens", "comment", "(IIII)I"⟩, .instanceMethod ⟨"Manypens", "comment", "(IIII)I"⟩, .selects "Manypens" ⟨"Manypens", "comment", "(IIII)I"⟩ ⟨"Manypens", "comment", "(IIII)I"⟩, .initialized "Manypens", .classLink "ManypensLaw" 21 "java/lang/IndexOutOfBoundsException", .classLink "ManypensLaw" 23 "java/util/NoSuchElementException", .classLink "ManypensLaw" 15 "java/lang/IllegalStateException"])
noncomputable def si_116 : sy_Inf := (⟨"ManypensLaw", "commentAt", "(LManypens;IIC[J)I"⟩, method_22_code, 6, (some .int), [(0, 12, 15, 21), (0, 12, 19, 23), (0, 12, 23, 13)], "", [.methodLink "ManypensLaw" 85 ⟨"Manypens", "commentAt", "(IIC)I"⟩, .instanceMethod ⟨"Manypens", "commentAt", "(IIC)I"⟩, .selects "Manypens" ⟨"Manypens", "commentAt", "(IIC)I"⟩ ⟨"Manypens", "commentAt", "(IIC)I"⟩, .initialized "Manypens", .classLink "ManypensLaw" 21 "java/lang/IndexOutOfBoundsException", .classLink "ManypensLaw" 23 "java/util/NoSuchElementException", .classLink "ManypensLaw" 13 "java/lang/IllegalArgumentException"])
noncomputable def si_117 : sy_Inf := (⟨"ManypensLaw", "comments", "(LManypens;I[J)I"⟩, method_21_code, 4, (some .int), [(0, 9, 12, 21)], "", [.methodLink "ManypensLaw" 82 ⟨"Manypens", "comments", "(I)I"⟩, .instanceMethod ⟨"Manypens", "comments", "(I)I"⟩, .selects "Manypens" ⟨"Manypens", "comments", "(I)I"⟩ ⟨"Manypens", "comments", "(I)I"⟩, .initialized "Manypens", .classLink "ManypensLaw" 21 "java/lang/IndexOutOfBoundsException"])
noncomputable def si_118 : sy_Inf := (⟨"ManypensLaw", "cursor", "(LManypens;I[J)I"⟩, method_24_code, 4, (some .int), [(0, 9, 12, 21)], "", [.methodLink "ManypensLaw" 92 ⟨"Manypens", "cursor", "(I)I"⟩, .instanceMethod ⟨"Manypens", "cursor", "(I)I"⟩, .selects "Manypens" ⟨"Manypens", "cursor", "(I)I"⟩ ⟨"Manypens", "cursor", "(I)I"⟩, .initialized "Manypens", .classLink "ManypensLaw" 21 "java/lang/IndexOutOfBoundsException"])
noncomputable def si_119 : sy_Inf := (⟨"ManypensLaw", "deliver", "(LManypens;II[J)I"⟩, method_27_code, 5, (some .int), [(0, 10, 13, 21), (0, 10, 17, 23)], "", [.methodLink "ManypensLaw" 101 ⟨"Manypens", "deliver", "(II)C"⟩, .instanceMethod ⟨"Manypens", "deliver", "(II)C"⟩, .selects "Manypens" ⟨"Manypens", "deliver", "(II)C"⟩ ⟨"Manypens", "deliver", "(II)C"⟩, .initialized "Manypens", .classLink "ManypensLaw" 21 "java/lang/IndexOutOfBoundsException", .classLink "ManypensLaw" 23 "java/util/NoSuchElementException"])
noncomputable def si_120 : sy_Inf := (⟨"ManypensLaw", "differ", "(LManypens;II[J)I"⟩, method_38_code, 5, (some .int), [(0, 10, 13, 21)], "", [.methodLink "ManypensLaw" 135 ⟨"Manypens", "differ", "(II)I"⟩, .instanceMethod ⟨"Manypens", "differ", "(II)I"⟩, .selects "Manypens" ⟨"Manypens", "differ", "(II)I"⟩ ⟨"Manypens", "differ", "(II)I"⟩, .initialized "Manypens", .classLink "ManypensLaw" 21 "java/lang/IndexOutOfBoundsException"])
noncomputable def si_121 : sy_Inf := (⟨"ManypensLaw", "forget", "(LManypens;[J)I"⟩, method_40_code, 3, (some .int), [(0, 8, 11, 15)], "", [.methodLink "ManypensLaw" 142 ⟨"Manypens", "forget", "()I"⟩, .instanceMethod ⟨"Manypens", "forget", "()I"⟩, .selects "Manypens" ⟨"Manypens", "forget", "()I"⟩ ⟨"Manypens", "forget", "()I"⟩, .initialized "Manypens", .classLink "ManypensLaw" 15 "java/lang/IllegalStateException"])
noncomputable def si_122 : sy_Inf := (⟨"ManypensLaw", "groups", "(LManypens;IZ[J)I"⟩, method_15_code, 5, (some .int), [(0, 10, 13, 21)], "", [.methodLink "ManypensLaw" 61 ⟨"Manypens", "groups", "(IZ)I"⟩, .instanceMethod ⟨"Manypens", "groups", "(IZ)I"⟩, .selects "Manypens" ⟨"Manypens", "groups", "(IZ)I"⟩ ⟨"Manypens", "groups", "(IZ)I"⟩, .initialized "Manypens", .classLink "ManypensLaw" 21 "java/lang/IndexOutOfBoundsException"])
noncomputable def si_123 : sy_Inf := (⟨"ManypensLaw", "heard", "(LManypens;II[J)I"⟩, method_33_code, 5, (some .int), [(0, 10, 13, 21)], "", [.methodLink "ManypensLaw" 119 ⟨"Manypens", "heard", "(II)I"⟩, .instanceMethod ⟨"Manypens", "heard", "(II)I"⟩, .selects "Manypens" ⟨"Manypens", "heard", "(II)I"⟩ ⟨"Manypens", "heard", "(II)I"⟩, .initialized "Manypens", .classLink "ManypensLaw" 21 "java/lang/IndexOutOfBoundsException"])
noncomputable def si_124 : sy_Inf := (⟨"ManypensLaw", "isAlike", "(LManypens;II[J)I"⟩, method_39_code, 5, (some .int), [(0, 17, 20, 21)], "", [.methodLink "ManypensLaw" 138 ⟨"Manypens", "isAlike", "(II)Z"⟩, .instanceMethod ⟨"Manypens", "isAlike", "(II)Z"⟩, .selects "Manypens" ⟨"Manypens", "isAlike", "(II)Z"⟩ ⟨"Manypens", "isAlike", "(II)Z"⟩, .initialized "Manypens", .classLink "ManypensLaw" 21 "java/lang/IndexOutOfBoundsException"])
noncomputable def si_125 : sy_Inf := (⟨"ManypensLaw", "isMarked", "(LManypens;IIC[J)I"⟩, method_19_code, 6, (some .int), [(0, 19, 22, 21), (0, 19, 26, 13), (0, 19, 30, 23)], "", [.methodLink "ManypensLaw" 75 ⟨"Manypens", "isMarked", "(IIC)Z"⟩, .instanceMethod ⟨"Manypens", "isMarked", "(IIC)Z"⟩, .selects "Manypens" ⟨"Manypens", "isMarked", "(IIC)Z"⟩ ⟨"Manypens", "isMarked", "(IIC)Z"⟩, .initialized "Manypens", .classLink "ManypensLaw" 21 "java/lang/IndexOutOfBoundsException", .classLink "ManypensLaw" 13 "java/lang/IllegalArgumentException", .classLink "ManypensLaw" 23 "java/util/NoSuchElementException"])
noncomputable def si_126 : sy_Inf := (⟨"ManypensLaw", "kept", "(LManypens;I[J)I"⟩, method_41_code, 4, (some .int), [(0, 9, 12, 21)], "", [.methodLink "ManypensLaw" 146 ⟨"Manypens", "kept", "(I)I"⟩, .instanceMethod ⟨"Manypens", "kept", "(I)I"⟩, .selects "Manypens" ⟨"Manypens", "kept", "(I)I"⟩ ⟨"Manypens", "kept", "(I)I"⟩, .initialized "Manypens", .classLink "ManypensLaw" 21 "java/lang/IndexOutOfBoundsException"])
noncomputable def si_127 : sy_Inf := (⟨"ManypensLaw", "lacks", "(LManypens;II[J)I"⟩, method_32_code, 5, (some .int), [(0, 10, 13, 21)], "", [.methodLink "ManypensLaw" 116 ⟨"Manypens", "lacks", "(II)I"⟩, .instanceMethod ⟨"Manypens", "lacks", "(II)I"⟩, .selects "Manypens" ⟨"Manypens", "lacks", "(II)I"⟩ ⟨"Manypens", "lacks", "(II)I"⟩, .initialized "Manypens", .classLink "ManypensLaw" 21 "java/lang/IndexOutOfBoundsException"])
noncomputable def si_128 : sy_Inf := (⟨"ManypensLaw", "leans", "(LManypens;III[J)I"⟩, method_34_code, 6, (some .int), [(0, 12, 15, 21), (0, 12, 19, 23)], "", [.methodLink "ManypensLaw" 122 ⟨"Manypens", "leans", "(III)I"⟩, .instanceMethod ⟨"Manypens", "leans", "(III)I"⟩, .selects "Manypens" ⟨"Manypens", "leans", "(III)I"⟩ ⟨"Manypens", "leans", "(III)I"⟩, .initialized "Manypens", .classLink "ManypensLaw" 21 "java/lang/IndexOutOfBoundsException", .classLink "ManypensLaw" 23 "java/util/NoSuchElementException"])
noncomputable def si_129 : sy_Inf := (⟨"ManypensLaw", "length", "(LManypens;I[J)I"⟩, method_16_code, 4, (some .int), [(0, 9, 12, 21)], "", [.methodLink "ManypensLaw" 65 ⟨"Manypens", "length", "(I)I"⟩, .instanceMethod ⟨"Manypens", "length", "(I)I"⟩, .selects "Manypens" ⟨"Manypens", "length", "(I)I"⟩ ⟨"Manypens", "length", "(I)I"⟩, .initialized "Manypens", .classLink "ManypensLaw" 21 "java/lang/IndexOutOfBoundsException"])
noncomputable def si_130 : sy_Inf := (⟨"ManypensLaw", "lengthThen", "(LManypens;II[J)I"⟩, method_36_code, 5, (some .int), [(0, 10, 13, 21), (0, 10, 17, 23)], "", [.methodLink "ManypensLaw" 128 ⟨"Manypens", "lengthThen", "(II)I"⟩, .instanceMethod ⟨"Manypens", "lengthThen", "(II)I"⟩, .selects "Manypens" ⟨"Manypens", "lengthThen", "(II)I"⟩ ⟨"Manypens", "lengthThen", "(II)I"⟩, .initialized "Manypens", .classLink "ManypensLaw" 21 "java/lang/IndexOutOfBoundsException", .classLink "ManypensLaw" 23 "java/util/NoSuchElementException"])
noncomputable def si_131 : sy_Inf := (⟨"ManypensLaw", "lose", "(LManypens;II[J)I"⟩, method_29_code, 5, (some .int), [(0, 10, 13, 21), (0, 10, 17, 23)], "", [.methodLink "ManypensLaw" 107 ⟨"Manypens", "lose", "(II)I"⟩, .instanceMethod ⟨"Manypens", "lose", "(II)I"⟩, .selects "Manypens" ⟨"Manypens", "lose", "(II)I"⟩ ⟨"Manypens", "lose", "(II)I"⟩, .initialized "Manypens", .classLink "ManypensLaw" 21 "java/lang/IndexOutOfBoundsException", .classLink "ManypensLaw" 23 "java/util/NoSuchElementException"])
noncomputable def si_132 : sy_Inf := (⟨"ManypensLaw", "mark", "(LManypens;IIICZZ[J)I"⟩, method_8_code, 9, (some .int), [(0, 18, 21, 21), (0, 18, 25, 13), (0, 18, 29, 23), (0, 18, 33, 15)], "", [.methodLink "ManypensLaw" 38 ⟨"Manypens", "mark", "(IIICZZ)I"⟩, .instanceMethod ⟨"Manypens", "mark", "(IIICZZ)I"⟩, .selects "Manypens" ⟨"Manypens", "mark", "(IIICZZ)I"⟩ ⟨"Manypens", "mark", "(IIICZZ)I"⟩, .initialized "Manypens", .classLink "ManypensLaw" 21 "java/lang/IndexOutOfBoundsException", .classLink "ManypensLaw" 13 "java/lang/IllegalArgumentException", .classLink "ManypensLaw" 23 "java/util/NoSuchElementException", .classLink "ManypensLaw" 15 "java/lang/IllegalStateException"])
noncomputable def si_133 : sy_Inf := (⟨"ManypensLaw", "meanTime", "(LManypens;I[D)I"⟩, method_43_code, 4, (some .int), [(0, 8, 11, 21), (0, 8, 14, 153)], "", [.methodLink "ManypensLaw" 155 ⟨"Manypens", "meanTime", "(I)D"⟩, .instanceMethod ⟨"Manypens", "meanTime", "(I)D"⟩, .selects "Manypens" ⟨"Manypens", "meanTime", "(I)D"⟩ ⟨"Manypens", "meanTime", "(I)D"⟩, .initialized "Manypens", .classLink "ManypensLaw" 21 "java/lang/IndexOutOfBoundsException", .classLink "ManypensLaw" 153 "java/lang/ArithmeticException"])
noncomputable def si_134 : sy_Inf := (⟨"ManypensLaw", "meet", "(LManypens;II[J)I"⟩, method_30_code, 5, (some .int), [(0, 10, 13, 21), (0, 10, 17, 13)], "", [.methodLink "ManypensLaw" 110 ⟨"Manypens", "meet", "(II)I"⟩, .instanceMethod ⟨"Manypens", "meet", "(II)I"⟩, .selects "Manypens" ⟨"Manypens", "meet", "(II)I"⟩ ⟨"Manypens", "meet", "(II)I"⟩, .initialized "Manypens", .classLink "ManypensLaw" 21 "java/lang/IndexOutOfBoundsException", .classLink "ManypensLaw" 13 "java/lang/IllegalArgumentException"])
noncomputable def si_135 : sy_Inf := (⟨"ManypensLaw", "move", "(LManypens;IIII[J)I"⟩, method_7_code, 7, (some .int), [(0, 14, 17, 21), (0, 14, 21, 23), (0, 14, 25, 15)], "", [.methodLink "ManypensLaw" 34 ⟨"Manypens", "move", "(IIII)I"⟩, .instanceMethod ⟨"Manypens", "move", "(IIII)I"⟩, .selects "Manypens" ⟨"Manypens", "move", "(IIII)I"⟩ ⟨"Manypens", "move", "(IIII)I"⟩, .initialized "Manypens", .classLink "ManypensLaw" 21 "java/lang/IndexOutOfBoundsException", .classLink "ManypensLaw" 23 "java/util/NoSuchElementException", .classLink "ManypensLaw" 15 "java/lang/IllegalStateException"])
noncomputable def si_136 : sy_Inf := (⟨"ManypensLaw", "onWay", "(LManypens;I[J)I"⟩, method_25_code, 4, (some .int), [(0, 9, 12, 21)], "", [.methodLink "ManypensLaw" 95 ⟨"Manypens", "onWay", "(I)I"⟩, .instanceMethod ⟨"Manypens", "onWay", "(I)I"⟩, .selects "Manypens" ⟨"Manypens", "onWay", "(I)I"⟩ ⟨"Manypens", "onWay", "(I)I"⟩, .initialized "Manypens", .classLink "ManypensLaw" 21 "java/lang/IndexOutOfBoundsException"])
noncomputable def si_137 : sy_Inf := (⟨"ManypensLaw", "open", "(LManypens;I[J)I"⟩, method_11_code, 4, (some .int), [(0, 9, 12, 21), (0, 9, 15, 15)], "", [.methodLink "ManypensLaw" 49 ⟨"Manypens", "open", "(I)I"⟩, .instanceMethod ⟨"Manypens", "open", "(I)I"⟩, .selects "Manypens" ⟨"Manypens", "open", "(I)I"⟩ ⟨"Manypens", "open", "(I)I"⟩, .initialized "Manypens", .classLink "ManypensLaw" 21 "java/lang/IndexOutOfBoundsException", .classLink "ManypensLaw" 15 "java/lang/IllegalStateException"])
noncomputable def si_138 : sy_Inf := (⟨"ManypensLaw", "othersShare", "(LManypens;I[D)I"⟩, method_42_code, 4, (some .int), [(0, 9, 12, 21), (0, 9, 15, 153)], "", [.methodLink "ManypensLaw" 149 ⟨"Manypens", "othersShare", "(I)F"⟩, .instanceMethod ⟨"Manypens", "othersShare", "(I)F"⟩, .selects "Manypens" ⟨"Manypens", "othersShare", "(I)F"⟩ ⟨"Manypens", "othersShare", "(I)F"⟩, .initialized "Manypens", .classLink "ManypensLaw" 21 "java/lang/IndexOutOfBoundsException", .classLink "ManypensLaw" 153 "java/lang/ArithmeticException"])
noncomputable def si_139 : sy_Inf := (⟨"ManypensLaw", "put", "(LManypens;II[J)I"⟩, method_4_code, 5, (some .int), [(0, 10, 13, 21), (0, 10, 17, 23), (0, 10, 21, 25), (0, 10, 25, 15)], "", [.methodLink "ManypensLaw" 17 ⟨"Manypens", "put", "(II)I"⟩, .instanceMethod ⟨"Manypens", "put", "(II)I"⟩, .selects "Manypens" ⟨"Manypens", "put", "(II)I"⟩ ⟨"Manypens", "put", "(II)I"⟩, .initialized "Manypens", .classLink "ManypensLaw" 21 "java/lang/IndexOutOfBoundsException", .classLink "ManypensLaw" 23 "java/util/NoSuchElementException", .classLink "ManypensLaw" 25 "java/lang/UnsupportedOperationException", .classLink "ManypensLaw" 15 "java/lang/IllegalStateException"])
noncomputable def si_140 : sy_Inf := (⟨"ManypensLaw", "redo", "(LManypens;I[J)I"⟩, method_14_code, 4, (some .int), [(0, 9, 12, 21), (0, 9, 15, 23), (0, 9, 18, 15)], "", [.methodLink "ManypensLaw" 58 ⟨"Manypens", "redo", "(I)I"⟩, .instanceMethod ⟨"Manypens", "redo", "(I)I"⟩, .selects "Manypens" ⟨"Manypens", "redo", "(I)I"⟩ ⟨"Manypens", "redo", "(I)I"⟩, .initialized "Manypens", .classLink "ManypensLaw" 21 "java/lang/IndexOutOfBoundsException", .classLink "ManypensLaw" 23 "java/util/NoSuchElementException", .classLink "ManypensLaw" 15 "java/lang/IllegalStateException"])
noncomputable def si_141 : sy_Inf := (⟨"ManypensLaw", "repeat", "(LManypens;II[J)I"⟩, method_28_code, 5, (some .int), [(0, 10, 13, 21), (0, 10, 17, 23), (0, 10, 21, 15)], "", [.methodLink "ManypensLaw" 104 ⟨"Manypens", "repeat", "(II)I"⟩, .instanceMethod ⟨"Manypens", "repeat", "(II)I"⟩, .selects "Manypens" ⟨"Manypens", "repeat", "(II)I"⟩ ⟨"Manypens", "repeat", "(II)I"⟩, .initialized "Manypens", .classLink "ManypensLaw" 21 "java/lang/IndexOutOfBoundsException", .classLink "ManypensLaw" 23 "java/util/NoSuchElementException", .classLink "ManypensLaw" 15 "java/lang/IllegalStateException"])
noncomputable def si_142 : sy_Inf := (⟨"ManypensLaw", "replace", "(LManypens;III[J)I"⟩, method_6_code, 6, (some .int), [(0, 12, 15, 21), (0, 12, 19, 23), (0, 12, 23, 25), (0, 12, 27, 15)], "", [.methodLink "ManypensLaw" 31 ⟨"Manypens", "replace", "(III)I"⟩, .instanceMethod ⟨"Manypens", "replace", "(III)I"⟩, .selects "Manypens" ⟨"Manypens", "replace", "(III)I"⟩ ⟨"Manypens", "replace", "(III)I"⟩, .initialized "Manypens", .classLink "ManypensLaw" 21 "java/lang/IndexOutOfBoundsException", .classLink "ManypensLaw" 23 "java/util/NoSuchElementException", .classLink "ManypensLaw" 25 "java/lang/UnsupportedOperationException", .classLink "ManypensLaw" 15 "java/lang/IllegalStateException"])
noncomputable def si_143 : sy_Inf := (⟨"ManypensLaw", "runs", "(LManypens;I[J)I"⟩, method_20_code, 4, (some .int), [(0, 9, 12, 21)], "", [.methodLink "ManypensLaw" 79 ⟨"Manypens", "runs", "(I)I"⟩, .instanceMethod ⟨"Manypens", "runs", "(I)I"⟩, .selects "Manypens" ⟨"Manypens", "runs", "(I)I"⟩ ⟨"Manypens", "runs", "(I)I"⟩, .initialized "Manypens", .classLink "ManypensLaw" 21 "java/lang/IndexOutOfBoundsException"])
noncomputable def si_144 : sy_Inf := (⟨"ManypensLaw", "setCursor", "(LManypens;II[J)I"⟩, method_23_code, 5, (some .int), [(0, 10, 13, 21), (0, 10, 17, 23)], "", [.methodLink "ManypensLaw" 89 ⟨"Manypens", "setCursor", "(II)I"⟩, .instanceMethod ⟨"Manypens", "setCursor", "(II)I"⟩, .selects "Manypens" ⟨"Manypens", "setCursor", "(II)I"⟩ ⟨"Manypens", "setCursor", "(II)I"⟩, .initialized "Manypens", .classLink "ManypensLaw" 21 "java/lang/IndexOutOfBoundsException", .classLink "ManypensLaw" 23 "java/util/NoSuchElementException"])
noncomputable def si_145 : sy_Inf := (⟨"ManypensLaw", "signAt", "(LManypens;II[J)I"⟩, method_17_code, 5, (some .int), [(0, 10, 13, 21), (0, 10, 17, 23)], "", [.methodLink "ManypensLaw" 68 ⟨"Manypens", "signAt", "(II)C"⟩, .instanceMethod ⟨"Manypens", "signAt", "(II)C"⟩, .selects "Manypens" ⟨"Manypens", "signAt", "(II)C"⟩ ⟨"Manypens", "signAt", "(II)C"⟩, .initialized "Manypens", .classLink "ManypensLaw" 21 "java/lang/IndexOutOfBoundsException", .classLink "ManypensLaw" 23 "java/util/NoSuchElementException"])
noncomputable def si_146 : sy_Inf := (⟨"ManypensLaw", "signThen", "(LManypens;III[J)I"⟩, method_37_code, 6, (some .int), [(0, 12, 15, 21), (0, 12, 19, 23)], "", [.methodLink "ManypensLaw" 131 ⟨"Manypens", "signThen", "(III)C"⟩, .instanceMethod ⟨"Manypens", "signThen", "(III)C"⟩, .selects "Manypens" ⟨"Manypens", "signThen", "(III)C"⟩ ⟨"Manypens", "signThen", "(III)C"⟩, .initialized "Manypens", .classLink "ManypensLaw" 21 "java/lang/IndexOutOfBoundsException", .classLink "ManypensLaw" 23 "java/util/NoSuchElementException"])
noncomputable def si_147 : sy_Inf := (⟨"ManypensLaw", "steps", "(LManypens;I[J)I"⟩, method_35_code, 4, (some .int), [(0, 9, 12, 21)], "", [.methodLink "ManypensLaw" 125 ⟨"Manypens", "steps", "(I)I"⟩, .instanceMethod ⟨"Manypens", "steps", "(I)I"⟩, .selects "Manypens" ⟨"Manypens", "steps", "(I)I"⟩ ⟨"Manypens", "steps", "(I)I"⟩, .initialized "Manypens", .classLink "ManypensLaw" 21 "java/lang/IndexOutOfBoundsException"])
noncomputable def si_148 : sy_Inf := (⟨"ManypensLaw", "take", "(LManypens;III[J)I"⟩, method_5_code, 6, (some .int), [(0, 12, 15, 21), (0, 12, 19, 23), (0, 12, 23, 15)], "", [.methodLink "ManypensLaw" 27 ⟨"Manypens", "take", "(III)I"⟩, .instanceMethod ⟨"Manypens", "take", "(III)I"⟩, .selects "Manypens" ⟨"Manypens", "take", "(III)I"⟩ ⟨"Manypens", "take", "(III)I"⟩, .initialized "Manypens", .classLink "ManypensLaw" 21 "java/lang/IndexOutOfBoundsException", .classLink "ManypensLaw" 23 "java/util/NoSuchElementException", .classLink "ManypensLaw" 15 "java/lang/IllegalStateException"])
noncomputable def si_149 : sy_Inf := (⟨"ManypensLaw", "type", "(LManypens;C[J)I"⟩, method_3_code, 4, (some .int), [(0, 9, 12, 13), (0, 9, 15, 15)], "", [.methodLink "ManypensLaw" 7 ⟨"Manypens", "type", "(C)I"⟩, .instanceMethod ⟨"Manypens", "type", "(C)I"⟩, .selects "Manypens" ⟨"Manypens", "type", "(C)I"⟩ ⟨"Manypens", "type", "(C)I"⟩, .initialized "Manypens", .classLink "ManypensLaw" 13 "java/lang/IllegalArgumentException", .classLink "ManypensLaw" 15 "java/lang/IllegalStateException"])
noncomputable def si_150 : sy_Inf := (⟨"ManypensLaw", "undo", "(LManypens;I[J)I"⟩, method_13_code, 4, (some .int), [(0, 9, 12, 21), (0, 9, 15, 23), (0, 9, 18, 15)], "", [.methodLink "ManypensLaw" 55 ⟨"Manypens", "undo", "(I)I"⟩, .instanceMethod ⟨"Manypens", "undo", "(I)I"⟩, .selects "Manypens" ⟨"Manypens", "undo", "(I)I"⟩ ⟨"Manypens", "undo", "(I)I"⟩, .initialized "Manypens", .classLink "ManypensLaw" 21 "java/lang/IndexOutOfBoundsException", .classLink "ManypensLaw" 23 "java/util/NoSuchElementException", .classLink "ManypensLaw" 15 "java/lang/IllegalStateException"])
noncomputable def si_151 : sy_Inf := (⟨"ManypensLaw", "waiting", "(LManypens;I[J)I"⟩, method_31_code, 4, (some .int), [(0, 9, 12, 21)], "", [.methodLink "ManypensLaw" 113 ⟨"Manypens", "waiting", "(I)I"⟩, .instanceMethod ⟨"Manypens", "waiting", "(I)I"⟩, .selects "Manypens" ⟨"Manypens", "waiting", "(I)I"⟩ ⟨"Manypens", "waiting", "(I)I"⟩, .initialized "Manypens", .classLink "ManypensLaw" 21 "java/lang/IndexOutOfBoundsException"])
noncomputable def si_152 : sy_Inf := (⟨"ManypensLaw", "wayAt", "(LManypens;II[J)I"⟩, method_26_code, 5, (some .int), [(0, 10, 13, 21), (0, 10, 17, 23)], "", [.methodLink "ManypensLaw" 98 ⟨"Manypens", "wayAt", "(II)I"⟩, .instanceMethod ⟨"Manypens", "wayAt", "(II)I"⟩, .selects "Manypens" ⟨"Manypens", "wayAt", "(II)I"⟩ ⟨"Manypens", "wayAt", "(II)I"⟩, .initialized "Manypens", .classLink "ManypensLaw" 21 "java/lang/IndexOutOfBoundsException", .classLink "ManypensLaw" 23 "java/util/NoSuchElementException"])
noncomputable def si_153 : sy_Inf := (⟨"ManypensLaw", "write", "(LManypens;I[J)I"⟩, method_10_code, 4, (some .int), [(0, 9, 12, 21), (0, 9, 15, 25), (0, 9, 18, 15)], "", [.methodLink "ManypensLaw" 45 ⟨"Manypens", "write", "(I)I"⟩, .instanceMethod ⟨"Manypens", "write", "(I)I"⟩, .selects "Manypens" ⟨"Manypens", "write", "(I)I"⟩ ⟨"Manypens", "write", "(I)I"⟩, .initialized "Manypens", .classLink "ManypensLaw" 21 "java/lang/IndexOutOfBoundsException", .classLink "ManypensLaw" 25 "java/lang/UnsupportedOperationException", .classLink "ManypensLaw" 15 "java/lang/IllegalStateException"])
noncomputable def si_154 : sy_Inf := (⟨"ManypensModel", "<init>", "()V"⟩, prog_13_method_1_code, 2, none, [], "ManypensModel", [.methodLink "ManypensModel" 1 ⟨"java/lang/Object", "<init>", "()V"⟩, .instanceMethod ⟨"java/lang/Object", "<init>", "()V"⟩, .code ⟨"java/lang/Object", "<init>", "()V"⟩ object_method_1_code 1 none, .classLink "ManypensModel" 9 "ManypensModel$Hand", .fieldLink "ManypensModel" 11 "ManypensModel" "hands" "[LManypensModel$Hand;", .classLink "ManypensModel" 15 "ManypensModel$Letter", .instantiable "ManypensModel$Letter" 9, .initialized "ManypensModel$Letter", .methodLink "ManypensModel" 17 ⟨"ManypensModel$Letter", "<init>", "(LManypensModel$Edit;C)V"⟩, .instanceMethod ⟨"ManypensModel$Letter", "<init>", "(LManypensModel$Edit;C)V"⟩, .fieldLink "ManypensModel" 20 "ManypensModel" "begin" "LManypensModel$Letter;", .fieldLink "ManypensModel" 24 "ManypensModel" "row" "[LManypensModel$Letter;", .arrayClass .char, .fieldLink "ManypensModel" 28 "ManypensModel" "typed" "[C", .instantiable "ManypensModel$Hand" 18, .initialized "ManypensModel$Hand", .methodLink "ManypensModel" 32 ⟨"ManypensModel$Hand", "<init>", "(I)V"⟩, .instanceMethod ⟨"ManypensModel$Hand", "<init>", "(I)V"⟩, .fieldLinkNest "ManypensModel" 35 "ManypensModel$Hand" "cursor" "LManypensModel$Letter;" "ManypensModel"])
noncomputable def si_155 : sy_Inf := (⟨"ManypensModel", "areAlike", "(LManypensModel$Hand;LManypensModel$Hand;)Z"⟩, prog_13_method_79_code, 9, (some .boolean), [], "ManypensModel", [.methodLink "ManypensModel" 197 ⟨"ManypensModel", "textOf", "(LManypensModel$Hand;)[LManypensModel$Letter;"⟩, .instanceMethod ⟨"ManypensModel", "textOf", "(LManypensModel$Hand;)[LManypensModel$Letter;"⟩, .selects "ManypensModel" ⟨"ManypensModel", "textOf", "(LManypensModel$Hand;)[LManypensModel$Letter;"⟩ ⟨"ManypensModel", "textOf", "(LManypensModel$Hand;)[LManypensModel$Letter;"⟩, .initialized "ManypensModel", .methodLink "ManypensModel" 284 ⟨"ManypensModel", "hung", "(LManypensModel$Hand;[LManypensModel$Letter;)[LManypensModel$Edit;"⟩, .instanceMethod ⟨"ManypensModel", "hung", "(LManypensModel$Hand;[LManypensModel$Letter;)[LManypensModel$Edit;"⟩, .selects "ManypensModel" ⟨"ManypensModel", "hung", "(LManypensModel$Hand;[LManypensModel$Letter;)[LManypensModel$Edit;"⟩ ⟨"ManypensModel", "hung", "(LManypensModel$Hand;[LManypensModel$Letter;)[LManypensModel$Edit;"⟩])
noncomputable def si_156 : sy_Inf := (⟨"ManypensModel", "birth", "(II)I"⟩, prog_13_method_41_code, 4, (some .int), [], "ManypensModel", [.methodLink "ManypensModel" 261 ⟨"ManypensModel", "isNone", "(I)Z"⟩, .instanceMethod ⟨"ManypensModel", "isNone", "(I)Z"⟩, .selects "ManypensModel" ⟨"ManypensModel", "isNone", "(I)Z"⟩ ⟨"ManypensModel", "isNone", "(I)Z"⟩, .initialized "ManypensModel", .methodLink "ManypensModel" 264 ⟨"ManypensModel", "letter", "(III)LManypensModel$Letter;"⟩, .instanceMethod ⟨"ManypensModel", "letter", "(III)LManypensModel$Letter;"⟩, .selects "ManypensModel" ⟨"ManypensModel", "letter", "(III)LManypensModel$Letter;"⟩ ⟨"ManypensModel", "letter", "(III)LManypensModel$Letter;"⟩])
noncomputable def si_157 : sy_Inf := (⟨"ManypensModel", "checksum", "()J"⟩, prog_13_method_85_code, 11, (some .long), [], "ManypensModel", [.fieldLink "ManypensModel" 38 "ManypensModel" "thrown" "I", .constantLong "ManypensModel" 340 7, .fieldLink "ManypensModel" 11 "ManypensModel" "hands" "[LManypensModel$Hand;", .fieldLinkNest "ManypensModel" 121 "ManypensModel$Hand" "heard" "[I" "ManypensModel", .constantLong "ManypensModel" 342 31, .methodLink "ManypensModel" 197 ⟨"ManypensModel", "textOf", "(LManypensModel$Hand;)[LManypensModel$Letter;"⟩, .instanceMethod ⟨"ManypensModel", "textOf", "(LManypensModel$Hand;)[LManypensModel$Letter;"⟩, .selects "ManypensModel" ⟨"ManypensModel", "textOf", "(LManypensModel$Hand;)[LManypensModel$Letter;"⟩ ⟨"ManypensModel", "textOf", "(LManypensModel$Hand;)[LManypensModel$Letter;"⟩, .initialized "ManypensModel", .methodLink "ManypensModel" 247 ⟨"ManypensModel", "placeOf", "(LManypensModel$Hand;)I"⟩, .instanceMethod ⟨"ManypensModel", "placeOf", "(LManypensModel$Hand;)I"⟩, .selects "ManypensModel" ⟨"ManypensModel", "placeOf", "(LManypensModel$Hand;)I"⟩ ⟨"ManypensModel", "placeOf", "(LManypensModel$Hand;)I"⟩, .fieldLinkNest "ManypensModel" 156 "ManypensModel$Hand" "ways" "I" "ManypensModel", .fieldLink "ManypensModel" 129 "ManypensModel" "typedMany" "I"])
noncomputable def si_158 : sy_Inf := (⟨"ManypensModel", "close", "(I)I"⟩, prog_13_method_33_code, 4, (some .int), [], "ManypensModel", [.methodLink "ManypensModel" 201 ⟨"ManypensModel", "isHand", "(I)Z"⟩, .static ⟨"ManypensModel", "isHand", "(I)Z"⟩, .initialized "ManypensModel", .fieldLink "ManypensModel" 11 "ManypensModel" "hands" "[LManypensModel$Hand;", .fieldLinkNest "ManypensModel" 163 "ManypensModel$Hand" "isOpen" "Z" "ManypensModel", .methodLink "ManypensModel" 132 ⟨"ManypensModel", "isWrong", "(I)Z"⟩, .instanceMethod ⟨"ManypensModel", "isWrong", "(I)Z"⟩, .selects "ManypensModel" ⟨"ManypensModel", "isWrong", "(I)Z"⟩ ⟨"ManypensModel", "isWrong", "(I)Z"⟩])
noncomputable def si_159 : sy_Inf := (⟨"ManypensModel", "closes", "(LManypensModel$Hand;)V"⟩, prog_13_method_30_code, 1, none, [], "ManypensModel", [.fieldLinkNest "ManypensModel" 163 "ManypensModel$Hand" "isOpen" "Z" "ManypensModel", .fieldLinkNest "ManypensModel" 166 "ManypensModel$Hand" "open" "LManypensModel$Group;" "ManypensModel"])
noncomputable def si_160 : sy_Inf := (⟨"ManypensModel", "comment", "(IIII)I"⟩, prog_13_method_28_code, 8, (some .int), [], "ManypensModel", [.methodLink "ManypensModel" 201 ⟨"ManypensModel", "isHand", "(I)Z"⟩, .static ⟨"ManypensModel", "isHand", "(I)Z"⟩, .initialized "ManypensModel", .methodLink "ManypensModel" 132 ⟨"ManypensModel", "isWrong", "(I)Z"⟩, .instanceMethod ⟨"ManypensModel", "isWrong", "(I)Z"⟩, .selects "ManypensModel" ⟨"ManypensModel", "isWrong", "(I)Z"⟩ ⟨"ManypensModel", "isWrong", "(I)Z"⟩, .fieldLink "ManypensModel" 11 "ManypensModel" "hands" "[LManypensModel$Hand;", .methodLink "ManypensModel" 197 ⟨"ManypensModel", "textOf", "(LManypensModel$Hand;)[LManypensModel$Letter;"⟩, .instanceMethod ⟨"ManypensModel", "textOf", "(LManypensModel$Hand;)[LManypensModel$Letter;"⟩, .selects "ManypensModel" ⟨"ManypensModel", "textOf", "(LManypensModel$Hand;)[LManypensModel$Letter;"⟩ ⟨"ManypensModel", "textOf", "(LManypensModel$Hand;)[LManypensModel$Letter;"⟩, .methodLink "ManypensModel" 212 ⟨"ManypensModel", "hasLetters", "([LManypensModel$Letter;II)Z"⟩, .static ⟨"ManypensModel", "hasLetters", "([LManypensModel$Letter;II)Z"⟩])
noncomputable def si_161 : sy_Inf := (⟨"ManypensModel", "commentAt", "(IIC)I"⟩, prog_13_method_50_code, 7, (some .int), [], "ManypensModel", [.methodLink "ManypensModel" 261 ⟨"ManypensModel", "isNone", "(I)Z"⟩, .instanceMethod ⟨"ManypensModel", "isNone", "(I)Z"⟩, .selects "ManypensModel" ⟨"ManypensModel", "isNone", "(I)Z"⟩ ⟨"ManypensModel", "isNone", "(I)Z"⟩, .initialized "ManypensModel", .fieldLink "ManypensModel" 11 "ManypensModel" "hands" "[LManypensModel$Hand;", .methodLink "ManypensModel" 197 ⟨"ManypensModel", "textOf", "(LManypensModel$Hand;)[LManypensModel$Letter;"⟩, .instanceMethod ⟨"ManypensModel", "textOf", "(LManypensModel$Hand;)[LManypensModel$Letter;"⟩, .selects "ManypensModel" ⟨"ManypensModel", "textOf", "(LManypensModel$Hand;)[LManypensModel$Letter;"⟩ ⟨"ManypensModel", "textOf", "(LManypensModel$Hand;)[LManypensModel$Letter;"⟩, .methodLink "ManypensModel" 284 ⟨"ManypensModel", "hung", "(LManypensModel$Hand;[LManypensModel$Letter;)[LManypensModel$Edit;"⟩, .instanceMethod ⟨"ManypensModel", "hung", "(LManypensModel$Hand;[LManypensModel$Letter;)[LManypensModel$Edit;"⟩, .selects "ManypensModel" ⟨"ManypensModel", "hung", "(LManypensModel$Hand;[LManypensModel$Letter;)[LManypensModel$Edit;"⟩ ⟨"ManypensModel", "hung", "(LManypensModel$Hand;[LManypensModel$Letter;)[LManypensModel$Edit;"⟩, .methodLink "ManypensModel" 42 ⟨"ManypensModel", "isBetween", "(III)Z"⟩, .static ⟨"ManypensModel", "isBetween", "(III)Z"⟩, .methodLink "ManypensModel" 132 ⟨"ManypensModel", "isWrong", "(I)Z"⟩, .instanceMethod ⟨"ManypensModel", "isWrong", "(I)Z"⟩, .selects "ManypensModel" ⟨"ManypensModel", "isWrong", "(I)Z"⟩ ⟨"ManypensModel", "isWrong", "(I)Z"⟩])
noncomputable def si_162 : sy_Inf := (⟨"ManypensModel", "comments", "(I)I"⟩, prog_13_method_49_code, 2, (some .int), [], "ManypensModel", [.methodLink "ManypensModel" 261 ⟨"ManypensModel", "isNone", "(I)Z"⟩, .instanceMethod ⟨"ManypensModel", "isNone", "(I)Z"⟩, .selects "ManypensModel" ⟨"ManypensModel", "isNone", "(I)Z"⟩ ⟨"ManypensModel", "isNone", "(I)Z"⟩, .initialized "ManypensModel", .fieldLink "ManypensModel" 11 "ManypensModel" "hands" "[LManypensModel$Hand;", .methodLink "ManypensModel" 197 ⟨"ManypensModel", "textOf", "(LManypensModel$Hand;)[LManypensModel$Letter;"⟩, .instanceMethod ⟨"ManypensModel", "textOf", "(LManypensModel$Hand;)[LManypensModel$Letter;"⟩, .selects "ManypensModel" ⟨"ManypensModel", "textOf", "(LManypensModel$Hand;)[LManypensModel$Letter;"⟩ ⟨"ManypensModel", "textOf", "(LManypensModel$Hand;)[LManypensModel$Letter;"⟩, .methodLink "ManypensModel" 284 ⟨"ManypensModel", "hung", "(LManypensModel$Hand;[LManypensModel$Letter;)[LManypensModel$Edit;"⟩, .instanceMethod ⟨"ManypensModel", "hung", "(LManypensModel$Hand;[LManypensModel$Letter;)[LManypensModel$Edit;"⟩, .selects "ManypensModel" ⟨"ManypensModel", "hung", "(LManypensModel$Hand;[LManypensModel$Letter;)[LManypensModel$Edit;"⟩ ⟨"ManypensModel", "hung", "(LManypensModel$Hand;[LManypensModel$Letter;)[LManypensModel$Edit;"⟩])
noncomputable def si_163 : sy_Inf := (⟨"ManypensModel", "cursor", "(I)I"⟩, prog_13_method_53_code, 2, (some .int), [], "ManypensModel", [.methodLink "ManypensModel" 261 ⟨"ManypensModel", "isNone", "(I)Z"⟩, .instanceMethod ⟨"ManypensModel", "isNone", "(I)Z"⟩, .selects "ManypensModel" ⟨"ManypensModel", "isNone", "(I)Z"⟩ ⟨"ManypensModel", "isNone", "(I)Z"⟩, .initialized "ManypensModel", .fieldLink "ManypensModel" 11 "ManypensModel" "hands" "[LManypensModel$Hand;", .methodLink "ManypensModel" 247 ⟨"ManypensModel", "placeOf", "(LManypensModel$Hand;)I"⟩, .instanceMethod ⟨"ManypensModel", "placeOf", "(LManypensModel$Hand;)I"⟩, .selects "ManypensModel" ⟨"ManypensModel", "placeOf", "(LManypensModel$Hand;)I"⟩ ⟨"ManypensModel", "placeOf", "(LManypensModel$Hand;)I"⟩])
noncomputable def si_164 : sy_Inf := (⟨"ManypensModel", "deliver", "(II)C"⟩, prog_13_method_62_code, 5, (some .char), [], "ManypensModel", [.methodLink "ManypensModel" 288 ⟨"ManypensModel", "isNoWay", "(II)Z"⟩, .instanceMethod ⟨"ManypensModel", "isNoWay", "(II)Z"⟩, .selects "ManypensModel" ⟨"ManypensModel", "isNoWay", "(II)Z"⟩ ⟨"ManypensModel", "isNoWay", "(II)Z"⟩, .initialized "ManypensModel"])
noncomputable def si_165 : sy_Inf := (⟨"ManypensModel", "differ", "(II)I"⟩, prog_13_method_78_code, 5, (some .int), [], "ManypensModel", [.methodLink "ManypensModel" 323 ⟨"ManypensModel", "isNoPair", "(II)Z"⟩, .instanceMethod ⟨"ManypensModel", "isNoPair", "(II)Z"⟩, .selects "ManypensModel" ⟨"ManypensModel", "isNoPair", "(II)Z"⟩ ⟨"ManypensModel", "isNoPair", "(II)Z"⟩, .initialized "ManypensModel", .methodLink "ManypensModel" 114 ⟨"ManypensModel", "lays", "()V"⟩, .instanceMethod ⟨"ManypensModel", "lays", "()V"⟩, .selects "ManypensModel" ⟨"ManypensModel", "lays", "()V"⟩ ⟨"ManypensModel", "lays", "()V"⟩, .fieldLink "ManypensModel" 67 "ManypensModel" "letters" "I"])
noncomputable def si_166 : sy_Inf := (⟨"ManypensModel", "erase", "()I"⟩, prog_13_method_14_code, 2, (some .int), [], "ManypensModel", [.fieldLink "ManypensModel" 38 "ManypensModel" "thrown" "I", .fieldLink "ManypensModel" 129 "ManypensModel" "typedMany" "I"])
noncomputable def si_167 : sy_Inf := (⟨"ManypensModel", "forget", "()I"⟩, prog_13_method_81_code, 10, (some .int), [], "ManypensModel", [.fieldLink "ManypensModel" 11 "ManypensModel" "hands" "[LManypensModel$Hand;", .fieldLinkNest "ManypensModel" 121 "ManypensModel$Hand" "heard" "[I" "ManypensModel", .fieldLinkNest "ManypensModel" 136 "ManypensModel$Hand" "number" "I" "ManypensModel", .fieldLinkNest "ManypensModel" 137 "ManypensModel$Hand" "made" "I" "ManypensModel", .methodLink "ManypensModel" 132 ⟨"ManypensModel", "isWrong", "(I)Z"⟩, .instanceMethod ⟨"ManypensModel", "isWrong", "(I)Z"⟩, .selects "ManypensModel" ⟨"ManypensModel", "isWrong", "(I)Z"⟩ ⟨"ManypensModel", "isWrong", "(I)Z"⟩, .initialized "ManypensModel", .methodLink "ManypensModel" 114 ⟨"ManypensModel", "lays", "()V"⟩, .instanceMethod ⟨"ManypensModel", "lays", "()V"⟩, .selects "ManypensModel" ⟨"ManypensModel", "lays", "()V"⟩ ⟨"ManypensModel", "lays", "()V"⟩, .fieldLinkNest "ManypensModel" 35 "ManypensModel$Hand" "cursor" "LManypensModel$Letter;" "ManypensModel", .fieldLinkNest "ManypensModel" 74 "ManypensModel$Letter" "at" "I" "ManypensModel", .fieldLink "ManypensModel" 20 "ManypensModel" "begin" "LManypensModel$Letter;", .fieldLink "ManypensModel" 67 "ManypensModel" "letters" "I", .methodLink "ManypensModel" 250 ⟨"ManypensModel", "closes", "(LManypensModel$Hand;)V"⟩, .static ⟨"ManypensModel", "closes", "(LManypensModel$Hand;)V"⟩, .fieldLinkNest "ManypensModel" 177 "ManypensModel$Hand" "undos" "I" "ManypensModel", .fieldLinkNest "ManypensModel" 180 "ManypensModel$Hand" "redos" "I" "ManypensModel", .fieldLinkNest "ManypensModel" 150 "ManypensModel$Hand" "steps" "I" "ManypensModel", .fieldLinkNest "ManypensModel" 326 "ManypensModel$Hand" "base" "[I" "ManypensModel"])
noncomputable def si_168 : sy_Inf := (⟨"ManypensModel", "groups", "(IZ)I"⟩, prog_13_method_37_code, 3, (some .int), [], "ManypensModel", [.methodLink "ManypensModel" 261 ⟨"ManypensModel", "isNone", "(I)Z"⟩, .instanceMethod ⟨"ManypensModel", "isNone", "(I)Z"⟩, .selects "ManypensModel" ⟨"ManypensModel", "isNone", "(I)Z"⟩ ⟨"ManypensModel", "isNone", "(I)Z"⟩, .initialized "ManypensModel", .fieldLink "ManypensModel" 11 "ManypensModel" "hands" "[LManypensModel$Hand;", .fieldLinkNest "ManypensModel" 180 "ManypensModel$Hand" "redos" "I" "ManypensModel", .fieldLinkNest "ManypensModel" 177 "ManypensModel$Hand" "undos" "I" "ManypensModel"])
noncomputable def si_169 : sy_Inf := (⟨"ManypensModel", "hasLetters", "([LManypensModel$Letter;II)Z"⟩, prog_13_method_22_code, 3, (some .boolean), [], "ManypensModel", [])
noncomputable def si_170 : sy_Inf := (⟨"ManypensModel", "heard", "(II)I"⟩, prog_13_method_71_code, 3, (some .int), [], "ManypensModel", [.methodLink "ManypensModel" 323 ⟨"ManypensModel", "isNoPair", "(II)Z"⟩, .instanceMethod ⟨"ManypensModel", "isNoPair", "(II)Z"⟩, .selects "ManypensModel" ⟨"ManypensModel", "isNoPair", "(II)Z"⟩ ⟨"ManypensModel", "isNoPair", "(II)Z"⟩, .initialized "ManypensModel", .fieldLink "ManypensModel" 11 "ManypensModel" "hands" "[LManypensModel$Hand;", .fieldLinkNest "ManypensModel" 121 "ManypensModel$Hand" "heard" "[I" "ManypensModel"])
noncomputable def si_171 : sy_Inf := (⟨"ManypensModel", "hearsAll", "(LManypensModel$Hand;[I)I"⟩, prog_13_method_65_code, 11, (some .int), [], "ManypensModel", [.fieldLink "ManypensModel" 11 "ManypensModel" "hands" "[LManypensModel$Hand;", .fieldLinkNest "ManypensModel" 136 "ManypensModel$Hand" "number" "I" "ManypensModel"])
noncomputable def si_172 : sy_Inf := (⟨"ManypensModel", "hung", "(LManypensModel$Hand;[LManypensModel$Letter;)[LManypensModel$Edit;"⟩, prog_13_method_48_code, 12, (some (.array (.object "ManypensModel$Edit"))), [], "ManypensModel", [.classLink "ManypensModel" 57 "ManypensModel$Edit"])
noncomputable def si_173 : sy_Inf := (⟨"ManypensModel", "isAlike", "(II)Z"⟩, prog_13_method_80_code, 3, (some .boolean), [], "ManypensModel", [.methodLink "ManypensModel" 323 ⟨"ManypensModel", "isNoPair", "(II)Z"⟩, .instanceMethod ⟨"ManypensModel", "isNoPair", "(II)Z"⟩, .selects "ManypensModel" ⟨"ManypensModel", "isNoPair", "(II)Z"⟩ ⟨"ManypensModel", "isNoPair", "(II)Z"⟩, .initialized "ManypensModel", .fieldLink "ManypensModel" 11 "ManypensModel" "hands" "[LManypensModel$Hand;", .methodLink "ManypensModel" 336 ⟨"ManypensModel", "areAlike", "(LManypensModel$Hand;LManypensModel$Hand;)Z"⟩, .instanceMethod ⟨"ManypensModel", "areAlike", "(LManypensModel$Hand;LManypensModel$Hand;)Z"⟩, .selects "ManypensModel" ⟨"ManypensModel", "areAlike", "(LManypensModel$Hand;LManypensModel$Hand;)Z"⟩ ⟨"ManypensModel", "areAlike", "(LManypensModel$Hand;LManypensModel$Hand;)Z"⟩])
noncomputable def si_174 : sy_Inf := (⟨"ManypensModel", "isBetween", "(III)Z"⟩, prog_13_method_4_code, 3, (some .boolean), [], "ManypensModel", [])
noncomputable def si_175 : sy_Inf := (⟨"ManypensModel", "isHand", "(I)Z"⟩, prog_13_method_5_code, 1, (some .boolean), [], "ManypensModel", [.methodLink "ManypensModel" 42 ⟨"ManypensModel", "isBetween", "(III)Z"⟩, .static ⟨"ManypensModel", "isBetween", "(III)Z"⟩, .initialized "ManypensModel"])
noncomputable def si_176 : sy_Inf := (⟨"ManypensModel", "isMarked", "(IIC)Z"⟩, prog_13_method_44_code, 5, (some .boolean), [], "ManypensModel", [.methodLink "ManypensModel" 201 ⟨"ManypensModel", "isHand", "(I)Z"⟩, .static ⟨"ManypensModel", "isHand", "(I)Z"⟩, .initialized "ManypensModel", .methodLink "ManypensModel" 132 ⟨"ManypensModel", "isWrong", "(I)Z"⟩, .instanceMethod ⟨"ManypensModel", "isWrong", "(I)Z"⟩, .selects "ManypensModel" ⟨"ManypensModel", "isWrong", "(I)Z"⟩ ⟨"ManypensModel", "isWrong", "(I)Z"⟩, .methodLink "ManypensModel" 264 ⟨"ManypensModel", "letter", "(III)LManypensModel$Letter;"⟩, .instanceMethod ⟨"ManypensModel", "letter", "(III)LManypensModel$Letter;"⟩, .selects "ManypensModel" ⟨"ManypensModel", "letter", "(III)LManypensModel$Letter;"⟩ ⟨"ManypensModel", "letter", "(III)LManypensModel$Letter;"⟩])
noncomputable def si_177 : sy_Inf := (⟨"ManypensModel", "isNoPair", "(II)Z"⟩, prog_13_method_69_code, 3, (some .boolean), [], "ManypensModel", [.methodLink "ManypensModel" 201 ⟨"ManypensModel", "isHand", "(I)Z"⟩, .static ⟨"ManypensModel", "isHand", "(I)Z"⟩, .initialized "ManypensModel", .methodLink "ManypensModel" 132 ⟨"ManypensModel", "isWrong", "(I)Z"⟩, .instanceMethod ⟨"ManypensModel", "isWrong", "(I)Z"⟩, .selects "ManypensModel" ⟨"ManypensModel", "isWrong", "(I)Z"⟩ ⟨"ManypensModel", "isWrong", "(I)Z"⟩])
noncomputable def si_178 : sy_Inf := (⟨"ManypensModel", "isNoStep", "(II)Z"⟩, prog_13_method_75_code, 3, (some .boolean), [], "ManypensModel", [.methodLink "ManypensModel" 201 ⟨"ManypensModel", "isHand", "(I)Z"⟩, .static ⟨"ManypensModel", "isHand", "(I)Z"⟩, .initialized "ManypensModel", .fieldLink "ManypensModel" 11 "ManypensModel" "hands" "[LManypensModel$Hand;", .fieldLinkNest "ManypensModel" 150 "ManypensModel$Hand" "steps" "I" "ManypensModel", .methodLink "ManypensModel" 42 ⟨"ManypensModel", "isBetween", "(III)Z"⟩, .static ⟨"ManypensModel", "isBetween", "(III)Z"⟩, .methodLink "ManypensModel" 132 ⟨"ManypensModel", "isWrong", "(I)Z"⟩, .instanceMethod ⟨"ManypensModel", "isWrong", "(I)Z"⟩, .selects "ManypensModel" ⟨"ManypensModel", "isWrong", "(I)Z"⟩ ⟨"ManypensModel", "isWrong", "(I)Z"⟩])
noncomputable def si_179 : sy_Inf := (⟨"ManypensModel", "isNoWay", "(II)Z"⟩, prog_13_method_55_code, 3, (some .boolean), [], "ManypensModel", [.methodLink "ManypensModel" 201 ⟨"ManypensModel", "isHand", "(I)Z"⟩, .static ⟨"ManypensModel", "isHand", "(I)Z"⟩, .initialized "ManypensModel", .fieldLink "ManypensModel" 11 "ManypensModel" "hands" "[LManypensModel$Hand;", .fieldLinkNest "ManypensModel" 156 "ManypensModel$Hand" "ways" "I" "ManypensModel", .methodLink "ManypensModel" 42 ⟨"ManypensModel", "isBetween", "(III)Z"⟩, .static ⟨"ManypensModel", "isBetween", "(III)Z"⟩, .methodLink "ManypensModel" 132 ⟨"ManypensModel", "isWrong", "(I)Z"⟩, .instanceMethod ⟨"ManypensModel", "isWrong", "(I)Z"⟩, .selects "ManypensModel" ⟨"ManypensModel", "isWrong", "(I)Z"⟩ ⟨"ManypensModel", "isWrong", "(I)Z"⟩])
noncomputable def si_180 : sy_Inf := (⟨"ManypensModel", "isNone", "(I)Z"⟩, prog_13_method_31_code, 2, (some .boolean), [], "ManypensModel", [.methodLink "ManypensModel" 201 ⟨"ManypensModel", "isHand", "(I)Z"⟩, .static ⟨"ManypensModel", "isHand", "(I)Z"⟩, .initialized "ManypensModel", .methodLink "ManypensModel" 132 ⟨"ManypensModel", "isWrong", "(I)Z"⟩, .instanceMethod ⟨"ManypensModel", "isWrong", "(I)Z"⟩, .selects "ManypensModel" ⟨"ManypensModel", "isWrong", "(I)Z"⟩ ⟨"ManypensModel", "isWrong", "(I)Z"⟩])
noncomputable def si_181 : sy_Inf := (⟨"ManypensModel", "isTrue", "()Z"⟩, prog_13_method_86_code, 12, (some .boolean), [], "ManypensModel", [.fieldLink "ManypensModel" 38 "ManypensModel" "thrown" "I", .fieldLink "ManypensModel" 11 "ManypensModel" "hands" "[LManypensModel$Hand;", .fieldLinkNest "ManypensModel" 121 "ManypensModel$Hand" "heard" "[I" "ManypensModel", .methodLink "ManypensModel" 336 ⟨"ManypensModel", "areAlike", "(LManypensModel$Hand;LManypensModel$Hand;)Z"⟩, .instanceMethod ⟨"ManypensModel", "areAlike", "(LManypensModel$Hand;LManypensModel$Hand;)Z"⟩, .selects "ManypensModel" ⟨"ManypensModel", "areAlike", "(LManypensModel$Hand;LManypensModel$Hand;)Z"⟩ ⟨"ManypensModel", "areAlike", "(LManypensModel$Hand;LManypensModel$Hand;)Z"⟩, .initialized "ManypensModel"])
noncomputable def si_182 : sy_Inf := (⟨"ManypensModel", "isWrong", "(I)Z"⟩, prog_13_method_3_code, 2, (some .boolean), [], "ManypensModel", [.fieldLink "ManypensModel" 38 "ManypensModel" "thrown" "I"])
noncomputable def si_183 : sy_Inf := (⟨"ManypensModel", "kept", "(I)I"⟩, prog_13_method_82_code, 4, (some .int), [], "ManypensModel", [.methodLink "ManypensModel" 261 ⟨"ManypensModel", "isNone", "(I)Z"⟩, .instanceMethod ⟨"ManypensModel", "isNone", "(I)Z"⟩, .selects "ManypensModel" ⟨"ManypensModel", "isNone", "(I)Z"⟩ ⟨"ManypensModel", "isNone", "(I)Z"⟩, .initialized "ManypensModel", .methodLink "ManypensModel" 114 ⟨"ManypensModel", "lays", "()V"⟩, .instanceMethod ⟨"ManypensModel", "lays", "()V"⟩, .selects "ManypensModel" ⟨"ManypensModel", "lays", "()V"⟩ ⟨"ManypensModel", "lays", "()V"⟩, .fieldLink "ManypensModel" 67 "ManypensModel" "letters" "I"])
noncomputable def si_184 : sy_Inf := (⟨"ManypensModel", "lacks", "(II)I"⟩, prog_13_method_70_code, 5, (some .int), [], "ManypensModel", [.methodLink "ManypensModel" 323 ⟨"ManypensModel", "isNoPair", "(II)Z"⟩, .instanceMethod ⟨"ManypensModel", "isNoPair", "(II)Z"⟩, .selects "ManypensModel" ⟨"ManypensModel", "isNoPair", "(II)Z"⟩ ⟨"ManypensModel", "isNoPair", "(II)Z"⟩, .initialized "ManypensModel", .fieldLink "ManypensModel" 11 "ManypensModel" "hands" "[LManypensModel$Hand;", .fieldLinkNest "ManypensModel" 121 "ManypensModel$Hand" "heard" "[I" "ManypensModel"])
noncomputable def si_185 : sy_Inf := (⟨"ManypensModel", "lays", "()V"⟩, prog_13_method_7_code, 3, none, [], "ManypensModel", [.fieldLink "ManypensModel" 70 "ManypensModel" "isRow" "Z", .fieldLink "ManypensModel" 24 "ManypensModel" "row" "[LManypensModel$Letter;", .fieldLink "ManypensModel" 67 "ManypensModel" "letters" "I", .fieldLink "ManypensModel" 20 "ManypensModel" "begin" "LManypensModel$Letter;", .fieldLinkNest "ManypensModel" 74 "ManypensModel$Letter" "at" "I" "ManypensModel", .fieldLinkNest "ManypensModel" 49 "ManypensModel$Letter" "first" "LManypensModel$Letter;" "ManypensModel", .fieldLinkNest "ManypensModel" 64 "ManypensModel$Letter" "next" "LManypensModel$Letter;" "ManypensModel", .fieldLinkNest "ManypensModel" 46 "ManypensModel$Letter" "behind" "LManypensModel$Letter;" "ManypensModel"])
noncomputable def si_186 : sy_Inf := (⟨"ManypensModel", "leans", "(III)I"⟩, prog_13_method_72_code, 4, (some .int), [], "ManypensModel", [.methodLink "ManypensModel" 323 ⟨"ManypensModel", "isNoPair", "(II)Z"⟩, .instanceMethod ⟨"ManypensModel", "isNoPair", "(II)Z"⟩, .selects "ManypensModel" ⟨"ManypensModel", "isNoPair", "(II)Z"⟩ ⟨"ManypensModel", "isNoPair", "(II)Z"⟩, .initialized "ManypensModel", .fieldLink "ManypensModel" 11 "ManypensModel" "hands" "[LManypensModel$Hand;", .fieldLinkNest "ManypensModel" 137 "ManypensModel$Hand" "made" "I" "ManypensModel", .methodLink "ManypensModel" 42 ⟨"ManypensModel", "isBetween", "(III)Z"⟩, .static ⟨"ManypensModel", "isBetween", "(III)Z"⟩, .methodLink "ManypensModel" 132 ⟨"ManypensModel", "isWrong", "(I)Z"⟩, .instanceMethod ⟨"ManypensModel", "isWrong", "(I)Z"⟩, .selects "ManypensModel" ⟨"ManypensModel", "isWrong", "(I)Z"⟩ ⟨"ManypensModel", "isWrong", "(I)Z"⟩])
noncomputable def si_187 : sy_Inf := (⟨"ManypensModel", "length", "(I)I"⟩, prog_13_method_38_code, 2, (some .int), [], "ManypensModel", [.methodLink "ManypensModel" 261 ⟨"ManypensModel", "isNone", "(I)Z"⟩, .instanceMethod ⟨"ManypensModel", "isNone", "(I)Z"⟩, .selects "ManypensModel" ⟨"ManypensModel", "isNone", "(I)Z"⟩ ⟨"ManypensModel", "isNone", "(I)Z"⟩, .initialized "ManypensModel", .fieldLink "ManypensModel" 11 "ManypensModel" "hands" "[LManypensModel$Hand;", .methodLink "ManypensModel" 197 ⟨"ManypensModel", "textOf", "(LManypensModel$Hand;)[LManypensModel$Letter;"⟩, .instanceMethod ⟨"ManypensModel", "textOf", "(LManypensModel$Hand;)[LManypensModel$Letter;"⟩, .selects "ManypensModel" ⟨"ManypensModel", "textOf", "(LManypensModel$Hand;)[LManypensModel$Letter;"⟩ ⟨"ManypensModel", "textOf", "(LManypensModel$Hand;)[LManypensModel$Letter;"⟩])
noncomputable def si_188 : sy_Inf := (⟨"ManypensModel", "lengthThen", "(II)I"⟩, prog_13_method_76_code, 3, (some .int), [], "ManypensModel", [.methodLink "ManypensModel" 329 ⟨"ManypensModel", "isNoStep", "(II)Z"⟩, .instanceMethod ⟨"ManypensModel", "isNoStep", "(II)Z"⟩, .selects "ManypensModel" ⟨"ManypensModel", "isNoStep", "(II)Z"⟩ ⟨"ManypensModel", "isNoStep", "(II)Z"⟩, .initialized "ManypensModel", .fieldLink "ManypensModel" 11 "ManypensModel" "hands" "[LManypensModel$Hand;", .methodLink "ManypensModel" 332 ⟨"ManypensModel", "textThen", "(LManypensModel$Hand;I)[LManypensModel$Letter;"⟩, .instanceMethod ⟨"ManypensModel", "textThen", "(LManypensModel$Hand;I)[LManypensModel$Letter;"⟩, .selects "ManypensModel" ⟨"ManypensModel", "textThen", "(LManypensModel$Hand;I)[LManypensModel$Letter;"⟩ ⟨"ManypensModel", "textThen", "(LManypensModel$Hand;I)[LManypensModel$Letter;"⟩])
noncomputable def si_189 : sy_Inf := (⟨"ManypensModel", "letter", "(III)LManypensModel$Letter;"⟩, prog_13_method_39_code, 5, (some (.object "ManypensModel$Letter")), [], "ManypensModel", [.fieldLink "ManypensModel" 11 "ManypensModel" "hands" "[LManypensModel$Hand;", .methodLink "ManypensModel" 197 ⟨"ManypensModel", "textOf", "(LManypensModel$Hand;)[LManypensModel$Letter;"⟩, .instanceMethod ⟨"ManypensModel", "textOf", "(LManypensModel$Hand;)[LManypensModel$Letter;"⟩, .selects "ManypensModel" ⟨"ManypensModel", "textOf", "(LManypensModel$Hand;)[LManypensModel$Letter;"⟩ ⟨"ManypensModel", "textOf", "(LManypensModel$Hand;)[LManypensModel$Letter;"⟩, .initialized "ManypensModel", .methodLink "ManypensModel" 42 ⟨"ManypensModel", "isBetween", "(III)Z"⟩, .static ⟨"ManypensModel", "isBetween", "(III)Z"⟩, .methodLink "ManypensModel" 132 ⟨"ManypensModel", "isWrong", "(I)Z"⟩, .instanceMethod ⟨"ManypensModel", "isWrong", "(I)Z"⟩, .selects "ManypensModel" ⟨"ManypensModel", "isWrong", "(I)Z"⟩ ⟨"ManypensModel", "isWrong", "(I)Z"⟩])
noncomputable def si_190 : sy_Inf := (⟨"ManypensModel", "lose", "(II)I"⟩, prog_13_method_64_code, 3, (some .int), [], "ManypensModel", [.methodLink "ManypensModel" 288 ⟨"ManypensModel", "isNoWay", "(II)Z"⟩, .instanceMethod ⟨"ManypensModel", "isNoWay", "(II)Z"⟩, .selects "ManypensModel" ⟨"ManypensModel", "isNoWay", "(II)Z"⟩ ⟨"ManypensModel", "isNoWay", "(II)Z"⟩, .initialized "ManypensModel"])
noncomputable def si_191 : sy_Inf := (⟨"ManypensModel", "mark", "(IIICZZ)I"⟩, prog_13_method_27_code, 10, (some .int), [], "ManypensModel", [.methodLink "ManypensModel" 201 ⟨"ManypensModel", "isHand", "(I)Z"⟩, .static ⟨"ManypensModel", "isHand", "(I)Z"⟩, .initialized "ManypensModel", .methodLink "ManypensModel" 132 ⟨"ManypensModel", "isWrong", "(I)Z"⟩, .instanceMethod ⟨"ManypensModel", "isWrong", "(I)Z"⟩, .selects "ManypensModel" ⟨"ManypensModel", "isWrong", "(I)Z"⟩ ⟨"ManypensModel", "isWrong", "(I)Z"⟩, .fieldLink "ManypensModel" 11 "ManypensModel" "hands" "[LManypensModel$Hand;", .methodLink "ManypensModel" 197 ⟨"ManypensModel", "textOf", "(LManypensModel$Hand;)[LManypensModel$Letter;"⟩, .instanceMethod ⟨"ManypensModel", "textOf", "(LManypensModel$Hand;)[LManypensModel$Letter;"⟩, .selects "ManypensModel" ⟨"ManypensModel", "textOf", "(LManypensModel$Hand;)[LManypensModel$Letter;"⟩ ⟨"ManypensModel", "textOf", "(LManypensModel$Hand;)[LManypensModel$Letter;"⟩, .methodLink "ManypensModel" 212 ⟨"ManypensModel", "hasLetters", "([LManypensModel$Letter;II)Z"⟩, .static ⟨"ManypensModel", "hasLetters", "([LManypensModel$Letter;II)Z"⟩])
noncomputable def si_192 : sy_Inf := (⟨"ManypensModel", "meanTime", "(I)D"⟩, prog_13_method_84_code, 8, (some .double), [], "ManypensModel", [.methodLink "ManypensModel" 261 ⟨"ManypensModel", "isNone", "(I)Z"⟩, .instanceMethod ⟨"ManypensModel", "isNone", "(I)Z"⟩, .selects "ManypensModel" ⟨"ManypensModel", "isNone", "(I)Z"⟩ ⟨"ManypensModel", "isNone", "(I)Z"⟩, .initialized "ManypensModel", .fieldLink "ManypensModel" 11 "ManypensModel" "hands" "[LManypensModel$Hand;", .methodLink "ManypensModel" 197 ⟨"ManypensModel", "textOf", "(LManypensModel$Hand;)[LManypensModel$Letter;"⟩, .instanceMethod ⟨"ManypensModel", "textOf", "(LManypensModel$Hand;)[LManypensModel$Letter;"⟩, .selects "ManypensModel" ⟨"ManypensModel", "textOf", "(LManypensModel$Hand;)[LManypensModel$Letter;"⟩ ⟨"ManypensModel", "textOf", "(LManypensModel$Hand;)[LManypensModel$Letter;"⟩, .methodLink "ManypensModel" 132 ⟨"ManypensModel", "isWrong", "(I)Z"⟩, .instanceMethod ⟨"ManypensModel", "isWrong", "(I)Z"⟩, .selects "ManypensModel" ⟨"ManypensModel", "isWrong", "(I)Z"⟩ ⟨"ManypensModel", "isWrong", "(I)Z"⟩])
noncomputable def si_193 : sy_Inf := (⟨"ManypensModel", "meet", "(II)I"⟩, prog_13_method_67_code, 5, (some .int), [], "ManypensModel", [.methodLink "ManypensModel" 201 ⟨"ManypensModel", "isHand", "(I)Z"⟩, .static ⟨"ManypensModel", "isHand", "(I)Z"⟩, .initialized "ManypensModel", .methodLink "ManypensModel" 132 ⟨"ManypensModel", "isWrong", "(I)Z"⟩, .instanceMethod ⟨"ManypensModel", "isWrong", "(I)Z"⟩, .selects "ManypensModel" ⟨"ManypensModel", "isWrong", "(I)Z"⟩ ⟨"ManypensModel", "isWrong", "(I)Z"⟩, .fieldLink "ManypensModel" 11 "ManypensModel" "hands" "[LManypensModel$Hand;", .fieldLinkNest "ManypensModel" 121 "ManypensModel$Hand" "heard" "[I" "ManypensModel", .methodLink "ManypensModel" 315 ⟨"ManypensModel", "same", "([I)[I"⟩, .static ⟨"ManypensModel", "same", "([I)[I"⟩, .methodLink "ManypensModel" 319 ⟨"ManypensModel", "hearsAll", "(LManypensModel$Hand;[I)I"⟩, .instanceMethod ⟨"ManypensModel", "hearsAll", "(LManypensModel$Hand;[I)I"⟩, .selects "ManypensModel" ⟨"ManypensModel", "hearsAll", "(LManypensModel$Hand;[I)I"⟩ ⟨"ManypensModel", "hearsAll", "(LManypensModel$Hand;[I)I"⟩])
noncomputable def si_194 : sy_Inf := (⟨"ManypensModel", "move", "(IIII)I"⟩, prog_13_method_25_code, 10, (some .int), [], "ManypensModel", [.methodLink "ManypensModel" 201 ⟨"ManypensModel", "isHand", "(I)Z"⟩, .static ⟨"ManypensModel", "isHand", "(I)Z"⟩, .initialized "ManypensModel", .methodLink "ManypensModel" 132 ⟨"ManypensModel", "isWrong", "(I)Z"⟩, .instanceMethod ⟨"ManypensModel", "isWrong", "(I)Z"⟩, .selects "ManypensModel" ⟨"ManypensModel", "isWrong", "(I)Z"⟩ ⟨"ManypensModel", "isWrong", "(I)Z"⟩, .fieldLink "ManypensModel" 11 "ManypensModel" "hands" "[LManypensModel$Hand;", .methodLink "ManypensModel" 197 ⟨"ManypensModel", "textOf", "(LManypensModel$Hand;)[LManypensModel$Letter;"⟩, .instanceMethod ⟨"ManypensModel", "textOf", "(LManypensModel$Hand;)[LManypensModel$Letter;"⟩, .selects "ManypensModel" ⟨"ManypensModel", "textOf", "(LManypensModel$Hand;)[LManypensModel$Letter;"⟩ ⟨"ManypensModel", "textOf", "(LManypensModel$Hand;)[LManypensModel$Letter;"⟩, .methodLink "ManypensModel" 212 ⟨"ManypensModel", "hasLetters", "([LManypensModel$Letter;II)Z"⟩, .static ⟨"ManypensModel", "hasLetters", "([LManypensModel$Letter;II)Z"⟩])
noncomputable def si_195 : sy_Inf := (⟨"ManypensModel", "onWay", "(I)I"⟩, prog_13_method_54_code, 2, (some .int), [], "ManypensModel", [.methodLink "ManypensModel" 261 ⟨"ManypensModel", "isNone", "(I)Z"⟩, .instanceMethod ⟨"ManypensModel", "isNone", "(I)Z"⟩, .selects "ManypensModel" ⟨"ManypensModel", "isNone", "(I)Z"⟩ ⟨"ManypensModel", "isNone", "(I)Z"⟩, .initialized "ManypensModel", .fieldLink "ManypensModel" 11 "ManypensModel" "hands" "[LManypensModel$Hand;", .fieldLinkNest "ManypensModel" 156 "ManypensModel$Hand" "ways" "I" "ManypensModel"])
noncomputable def si_196 : sy_Inf := (⟨"ManypensModel", "open", "(I)I"⟩, prog_13_method_32_code, 2, (some .int), [], "ManypensModel", [.methodLink "ManypensModel" 201 ⟨"ManypensModel", "isHand", "(I)Z"⟩, .static ⟨"ManypensModel", "isHand", "(I)Z"⟩, .initialized "ManypensModel", .fieldLink "ManypensModel" 11 "ManypensModel" "hands" "[LManypensModel$Hand;", .fieldLinkNest "ManypensModel" 163 "ManypensModel$Hand" "isOpen" "Z" "ManypensModel", .methodLink "ManypensModel" 132 ⟨"ManypensModel", "isWrong", "(I)Z"⟩, .instanceMethod ⟨"ManypensModel", "isWrong", "(I)Z"⟩, .selects "ManypensModel" ⟨"ManypensModel", "isWrong", "(I)Z"⟩ ⟨"ManypensModel", "isWrong", "(I)Z"⟩, .fieldLinkNest "ManypensModel" 166 "ManypensModel$Hand" "open" "LManypensModel$Group;" "ManypensModel", .fieldLinkNest "ManypensModel" 177 "ManypensModel$Hand" "undos" "I" "ManypensModel"])
noncomputable def si_197 : sy_Inf := (⟨"ManypensModel", "othersShare", "(I)F"⟩, prog_13_method_83_code, 8, (some .float), [], "ManypensModel", [.methodLink "ManypensModel" 261 ⟨"ManypensModel", "isNone", "(I)Z"⟩, .instanceMethod ⟨"ManypensModel", "isNone", "(I)Z"⟩, .selects "ManypensModel" ⟨"ManypensModel", "isNone", "(I)Z"⟩ ⟨"ManypensModel", "isNone", "(I)Z"⟩, .initialized "ManypensModel", .fieldLink "ManypensModel" 11 "ManypensModel" "hands" "[LManypensModel$Hand;", .methodLink "ManypensModel" 197 ⟨"ManypensModel", "textOf", "(LManypensModel$Hand;)[LManypensModel$Letter;"⟩, .instanceMethod ⟨"ManypensModel", "textOf", "(LManypensModel$Hand;)[LManypensModel$Letter;"⟩, .selects "ManypensModel" ⟨"ManypensModel", "textOf", "(LManypensModel$Hand;)[LManypensModel$Letter;"⟩ ⟨"ManypensModel", "textOf", "(LManypensModel$Hand;)[LManypensModel$Letter;"⟩, .methodLink "ManypensModel" 132 ⟨"ManypensModel", "isWrong", "(I)Z"⟩, .instanceMethod ⟨"ManypensModel", "isWrong", "(I)Z"⟩, .selects "ManypensModel" ⟨"ManypensModel", "isWrong", "(I)Z"⟩ ⟨"ManypensModel", "isWrong", "(I)Z"⟩])
noncomputable def si_198 : sy_Inf := (⟨"ManypensModel", "placeOf", "(LManypensModel$Hand;)I"⟩, prog_13_method_51_code, 8, (some .int), [], "ManypensModel", [.methodLink "ManypensModel" 197 ⟨"ManypensModel", "textOf", "(LManypensModel$Hand;)[LManypensModel$Letter;"⟩, .instanceMethod ⟨"ManypensModel", "textOf", "(LManypensModel$Hand;)[LManypensModel$Letter;"⟩, .selects "ManypensModel" ⟨"ManypensModel", "textOf", "(LManypensModel$Hand;)[LManypensModel$Letter;"⟩ ⟨"ManypensModel", "textOf", "(LManypensModel$Hand;)[LManypensModel$Letter;"⟩, .initialized "ManypensModel"])
noncomputable def si_199 : sy_Inf := (⟨"ManypensModel", "put", "(II)I"⟩, prog_13_method_21_code, 5, (some .int), [], "ManypensModel", [.methodLink "ManypensModel" 201 ⟨"ManypensModel", "isHand", "(I)Z"⟩, .static ⟨"ManypensModel", "isHand", "(I)Z"⟩, .initialized "ManypensModel", .methodLink "ManypensModel" 132 ⟨"ManypensModel", "isWrong", "(I)Z"⟩, .instanceMethod ⟨"ManypensModel", "isWrong", "(I)Z"⟩, .selects "ManypensModel" ⟨"ManypensModel", "isWrong", "(I)Z"⟩ ⟨"ManypensModel", "isWrong", "(I)Z"⟩, .fieldLink "ManypensModel" 11 "ManypensModel" "hands" "[LManypensModel$Hand;", .methodLink "ManypensModel" 197 ⟨"ManypensModel", "textOf", "(LManypensModel$Hand;)[LManypensModel$Letter;"⟩, .instanceMethod ⟨"ManypensModel", "textOf", "(LManypensModel$Hand;)[LManypensModel$Letter;"⟩, .selects "ManypensModel" ⟨"ManypensModel", "textOf", "(LManypensModel$Hand;)[LManypensModel$Letter;"⟩ ⟨"ManypensModel", "textOf", "(LManypensModel$Hand;)[LManypensModel$Letter;"⟩, .methodLink "ManypensModel" 42 ⟨"ManypensModel", "isBetween", "(III)Z"⟩, .static ⟨"ManypensModel", "isBetween", "(III)Z"⟩, .fieldLink "ManypensModel" 129 "ManypensModel" "typedMany" "I"])
noncomputable def si_200 : sy_Inf := (⟨"ManypensModel", "redo", "(I)I"⟩, prog_13_method_36_code, 4, (some .int), [], "ManypensModel", [.methodLink "ManypensModel" 201 ⟨"ManypensModel", "isHand", "(I)Z"⟩, .static ⟨"ManypensModel", "isHand", "(I)Z"⟩, .initialized "ManypensModel", .fieldLink "ManypensModel" 11 "ManypensModel" "hands" "[LManypensModel$Hand;", .fieldLinkNest "ManypensModel" 180 "ManypensModel$Hand" "redos" "I" "ManypensModel", .methodLink "ManypensModel" 132 ⟨"ManypensModel", "isWrong", "(I)Z"⟩, .instanceMethod ⟨"ManypensModel", "isWrong", "(I)Z"⟩, .selects "ManypensModel" ⟨"ManypensModel", "isWrong", "(I)Z"⟩ ⟨"ManypensModel", "isWrong", "(I)Z"⟩])
noncomputable def si_201 : sy_Inf := (⟨"ManypensModel", "repeat", "(II)I"⟩, prog_13_method_63_code, 4, (some .int), [], "ManypensModel", [.methodLink "ManypensModel" 288 ⟨"ManypensModel", "isNoWay", "(II)Z"⟩, .instanceMethod ⟨"ManypensModel", "isNoWay", "(II)Z"⟩, .selects "ManypensModel" ⟨"ManypensModel", "isNoWay", "(II)Z"⟩ ⟨"ManypensModel", "isNoWay", "(II)Z"⟩, .initialized "ManypensModel"])
noncomputable def si_202 : sy_Inf := (⟨"ManypensModel", "replace", "(III)I"⟩, prog_13_method_24_code, 7, (some .int), [], "ManypensModel", [.methodLink "ManypensModel" 201 ⟨"ManypensModel", "isHand", "(I)Z"⟩, .static ⟨"ManypensModel", "isHand", "(I)Z"⟩, .initialized "ManypensModel", .methodLink "ManypensModel" 132 ⟨"ManypensModel", "isWrong", "(I)Z"⟩, .instanceMethod ⟨"ManypensModel", "isWrong", "(I)Z"⟩, .selects "ManypensModel" ⟨"ManypensModel", "isWrong", "(I)Z"⟩ ⟨"ManypensModel", "isWrong", "(I)Z"⟩, .fieldLink "ManypensModel" 11 "ManypensModel" "hands" "[LManypensModel$Hand;", .methodLink "ManypensModel" 197 ⟨"ManypensModel", "textOf", "(LManypensModel$Hand;)[LManypensModel$Letter;"⟩, .instanceMethod ⟨"ManypensModel", "textOf", "(LManypensModel$Hand;)[LManypensModel$Letter;"⟩, .selects "ManypensModel" ⟨"ManypensModel", "textOf", "(LManypensModel$Hand;)[LManypensModel$Letter;"⟩ ⟨"ManypensModel", "textOf", "(LManypensModel$Hand;)[LManypensModel$Letter;"⟩, .methodLink "ManypensModel" 212 ⟨"ManypensModel", "hasLetters", "([LManypensModel$Letter;II)Z"⟩, .static ⟨"ManypensModel", "hasLetters", "([LManypensModel$Letter;II)Z"⟩])
noncomputable def si_203 : sy_Inf := (⟨"ManypensModel", "runs", "(I)I"⟩, prog_13_method_46_code, 5, (some .int), [], "ManypensModel", [.methodLink "ManypensModel" 261 ⟨"ManypensModel", "isNone", "(I)Z"⟩, .instanceMethod ⟨"ManypensModel", "isNone", "(I)Z"⟩, .selects "ManypensModel" ⟨"ManypensModel", "isNone", "(I)Z"⟩ ⟨"ManypensModel", "isNone", "(I)Z"⟩, .initialized "ManypensModel", .fieldLink "ManypensModel" 11 "ManypensModel" "hands" "[LManypensModel$Hand;", .methodLink "ManypensModel" 197 ⟨"ManypensModel", "textOf", "(LManypensModel$Hand;)[LManypensModel$Letter;"⟩, .instanceMethod ⟨"ManypensModel", "textOf", "(LManypensModel$Hand;)[LManypensModel$Letter;"⟩, .selects "ManypensModel" ⟨"ManypensModel", "textOf", "(LManypensModel$Hand;)[LManypensModel$Letter;"⟩ ⟨"ManypensModel", "textOf", "(LManypensModel$Hand;)[LManypensModel$Letter;"⟩])
noncomputable def si_204 : sy_Inf := (⟨"ManypensModel", "same", "([I)[I"⟩, prog_13_method_66_code, 3, (some (.array .int)), [], "ManypensModel", [.arrayClass .int])
noncomputable def si_205 : sy_Inf := (⟨"ManypensModel", "setCursor", "(II)I"⟩, prog_13_method_52_code, 5, (some .int), [], "ManypensModel", [.methodLink "ManypensModel" 261 ⟨"ManypensModel", "isNone", "(I)Z"⟩, .instanceMethod ⟨"ManypensModel", "isNone", "(I)Z"⟩, .selects "ManypensModel" ⟨"ManypensModel", "isNone", "(I)Z"⟩ ⟨"ManypensModel", "isNone", "(I)Z"⟩, .initialized "ManypensModel", .fieldLink "ManypensModel" 11 "ManypensModel" "hands" "[LManypensModel$Hand;", .methodLink "ManypensModel" 197 ⟨"ManypensModel", "textOf", "(LManypensModel$Hand;)[LManypensModel$Letter;"⟩, .instanceMethod ⟨"ManypensModel", "textOf", "(LManypensModel$Hand;)[LManypensModel$Letter;"⟩, .selects "ManypensModel" ⟨"ManypensModel", "textOf", "(LManypensModel$Hand;)[LManypensModel$Letter;"⟩ ⟨"ManypensModel", "textOf", "(LManypensModel$Hand;)[LManypensModel$Letter;"⟩, .methodLink "ManypensModel" 42 ⟨"ManypensModel", "isBetween", "(III)Z"⟩, .static ⟨"ManypensModel", "isBetween", "(III)Z"⟩, .methodLink "ManypensModel" 132 ⟨"ManypensModel", "isWrong", "(I)Z"⟩, .instanceMethod ⟨"ManypensModel", "isWrong", "(I)Z"⟩, .selects "ManypensModel" ⟨"ManypensModel", "isWrong", "(I)Z"⟩ ⟨"ManypensModel", "isWrong", "(I)Z"⟩, .methodLink "ManypensModel" 247 ⟨"ManypensModel", "placeOf", "(LManypensModel$Hand;)I"⟩, .instanceMethod ⟨"ManypensModel", "placeOf", "(LManypensModel$Hand;)I"⟩, .selects "ManypensModel" ⟨"ManypensModel", "placeOf", "(LManypensModel$Hand;)I"⟩ ⟨"ManypensModel", "placeOf", "(LManypensModel$Hand;)I"⟩, .fieldLink "ManypensModel" 20 "ManypensModel" "begin" "LManypensModel$Letter;", .fieldLinkNest "ManypensModel" 35 "ManypensModel$Hand" "cursor" "LManypensModel$Letter;" "ManypensModel"])
noncomputable def si_206 : sy_Inf := (⟨"ManypensModel", "signAt", "(II)C"⟩, prog_13_method_40_code, 4, (some .char), [], "ManypensModel", [.methodLink "ManypensModel" 261 ⟨"ManypensModel", "isNone", "(I)Z"⟩, .instanceMethod ⟨"ManypensModel", "isNone", "(I)Z"⟩, .selects "ManypensModel" ⟨"ManypensModel", "isNone", "(I)Z"⟩ ⟨"ManypensModel", "isNone", "(I)Z"⟩, .initialized "ManypensModel", .methodLink "ManypensModel" 264 ⟨"ManypensModel", "letter", "(III)LManypensModel$Letter;"⟩, .instanceMethod ⟨"ManypensModel", "letter", "(III)LManypensModel$Letter;"⟩, .selects "ManypensModel" ⟨"ManypensModel", "letter", "(III)LManypensModel$Letter;"⟩ ⟨"ManypensModel", "letter", "(III)LManypensModel$Letter;"⟩])
noncomputable def si_207 : sy_Inf := (⟨"ManypensModel", "signThen", "(III)C"⟩, prog_13_method_77_code, 5, (some .char), [], "ManypensModel", [.methodLink "ManypensModel" 329 ⟨"ManypensModel", "isNoStep", "(II)Z"⟩, .instanceMethod ⟨"ManypensModel", "isNoStep", "(II)Z"⟩, .selects "ManypensModel" ⟨"ManypensModel", "isNoStep", "(II)Z"⟩ ⟨"ManypensModel", "isNoStep", "(II)Z"⟩, .initialized "ManypensModel", .fieldLink "ManypensModel" 11 "ManypensModel" "hands" "[LManypensModel$Hand;", .methodLink "ManypensModel" 332 ⟨"ManypensModel", "textThen", "(LManypensModel$Hand;I)[LManypensModel$Letter;"⟩, .instanceMethod ⟨"ManypensModel", "textThen", "(LManypensModel$Hand;I)[LManypensModel$Letter;"⟩, .selects "ManypensModel" ⟨"ManypensModel", "textThen", "(LManypensModel$Hand;I)[LManypensModel$Letter;"⟩ ⟨"ManypensModel", "textThen", "(LManypensModel$Hand;I)[LManypensModel$Letter;"⟩, .methodLink "ManypensModel" 42 ⟨"ManypensModel", "isBetween", "(III)Z"⟩, .static ⟨"ManypensModel", "isBetween", "(III)Z"⟩, .methodLink "ManypensModel" 132 ⟨"ManypensModel", "isWrong", "(I)Z"⟩, .instanceMethod ⟨"ManypensModel", "isWrong", "(I)Z"⟩, .selects "ManypensModel" ⟨"ManypensModel", "isWrong", "(I)Z"⟩ ⟨"ManypensModel", "isWrong", "(I)Z"⟩])
noncomputable def si_208 : sy_Inf := (⟨"ManypensModel", "steps", "(I)I"⟩, prog_13_method_73_code, 2, (some .int), [], "ManypensModel", [.methodLink "ManypensModel" 261 ⟨"ManypensModel", "isNone", "(I)Z"⟩, .instanceMethod ⟨"ManypensModel", "isNone", "(I)Z"⟩, .selects "ManypensModel" ⟨"ManypensModel", "isNone", "(I)Z"⟩ ⟨"ManypensModel", "isNone", "(I)Z"⟩, .initialized "ManypensModel", .fieldLink "ManypensModel" 11 "ManypensModel" "hands" "[LManypensModel$Hand;", .fieldLinkNest "ManypensModel" 150 "ManypensModel$Hand" "steps" "I" "ManypensModel"])
noncomputable def si_209 : sy_Inf := (⟨"ManypensModel", "take", "(III)I"⟩, prog_13_method_23_code, 6, (some .int), [], "ManypensModel", [.methodLink "ManypensModel" 201 ⟨"ManypensModel", "isHand", "(I)Z"⟩, .static ⟨"ManypensModel", "isHand", "(I)Z"⟩, .initialized "ManypensModel", .methodLink "ManypensModel" 132 ⟨"ManypensModel", "isWrong", "(I)Z"⟩, .instanceMethod ⟨"ManypensModel", "isWrong", "(I)Z"⟩, .selects "ManypensModel" ⟨"ManypensModel", "isWrong", "(I)Z"⟩ ⟨"ManypensModel", "isWrong", "(I)Z"⟩, .fieldLink "ManypensModel" 11 "ManypensModel" "hands" "[LManypensModel$Hand;", .methodLink "ManypensModel" 197 ⟨"ManypensModel", "textOf", "(LManypensModel$Hand;)[LManypensModel$Letter;"⟩, .instanceMethod ⟨"ManypensModel", "textOf", "(LManypensModel$Hand;)[LManypensModel$Letter;"⟩, .selects "ManypensModel" ⟨"ManypensModel", "textOf", "(LManypensModel$Hand;)[LManypensModel$Letter;"⟩ ⟨"ManypensModel", "textOf", "(LManypensModel$Hand;)[LManypensModel$Letter;"⟩, .methodLink "ManypensModel" 212 ⟨"ManypensModel", "hasLetters", "([LManypensModel$Letter;II)Z"⟩, .static ⟨"ManypensModel", "hasLetters", "([LManypensModel$Letter;II)Z"⟩])
noncomputable def si_210 : sy_Inf := (⟨"ManypensModel", "text", "([I)[LManypensModel$Letter;"⟩, prog_13_method_11_code, 6, (some (.array (.object "ManypensModel$Letter"))), [], "ManypensModel", [.methodLink "ManypensModel" 114 ⟨"ManypensModel", "lays", "()V"⟩, .instanceMethod ⟨"ManypensModel", "lays", "()V"⟩, .selects "ManypensModel" ⟨"ManypensModel", "lays", "()V"⟩ ⟨"ManypensModel", "lays", "()V"⟩, .initialized "ManypensModel", .fieldLink "ManypensModel" 67 "ManypensModel" "letters" "I", .classLink "ManypensModel" 15 "ManypensModel$Letter"])
noncomputable def si_211 : sy_Inf := (⟨"ManypensModel", "textOf", "(LManypensModel$Hand;)[LManypensModel$Letter;"⟩, prog_13_method_12_code, 2, (some (.array (.object "ManypensModel$Letter"))), [], "ManypensModel", [.fieldLinkNest "ManypensModel" 121 "ManypensModel$Hand" "heard" "[I" "ManypensModel", .methodLink "ManypensModel" 125 ⟨"ManypensModel", "text", "([I)[LManypensModel$Letter;"⟩, .instanceMethod ⟨"ManypensModel", "text", "([I)[LManypensModel$Letter;"⟩, .selects "ManypensModel" ⟨"ManypensModel", "text", "([I)[LManypensModel$Letter;"⟩ ⟨"ManypensModel", "text", "([I)[LManypensModel$Letter;"⟩, .initialized "ManypensModel"])
noncomputable def si_212 : sy_Inf := (⟨"ManypensModel", "textThen", "(LManypensModel$Hand;I)[LManypensModel$Letter;"⟩, prog_13_method_74_code, 5, (some (.array (.object "ManypensModel$Letter"))), [], "ManypensModel", [.fieldLinkNest "ManypensModel" 326 "ManypensModel$Hand" "base" "[I" "ManypensModel", .methodLink "ManypensModel" 315 ⟨"ManypensModel", "same", "([I)[I"⟩, .static ⟨"ManypensModel", "same", "([I)[I"⟩, .initialized "ManypensModel", .methodLink "ManypensModel" 125 ⟨"ManypensModel", "text", "([I)[LManypensModel$Letter;"⟩, .instanceMethod ⟨"ManypensModel", "text", "([I)[LManypensModel$Letter;"⟩, .selects "ManypensModel" ⟨"ManypensModel", "text", "([I)[LManypensModel$Letter;"⟩ ⟨"ManypensModel", "text", "([I)[LManypensModel$Letter;"⟩])
noncomputable def si_213 : sy_Inf := (⟨"ManypensModel", "thrown", "()I"⟩, prog_13_method_2_code, 1, (some .int), [], "ManypensModel", [.fieldLink "ManypensModel" 38 "ManypensModel" "thrown" "I"])
noncomputable def si_214 : sy_Inf := (⟨"ManypensModel", "type", "(C)I"⟩, prog_13_method_13_code, 2, (some .int), [], "ManypensModel", [.methodLink "ManypensModel" 42 ⟨"ManypensModel", "isBetween", "(III)Z"⟩, .static ⟨"ManypensModel", "isBetween", "(III)Z"⟩, .initialized "ManypensModel", .fieldLink "ManypensModel" 129 "ManypensModel" "typedMany" "I", .methodLink "ManypensModel" 132 ⟨"ManypensModel", "isWrong", "(I)Z"⟩, .instanceMethod ⟨"ManypensModel", "isWrong", "(I)Z"⟩, .selects "ManypensModel" ⟨"ManypensModel", "isWrong", "(I)Z"⟩ ⟨"ManypensModel", "isWrong", "(I)Z"⟩, .fieldLink "ManypensModel" 28 "ManypensModel" "typed" "[C"])
noncomputable def si_215 : sy_Inf := (⟨"ManypensModel", "undo", "(I)I"⟩, prog_13_method_35_code, 4, (some .int), [], "ManypensModel", [.methodLink "ManypensModel" 201 ⟨"ManypensModel", "isHand", "(I)Z"⟩, .static ⟨"ManypensModel", "isHand", "(I)Z"⟩, .initialized "ManypensModel", .fieldLink "ManypensModel" 11 "ManypensModel" "hands" "[LManypensModel$Hand;", .fieldLinkNest "ManypensModel" 177 "ManypensModel$Hand" "undos" "I" "ManypensModel", .methodLink "ManypensModel" 132 ⟨"ManypensModel", "isWrong", "(I)Z"⟩, .instanceMethod ⟨"ManypensModel", "isWrong", "(I)Z"⟩, .selects "ManypensModel" ⟨"ManypensModel", "isWrong", "(I)Z"⟩ ⟨"ManypensModel", "isWrong", "(I)Z"⟩])
noncomputable def si_216 : sy_Inf := (⟨"ManypensModel", "waiting", "(I)I"⟩, prog_13_method_68_code, 5, (some .int), [], "ManypensModel", [.methodLink "ManypensModel" 261 ⟨"ManypensModel", "isNone", "(I)Z"⟩, .instanceMethod ⟨"ManypensModel", "isNone", "(I)Z"⟩, .selects "ManypensModel" ⟨"ManypensModel", "isNone", "(I)Z"⟩ ⟨"ManypensModel", "isNone", "(I)Z"⟩, .initialized "ManypensModel", .fieldLink "ManypensModel" 11 "ManypensModel" "hands" "[LManypensModel$Hand;", .fieldLinkNest "ManypensModel" 292 "ManypensModel$Hand" "waits" "[[Z" "ManypensModel"])
noncomputable def si_217 : sy_Inf := (⟨"ManypensModel", "wayAt", "(II)I"⟩, prog_13_method_56_code, 3, (some .int), [], "ManypensModel", [.methodLink "ManypensModel" 288 ⟨"ManypensModel", "isNoWay", "(II)Z"⟩, .instanceMethod ⟨"ManypensModel", "isNoWay", "(II)Z"⟩, .selects "ManypensModel" ⟨"ManypensModel", "isNoWay", "(II)Z"⟩ ⟨"ManypensModel", "isNoWay", "(II)Z"⟩, .initialized "ManypensModel"])
noncomputable def si_218 : sy_Inf := (⟨"ManypensModel", "write", "(I)I"⟩, prog_13_method_29_code, 4, (some .int), [], "ManypensModel", [.methodLink "ManypensModel" 201 ⟨"ManypensModel", "isHand", "(I)Z"⟩, .static ⟨"ManypensModel", "isHand", "(I)Z"⟩, .initialized "ManypensModel", .methodLink "ManypensModel" 132 ⟨"ManypensModel", "isWrong", "(I)Z"⟩, .instanceMethod ⟨"ManypensModel", "isWrong", "(I)Z"⟩, .selects "ManypensModel" ⟨"ManypensModel", "isWrong", "(I)Z"⟩ ⟨"ManypensModel", "isWrong", "(I)Z"⟩, .fieldLink "ManypensModel" 11 "ManypensModel" "hands" "[LManypensModel$Hand;", .methodLink "ManypensModel" 197 ⟨"ManypensModel", "textOf", "(LManypensModel$Hand;)[LManypensModel$Letter;"⟩, .instanceMethod ⟨"ManypensModel", "textOf", "(LManypensModel$Hand;)[LManypensModel$Letter;"⟩, .selects "ManypensModel" ⟨"ManypensModel", "textOf", "(LManypensModel$Hand;)[LManypensModel$Letter;"⟩ ⟨"ManypensModel", "textOf", "(LManypensModel$Hand;)[LManypensModel$Letter;"⟩, .fieldLink "ManypensModel" 129 "ManypensModel" "typedMany" "I"])
noncomputable def si_219 : sy_Inf := (⟨"ManypensModel$Hand", "<init>", "(I)V"⟩, prog_16_method_1_code, 2, none, [], "", [.methodLink "ManypensModel$Hand" 3 ⟨"java/lang/Object", "<init>", "()V"⟩, .instanceMethod ⟨"java/lang/Object", "<init>", "()V"⟩, .code ⟨"java/lang/Object", "<init>", "()V"⟩ object_method_1_code 1 none, .classLink "ManypensModel$Hand" 9 "ManypensModel$Edit", .fieldLink "ManypensModel$Hand" 11 "ManypensModel$Hand" "edits" "[LManypensModel$Edit;", .arrayClass .int, .fieldLink "ManypensModel$Hand" 17 "ManypensModel$Hand" "heard" "[I", .fieldLink "ManypensModel$Hand" 21 "ManypensModel$Hand" "base" "[I", .fieldLink "ManypensModel$Hand" 24 "ManypensModel$Hand" "way" "[LManypensModel$Edit;", .fieldLink "ManypensModel$Hand" 27 "ManypensModel$Hand" "step" "[LManypensModel$Edit;", .classLink "ManypensModel$Hand" 30 "[[Z", .arrayClass .boolean, .fieldLink "ManypensModel$Hand" 32 "ManypensModel$Hand" "waits" "[[Z", .classLink "ManypensModel$Hand" 35 "ManypensModel$Group", .fieldLink "ManypensModel$Hand" 37 "ManypensModel$Hand" "undo" "[LManypensModel$Group;", .fieldLink "ManypensModel$Hand" 41 "ManypensModel$Hand" "redo" "[LManypensModel$Group;", .fieldLink "ManypensModel$Hand" 44 "ManypensModel$Hand" "number" "I"])
noncomputable def si_220 : sy_Inf := (⟨"ManypensModel$Letter", "<init>", "(LManypensModel$Edit;C)V"⟩, prog_17_method_1_code, 3, none, [], "", [.methodLink "ManypensModel$Letter" 1 ⟨"java/lang/Object", "<init>", "()V"⟩, .instanceMethod ⟨"java/lang/Object", "<init>", "()V"⟩, .code ⟨"java/lang/Object", "<init>", "()V"⟩ object_method_1_code 1 none, .classLink "ManypensModel$Letter" 7 "ManypensModel$Edit", .fieldLink "ManypensModel$Letter" 9 "ManypensModel$Letter" "takers" "[LManypensModel$Edit;", .fieldLink "ManypensModel$Letter" 15 "ManypensModel$Letter" "by" "LManypensModel$Edit;", .fieldLink "ManypensModel$Letter" 19 "ManypensModel$Letter" "sign" "C"])
noncomputable def si_221 : sy_Inf := (⟨"java/lang/Math", "max", "(II)I"⟩, prog_31_method_65_code, 2, (some .int), [], "", [])
noncomputable def si_222 : sy_Inf := (⟨"java/lang/Math", "min", "(JJ)J"⟩, prog_31_method_70_code, 4, (some .long), [], "", [])
noncomputable def si_223 : sy_Inf := (⟨"java/util/Arrays", "fill", "([II)V"⟩, prog_43_method_103_code, 4, none, [], "", [])
noncomputable def si_224 : sy_Inf := (⟨"java/util/Arrays", "fill", "([IIII)V"⟩, prog_43_method_104_code, 5, none, [], "", [.methodLink "java/util/Arrays" 13 ⟨"java/util/Arrays", "rangeCheck", "(III)V"⟩, .static ⟨"java/util/Arrays", "rangeCheck", "(III)V"⟩, .initialized "java/util/Arrays"])
noncomputable def si_225 : sy_Inf := (⟨"java/util/Arrays", "fill", "([JIIJ)V"⟩, prog_43_method_102_code, 6, none, [], "", [.methodLink "java/util/Arrays" 13 ⟨"java/util/Arrays", "rangeCheck", "(III)V"⟩, .static ⟨"java/util/Arrays", "rangeCheck", "(III)V"⟩, .initialized "java/util/Arrays"])
noncomputable def si_226 : sy_Inf := (⟨"java/util/Arrays", "fill", "([JJ)V"⟩, prog_43_method_101_code, 5, none, [], "", [])
noncomputable def si_227 : sy_Inf := (⟨"java/util/Arrays", "rangeCheck", "(III)V"⟩, prog_43_method_30_code, 3, none, [], "", [])
noncomputable def sy_I0 : List sy_Inf := [si_0, si_1, si_2, si_3, si_4, si_5, si_6, si_7, si_8, si_9, si_10, si_11, si_12, si_13, si_14, si_15]
noncomputable def sy_I1 : List sy_Inf := [si_16, si_17, si_18, si_19, si_20, si_21, si_22, si_23, si_24, si_25, si_26, si_27, si_28, si_29, si_30, si_31]
noncomputable def sy_I2 : List sy_Inf := [si_32, si_33, si_34, si_35, si_36, si_37, si_38, si_39, si_40, si_41, si_42, si_43, si_44, si_45, si_46, si_47]
noncomputable def sy_I3 : List sy_Inf := [si_48, si_49, si_50, si_51, si_52, si_53, si_54, si_55, si_56, si_57, si_58, si_59, si_60, si_61, si_62, si_63]
noncomputable def sy_I4 : List sy_Inf := [si_64, si_65, si_66, si_67, si_68, si_69, si_70, si_71, si_72, si_73, si_74, si_75, si_76, si_77, si_78, si_79]
noncomputable def sy_I5 : List sy_Inf := [si_80, si_81, si_82, si_83, si_84, si_85, si_86, si_87, si_88, si_89, si_90, si_91, si_92, si_93, si_94, si_95]
noncomputable def sy_I6 : List sy_Inf := [si_96, si_97, si_98, si_99, si_100, si_101, si_102, si_103, si_104, si_105, si_106, si_107, si_108, si_109, si_110, si_111]
noncomputable def sy_I7 : List sy_Inf := [si_112, si_113, si_114, si_115, si_116, si_117, si_118, si_119, si_120, si_121, si_122, si_123, si_124, si_125, si_126, si_127]
noncomputable def sy_I8 : List sy_Inf := [si_128, si_129, si_130, si_131, si_132, si_133, si_134, si_135, si_136, si_137, si_138, si_139, si_140, si_141, si_142, si_143]
noncomputable def sy_I9 : List sy_Inf := [si_144, si_145, si_146, si_147, si_148, si_149, si_150, si_151, si_152, si_153, si_154, si_155, si_156, si_157, si_158, si_159]
noncomputable def sy_I10 : List sy_Inf := [si_160, si_161, si_162, si_163, si_164, si_165, si_166, si_167, si_168, si_169, si_170, si_171, si_172, si_173, si_174, si_175]
noncomputable def sy_I11 : List sy_Inf := [si_176, si_177, si_178, si_179, si_180, si_181, si_182, si_183, si_184, si_185, si_186, si_187, si_188, si_189, si_190, si_191]
noncomputable def sy_I12 : List sy_Inf := [si_192, si_193, si_194, si_195, si_196, si_197, si_198, si_199, si_200, si_201, si_202, si_203, si_204, si_205, si_206, si_207]
noncomputable def sy_I13 : List sy_Inf := [si_208, si_209, si_210, si_211, si_212, si_213, si_214, si_215, si_216, si_217, si_218, si_219, si_220, si_221, si_222, si_223]
noncomputable def sy_I14 : List sy_Inf := [si_224, si_225, si_226, si_227]
noncomputable def sy_I : List (List sy_Inf) := [sy_I0, sy_I1, sy_I2, sy_I3, sy_I4, sy_I5, sy_I6, sy_I7, sy_I8, sy_I9, sy_I10, sy_I11, sy_I12, sy_I13, sy_I14]
noncomputable def sy_inf (i : Nat) : sy_Inf := sy_nth (⟨"", "", ""⟩, .empty, 0, none, [], "", []) (sy_nth [] sy_I (Nat.div i 16)) (Nat.mod i 16)
def sy_ex (E : Nat) : String := match E with
  | 0 => "java/lang/IllegalStateException"
  | 1 => "java/util/NoSuchElementException"
  | 2 => "java/lang/ArithmeticException"
  | 3 => "java/lang/IllegalArgumentException"
  | 4 => "java/lang/IndexOutOfBoundsException"
  | _ => "java/lang/UnsupportedOperationException"
/-- the places where the class throws: the pool's entries of the class, the text, the constructor; the text -/
def sy_sit (k : Nat) : Nat × Nat × Nat × String := match k with
  | 0 => (80, 219, 84, "no group is open")
  | 1 => (224, 267, 228, "no such comment")
  | 2 => (224, 341, 228, "no such edit")
  | 3 => (394, 396, 398, "no letters")
  | 4 => (69, 316, 73, "the same hand")
  | 5 => (437, 439, 441, "no such hand")
  | 6 => (69, 446, 73, "no such kind")
  | 7 => (224, 442, 228, "no such place")
  | 8 => (224, 444, 228, "no such letters")
  | 9 => (224, 459, 228, "no such edit on the way")
  | 10 => (224, 442, 228, "no such place")
  | 11 => (224, 461, 228, "not so many steps")
  | 12 => (448, 450, 452, "nothing is typed")
  | 13 => (394, 396, 398, "no letters")
  | 14 => (224, 236, 228, "nothing to do again")
  | 15 => (69, 71, 73, "no such sign")
  | _ => (224, 226, 228, "nothing to undo")
end SYI
end
section
/-! what is checked of the methods: calls, ends, throws, handlers -/
section SYV
noncomputable def sy_im (i : Nat) : MethodName := (sy_inf i).1
noncomputable def sy_ib (i : Nat) : ByteArray := (sy_inf i).2.1
noncomputable def sy_il (i : Nat) : Nat := (sy_inf i).2.2.1
noncomputable def sy_ir (i : Nat) : Option FieldType := (sy_inf i).2.2.2.1
noncomputable def sy_hh (i : Nat) : List (Nat × Nat × Nat × Nat) := (sy_inf i).2.2.2.2.1
noncomputable def sy_io (i : Nat) : String := (sy_inf i).2.2.2.2.2.1
noncomputable def sy_iw (i : Nat) : List Cond := (sy_inf i).2.2.2.2.2.2
def sy_ar (y : MethodName) : Option Nat := (parseMethodDescriptor y.desc).map (fun d => d.parameters.length)
def sy_sx (k : Nat) : Nat := match k with
  | 0 => 0
  | 1 => 1
  | 2 => 1
  | 3 => 2
  | 4 => 3
  | 5 => 4
  | 6 => 3
  | 7 => 1
  | 8 => 1
  | 9 => 1
  | 10 => 1
  | 11 => 1
  | 12 => 5
  | 13 => 2
  | 14 => 1
  | 15 => 3
  | _ => 1
def sy_xn : List String := ["java/lang/RuntimeException", "java/lang/Exception"]
/-- the offsets of the table that are asked for -/
def sy_off (lo hi d : Int) (offs : Array Int) (K : Nat) : Int := if (K : Int) < lo ∨ hi < (K : Int) then d else (offs[((K : Int) - lo).toNat]?).getD 0
noncomputable def sy_swk (code : List sy_E) (pc : Nat) (lo hi d : Int) (offs : Array Int) : Bool := decide (hi < lo + offs.size) && (List.range 64).all fun K => decide (((sy_nth sy_e0 code (sy_nth 0 sy_sw K)).1 : Int) = (pc : Int) + sy_off lo hi d offs K)
noncomputable def sy_ck2 (i pc z x y npc : Nat) : Bool := match z with
  | 56 => decide ((sy_ir i).map sy_tyc = some y) && (Nat.beq y 0 || (Nat.beq y 5 || Nat.beq y 6))
  | 57 => decide ((sy_ir i).map sy_tyc = some y) && Nat.beq y 1
  | 58 => decide ((sy_ir i).map sy_tyc = some y) && Nat.beq y 2
  | 59 => decide ((sy_ir i).map sy_tyc = some y) && Nat.beq y 3
  | 60 => decide ((sy_ir i).map sy_tyc = some y) && Nat.beq y 4
  | 61 => decide (sy_ir i = none)
  | 80 => sy_dc (sy_ib i) pc (.invokevirtual (y / 16)) 3 npc && (sy_wd (sy_iw i) (.methodLink (sy_im i).cls (y / 16) (sy_im x)) && (sy_wd (sy_iw i) (.instanceMethod (sy_im x)) && (sy_wd (sy_iw i) (.selects (sy_im x).cls (sy_im x) (sy_im x)) && (sy_wd (sy_iw i) (.initialized (sy_im x).cls) && (decide (sy_ar (sy_im x) = some (y % 16 - 1)) && (Nat.ble 1 (y % 16) &&
      (decide (sy_hh x = []) && (Nat.ble 1 (sy_meth x).2.2.2 && (Nat.ble (sy_meth x).2.2.2 16 && (decide (sy_cn (Nat.pred (sy_meth x).2.2.2) = (sy_im x).cls) && (Nat.ble 1 x && Nat.ble x 227)))))))))))
  | 82 => sy_dc (sy_ib i) pc (.invokespecial (y / 16)) 3 npc && (sy_wd (sy_iw i) (.methodLink (sy_im i).cls (y / 16) (sy_im x)) && (sy_wd (sy_iw i) (.instanceMethod (sy_im x)) && (sy_wd (sy_iw i) (.initialized (sy_im x).cls) && (decide (sy_ar (sy_im x) = some (y % 16 - 1)) && (Nat.ble 1 (y % 16) &&
      (decide (sy_hh x = []) && (decide ((sy_im x).name = "<init>") && (decide (sy_ir x = none) && (Nat.ble 1 (sy_meth x).2.2.2 && (Nat.ble 1 x && Nat.ble x 227))))))))))
  | 83 => sy_dc (sy_ib i) pc (.invokestatic (y / 16)) 3 npc && (sy_wd (sy_iw i) (.methodLink (sy_im i).cls (y / 16) (sy_im x)) && (sy_wd (sy_iw i) (.static (sy_im x)) && (sy_wd (sy_iw i) (.initialized (sy_im x).cls) && (decide (sy_ar (sy_im x) = some (y % 16)) &&
      (decide (sy_hh x = []) && (Nat.ble 1 x && Nat.ble x 227))))))
  | 84 => sy_dc (sy_ib i) pc (.invokestatic (y / 16)) 3 npc && (sy_wd (sy_iw i) (.methodLink (sy_im i).cls (y / 16) (sy_im x)) && (sy_wd (sy_iw i) (.static (sy_im x)) && (sy_wd (sy_iw i) (.initialized (sy_im x).cls) && (decide (sy_ar (sy_im x) = some (y % 16)) &&
      (decide (sy_hh x ≠ []) && (Nat.ble 1 x && Nat.ble x 227))))))
  | 88 => sy_dt (sy_ib i) pc (.new (sy_sit y).1) 3 && (sy_dt (sy_ib i) (pc + 3) .dup 1 && (sy_dt (sy_ib i) (pc + 4) (.ldc (sy_sit y).2.1) 2 && (sy_dt (sy_ib i) (pc + 6) (.invokespecial (sy_sit y).2.2.1) 3 && (sy_dt (sy_ib i) (pc + 9) .athrow 1 &&
      (sy_wd (sy_iw i) (.classLink (sy_im i).cls (sy_sit y).1 (sy_ex x)) && (sy_wd (sy_iw i) (.initialized (sy_ex x)) && (decide ((sy_im i).cls = "Manypens") && (Nat.ble y 16 && (Nat.beq x (sy_sx y) && decide (sy_hh i = []))))))))))
  | 89 => sy_dt (sy_ib i) pc (.new (sy_sit y).1) 3 && (sy_dt (sy_ib i) (pc + 3) .dup 1 && (sy_dt (sy_ib i) (pc + 4) (.ldc_w (sy_sit y).2.1) 3 && (sy_dt (sy_ib i) (pc + 7) (.invokespecial (sy_sit y).2.2.1) 3 && (sy_dt (sy_ib i) (pc + 10) .athrow 1 &&
      (sy_wd (sy_iw i) (.classLink (sy_im i).cls (sy_sit y).1 (sy_ex x)) && (sy_wd (sy_iw i) (.initialized (sy_ex x)) && (decide ((sy_im i).cls = "Manypens") && (Nat.ble y 16 && (Nat.beq x (sy_sx y) && decide (sy_hh i = []))))))))))
  | 90 => match decode (sy_ib i) pc with
    | .ok (.tableswitch d lo hi offs, _) => sy_swk (sy_meth i).1 pc lo hi d offs
    | _ => false
  | 81 => false
  | _ => true
noncomputable def sy_cke (i : Nat) (e : sy_E) (npc : Nat) : Bool := sy_ck (sy_ib i) (sy_im i).cls (sy_io i) (decide ((sy_im i).name = "<init>")) (sy_il i) (sy_meth i).1 (sy_iw i) e.1 e.2.1 e.2.2.1 e.2.2.2 npc && sy_ck2 i e.1 e.2.1 e.2.2.1 e.2.2.2 npc
noncomputable def sy_ckl (i : Nat) (l : List sy_E) : Bool := List.rec (motive := fun _ => Bool) true (fun e k r => cond (sy_cke i e (sy_nth sy_e0 k 0).1) r false) l
/-- a handler's row: abstract, and as the tables have it -/
noncomputable def sy_ckh (i : Nat) (a b : Nat × Nat × Nat × Nat) : Bool := Nat.beq a.1 b.1 && (Nat.beq a.2.1 b.2.1 && (Nat.beq (sy_nth sy_e0 (sy_meth i).1 a.2.2.1).1 b.2.2.1 && (decide (b.2.2.2 ≠ 0) && (Nat.ble a.2.2.2 5 && (Nat.beq (sy_nth sy_e0 (sy_meth i).1 (Nat.add a.2.2.1 2)).2.2.2 0 && sy_wd (sy_iw i) (.classLink (sy_im i).cls b.2.2.2 (sy_ex a.2.2.2)))))))
noncomputable def sy_cw (i : Nat) : Cond := match sy_hh i with
  | [] => .code (sy_im i) (sy_ib i) (sy_il i) (sy_ir i)
  | h :: t => .codeWith (sy_im i) (sy_ib i) (sy_il i) (sy_ir i) (h :: t)
/-- all that is checked of a method -/
noncomputable def sy_gd1 (i : Nat) : Bool := sy_ckl i (sy_meth i).1
noncomputable def sy_gd2 (i : Nat) : Bool := (sy_iw i).all fun u => decide (u ∈ lw_tbl) && (goodWord u || sy_isN u)
noncomputable def sy_gd3 (i : Nat) : Bool := Nat.beq (sy_meth i).2.1 (sy_il i) && (Nat.beq (sy_nth sy_e0 (sy_meth i).1 0).1 0 && (Nat.ble (sy_il i) 100 && (decide ((sy_meth i).2.2.1.length = (sy_hh i).length) && (((sy_meth i).2.2.1.zip (sy_hh i)).all (fun q => sy_ckh i q.1 q.2) &&
  (plainName (sy_im i).cls && (decide ((sy_im i).cls ≠ "java/lang/invoke/MethodHandle") && decide ((sy_im i).cls ≠ "java/lang/invoke/VarHandle")))))))
noncomputable def sy_gd4 (i : Nat) : Bool := decide (sy_cw i ∈ lw_tbl) && goodWord (sy_cw i)
noncomputable def sy_rg (f : Nat → Bool) (a n : Nat) : Bool := Nat.rec (motive := fun _ => Bool) true (fun k r => cond (f (Nat.add a k)) r false) n
end SYV
end
section
/-! the words that each throw asks for -/
section SYVS
def sy_sok (k : Nat) : Prop := (∀ u ∈ vx_atS "Manypens" (sy_sit k).2.2.1 (sy_ex (sy_sx k)) sy_xn, u ∈ lw_tbl ∧ (goodWord u || sy_isN u) = true) ∧
  (∀ u ∈ Cond.classLink "Manypens" (sy_sit k).1 (sy_ex (sy_sx k)) :: Cond.initialized (sy_ex (sy_sx k)) :: vx_atS "Manypens" (sy_sit k).2.2.1 (sy_ex (sy_sx k)) sy_xn, vx_ot u = true) ∧ Bundle.fit (sy_ex (sy_sx k)) = true ∧ ∀ n ∈ sy_xn, Bundle.fit n = true
set_option maxRecDepth 20000 in
theorem sy_sok_all : ∀ k, k ≤ 16 → sy_sok k := by
  intro k h
  unfold sy_sok
  match k, h with
  | 0, _ => decide +kernel
  | 1, _ => decide +kernel
  | 2, _ => decide +kernel
  | 3, _ => decide +kernel
  | 4, _ => decide +kernel
  | 5, _ => decide +kernel
  | 6, _ => decide +kernel
  | 7, _ => decide +kernel
  | 8, _ => decide +kernel
  | 9, _ => decide +kernel
  | 10, _ => decide +kernel
  | 11, _ => decide +kernel
  | 12, _ => decide +kernel
  | 13, _ => decide +kernel
  | 14, _ => decide +kernel
  | 15, _ => decide +kernel
  | 16, _ => decide +kernel
theorem sy_cast_all : ∀ a, a ≤ 5 → Cond.castable (sy_ex a) (sy_ex a) ∈ lw_tbl := by decide +kernel
end SYVS
end
section
/-! the room only grows; what a step can be -/
section SYX
def sy_mn (c s : Nat) (Y : sy_X) : Prop := Y.1 ≠ 0 → c ≤ Y.2.2.2.2.2.1 ∧ s ≤ Y.2.2.2.2.2.2
theorem mn_no {c s a : Nat} : sy_mn c s (sy_no a) := fun h => absurd rfl h
theorem mn_mk {c s k a L c' s' : Nat} {st : List Nat} {h : sy_H} (h1 : c ≤ c') (h2 : s ≤ s') : sy_mn c s (k, a, L, st, h, c', s') := fun _ => ⟨h1, h2⟩
theorem mn_go {c s L c' s' : Nat} {st : List Nat} {h : sy_H} (h1 : c ≤ c') (h2 : s ≤ s') : sy_mn c s (sy_go L st h c' s') := fun _ => ⟨h1, h2⟩
theorem mn_jmp {c s L x c' s' : Nat} {st : List Nat} {h : sy_H} (h1 : c ≤ c') (h2 : s ≤ s') : sy_mn c s (sy_jmp x L st h c' s') := fun _ => ⟨h1, h2⟩
theorem mn_cond {c s : Nat} {b : Bool} {X Y : sy_X} (h1 : sy_mn c s X) (h2 : sy_mn c s Y) : sy_mn c s (cond b X Y) := by
  cases b with
  | true => exact h1
  | false => exact h2
theorem mn_if {c s : Nat} {b : Bool} {X : sy_X} (h1 : sy_mn c s X) : sy_mn c s (sy_if b X) := by
  cases b with
  | true => exact h1
  | false => exact mn_no
theorem mn_force {c s n : Nat} {f : Nat → sy_X} (h : sy_mn c s (f n)) : sy_mn c s (sy_force n f) := by rw [sy_force_eq]; exact h
theorem mn_p1 {c s : Nat} {st : List Nat} {f : Nat → List Nat → sy_X} (h : ∀ v r, sy_mn c s (f v r)) : sy_mn c s (sy_p1 st f) := mn_cond (h _ _) mn_no
theorem mn_cell {c s v : Nat} {h0 : sy_H} {f : Nat → Nat → Nat → sy_X} (h : ∀ k n d, sy_mn c s (f k n d)) : sy_mn c s (sy_cell h0 v f) := by
  unfold sy_cell
  refine mn_if ?_
  exact mn_force (h _ _ _)
theorem mn_fork {c s r : Nat} {X Y : sy_X} (h1 : sy_mn c s X) (h2 : sy_mn c s Y) : sy_mn c s (sy_fork r X Y) := by
  match r with
  | 0 => exact h2
  | 1 => exact h1
  | n + 2 => exact mn_no
theorem mn_ix {c s i n : Nat} {tk : sy_T} {f : Nat → sy_X} (h : ∀ j, sy_mn c s (f j)) : sy_mn c s (sy_ix tk i n f) := mn_cond (mn_if (h _)) (mn_cond (mn_cond mn_no mn_no) mn_no)
theorem mn_nat {c s n : Nat} {X : sy_X} {f : Nat → sy_X} (h1 : sy_mn c s X) (h2 : ∀ m, sy_mn c s (f m)) : sy_mn c s (Nat.rec (motive := fun _ => sy_X) X (fun m _ => f m) n) := by
  cases n with
  | zero => exact h1
  | succ m => exact h2 m
theorem mn_lst {α : Type} {c s : Nat} {l : List α} {X Y : sy_X} (h1 : sy_mn c s X) (h2 : sy_mn c s Y) : sy_mn c s (List.rec (motive := fun _ => sy_X) X (fun _ _ _ => Y) l) := by
  cases l with
  | nil => exact h1
  | cons a t => exact h2
theorem mn_br {q : sy_T → Nat → Nat → Nat} {neg : Bool} {tk : sy_T} {x L a b c s : Nat} {r : List Nat} {h : sy_H} : sy_mn c s (sy_br q neg tk x L a b r h c s) :=
  mn_if (mn_fork (mn_cond (mn_go (Nat.le_refl _) (Nat.le_refl _)) (mn_jmp (Nat.le_refl _) (Nat.le_refl _))) (mn_cond (mn_jmp (Nat.le_refl _) (Nat.le_refl _)) (mn_go (Nat.le_refl _) (Nat.le_refl _))))
theorem mn_alloc {h : sy_H} {L k n d c s : Nat} {r : List Nat} : sy_mn c s (sy_alloc h L r c s k n d) :=
  mn_if (mn_force (mn_force (mn_force (mn_force (mn_go (Nat.le_add_right _ _) (Nat.le_add_right _ _))))))
theorem mn_op (len : Nat) (tk : sy_T) (x y L : Nat) (st : List Nat) (h : sy_H) (c s : Nat) : ∀ z, sy_mn c s ((sy_op len z).1 tk x y L st h c s)
  | 0 => mn_no
  | 1 => mn_go (Nat.le_refl _) (Nat.le_refl _)
  | 2 => mn_go (Nat.le_refl _) (Nat.le_refl _)
  | 3 => mn_go (Nat.le_refl _) (Nat.le_refl _)
  | 4 => mn_go (Nat.le_refl _) (Nat.le_refl _)
  | 5 => mn_go (Nat.le_refl _) (Nat.le_refl _)
  | 6 => mn_go (Nat.le_refl _) (Nat.le_refl _)
  | 7 => mn_go (Nat.le_refl _) (Nat.le_refl _)
  | 8 => mn_go (Nat.le_refl _) (Nat.le_refl _)
  | 9 => mn_go (Nat.le_refl _) (Nat.le_refl _)
  | 10 => mn_go (Nat.le_refl _) (Nat.le_refl _)
  | 11 => mn_nat mn_no fun _ => mn_if (mn_go (Nat.le_refl _) (Nat.le_refl _))
  | 12 => mn_nat mn_no fun _ => mn_if (mn_go (Nat.le_refl _) (Nat.le_refl _))
  | 13 => mn_nat mn_no fun _ => mn_if (mn_go (Nat.le_refl _) (Nat.le_refl _))
  | 14 => mn_nat mn_no fun _ => mn_if (mn_go (Nat.le_refl _) (Nat.le_refl _))
  | 15 => mn_nat mn_no fun _ => mn_if (mn_go (Nat.le_refl _) (Nat.le_refl _))
  | 16 => mn_nat mn_no fun _ => mn_if (mn_go (Nat.le_refl _) (Nat.le_refl _))
  | 17 => mn_p1 fun _ _ => mn_if (mn_force (mn_go (Nat.le_refl _) (Nat.le_refl _)))
  | 18 => mn_p1 fun _ _ => mn_if (mn_force (mn_go (Nat.le_refl _) (Nat.le_refl _)))
  | 19 => mn_p1 fun _ _ => mn_if (mn_force (mn_go (Nat.le_refl _) (Nat.le_refl _)))
  | 20 => mn_p1 fun _ _ => mn_if (mn_force (mn_go (Nat.le_refl _) (Nat.le_refl _)))
  | 21 => mn_p1 fun _ _ => mn_if (mn_force (mn_go (Nat.le_refl _) (Nat.le_refl _)))
  | 22 => mn_p1 fun _ _ => mn_if (mn_force (mn_go (Nat.le_refl _) (Nat.le_refl _)))
  | 23 => mn_p1 fun _ _ => mn_if (mn_force (mn_go (Nat.le_refl _) (Nat.le_refl _)))
  | 24 => mn_p1 fun _ _ => mn_if (mn_force (mn_go (Nat.le_refl _) (Nat.le_refl _)))
  | 25 => mn_nat mn_no fun _ => mn_if (mn_force (mn_go (Nat.le_refl _) (Nat.le_refl _)))
  | 26 => mn_p1 fun _ _ => mn_p1 fun _ _ => mn_if (mn_force (mn_go (Nat.le_refl _) (Nat.le_refl _)))
  | 27 => mn_p1 fun _ _ => mn_p1 fun _ _ => mn_if (mn_force (mn_go (Nat.le_refl _) (Nat.le_refl _)))
  | 28 => mn_p1 fun _ _ => mn_p1 fun _ _ => mn_if (mn_force (mn_go (Nat.le_refl _) (Nat.le_refl _)))
  | 29 => mn_p1 fun _ _ => mn_p1 fun _ _ => mn_cond (mn_if (mn_force (mn_go (Nat.le_refl _) (Nat.le_refl _)))) (mn_if (mn_force (mn_go (Nat.le_refl _) (Nat.le_refl _))))
  | 30 => mn_p1 fun _ _ => mn_p1 fun _ _ => mn_if (mn_force (mn_go (Nat.le_refl _) (Nat.le_refl _)))
  | 31 => mn_p1 fun _ _ => mn_p1 fun _ _ => mn_if (mn_force (mn_go (Nat.le_refl _) (Nat.le_refl _)))
  | 32 => mn_p1 fun _ _ => mn_p1 fun _ _ => mn_if (mn_force (mn_go (Nat.le_refl _) (Nat.le_refl _)))
  | 33 => mn_p1 fun _ _ => mn_cond (mn_force (mn_go (Nat.le_refl _) (Nat.le_refl _))) (mn_if (mn_force (mn_go (Nat.le_refl _) (Nat.le_refl _))))
  | 34 => mn_p1 fun _ _ => mn_if (mn_force (mn_go (Nat.le_refl _) (Nat.le_refl _)))
  | 35 => mn_p1 fun _ _ => mn_cond (mn_force (mn_go (Nat.le_refl _) (Nat.le_refl _))) (mn_if (mn_cond (mn_force (mn_go (Nat.le_refl _) (Nat.le_refl _))) (mn_force (mn_go (Nat.le_refl _) (Nat.le_refl _)))))
  | 36 => mn_p1 fun _ _ => mn_p1 fun _ _ => mn_if (mn_fork (mn_go (Nat.le_refl _) (Nat.le_refl _)) (mn_fork (mn_go (Nat.le_refl _) (Nat.le_refl _)) (mn_go (Nat.le_refl _) (Nat.le_refl _))))
  | 37 => mn_p1 fun _ _ => mn_if (mn_go (Nat.le_refl _) (Nat.le_refl _))
  | 38 => mn_p1 fun _ _ => mn_if (mn_go (Nat.le_refl _) (Nat.le_refl _))
  | 39 => mn_p1 fun _ _ => mn_br
  | 40 => mn_p1 fun _ _ => mn_br
  | 41 => mn_p1 fun _ _ => mn_br
  | 42 => mn_p1 fun _ _ => mn_br
  | 43 => mn_p1 fun _ _ => mn_br
  | 44 => mn_p1 fun _ _ => mn_br
  | 45 => mn_p1 fun _ _ => mn_p1 fun _ _ => mn_br
  | 46 => mn_p1 fun _ _ => mn_p1 fun _ _ => mn_br
  | 47 => mn_p1 fun _ _ => mn_p1 fun _ _ => mn_br
  | 48 => mn_p1 fun _ _ => mn_p1 fun _ _ => mn_br
  | 49 => mn_p1 fun _ _ => mn_p1 fun _ _ => mn_br
  | 50 => mn_p1 fun _ _ => mn_p1 fun _ _ => mn_br
  | 51 => mn_p1 fun _ _ => mn_p1 fun _ _ => mn_if (mn_cond (mn_jmp (Nat.le_refl _) (Nat.le_refl _)) (mn_go (Nat.le_refl _) (Nat.le_refl _)))
  | 52 => mn_p1 fun _ _ => mn_p1 fun _ _ => mn_if (mn_cond (mn_jmp (Nat.le_refl _) (Nat.le_refl _)) (mn_go (Nat.le_refl _) (Nat.le_refl _)))
  | 53 => mn_p1 fun _ _ => mn_if (mn_cond (mn_jmp (Nat.le_refl _) (Nat.le_refl _)) (mn_go (Nat.le_refl _) (Nat.le_refl _)))
  | 54 => mn_p1 fun _ _ => mn_if (mn_cond (mn_jmp (Nat.le_refl _) (Nat.le_refl _)) (mn_go (Nat.le_refl _) (Nat.le_refl _)))
  | 55 => mn_jmp (Nat.le_refl _) (Nat.le_refl _)
  | 56 => mn_p1 fun _ _ => mn_if (mn_mk (Nat.le_refl _) (Nat.le_refl _))
  | 57 => mn_p1 fun _ _ => mn_if (mn_mk (Nat.le_refl _) (Nat.le_refl _))
  | 58 => mn_p1 fun _ _ => mn_if (mn_mk (Nat.le_refl _) (Nat.le_refl _))
  | 59 => mn_p1 fun _ _ => mn_if (mn_mk (Nat.le_refl _) (Nat.le_refl _))
  | 60 => mn_p1 fun _ _ => mn_if (mn_mk (Nat.le_refl _) (Nat.le_refl _))
  | 61 => mn_if (mn_mk (Nat.le_refl _) (Nat.le_refl _))
  | 62 => mn_p1 fun _ _ => mn_cell fun _ _ _ => mn_if (mn_force (mn_go (Nat.le_refl _) (Nat.le_refl _)))
  | 63 => mn_p1 fun _ _ => mn_cell fun _ _ _ => mn_if (mn_force (mn_go (Nat.le_refl _) (Nat.le_refl _)))
  | 64 => mn_p1 fun _ _ => mn_p1 fun _ _ => mn_cell fun _ _ _ => mn_if (mn_force (mn_go (Nat.le_refl _) (Nat.le_refl _)))
  | 65 => mn_p1 fun _ _ => mn_p1 fun _ _ => mn_cell fun _ _ _ => mn_if (mn_force (mn_go (Nat.le_refl _) (Nat.le_refl _)))
  | 66 => mn_p1 fun _ _ => mn_p1 fun _ _ => mn_cell fun _ _ _ => mn_if (mn_force (mn_go (Nat.le_refl _) (Nat.le_refl _)))
  | 67 => mn_alloc
  | 68 => mn_p1 fun _ _ => mn_if mn_alloc
  | 69 => mn_p1 fun _ _ => mn_if mn_alloc
  | 70 => mn_p1 fun _ _ => mn_cond (mn_go (Nat.le_refl _) (Nat.le_refl _)) (mn_cell fun _ _ _ => mn_if (mn_force (mn_go (Nat.le_refl _) (Nat.le_refl _))))
  | 71 => mn_p1 fun _ _ => mn_p1 fun _ _ => mn_cond (mn_if (mn_lst (mn_mk (Nat.le_refl _) (Nat.le_refl _)) (mn_cond (mn_force (mn_go (Nat.le_refl _) (Nat.le_refl _))) (mn_force (mn_go (Nat.le_refl _) (Nat.le_refl _))))))
      (mn_p1 fun _ _ => mn_p1 fun _ _ => mn_cell fun _ _ _ => mn_if (mn_ix fun _ => mn_force (mn_if (mn_go (Nat.le_refl _) (Nat.le_refl _)))))
  | 72 => mn_p1 fun _ _ => mn_p1 fun _ _ => mn_cell fun _ _ _ => mn_if (mn_ix fun _ => mn_force (mn_if (mn_go (Nat.le_refl _) (Nat.le_refl _))))
  | 73 => mn_p1 fun _ _ => mn_p1 fun _ _ => mn_cell fun _ _ _ => mn_if (mn_ix fun _ => mn_force (mn_if (mn_go (Nat.le_refl _) (Nat.le_refl _))))
  | 74 => mn_p1 fun _ _ => mn_p1 fun _ _ => mn_cell fun _ _ _ => mn_if (mn_ix fun _ => mn_force (mn_if (mn_go (Nat.le_refl _) (Nat.le_refl _))))
  | 75 => mn_p1 fun _ _ => mn_p1 fun _ _ => mn_p1 fun _ _ => mn_cell fun _ _ _ => mn_if (mn_ix fun _ => mn_force (mn_go (Nat.le_refl _) (Nat.le_refl _)))
  | 76 => mn_p1 fun _ _ => mn_p1 fun _ _ => mn_p1 fun _ _ => mn_cell fun _ _ _ => mn_if (mn_ix fun _ => mn_force (mn_go (Nat.le_refl _) (Nat.le_refl _)))
  | 77 => mn_p1 fun _ _ => mn_p1 fun _ _ => mn_p1 fun _ _ => mn_cell fun _ _ _ => mn_if (mn_cond (mn_ix fun _ => mn_force (mn_go (Nat.le_refl _) (Nat.le_refl _))) (mn_cell fun _ _ _ => mn_if (mn_ix fun _ => mn_force (mn_go (Nat.le_refl _) (Nat.le_refl _)))))
  | 78 => mn_p1 fun _ _ => mn_p1 fun _ _ => mn_p1 fun _ _ => mn_cell fun _ _ _ => mn_if (mn_ix fun _ => mn_force (mn_go (Nat.le_refl _) (Nat.le_refl _)))
  | 79 => mn_p1 fun _ _ => mn_cell fun _ _ _ => mn_if (mn_go (Nat.le_refl _) (Nat.le_refl _))
  | 80 => mn_mk (Nat.le_refl _) (Nat.le_refl _)
  | 81 => mn_mk (Nat.le_refl _) (Nat.le_refl _)
  | 82 => mn_mk (Nat.le_refl _) (Nat.le_refl _)
  | 83 => mn_mk (Nat.le_refl _) (Nat.le_refl _)
  | 84 => mn_mk (Nat.le_refl _) (Nat.le_refl _)
  | 85 => mn_p1 fun _ _ => mn_cell fun _ _ _ => mn_if mn_alloc
  | 86 => mn_p1 fun _ _ => mn_p1 fun _ _ => mn_p1 fun _ _ => mn_p1 fun _ _ => mn_p1 fun _ _ => mn_cell fun _ _ _ => mn_cell fun _ _ _ => mn_if (mn_if (mn_force (mn_go (Nat.le_refl _) (Nat.le_refl _))))
  | 87 => mn_p1 fun _ _ => mn_p1 fun _ _ => mn_if (mn_force (mn_force (mn_force (mn_force (mn_force (mn_go (Nat.le_trans (Nat.le_add_right _ _) (Nat.le_add_right _ _)) (Nat.le_trans (Nat.le_add_right _ _) (Nat.le_add_right _ _))))))))
  | 88 => mn_mk (Nat.le_add_right _ _) (Nat.le_add_right _ _)
  | 89 => mn_mk (Nat.le_add_right _ _) (Nat.le_add_right _ _)
  | 90 => mn_p1 fun _ _ => mn_if (mn_force (mn_jmp (Nat.le_refl _) (Nat.le_refl _)))
  | 91 => mn_p1 fun _ _ => mn_if (mn_go (Nat.le_refl _) (Nat.le_refl _))
  | _ + 92 => mn_no
theorem sy_run_succ {tk : sy_T} {len fuel d : Nat} {M : sy_M} {e : sy_E} {k : List sy_E} {L : Nat} {st : List Nat} {h : sy_H} {c s : Nat} :
    sy_run tk len (fuel + 1) d M (e :: k) L st h c s = sy_step (sy_run tk len fuel) d M e.1 e.2.1 e.2.2.2 k ((sy_op len e.2.1).1 tk e.2.2.1 e.2.2.2 L st h c s) (8, e.1, L, st, h, c, s) := rfl
/-- what a step can be -/
theorem sy_step_inv {ih : sy_R} {d : Nat} {M : sy_M} {pc z y : Nat} {k : List sy_E} {Y Z X : sy_X} (h : sy_step ih d M pc z y k Y Z = X) (hX : X.1 ≠ 0) :
    (Y.1 = 1 ∧ X = ih d M k Y.2.2.1 Y.2.2.2.1 Y.2.2.2.2.1 Y.2.2.2.2.2.1 Y.2.2.2.2.2.2) ∨ (Y.1 = 2 ∧ (z = 90 ∨ (sy_nth sy_e0 (M.1.drop Y.2.1) 0).1 = y) ∧ X = ih d M (M.1.drop Y.2.1) Y.2.2.1 Y.2.2.2.1 Y.2.2.2.2.1 Y.2.2.2.2.2.1 Y.2.2.2.2.2.2) ∨
    (Y.1 = 3 ∧ z = 61 ∧ X = Y) ∨ (Y.1 = 4 ∧ 56 ≤ z ∧ z ≤ 60 ∧ X = Y) ∨ (Y.1 = 5 ∧ 80 ≤ z ∧ z ≤ 84 ∧ X = sy_k5 ih d M pc z (y % 16) k Y) ∨ (Y.1 = 6 ∧ 88 ≤ z ∧ z ≤ 89 ∧ sy_cats Z.2.2.2.1 ≤ 50 ∧ X = sy_k6 M Y) ∨ (Y.1 = 8 ∧ X = Z) := by
  rcases sy_cond_inv h with ⟨h1, h2⟩ | ⟨h1, h2⟩
  · exact Or.inl ⟨sy_beq h1, h2.symm⟩
  · have h2 : sy_nth (sy_no 0) [sy_no Y.2.1, sy_no 0, sy_k2 ih d M z y Y, sy_if (Nat.beq z 61) Y, sy_if (sy_in 56 z 60) Y, sy_if (sy_in 80 z 84) (sy_k5 ih d M pc z (Nat.mod y 16) k Y), sy_if (sy_in 88 z 89) (sy_if (Nat.ble (sy_cats Z.2.2.2.1) 50) (sy_k6 M Y)), sy_no 0, Z] Y.1 = X := h2
    generalize hk : Y.1 = kd at h2
    have inn : ∀ {a b : Nat}, sy_in a z b = true → a ≤ z ∧ z ≤ b := fun q => by
      obtain ⟨q1, q2⟩ := sy_and q
      exact ⟨sy_ble q1, sy_ble q2⟩
    match kd, h2 with
    | 0, h2 => exact absurd (by rw [← h2]; rfl) hX
    | 1, h2 => exact absurd (by rw [← h2]; rfl) hX
    | 2, h2 =>
      have h2 : sy_k2 ih d M z y Y = X := h2
      unfold sy_k2 at h2
      rw [sy_force_eq, sy_drop_eq] at h2
      obtain ⟨q1, q2⟩ := sy_if_inv h2 hX
      refine Or.inr (Or.inl ⟨rfl, ?_, q2.symm⟩)
      cases hz : Nat.beq z 90 with
      | true => exact Or.inl (sy_beq hz)
      | false =>
        rw [hz] at q1
        exact Or.inr (sy_beq q1)
    | 3, h2 =>
      obtain ⟨q1, q2⟩ := sy_if_inv h2 hX
      exact Or.inr (Or.inr (Or.inl ⟨rfl, sy_beq q1, q2.symm⟩))
    | 4, h2 =>
      obtain ⟨q1, q2⟩ := sy_if_inv h2 hX
      exact Or.inr (Or.inr (Or.inr (Or.inl ⟨rfl, (inn q1).1, (inn q1).2, q2.symm⟩)))
    | 5, h2 =>
      obtain ⟨q1, q2⟩ := sy_if_inv h2 hX
      exact Or.inr (Or.inr (Or.inr (Or.inr (Or.inl ⟨rfl, (inn q1).1, (inn q1).2, q2.symm⟩))))
    | 6, h2 =>
      obtain ⟨q1, q2⟩ := sy_if_inv h2 hX
      obtain ⟨q3, q4⟩ := sy_if_inv q2 hX
      exact Or.inr (Or.inr (Or.inr (Or.inr (Or.inr (Or.inl ⟨rfl, (inn q1).1, (inn q1).2, sy_ble q3, q4.symm⟩)))))
    | 7, h2 => exact absurd (by rw [← h2]; rfl) hX
    | 8, h2 => exact Or.inr (Or.inr (Or.inr (Or.inr (Or.inr (Or.inr ⟨rfl, h2.symm⟩)))))
    | n + 9, h2 => exact absurd (by rw [← h2]; rfl) hX
theorem sy_k5_inv {ih : sy_R} {d : Nat} {M : sy_M} {pc z n : Nat} {k : List sy_E} {Y X : sy_X} (h : sy_k5 ih d M pc z n k Y = X) (hX : X.1 ≠ 0) : ∃ d', d = d' + 1 ∧ n ≤ Y.2.2.2.1.length ∧ sy_cats (Y.2.2.2.1.drop n) ≤ 8 ∧ sy_recv (sy_meth Y.2.1).2.2.2 (sy_nth 0 Y.2.2.2.1 (Nat.pred n)) Y.2.2.2.2.1 = true ∧ sy_cats (Y.2.2.2.1.take n).reverse ≤ (sy_meth Y.2.1).2.1 ∧
    sy_back ih d M pc z k Y.2.2.1 (Y.2.2.2.1.drop n) Y.2.2.2.2.2.1 Y.2.2.2.2.2.2 (ih d' (sy_meth Y.2.1) (sy_meth Y.2.1).1 (sy_args (Y.2.2.2.1.take n).reverse 0 0) [] Y.2.2.2.2.1 0 0) = X := by
  cases d with
  | zero => exact absurd (by rw [← h]; rfl) hX
  | succ d' =>
    obtain ⟨h1, h2⟩ := sy_if_inv h hX
    obtain ⟨h1, h3⟩ := sy_and h1
    rw [sy_len_eq] at h1
    rw [sy_drop_eq] at h3
    rw [sy_force_eq] at h2
    obtain ⟨h4, h5⟩ := sy_if_inv h2 hX
    rw [sy_drop_eq, sy_rev_eq, List.append_nil] at h5
    obtain ⟨h4, h6⟩ := sy_and h4
    rw [sy_rev_eq, List.append_nil] at h6
    exact ⟨d', rfl, sy_ble h1, sy_ble h3, h4, sy_ble h6, h5⟩
theorem sy_back_inv {ih : sy_R} {d : Nat} {M : sy_M} {pc z : Nat} {k : List sy_E} {L : Nat} {st : List Nat} {c s : Nat} {Z X : sy_X} (h : sy_back ih d M pc z k L st c s Z = X) (hX : X.1 ≠ 0) :
    (Z.1 = 3 ∧ X = ih d M k L st Z.2.2.2.2.1 (c + Z.2.2.2.2.2.1) (s + Z.2.2.2.2.2.2)) ∨ (Z.1 = 4 ∧ X = ih d M k L (Z.2.1 :: st) Z.2.2.2.2.1 (c + Z.2.2.2.2.2.1) (s + Z.2.2.2.2.2.2)) ∨
    (Z.1 = 6 ∧ z ≠ 82 ∧ M.2.2.1 = [] ∧ X = (6, Z.2.1, 0, [], Z.2.2.2.2.1, c + Z.2.2.2.2.2.1, s + Z.2.2.2.2.2.2)) ∨ (Z.1 = 6 ∧ z ≠ 82 ∧ ∃ q, sy_hand M.2.2.1 pc Z.2.1 = q + 1 ∧ X = sy_caught (M.1.drop q) Z.2.2.2.2.1 (c + Z.2.2.2.2.2.1) (s + Z.2.2.2.2.2.2)) := by
  have h2 : sy_nth (sy_no 0) [sy_no Z.2.1, sy_no 0, sy_no 0, sy_b3 ih d M k L st c s Z, sy_b4 ih d M k L st c s Z, sy_no 0, sy_b6 M pc z c s Z] Z.1 = X := h
  generalize hk : Z.1 = kd at h2
  match kd, h2 with
  | 0, h2 => exact absurd (by rw [← h2]; rfl) hX
  | 1, h2 => exact absurd (by rw [← h2]; rfl) hX
  | 2, h2 => exact absurd (by rw [← h2]; rfl) hX
  | 3, h2 =>
    have h2 : sy_b3 ih d M k L st c s Z = X := h2
    unfold sy_b3 at h2
    rw [sy_force_eq, sy_force_eq] at h2
    exact Or.inl ⟨rfl, h2.symm⟩
  | 4, h2 =>
    have h2 : sy_b4 ih d M k L st c s Z = X := h2
    unfold sy_b4 at h2
    rw [sy_force_eq, sy_force_eq, sy_force_eq] at h2
    exact Or.inr (Or.inl ⟨rfl, h2.symm⟩)
  | 5, h2 => exact absurd (by rw [← h2]; rfl) hX
  | 6, h2 =>
    have h2 : sy_b6 M pc z c s Z = X := h2
    unfold sy_b6 at h2
    obtain ⟨hz0, h2⟩ := sy_if_inv h2 hX
    have hz0 : z ≠ 82 := fun q => by rw [q] at hz0; cases hz0
    rw [sy_force_eq, sy_force_eq] at h2
    cases hh : sy_hand M.2.2.1 pc Z.2.1 with
    | zero =>
      rw [hh] at h2
      rcases sy_cond_inv h2 with ⟨q1, q2⟩ | ⟨q1, q2⟩
      · rw [sy_len_eq] at q1
        exact Or.inr (Or.inr (Or.inl ⟨rfl, hz0, List.eq_nil_of_length_eq_zero (sy_beq q1), q2.symm⟩))
      · exact absurd (by rw [← q2]; rfl) hX
    | succ q =>
      rw [hh] at h2
      have h2 : sy_caught (sy_drop M.1 q) Z.2.2.2.2.1 (c + Z.2.2.2.2.2.1) (s + Z.2.2.2.2.2.2) = X := h2
      rw [sy_drop_eq] at h2
      exact Or.inr (Or.inr (Or.inr ⟨rfl, hz0, q, rfl, h2.symm⟩))
  | n + 7, h2 => exact absurd (by rw [← h2]; rfl) hX
theorem sy_mono (tk : sy_T) (len : Nat) : ∀ (fuel d : Nat) (M : sy_M) (rest : List sy_E) (L : Nat) (st : List Nat) (h : sy_H) (c s : Nat), sy_mn c s (sy_run tk len fuel d M rest L st h c s)
  | 0, _, _, _, _, _, _, _, _ => mn_no
  | fuel + 1, d, M, [], L, st, h, c, s => mn_no
  | fuel + 1, d, M, e :: k, L, st, h, c, s => by
    intro hX
    have hop := mn_op len tk e.2.2.1 e.2.2.2 L st h c s e.2.1
    rcases sy_step_inv (sy_run_succ (tk := tk) (len := len) (fuel := fuel) (d := d) (M := M) (e := e) (k := k) (L := L) (st := st) (h := h) (c := c) (s := s)).symm hX with ⟨h1, h2⟩ | ⟨h1, -, h2⟩ | ⟨h1, -, h2⟩ | ⟨h1, -, -, h2⟩ | ⟨h1, -, -, h2⟩ | ⟨h1, -, -, -, h2⟩ | ⟨h1, h2⟩
    · obtain ⟨o1, o2⟩ := hop (by rw [h1]; decide)
      rw [h2] at hX ⊢
      obtain ⟨p1, p2⟩ := sy_mono tk len fuel _ _ _ _ _ _ _ _ hX
      exact ⟨Nat.le_trans o1 p1, Nat.le_trans o2 p2⟩
    · obtain ⟨o1, o2⟩ := hop (by rw [h1]; decide)
      rw [h2] at hX ⊢
      obtain ⟨p1, p2⟩ := sy_mono tk len fuel _ _ _ _ _ _ _ _ hX
      exact ⟨Nat.le_trans o1 p1, Nat.le_trans o2 p2⟩
    · rw [h2]
      exact hop (by rw [h1]; decide)
    · rw [h2]
      exact hop (by rw [h1]; decide)
    · obtain ⟨o1, o2⟩ := hop (by rw [h1]; decide)
      obtain ⟨d', rfl, -, -, -, -, h7⟩ := sy_k5_inv h2.symm hX
      rcases sy_back_inv h7 hX with ⟨-, h8⟩ | ⟨-, h8⟩ | ⟨-, -, -, h8⟩ | ⟨-, -, q, -, h8⟩
      · rw [h8] at hX ⊢
        obtain ⟨p1, p2⟩ := sy_mono tk len fuel _ _ _ _ _ _ _ _ hX
        exact ⟨Nat.le_trans (Nat.le_trans o1 (Nat.le_add_right _ _)) p1, Nat.le_trans (Nat.le_trans o2 (Nat.le_add_right _ _)) p2⟩
      · rw [h8] at hX ⊢
        obtain ⟨p1, p2⟩ := sy_mono tk len fuel _ _ _ _ _ _ _ _ hX
        exact ⟨Nat.le_trans (Nat.le_trans o1 (Nat.le_add_right _ _)) p1, Nat.le_trans (Nat.le_trans o2 (Nat.le_add_right _ _)) p2⟩
      · rw [h8]
        exact ⟨Nat.le_trans o1 (Nat.le_add_right _ _), Nat.le_trans o2 (Nat.le_add_right _ _)⟩
      · rw [h8] at hX ⊢
        obtain ⟨-, h9⟩ := sy_if_inv (rfl : sy_caught _ _ _ _ = _) hX
        rw [← h9]
        exact ⟨Nat.le_trans o1 (Nat.le_add_right _ _), Nat.le_trans o2 (Nat.le_add_right _ _)⟩
    · obtain ⟨o1, o2⟩ := hop (by rw [h1]; decide)
      rcases sy_cond_inv h2.symm with ⟨-, h3⟩ | ⟨-, h3⟩
      · rw [← h3]
        exact ⟨o1, o2⟩
      · exact absurd (by rw [← h3]; rfl) hX
    · rw [h2]
      exact ⟨Nat.le_refl _, Nat.le_refl _⟩
end SYX
end
section
/-! every checked place, by its number -/
section SYZ3
variable {p : Program} {l : Launch} {e : Env} {R : Room} {s : State} {m : MethodId} {args : Array Value} {below : List Frame} {meth : Method} {c : Code} {Q : State → Prop} {w : sy_Wd} {A : Nat → Prop} {tk : sy_T} {len : Nat} {cc : ByteArray} {own host : String} {ini : Bool} {nL : Nat} {code : List sy_E} {lw : List Cond} {pc x y npc : Nat}
theorem sy_catsum {ρ : Nat → Nat} : ∀ q : List Nat, ((q.map (sy_v w ρ)).map fun v => v.category).sum = sy_cats q
  | [] => rfl
  | v :: q => by
    show (sy_v w ρ v).category + ((q.map (sy_v w ρ)).map fun v => v.category).sum = sy_ct v + sy_cats q
    rw [sy_catsum q, sy_ct_cat']
theorem sy_r91 (hC : sy_Cx p R s m args meth c w A tk len cc own ini nL lw) (h : sy_ck cc own host ini nL code lw pc 91 x y npc = true) : sy_OK p l e R s m args below meth c Q w A nL pc npc y (sy_obin tk x y) := by
  obtain ⟨hx, hb, hml, hown, hts, hlw, hini, hG, hA, hT, hRf, hRl⟩ := hC
  obtain ⟨g, h2⟩ := sy_an2 h
  obtain ⟨h1, hn⟩ := sy_dc_of g
  obtain ⟨h3, h4⟩ := sy_an2 h2
  obtain ⟨h4, h5⟩ := sy_an2 h4
  subst hn
  intro L st h cells slots Y hY hk hc hsl ρ H locs ls stC hH hL hS kk
  have hk0 : Y.1 ≠ 0 := by omega
  obtain ⟨a, r, e1, q1⟩ := sy_p1_inv hY hk0
  subst e1
  obtain ⟨hS1, hva, hr⟩ := sy_SPc hS
  subst hS1
  obtain ⟨h6, h7⟩ := sy_if_inv q1 hk0
  obtain ⟨h6, h8⟩ := sy_and h6
  subst h7
  rw [sy_v5 (sy_beq h6)]
  have h8 := sy_ble h8
  refine W.objInit hx hb hown (hts _ (hlw _ (of_decide_eq_true h3))) (hts _ (hlw _ (of_decide_eq_true h4))) (hts _ (hlw _ (of_decide_eq_true h5))) rfl (by rw [hml]; exact hL.1) rfl h1 (by omega) ?_ (kk ρ H locs ls _ sy_ag.rf (Nat.le_refl _) hH hL ⟨rfl, hr⟩)
  rw [sy_catsum]
  show 2 * (F0 m pc ls _).monitorRoom + _ + 12 ≤ _
  have e : (F0 m pc ls (.ref (ρ (sy_py a)) :: r.map (sy_v w ρ))).monitorRoom = 0 := rfl
  rw [e]
  omega
theorem sy_ok_vac {npc tpc : Nat} {f : Nat → List Nat → sy_H → Nat → Nat → sy_X} (hf : ∀ L st h c s, (f L st h c s).1 ≠ 1 ∧ (f L st h c s).1 ≠ 2) : sy_OK p l e R s m args below meth c Q w A nL pc npc tpc f := by
  intro L st h cells slots Y hY hk
  subst hY
  exact absurd hk (fun q => q.elim (hf _ _ _ _ _).1 (hf _ _ _ _ _).2)
theorem sy_ret_k {x y L c s : Nat} {st : List Nat} {h : sy_H} : (sy_ret tk x y L st h c s).1 ≠ 1 ∧ (sy_ret tk x y L st h c s).1 ≠ 2 := by
  cases st with
  | nil => exact ⟨(by show (0 : Nat) ≠ 1; decide), (by show (0 : Nat) ≠ 2; decide)⟩
  | cons a r =>
    show (sy_if (cond (sy_isc r) false (sy_okf y a)) (4, a, L, [], h, c, s)).1 ≠ 1 ∧ (sy_if (cond (sy_isc r) false (sy_okf y a)) (4, a, L, [], h, c, s)).1 ≠ 2
    cases cond (sy_isc r) false (sy_okf y a) with
    | true => exact ⟨(by show (4 : Nat) ≠ 1; decide), (by show (4 : Nat) ≠ 2; decide)⟩
    | false => exact ⟨(by show (0 : Nat) ≠ 1; decide), (by show (0 : Nat) ≠ 2; decide)⟩
theorem sy_retv_k {x y L c s : Nat} {st : List Nat} {h : sy_H} : (sy_retv tk x y L st h c s).1 ≠ 1 ∧ (sy_retv tk x y L st h c s).1 ≠ 2 := by
  cases st with
  | nil => exact ⟨(by show (3 : Nat) ≠ 1; decide), (by show (3 : Nat) ≠ 2; decide)⟩
  | cons a r => exact ⟨(by show (0 : Nat) ≠ 1; decide), (by show (0 : Nat) ≠ 2; decide)⟩
theorem sy_rowall (hC : sy_Cx p R s m args meth c w A tk len cc own ini nL lw) : ∀ z, z ≠ 90 → sy_ck cc own host ini nL code lw pc z x y npc = true → sy_OK p l e R s m args below meth c Q w A nL pc npc y ((sy_op len z).1 tk x y)
  | 0, _, _ => sy_ok_vac fun _ _ _ _ _ => ⟨(by show (0 : Nat) ≠ 1; decide), (by show (0 : Nat) ≠ 2; decide)⟩
  | 1, _, h => sy_r1 hC h
  | 2, _, h => sy_r2 hC h
  | 3, _, h => sy_r3 hC h
  | 4, _, h => sy_r4 hC h
  | 5, _, h => sy_r5 hC h
  | 6, _, h => sy_r6 hC h
  | 7, _, h => sy_r7 hC h
  | 8, _, h => sy_r8 hC h
  | 9, _, h => sy_r9 hC h
  | 10, _, h => sy_r10 hC h
  | 11, _, h => sy_r11 hC h
  | 12, _, h => sy_r12 hC h
  | 13, _, h => sy_r13 hC h
  | 14, _, h => sy_r14 hC h
  | 15, _, h => sy_r15 hC h
  | 16, _, h => sy_r16 hC h
  | 17, _, h => sy_r17 hC h
  | 18, _, h => sy_r18 hC h
  | 19, _, h => sy_r19 hC h
  | 20, _, h => sy_r20 hC h
  | 21, _, h => sy_r21 hC h
  | 22, _, h => sy_r22 hC h
  | 23, _, h => sy_r23 hC h
  | 24, _, h => sy_r24 hC h
  | 25, _, h => sy_r25 hC h
  | 26, _, h => sy_r26 hC h
  | 27, _, h => sy_r27 hC h
  | 28, _, h => sy_r28 hC h
  | 29, _, h => sy_r29 hC h
  | 30, _, h => sy_r30 hC h
  | 31, _, h => sy_r31 hC h
  | 32, _, h => sy_r32 hC h
  | 33, _, h => sy_r33 hC h
  | 34, _, h => sy_r34 hC h
  | 35, _, h => sy_r35 hC h
  | 36, _, h => sy_r36 hC h
  | 37, _, h => sy_r37 hC h
  | 38, _, h => sy_r38 hC h
  | 39, _, h => sy_r39 hC h
  | 40, _, h => sy_r40 hC h
  | 41, _, h => sy_r41 hC h
  | 42, _, h => sy_r42 hC h
  | 43, _, h => sy_r43 hC h
  | 44, _, h => sy_r44 hC h
  | 45, _, h => sy_r45 hC h
  | 46, _, h => sy_r46 hC h
  | 47, _, h => sy_r47 hC h
  | 48, _, h => sy_r48 hC h
  | 49, _, h => sy_r49 hC h
  | 50, _, h => sy_r50 hC h
  | 51, _, h => sy_r51 hC h
  | 52, _, h => sy_r52 hC h
  | 53, _, h => sy_r53 hC h
  | 54, _, h => sy_r54 hC h
  | 55, _, h => sy_r55 hC h
  | 56, _, _ => sy_ok_vac fun _ _ _ _ _ => sy_ret_k (tk := tk) (x := x) (y := y)
  | 57, _, _ => sy_ok_vac fun _ _ _ _ _ => sy_ret_k (tk := tk) (x := x) (y := y)
  | 58, _, _ => sy_ok_vac fun _ _ _ _ _ => sy_ret_k (tk := tk) (x := x) (y := y)
  | 59, _, _ => sy_ok_vac fun _ _ _ _ _ => sy_ret_k (tk := tk) (x := x) (y := y)
  | 60, _, _ => sy_ok_vac fun _ _ _ _ _ => sy_ret_k (tk := tk) (x := x) (y := y)
  | 61, _, _ => sy_ok_vac fun _ _ _ _ _ => sy_retv_k (tk := tk) (x := x) (y := y)
  | 62, _, h => sy_r62 hC h
  | 63, _, h => sy_r63 hC h
  | 64, _, h => sy_r64 hC h
  | 65, _, h => sy_r65 hC h
  | 66, _, h => sy_r66 hC h
  | 67, _, h => sy_r67 hC h
  | 68, _, h => sy_r68 hC h
  | 69, _, h => sy_r69 hC h
  | 70, _, h => sy_r70 hC h
  | 71, _, h => sy_r71 hC h
  | 72, _, h => sy_r72 hC h
  | 73, _, h => sy_r73 hC h
  | 74, _, h => sy_r74 hC h
  | 75, _, h => sy_r75 hC h
  | 76, _, h => sy_r76 hC h
  | 77, _, h => sy_r77 hC h
  | 78, _, h => sy_r78 hC h
  | 79, _, h => sy_r79 hC h
  | 80, _, _ => sy_ok_vac fun _ _ _ _ _ => ⟨(by show (5 : Nat) ≠ 1; decide), (by show (5 : Nat) ≠ 2; decide)⟩
  | 81, _, _ => sy_ok_vac fun _ _ _ _ _ => ⟨(by show (5 : Nat) ≠ 1; decide), (by show (5 : Nat) ≠ 2; decide)⟩
  | 82, _, _ => sy_ok_vac fun _ _ _ _ _ => ⟨(by show (5 : Nat) ≠ 1; decide), (by show (5 : Nat) ≠ 2; decide)⟩
  | 83, _, _ => sy_ok_vac fun _ _ _ _ _ => ⟨(by show (5 : Nat) ≠ 1; decide), (by show (5 : Nat) ≠ 2; decide)⟩
  | 84, _, _ => sy_ok_vac fun _ _ _ _ _ => ⟨(by show (5 : Nat) ≠ 1; decide), (by show (5 : Nat) ≠ 2; decide)⟩
  | 85, _, h => sy_r85 hC h
  | 86, _, h => sy_r86 hC h
  | 87, _, h => sy_r87 hC h
  | 88, _, _ => sy_ok_vac fun _ _ _ _ _ => ⟨(by show (6 : Nat) ≠ 1; decide), (by show (6 : Nat) ≠ 2; decide)⟩
  | 89, _, _ => sy_ok_vac fun _ _ _ _ _ => ⟨(by show (6 : Nat) ≠ 1; decide), (by show (6 : Nat) ≠ 2; decide)⟩
  | 90, hz, _ => absurd rfl hz
  | 91, _, h => sy_r91 hC h
  | _ + 92, _, _ => sy_ok_vac fun _ _ _ _ _ => ⟨(by show (0 : Nat) ≠ 1; decide), (by show (0 : Nat) ≠ 2; decide)⟩
end SYZ3
end
section
/-! what is told of the outside, told again inside a call -/
section SYT
theorem va_AOA_moved {ty : FieldType} {u U : State} (hvm : u.vm.Alike U.vm) (h : va_AOA ty u) : va_AOA ty U := by
  obtain ⟨comp, c, k, h1, h2, h3, h4, h5⟩ : ∃ (comp c : Nat) (k : Class), u.vm.findClass (FieldType.array ty).toString = some comp ∧ (u.vm.classes.findIdx? fun (x : Class) => match x.kind with | .array component _ => component == comp | _ => false) = some c ∧ u.vm.classes[c]? = some k ∧ k.kind = .array comp (.array ty) ∧ u.vm.findClass ("[" ++ (FieldType.array ty).toString) = some c := by
    unfold va_AOA Cond.before at h
    simp only [Cond.holds, Cond.value, beq_iff_eq] at h
    cases hc : u.vm.findClass (FieldType.array ty).toString with
    | none => simp [hc] at h
    | some comp =>
      simp only [hc, Option.bind_some, Option.bind_eq_some_iff, Option.map_eq_some_iff] at h
      obtain ⟨c, hi, k, hk, hb⟩ := h
      have hp := Array.findIdx?_eq_some_iff_getElem.mp hi
      obtain ⟨hlt, hpp, -⟩ := hp
      have hk2 : u.vm.classes[c] = k := by
        have := Array.getElem?_eq_some_iff.mp hk
        exact this.2
      rw [hk2] at hpp
      refine ⟨comp, c, k, rfl, hi, hk, ?_, ?_⟩
      · cases hkk : k.kind with
        | array comp2 ty2 =>
          rw [hkk] at hpp hb
          simp only [beq_iff_eq, Bool.and_eq_true, decide_eq_true_eq] at hpp hb
          rw [hpp, hb.1]
        | _ => rw [hkk] at hb; simp at hb
      · cases hkk : k.kind with
        | array comp2 ty2 =>
          rw [hkk] at hb
          simp only [Bool.and_eq_true, decide_eq_true_eq] at hb
          exact hb.2
        | _ => rw [hkk] at hb; simp at hb
  obtain ⟨k', hk', he⟩ := hvm.2.2 _ _ h3
  have hi : (U.vm.classes.findIdx? fun (x : Class) => match x.kind with | .array component _ => component == comp | _ => false) = some c := by
    refine (va_idx_bare U.vm comp).symm.trans ?_
    refine Eq.trans ?_ ((va_idx_bare u.vm comp).trans h2)
    first | rw [hvm.bare_eq] | rw [← hvm.bare_eq]
  have hkind : k'.kind = .array comp (.array ty) := by rw [he]; exact h4
  have f1 : U.vm.findClass (FieldType.array ty).toString = some comp := by rw [hvm.findClass]; exact h1
  have f2 : U.vm.findClass ("[" ++ (FieldType.array ty).toString) = some c := by rw [hvm.findClass]; exact h5
  unfold va_AOA Cond.before Cond.holds
  simp only [Cond.value]
  rw [f1, Option.bind_some]
  refine (congrArg (fun o : Option Nat => (o.bind (fun c => (U.vm.classes[c]?).map fun (k : Class) => match k.kind with | .array _ ty2 => decide (ty2 = FieldType.array ty) && decide (U.vm.findClass ("[" ++ (FieldType.array ty).toString) = some c) | _ => false) == some true)) hi).trans ?_
  simp [hk', hkind, f2]
/-- words of nest mates and of casts, true of the tables -/
def sy_NF (U : State) : Prop := ∀ u ∈ sy_nst, va_Nw u U
/-- what the throws rest on -/
def sy_GT (A : Nat → Prop) (U : State) (H : Heap) : Prop :=
  vx_Zq Bundle.tN "UNASSIGNED_STACK" Bundle.steD A U H ∧ vx_Zq Bundle.tN "SUPPRESSED_SENTINEL" Bundle.listD A U H ∧ (∀ k, k ≤ 16 → ∃ sa, vk_R "Manypens" (sy_sit k).2.1 (sy_sit k).2.2.2 sa U) ∧ ∀ a b, a ≤ 5 → b ≤ 5 → a ≠ b → va_Nc (sy_ex a) (sy_ex b) U
def sy_GA (w : sy_Wd) (len : Nat) (A : Nat → Prop) (U : State) (H : Heap) : Prop := sy_G w len A U H ∧ sy_NF U ∧ sy_GT A U H
theorem sy_NF_warm {s U : State} (hW : s.WarmedH U.vm) (h : sy_NF s) : sy_NF U := by
  intro u hu
  have hz := h u hu
  have hn := (List.mem_filter.mp hu).2
  cases u with
  | fieldLinkNest a i b n d t => exact va_Nw.warmF hW hz
  | methodLinkNest a i x t => exact va_Nw.warmM hW hz
  | castable a b => exact va_Nw.warmC hW hz
  | declares x => exact va_Nw.warmD hW hz
  | _ => cases hn
theorem sy_GA_tr {w : sy_Wd} {len : Nat} {A A' : Nat → Prop} {s U : State} {H H' : Heap} (h : sy_GA w len A s H) (hW : s.WarmedH U.vm) (hA : ∀ q, q < H.size → A' q → A q) (hA2 : ∀ q, A' q → A q) (hz : H.size ≤ H'.size) (hk : ∀ q : Nat, q < H.size → ¬ A q → H'[q]? = H[q]?) : sy_GA w len A' U H' := by
  obtain ⟨⟨g1, ⟨g2, g3, g4⟩, g5, g6, g7, g8⟩, hN, z1, z2, z3, z4⟩ := h
  have hal := hW.alike
  refine ⟨⟨va_K.moved hal g1, ⟨(g2.moved hal).kept (hk _ g3 g4), Nat.lt_of_lt_of_le g3 hz, fun q => g4 (hA2 _ q)⟩, g5, fun t h1 h2 => (g6 t h1 h2).moved hal, va_AOA_moved hal g7, g8.warmC hW⟩, sy_NF_warm hW hN, ?_, ?_, fun k hk2 => ?_, fun a b ha hb hab => (z4 a b ha hb hab).moved hal⟩
  · exact vx_Zq.moved hal ((z1.kept hk).narrow hA2)
  · exact vx_Zq.moved hal ((z2.kept hk).narrow hA2)
  · obtain ⟨sa, hs⟩ := z3 k hk2
    exact ⟨sa, hs.warm hW⟩
/-- the words hold: the good ones as the method's own list, the others as carried -/
theorem sy_hts {args : Array Value} {s : State} (h1 : ∀ u ∈ sy_gtb, u.before args s = true) (h2 : sy_NF s) : ∀ u ∈ sy_tbl, u.before args s = true := by
  intro u hu
  rcases List.mem_append.mp hu with hu | hu
  · exact h1 u hu
  · have hz := h2 u hu
    have hn := (List.mem_filter.mp hu).2
    cases u with
    | fieldLinkNest a i b n d t => exact va_Nw.use rfl hz
    | methodLinkNest a i x t => exact va_Nw.use rfl hz
    | castable a b => exact va_Nw.use rfl hz
    | declares x => exact va_Nw.use rfl hz
    | _ => cases hn
/-- the locals with which a method begins -/
theorem sy_rd_args : ∀ (l : List Nat) (i L j u : Nat), (∀ v ∈ l, v < 2 ^ 71) → sy_rd (sy_args l i L) j = u + 1 → (u ∈ l ∧ ∀ (w : sy_Wd) (ρ : Nat → Nat), (j, sy_v w ρ u) ∈ lv_args i (l.map (sy_v w ρ))) ∨ sy_rd L j = u + 1
  | [], i, L, j, u, _, h => Or.inr h
  | v :: l, i, L, j, u, hv, h => by
    have h : sy_rd (sy_force (sy_wr L i (Nat.succ v)) fun L => sy_args l (Nat.add i (sy_ct v)) L) j = u + 1 := h
    rw [sy_force_eq] at h
    rcases sy_rd_args l _ _ j u (fun v hm => hv v (List.mem_cons_of_mem _ hm)) h with ⟨h1, h2⟩ | h1
    · refine Or.inl ⟨List.mem_cons_of_mem _ h1, fun w ρ => ?_⟩
      show _ ∈ (i, sy_v w ρ v) :: lv_args (if (sy_v w ρ v).category = 2 then i + 2 else i + 1) (l.map (sy_v w ρ))
      have e : (if (sy_v w ρ v).category = 2 then i + 2 else i + 1) = Nat.add i (sy_ct v) := by
        rw [sy_ct_cat']
        rcases lv_cat (sy_v w ρ v) with hc | hc
        · rw [sy_ct_cat'] at hc
          rw [hc]
          rfl
        · rw [sy_ct_cat'] at hc
          rw [hc]
          rfl
      rw [e]
      exact List.mem_cons_of_mem _ (h2 w ρ)
    · have hlt : Nat.succ v < 2 ^ 72 := by
        have := hv v List.mem_cons_self
        show v + 1 < _
        omega
      rw [sy_rd_wr _ _ _ _ hlt] at h1
      by_cases hij : i = j
      · subst hij
        rw [if_pos rfl] at h1
        have e : v = u := by omega
        subst e
        exact Or.inl ⟨List.mem_cons_self, fun w ρ => List.mem_cons_self⟩
      · rw [if_neg hij] at h1
        exact Or.inr h1
theorem sy_LP_entry {w : sy_Wd} {ρ : Nat → Nat} {n nL : Nat} {l : List Nat} (hl : ∀ v ∈ l, sy_wfV n v) {ls : Array Slot} (h : lv_has ls nL (lv_args 0 (l.map (sy_v w ρ)))) : sy_LP w ρ nL n (sy_args l 0 0) ls := by
  refine sy_LP_of h fun i v hv => ?_
  rcases sy_rd_args l 0 0 i v (fun v hm => (hl v hm).1) hv with ⟨h1, h2⟩ | h1
  · exact ⟨h2 w ρ, hl v h1⟩
  · rw [sy_rd0] at h1
    cases h1
theorem sy_sl_len {w : sy_Wd} {ρ : Nat → Nat} : ∀ l : List Nat, (lg_sl (l.map (sy_v w ρ))).length = sy_cats l
  | [] => rfl
  | v :: l => by
    have e : lg_sl (sy_v w ρ v :: l.map (sy_v w ρ)) = (if (sy_v w ρ v).category = 2 then [.val (sy_v w ρ v), .second] else [.val (sy_v w ρ v)]) ++ lg_sl (l.map (sy_v w ρ)) := rfl
    show (lg_sl (sy_v w ρ v :: l.map (sy_v w ρ))).length = sy_ct v + sy_cats l
    rw [e, List.length_append, sy_sl_len l]
    rcases lv_cat (sy_v w ρ v) with hc | hc
    · rw [if_neg (by rw [hc]; decide), ← sy_ct_cat' (w := w) (ρ := ρ), hc]
      rfl
    · rw [if_pos hc, ← sy_ct_cat' (w := w) (ρ := ρ), hc]
      rfl
end SYT
end
section
/-! the run of the abstract machine is the machine's own -/
section SYW
def sy_rf (d : Nat) : Nat := d + 20
def sy_rl (d : Nat) : Nat := 300 * (d + 1)
def sy_ri (y : Nat) : Instr := match y with
  | 1 => .lreturn
  | 2 => .areturn
  | 3 => .freturn
  | 4 => .dreturn
  | _ => .ireturn
/-- what a call leaves: the world grown, the rest as it was -/
def sy_Wq (w : sy_Wd) (A : Nat → Prop) (ρ : Nat → Nat) (n : Nat) (X : sy_X) (ρ' : Nat → Nat) (H : Heap) : Prop :=
  sy_ag n ρ ρ' ∧ n ≤ X.2.2.2.2.1.1 ∧ va_P w.1 sy_cl (sy_ws w ρ' X.2.2.2.2.1) H ∧ va_D A (sy_ws w ρ' X.2.2.2.2.1) ∧ sy_wfH X.2.2.2.2.1
def sy_Qc (w : sy_Wd) (A : Nat → Prop) (ρ : Nat → Nat) (n : Nat) (X : sy_X) : Array Value → State → Outcome → State → Prop := fun _ st o t =>
  ∃ ρ', sy_Wq w A ρ n X ρ' t.heap ∧ va_F A st t ∧ ((X.1 = 3 ∧ o = .returned none) ∨ (X.1 = 4 ∧ sy_wfV X.2.2.2.2.1.1 X.2.1 ∧ o = .returned (some (sy_v w ρ' X.2.1))))
def sy_XC (w : sy_Wd) (A : Nat → Prop) (ρ : Nat → Nat) (n : Nat) (X : sy_X) : String → State → State → Prop := fun E st t =>
  X.1 = 6 ∧ X.2.1 ≤ 5 ∧ E = sy_ex X.2.1 ∧ ∃ ρ', sy_Wq w A ρ n X ρ' t.heap ∧ va_F A st t
def sy_Pc (w : sy_Wd) (len : Nat) (ρ : Nat → Nat) (h : sy_H) (sz : Nat) (vals : List Nat) : Array Value → State → Prop := fun a U =>
  a = (vals.map (sy_v w ρ)).toArray ∧ U.heap.size = sz ∧ va_P w.1 sy_cl (sy_ws w ρ h) U.heap ∧ va_D (va_A (sy_ws w ρ h) sz) (sy_ws w ρ h) ∧ sy_GA w len (va_A (sy_ws w ρ h) sz) U U.heap
/-- the method i, as its frame stands -/
def sy_Ct (l : Launch) (p : Program) (R : Room) (s : State) (m : MethodId) (args : Array Value) (meth : Method) (c : Code) (w : sy_Wd) (A : Nat → Prop) (tk : sy_T) (len i d : Nat) : Prop :=
  p.tables.exec = Jvm.exec ∧ c.code = sy_ib i ∧ c.maxLocals = sy_il i ∧ s.vm.findClass (sy_im i).cls = some m.cls ∧ (∀ u ∈ sy_gtb, u.before args s = true) ∧ ((sy_im i).name = "<init>" → meth.name = "<init>") ∧ sy_GA w len A s s.heap ∧ (∀ q, s.heap.size ≤ q → A q) ∧ sy_TK tk w.2.2.1 ∧
  meth.locks = false ∧ meth.sig.returnType = sy_ir i ∧ (i ≠ 0 → c.exceptionTable.toList = tableOf (sy_hh i)) ∧ sy_rf d ≤ R.frames ∧ sy_rl d ≤ R.locals ∧ l.stackTraces = false ∧ (∀ u ∈ sy_iw i, u ∈ sy_tbl) ∧ sy_gd3 i = true ∧ sy_gd1 i = true
theorem sy_Ct.cx {l : Launch} {p : Program} {R : Room} {s : State} {m : MethodId} {args : Array Value} {meth : Method} {c : Code} {w : sy_Wd} {A : Nat → Prop} {tk : sy_T} {len i d : Nat} (h : sy_Ct l p R s m args meth c w A tk len i d) :
    sy_Cx p R s m args meth c w A tk len (sy_ib i) (sy_im i).cls (decide ((sy_im i).name = "<init>")) (sy_il i) (sy_iw i) := by
  obtain ⟨h1, h2, h3, h4, h5, h6, h7, h8, h9, h10, h11, h12, h13, h14, h15, h16, h17, h18⟩ := h
  refine ⟨h1, h2, h3, h4, sy_hts h5 h7.2.1, h16, fun q => h6 (of_decide_eq_true q), h7.1, h8, h9, ?_, ?_⟩
  · unfold sy_rf at h13
    omega
  · unfold sy_rl at h14
    omega
/-- the ends that a run may come to, and that the machine is to be led on from -/
def sy_En (p : Program) (l : Launch) (e : Env) (R : Room) (s : State) (m : MethodId) (args : Array Value) (below : List Frame) (meth : Method) (c : Code) (Q : State → Prop) (w : sy_Wd) (A : Nat → Prop) (i n : Nat) (ρ : Nat → Nat) (X : sy_X) : Prop :=
  ∀ (ρ' : Nat → Nat) (H' : Heap) (locs' : List Loc) (ls' : Array Slot) (pc' : Nat), sy_ag n ρ ρ' → n ≤ X.2.2.2.2.1.1 → sy_HP w A s.heap ρ' X.2.2.2.2.1 H' locs' → ls'.size = sy_il i →
    (X.1 = 3 → sy_ir i = none → decode (sy_ib i) pc' = .ok (.return_, 1) → W p l e R s m args below meth c H' locs' X.2.2.2.2.2.1 X.2.2.2.2.2.2 Q (F0 m pc' ls' [])) ∧
    (X.1 = 4 → sy_wfV X.2.2.2.2.1.1 X.2.1 → ∀ y, (sy_ir i).map sy_tyc = some y → sy_okf y X.2.1 = true → decode (sy_ib i) pc' = .ok (sy_ri y, 1) → W p l e R s m args below meth c H' locs' X.2.2.2.2.2.1 X.2.2.2.2.2.2 Q (F0 m pc' ls' [sy_v w ρ' X.2.1])) ∧
    (X.1 = 6 → X.2.1 ≤ 5 → sy_hh i = [] → ∀ (q : Addr) (ce : Cell) (st : List Value), H'[q]? = some ce → ce.vm = .none → s.vm.findClass (sy_ex X.2.1) = some ce.cls → vx_W p l e R s m args below meth c H' locs' X.2.2.2.2.2.1 X.2.2.2.2.2.2 Q (F0 m pc' ls' st) q) ∧
    (X.1 = 6 → ∀ (z y npc : Nat) (st : List Value), 88 ≤ z → z ≤ 89 → sy_ck2 i pc' z X.2.1 y npc = true → (st.map fun v => v.category).sum ≤ 50 → ∀ cells slots, cells + 1 = X.2.2.2.2.2.1 → slots + 6 = X.2.2.2.2.2.2 → W p l e R s m args below meth c H' locs' cells slots Q (F0 m pc' ls' st)) ∧
    (X.1 = 8 → ∀ (stC : List Value), sy_LP w ρ' (sy_il i) X.2.2.2.2.1.1 X.2.2.1 ls' → sy_SP w ρ' X.2.2.2.2.1.1 X.2.2.2.1 stC → W p l e R s m args below meth c H' locs' X.2.2.2.2.2.1 X.2.2.2.2.2.2 Q (F0 m X.2.1 ls' stC))
theorem sy_En.ag {p : Program} {l : Launch} {e : Env} {R : Room} {s : State} {m : MethodId} {args : Array Value} {below : List Frame} {meth : Method} {c : Code} {Q : State → Prop} {w : sy_Wd} {A : Nat → Prop} {i n n' : Nat} {ρ ρ' : Nat → Nat} {X : sy_X}
    (h : sy_En p l e R s m args below meth c Q w A i n ρ X) (ha : sy_ag n ρ ρ') (hn : n ≤ n') : sy_En p l e R s m args below meth c Q w A i n' ρ' X :=
  fun ρ2 H' locs' ls' pc' h1 h2 h3 h4 => h ρ2 H' locs' ls' pc' (ha.trans h1 hn) (Nat.le_trans hn h2) h3 h4
/-- what is proved by induction on the fuel -/
def sy_Sd (l : Launch) (w : sy_Wd) (tk : sy_T) (len fuel : Nat) : Prop :=
  ∀ (d i : Nat) (rest : List sy_E) (L : Nat) (st : List Nat) (h : sy_H) (cells slots : Nat) (X : sy_X), i ≤ 227 → sy_ckl i rest = true → sy_run tk len fuel d (sy_meth i) rest L st h cells slots = X → X.1 ≠ 0 →
  ∀ (p : Program) (e : Env) (R : Room) (s : State) (m : MethodId) (args : Array Value) (below : List Frame) (meth : Method) (c : Code) (Q : State → Prop) (A : Nat → Prop), sy_Ct l p R s m args meth c w A tk len i d → X.2.2.2.2.2.1 ≤ R.cells → X.2.2.2.2.2.2 ≤ R.slots →
  ∀ (ρ : Nat → Nat) (H : Heap) (locs : List Loc) (ls : Array Slot) (stC : List Value), sy_HP w A s.heap ρ h H locs → sy_LP w ρ (sy_il i) h.1 L ls → sy_SP w ρ h.1 st stC → sy_En p l e R s m args below meth c Q w A i h.1 ρ X →
    W p l e R s m args below meth c H locs cells slots Q (F0 m (sy_nth sy_e0 rest 0).1 ls stC)
theorem sy_ckl_drop {i : Nat} : ∀ (l : List sy_E) (n : Nat), sy_ckl i l = true → sy_ckl i (l.drop n) = true
  | [], n, h => by simpa using h
  | a :: l, 0, h => h
  | a :: l, n + 1, h => sy_ckl_drop l n (sy_and h).2
end SYW
end
section
/-! the contract of a method, out of its run -/
section SYY
variable {l : Launch} {w : sy_Wd} {tk : sy_T} {len fuel : Nat}
theorem sy_LPsz {ρ : Nat → Nat} {nL n L : Nat} {ls : Array Slot} (h : sy_LP w ρ nL n L ls) : ls.size = nL := h.1
/-- the statics' facts of a method, taken apart -/
theorem sy_gd3_of {i : Nat} (h : sy_gd3 i = true) : (sy_meth i).2.1 = sy_il i ∧ (sy_nth sy_e0 (sy_meth i).1 0).1 = 0 ∧ sy_il i ≤ 100 ∧ (sy_meth i).2.2.1.length = (sy_hh i).length ∧ (∀ q ∈ (sy_meth i).2.2.1.zip (sy_hh i), sy_ckh i q.1 q.2 = true) ∧ plainName (sy_im i).cls = true ∧ (sy_im i).cls ≠ "java/lang/invoke/MethodHandle" ∧ (sy_im i).cls ≠ "java/lang/invoke/VarHandle" := by
  obtain ⟨h1, h2⟩ := sy_an2 h
  obtain ⟨h2, h3⟩ := sy_an2 h2
  obtain ⟨h3, h4⟩ := sy_an2 h3
  obtain ⟨h4, h5⟩ := sy_an2 h4
  obtain ⟨h5, h6⟩ := sy_an2 h5
  obtain ⟨h6, h7⟩ := sy_an2 h6
  obtain ⟨h7, h8⟩ := sy_an2 h7
  exact ⟨sy_beq h1, sy_beq h2, sy_ble h3, of_decide_eq_true h4, List.all_eq_true.mp h5, h6, of_decide_eq_true h7, of_decide_eq_true h8⟩
theorem sy_gd2_of {i : Nat} (h : sy_gd2 i = true) : ∀ u ∈ sy_iw i, u ∈ sy_tbl := by
  intro u hu
  obtain ⟨h1, h2⟩ := sy_an2 (List.all_eq_true.mp h u hu)
  have h1 := of_decide_eq_true h1
  cases hg : goodWord u with
  | true => exact sy_tbl_mem ⟨h1, hg⟩
  | false =>
    rw [hg] at h2
    exact sy_tbl_memN ⟨h1, h2⟩
theorem sy_cw_nil {i : Nat} (h : sy_hh i = []) : sy_cw i = .code (sy_im i) (sy_ib i) (sy_il i) (sy_ir i) := by
  unfold sy_cw
  rw [h]
theorem sy_cw_cons {i : Nat} (h : sy_hh i ≠ []) : sy_cw i = .codeWith (sy_im i) (sy_ib i) (sy_il i) (sy_ir i) (sy_hh i) := by
  unfold sy_cw
  cases hh : sy_hh i with
  | nil => exact absurd hh h
  | cons a t => rfl
theorem sy_sx_le : ∀ y, y ≤ 16 → sy_sx y ≤ 5 := by decide
/-- how a method's run may end, each led to the contract's end -/
theorem sy_ends {p : Program} {e : Env} {R : Room} {s : State} {m : MethodId} {args : Array Value} {below : List Frame} {meth : Method} {c : Code} {A : Nat → Prop} {i d n : Nat} {ρ : Nat → Nat} {X : sy_X} (hC : sy_Ct l p R s m args meth c w A tk len i d) (hX : X.1 = 3 ∨ X.1 = 4 ∨ X.1 = 6) (hi0 : i ≠ 0)
    (hc : X.2.2.2.2.2.1 ≤ R.cells) (hs : X.2.2.2.2.2.2 ≤ R.slots) : sy_En p l e R s m args below meth c (vx_MQ below (sy_Qc w A ρ n X) (sy_XC w A ρ n X) args s X.2.2.2.2.2.1 X.2.2.2.2.2.2 A) w A i n ρ X := by
  have hC0 := hC
  obtain ⟨hx, hb, hml, hown, hg, hini, hGA, hA, hT, hlocks, hret, htab, hf, hlo, hl, hiw, hg3, hg1⟩ := hC
  have htab := htab hi0
  intro ρ' H' locs' ls' pc' ha hn hH hsz
  have hWq : ∀ t : State, t.heap = H' → sy_Wq w A ρ n X ρ' t.heap := fun t ht => by
    rw [ht]
    exact ⟨ha, hn, hH.1, hH.2.1, hH.2.2.2⟩
  have hfree : ∀ q ∈ locs', A q.base := hH.2.2.1.2.2
  refine ⟨fun h3 hr hd => ?_, fun h4 hv y hy hok hd => ?_, fun h6 h5 hh q ce st hq hv hcl => ?_, fun h6 z y npc st hz1 hz2 hck hst cells slots hcc hss => ?_, fun h8 => by omega⟩
  · exact vx_ret (W.vret hx hb (hret.trans hr) (fun t ht hW => ⟨ρ', hWq t ht, hH.2.2.1.F ht, Or.inl ⟨h3, rfl⟩⟩) hfree hd hlocks)
  · have hQ : ∀ t : State, t.heap = H' → s.WarmedH t.vm → sy_Qc w A ρ n X args s (.returned (some (sy_v w ρ' X.2.1))) t := fun t ht hW => ⟨ρ', hWq t ht, hH.2.2.1.F ht, Or.inr ⟨h4, hv, rfl⟩⟩
    cases hrt : sy_ir i with
    | none =>
      rw [hrt] at hy
      cases hy
    | some ty =>
      rw [hrt] at hy hret
      have hy : sy_tyc ty = y := Option.some.inj hy
      have hy7 : y < 7 := by
        subst hy
        cases ty with
        | byte => exact absurd hok (by show ¬ false = true; decide)
        | short => exact absurd hok (by show ¬ false = true; decide)
        | _ => first | (show (0 : Nat) < 7; decide) | (show (1 : Nat) < 7; decide) | (show (2 : Nat) < 7; decide) | (show (3 : Nat) < 7; decide) | (show (4 : Nat) < 7; decide) | (show (5 : Nat) < 7; decide) | (show (6 : Nat) < 7; decide)
      obtain ⟨n1, n2⟩ := sy_okf_ok (w := w) (ρ := ρ') hy hy7 hok
      subst hy
      cases ty with
      | int =>
        obtain ⟨z, hz⟩ := sy_vi_ex (w := w) (ρ := ρ') (sy_beq hok)
        rw [hz] at hQ ⊢
        exact vx_ret (W.iret hx hb hret hQ hfree hd hlocks)
      | long =>
        obtain ⟨z, hz⟩ := sy_vl_ex (w := w) (ρ := ρ') (sy_beq hok)
        rw [hz] at hQ ⊢
        exact vx_ret (W.lret hx hb hret hQ hfree hd hlocks)
      | float =>
        rcases sy_ty_tg (sy_beq hok) (by decide) with ⟨q, -⟩ | ⟨q, -⟩ | ⟨q, -⟩ | ⟨-, q⟩ | ⟨q, -⟩
        · cases q
        · cases q
        · cases q
        · rw [sy_v2 q] at hQ ⊢
          exact vx_ret (W.fret hx hb hret hQ hfree hd hlocks)
        · cases q
      | double =>
        rcases sy_ty_tg (sy_beq hok) (by decide) with ⟨q, -⟩ | ⟨q, -⟩ | ⟨q, -⟩ | ⟨q, -⟩ | ⟨-, q⟩
        · cases q
        · cases q
        · cases q
        · cases q
        · rw [sy_v3 q] at hQ ⊢
          exact vx_ret (W.dret hx hb hret hQ hfree hd hlocks)
      | object C =>
        exact vx_ret (W.aret hx hb hret (Or.inl ⟨_, rfl⟩) (sy_vr_ex (sy_beq hok)) hQ hfree hd hlocks)
      | array C =>
        exact vx_ret (W.aret hx hb hret (Or.inr ⟨_, rfl⟩) (sy_vr_ex (sy_beq hok)) hQ hfree hd hlocks)
      | boolean =>
        have hz : ∃ z, sy_v w ρ' X.2.1 = .int z := by
          have hok : cond (Nat.beq X.2.1 0) true (Nat.beq X.2.1 16) = true := hok
          cases hc0 : Nat.beq X.2.1 0 with
          | true => rw [sy_beq hc0]; exact ⟨_, rfl⟩
          | false =>
            rw [hc0] at hok
            rw [(sy_beq hok : X.2.1 = 16)]
            exact ⟨_, rfl⟩
        obtain ⟨z, hz⟩ := hz
        rw [hz] at hQ n1 ⊢
        exact vx_ret (W.zret hx hb hret n1 hQ hfree hd hlocks)
      | char =>
        have hz : ∃ z, sy_v w ρ' X.2.1 = .int z := by
          rcases sy_isch_of hok with hc0 | ⟨hc0, -⟩
          · exact ⟨_, sy_v8 hc0⟩
          · exact ⟨_, sy_v0 hc0⟩
        obtain ⟨z, hz⟩ := hz
        rw [hz] at hQ n1 ⊢
        exact vx_ret (W.zret hx hb hret n1 hQ hfree hd hlocks)
      | byte => exact absurd hy7 (by decide)
      | short => exact absurd hy7 (by decide)
  · refine vx_outP hown hlocks (fun z hz => ?_) hq hv hcl (fun t ht _ => ⟨h6, h5, rfl, ρ', hWq t ht, hH.2.2.1.F ht⟩) hfree (Nat.le_refl _) (Nat.le_refl _)
    rw [htab, hh] at hz
    cases hz
  · have hts := sy_hts hg hGA.2.1
    obtain ⟨z1, z2, z3, z4⟩ := hGA.2.2
    have fin : ∀ {ik is ic : Nat}, (sy_sit y) = (ik, is, ic, (sy_sit y).2.2.2) → sy_wd (sy_iw i) (.classLink (sy_im i).cls ik (sy_ex X.2.1)) = true → sy_wd (sy_iw i) (.initialized (sy_ex X.2.1)) = true → (sy_im i).cls = "Manypens" → y ≤ 16 → X.2.1 = sy_sx y → sy_hh i = [] →
        decode (sy_ib i) pc' = .ok (.new ik, 3) → decode (sy_ib i) (pc' + 3) = .ok (.dup, 1) →
        ((decode (sy_ib i) (pc' + 4) = .ok (.ldc is, 2) ∧ decode (sy_ib i) (pc' + 6) = .ok (.invokespecial ic, 3) ∧ decode (sy_ib i) (pc' + 9) = .ok (.athrow, 1)) ∨ (decode (sy_ib i) (pc' + 4) = .ok (.ldc_w is, 3) ∧ decode (sy_ib i) (pc' + 7) = .ok (.invokespecial ic, 3) ∧ decode (sy_ib i) (pc' + 10) = .ok (.athrow, 1))) →
        W p l e R s m args below meth c H' locs' cells slots (vx_MQ below (sy_Qc w A ρ n X) (sy_XC w A ρ n X) args s X.2.2.2.2.2.1 X.2.2.2.2.2.2 A) (F0 m pc' ls' st) := by
      intro ik is ic hsit w1 w2 hM hy hxy hh d0 d3 dd
      obtain ⟨o1, o2, o3, o4⟩ := sy_sok_all y hy
      obtain ⟨sa, hsa⟩ := z3 y hy
      rw [← hxy, hsit] at o1 o2
      rw [← hxy] at o3
      rw [hsit] at hsa
      have hat : ∀ u ∈ vx_atS "Manypens" ic (sy_ex X.2.1) sy_xn, u.before args s = true := fun u hu => by
        obtain ⟨q1, q2⟩ := o1 u hu
        cases hgw : goodWord u with
        | true => exact hts u (sy_tbl_mem ⟨q1, hgw⟩)
        | false =>
          rw [hgw] at q2
          exact hts u (sy_tbl_memN ⟨q1, q2⟩)
      have k1 := hts _ (hiw _ (of_decide_eq_true w1))
      have k2 := hts _ (hiw _ (of_decide_eq_true w2))
      rw [hM] at hown k1
      have hout : ∀ (q : Nat), ∀ x ∈ c.exceptionTable.toList, covers x q = false := fun q x hx => by
        rw [htab, hh] at hx
        cases hx
      have hfr : sy_xn.length + 3 < R.frames := by
        unfold sy_rf at hf
        show 2 + 3 < _
        omega
      have hlo2 : (st.map fun v => v.category).sum + (13 * (sy_xn.length + 1) + 43) ≤ R.locals := by
        unfold sy_rl at hlo
        show _ + (13 * (2 + 1) + 43) ≤ _
        omega
      have hxx : ∀ t : State, s.vm.Alike t.vm → H'.size ≤ t.heap.size → (∀ q : Nat, q < H'.size → t.heap[q]? = H'[q]?) → sy_XC w A ρ n X (sy_ex X.2.1) s t := by
        intro t _ hz1 hz2
        have hP' : va_P w.1 sy_cl (sy_ws w ρ' X.2.2.2.2.1) t.heap := hH.1.kept fun k q hk => hz2 q.1 (hH.1 k q hk).lt
        refine ⟨h6, ?_, rfl, ρ', ⟨ha, hn, hP', hH.2.1, hH.2.2.2⟩, Nat.le_trans hH.2.2.1.1 hz1, fun q hq hqA => ?_⟩
        · rw [hxy]
          exact sy_sx_le y hy
        · rw [hz2 q (Nat.lt_of_lt_of_le hq hH.2.2.1.1)]
          exact hH.2.2.1.2.1 q hq hqA
      rcases dd with ⟨d4, d6, d9⟩ | ⟨d4, d7, d10⟩
      · exact vx_throwS hx hb hl hown o3 o4 k1 k2 hsa hat o2 z1 z2 hH.2.2.1 (hsz.trans hml.symm) d0 d3 d4 d6 d9 (hout _) hfr hlo2 (by omega) (by omega) hlocks hxx hfree (by omega) (by omega)
      · exact vx_throwSW hx hb hl hown o3 o4 k1 k2 hsa hat o2 z1 z2 hH.2.2.1 (hsz.trans hml.symm) d0 d3 d4 d7 d10 (hout _) hfr hlo2 (by omega) (by omega) hlocks hxx hfree (by omega) (by omega)
    have hz : z = 88 ∨ z = 89 := by omega
    rcases hz with rfl | rfl
    · obtain ⟨c1, g⟩ := sy_an2 hck
      obtain ⟨c2, g⟩ := sy_an2 g
      obtain ⟨c3, g⟩ := sy_an2 g
      obtain ⟨c4, g⟩ := sy_an2 g
      obtain ⟨c5, g⟩ := sy_an2 g
      obtain ⟨c6, g⟩ := sy_an2 g
      obtain ⟨c7, g⟩ := sy_an2 g
      obtain ⟨c8, g⟩ := sy_an2 g
      obtain ⟨c9, g⟩ := sy_an2 g
      obtain ⟨c10, c11⟩ := sy_an2 g
      exact fin rfl c6 c7 (of_decide_eq_true c8) (sy_ble c9) (sy_beq c10) (of_decide_eq_true c11) (sy_dt_of c1) (sy_dt_of c2) (Or.inl ⟨sy_dt_of c3, sy_dt_of c4, sy_dt_of c5⟩)
    · obtain ⟨c1, g⟩ := sy_an2 hck
      obtain ⟨c2, g⟩ := sy_an2 g
      obtain ⟨c3, g⟩ := sy_an2 g
      obtain ⟨c4, g⟩ := sy_an2 g
      obtain ⟨c5, g⟩ := sy_an2 g
      obtain ⟨c6, g⟩ := sy_an2 g
      obtain ⟨c7, g⟩ := sy_an2 g
      obtain ⟨c8, g⟩ := sy_an2 g
      obtain ⟨c9, g⟩ := sy_an2 g
      obtain ⟨c10, c11⟩ := sy_an2 g
      exact fin rfl c6 c7 (of_decide_eq_true c8) (sy_ble c9) (sy_beq c10) (of_decide_eq_true c11) (sy_dt_of c1) (sy_dt_of c2) (Or.inr ⟨sy_dt_of c3, sy_dt_of c4, sy_dt_of c5⟩)
/-- the body of a method, from its entry -/
theorem sy_body {p : Program} {e : Env} {s : State} {m : MethodId} {args : Array Value} {below : List Frame} {meth : Method} {c : Code} {R : Room} {i d sz : Nat} {ρ : Nat → Nat} {h : sy_H} {vals : List Nat} {X : sy_X} (hSd : sy_Sd l w tk len fuel) (hi0 : i ≠ 0) (hi2 : i ≤ 227) (hg1 : sy_gd1 i = true) (hg3 : sy_gd3 i = true)
    (hrun : sy_run tk len fuel d (sy_meth i) (sy_meth i).1 (sy_args vals 0 0) [] h 0 0 = X) (hX : X.1 = 3 ∨ X.1 = 4 ∨ X.1 = 6) (hv : ∀ v ∈ vals, sy_wfV h.1 v) (hw : sy_wfH h) (hcat : sy_cats vals ≤ sy_il i)
    (hC : sy_Ct l p R s m args meth c w (va_A (sy_ws w ρ h) sz) tk len i d) (hc : X.2.2.2.2.2.1 ≤ R.cells) (hs : X.2.2.2.2.2.2 ≤ R.slots) (hP : sy_Pc w len ρ h sz vals args s) :
    W p l e R s m args below meth c s.heap [] 0 0 (vx_MQ below (sy_Qc w (va_A (sy_ws w ρ h) sz) ρ h.1 X) (sy_XC w (va_A (sy_ws w ρ h) sz) ρ h.1 X) args s X.2.2.2.2.2.1 X.2.2.2.2.2.2 (va_A (sy_ws w ρ h) sz)) (entryFrame m args (sy_il i)) := by
  obtain ⟨hargs, hsz, hPw, hDw, hGA⟩ := hP
  obtain ⟨f1, f2, f3, f4, f5, f6, f7, f8⟩ := sy_gd3_of hg3
  subst hargs
  have hl := lv_entry (vals.map (sy_v w ρ)) (n := sy_il i) (by rw [sy_sl_len]; exact hcat)
  rw [lg_entry_eq]
  generalize (lg_sl (vals.map (sy_v w ρ)) ++ List.replicate (sy_il i - (lg_sl (vals.map (sy_v w ρ))).length) Slot.unset).toArray = ls at hl ⊢
  have K := hSd d i (sy_meth i).1 (sy_args vals 0 0) [] h 0 0 X hi2 hg1 hrun (by omega) p e R s m _ below meth c _ _ hC hc hs ρ s.heap [] ls [] ⟨hPw, hDw, va_S.rf, hw⟩ (sy_LP_entry hv hl) ⟨rfl, fun v hv => nomatch hv⟩ (sy_ends hC hX hi0 hc hs)
  rw [f2] at K
  exact K
end SYY
end
section
/-! the induction -/
section SYI2
variable {l : Launch} {w : sy_Wd} {tk : sy_T} {len fuel : Nat}
def sy_rm (d : Nat) (X : sy_X) : Room := { frames := sy_rf d, cells := X.2.2.2.2.2.1, slots := X.2.2.2.2.2.2, locals := sy_rl d }
/-- what is asked of the statics -/
def sy_Ok : Prop := ∀ i, 1 ≤ i → i ≤ 227 → (sy_meth i).1 = [] ∨ (sy_gd1 i = true ∧ sy_gd2 i = true ∧ sy_gd3 i = true ∧ sy_gd4 i = true)
theorem sy_contract (hl : l.stackTraces = false) (hT : sy_TK tk w.2.2.1) (hSd : sy_Sd l w tk len fuel) {i d sz : Nat} {ρ : Nat → Nat} {h : sy_H} {vals : List Nat} {X : sy_X} (hi0 : i ≠ 0) (hi2 : i ≤ 227) (hg1 : sy_gd1 i = true) (hg2 : sy_gd2 i = true) (hg3 : sy_gd3 i = true) (hg4 : sy_gd4 i = true)
    (hrun : sy_run tk len fuel d (sy_meth i) (sy_meth i).1 (sy_args vals 0 0) [] h 0 0 = X) (hX : X.1 = 3 ∨ X.1 = 4 ∨ X.1 = 6) (hv : ∀ v ∈ vals, sy_wfV h.1 v) (hw : sy_wfH h) (hcat : sy_cats vals ≤ sy_il i) :
    vx_Met l (sy_im i) (sy_cw i :: sy_gtb) (sy_rm d X) (sy_Pc w len ρ h sz vals) (sy_Qc w (va_A (sy_ws w ρ h) sz) ρ h.1 X) (sy_XC w (va_A (sy_ws w ρ h) sz) ρ h.1 X) X.2.2.2.2.2.1 X.2.2.2.2.2.2 (va_A (sy_ws w ρ h) sz) := by
  obtain ⟨f1, f2, f3, f4, f5, f6, f7, f8⟩ := sy_gd3_of hg3
  have key : ∀ {p : Program} {e : Env} {s : State} {m : MethodId} {args : Array Value} {below : List Frame} {meth : Method} {c : Code} {s₁ : State}, BodyLoose p l (sy_im i) (headSpec (sy_cw i :: sy_gtb) (sy_rm d X)) (sy_ib i) (sy_il i) (sy_ir i) e s m args below meth c s₁ → c.maxLocals = sy_il i → c.exceptionTable.toList = tableOf (sy_hh i) → sy_Pc w len ρ h sz vals args s →
      W p l e (headSpec (sy_cw i :: sy_gtb) (sy_rm d X)).room s m args below meth c s.heap [] 0 0 (vx_MQ below (sy_Qc w (va_A (sy_ws w ρ h) sz) ρ h.1 X) (sy_XC w (va_A (sy_ws w ρ h) sz) ρ h.1 X) args s X.2.2.2.2.2.1 X.2.2.2.2.2.2 (va_A (sy_ws w ρ h) sz)) (entryFrame m args (sy_il i)) := by
    intro p e s m args below meth c s₁ B hml htab hP
    have hts : ∀ u ∈ sy_cw i :: sy_gtb, u.before args s = true := atoms_spec (ws := sy_cw i :: sy_gtb) B.pre
    have hsz : s.heap.size = sz := hP.2.1
    refine sy_body hSd hi0 hi2 hg1 hg3 hrun hX hv hw hcat ?_ (Nat.le_refl _) (Nat.le_refl _) hP
    refine ⟨B.exec, B.bytes, hml, findClass_of_methodNamed B.named, fun u hu => hts u (List.mem_cons_of_mem _ hu), fun q => (name_of_methodNamed B.named B.method).1.trans q, hP.2.2.2.2, fun q hq => Or.inr (by omega), hT, B.notSynchronized, B.returns, fun _ => htab, Nat.le_refl _, Nat.le_refl _, hl, sy_gd2_of hg2, hg3, hg1⟩
  by_cases hh : sy_hh i = []
  · refine vx_ofW (cc := sy_ib i) (maxL := sy_il i) (ret := sy_ir i) f6 (by rw [sy_cw_nil hh]) ?_
    intro p e s m args below meth c s₁ B hml ht hP
    refine key B hml ?_ hP
    rw [hh]
    exact List.eq_nil_iff_forall_not_mem.mpr ht
  · refine vx_ofWH (cc := sy_ib i) (maxL := sy_il i) (ret := sy_ir i) (hh := sy_hh i) f6 (by rw [sy_cw_cons hh]) ?_
    intro p e s m args below meth c s₁ B hml hP
    have hts : ∀ u ∈ sy_cw i :: sy_gtb, u.before args s = true := atoms_spec (ws := sy_cw i :: sy_gtb) B.pre
    have h1 := hts _ List.mem_cons_self
    rw [sy_cw_cons hh] at h1
    exact key B hml (vx_table (x := sy_im i) B h1) hP
/-- behind a call: on with the world that it leaves -/
theorem sy_after {p : Program} {e : Env} {R : Room} {s : State} {m : MethodId} {args : Array Value} {below : List Frame} {meth : Method} {c : Code} {Q : State → Prop} {A : Nat → Prop} {H : Heap} {locs : List Loc} {cells slots pc : Nat} {ls : Array Slot} {st0 rest : List Value} {ρ : Nat → Nat} {h : sy_H} {X : sy_X}
    (hr : vx_Run p l e R s m args below meth c H locs cells slots X.2.2.2.2.2.1 X.2.2.2.2.2.2 (F0 m pc ls st0) rest (sy_Qc w (va_A (sy_ws w ρ h) H.size) ρ h.1 X (#[] : Array Value)) (sy_XC w (va_A (sy_ws w ρ h) H.size) ρ h.1 X) (va_A (sy_ws w ρ h) H.size))
    (hH : sy_HP w A s.heap ρ h H locs) (hA : ∀ q, s.heap.size ≤ q → A q)
    (kk : ∀ (ρ' : Nat → Nat) (H' : Heap) (locs' : List Loc), sy_ag h.1 ρ ρ' → h.1 ≤ X.2.2.2.2.1.1 → sy_HP w A s.heap ρ' X.2.2.2.2.1 H' locs' →
      (X.1 = 3 → W p l e R s m args below meth c H' locs' (cells + X.2.2.2.2.2.1) (slots + X.2.2.2.2.2.2) Q (F0 m (pc + 3) ls rest)) ∧
      (X.1 = 4 → sy_wfV X.2.2.2.2.1.1 X.2.1 → W p l e R s m args below meth c H' locs' (cells + X.2.2.2.2.2.1) (slots + X.2.2.2.2.2.2) Q (F0 m (pc + 3) ls (sy_v w ρ' X.2.1 :: rest))) ∧
      (X.1 = 6 → X.2.1 ≤ 5 → ∀ (q : Addr) (ce : Cell), H'[q]? = some ce → ce.vm = .none → s.vm.findClass (sy_ex X.2.1) = some ce.cls → vx_W p l e R s m args below meth c H' locs' (cells + X.2.2.2.2.2.1) (slots + X.2.2.2.2.2.2) Q (F0 m pc ls rest) q)) :
    W p l e R s m args below meth c H locs cells slots Q (F0 m pc ls st0) := by
  have hsub : ∀ q, va_A (sy_ws w ρ h) H.size q → A q := by
    intro q hq
    rcases hq with ⟨k, e', hk⟩ | hq
    · exact hH.2.1.2 k (q, e') hk
    · exact hA q (Nat.le_trans hH.2.2.1.1 hq)
  have hDw : ∀ {ρ' : Nat → Nat}, va_D (va_A (sy_ws w ρ h) H.size) (sy_ws w ρ' X.2.2.2.2.1) → va_D A (sy_ws w ρ' X.2.2.2.2.1) := fun hd => ⟨hd.1, fun k q hk => hsub _ (hd.2 k q hk)⟩
  intro T hT X0
  rcases hr T hT X0 with ⟨v, st₀, t, T', L, h0, X', hL, e1, e2, ⟨ρ', ⟨a1, a2, a3, a4, a5⟩, hF, hor⟩, st⟩ | ⟨q, st₀, t, T', L, E, ce, h0, X', hL, e1, e2, ⟨b1, b2, b3, ρ', ⟨a1, a2, a3, a4, a5⟩, hF⟩, hce, hcv, hcl, st⟩
  · obtain ⟨k1, k2, k3⟩ := vx_keep h0 e1 hH.2.2.1 (fun q _ hq => hsub q hq) hsub hL hF
    obtain ⟨K3, K4, K6⟩ := kk ρ' T'.heap (locs ++ L) a1 a2 ⟨by rw [e1]; exact a3, hDw a4, k3, a5⟩
    rcases hor with ⟨c1, c2⟩ | ⟨c1, c2, c3⟩
    · cases c2
      obtain ⟨t2, g1, g2⟩ := K3 c1 T' rfl X'
      exact ⟨t2, st t2 g1, g2⟩
    · cases c3
      obtain ⟨t2, g1, g2⟩ := K4 c1 c2 T' rfl X'
      exact ⟨t2, st t2 g1, g2⟩
  · obtain ⟨k1, k2, k3⟩ := vx_keep h0 e1 hH.2.2.1 (fun q _ hq => hsub q hq) hsub hL hF
    obtain ⟨K3, K4, K6⟩ := kk ρ' T'.heap (locs ++ L) a1 a2 ⟨by rw [e1]; exact a3, hDw a4, k3, a5⟩
    subst b3
    obtain ⟨t2, g1, g2⟩ := K6 b1 b2 q ce (by rw [e1]; exact hce) hcv hcl T' rfl X'
    exact ⟨t2, st.trans g1, g2⟩
end SYI2
end
section
/-! the induction on the fuel -/
section SYJ
variable {l : Launch} {w : sy_Wd} {tk : sy_T} {len : Nat}
/-- which row of the handlers it is -/
theorem sy_hand_inv {pc E : Nat} : ∀ (hs : List (Nat × Nat × Nat × Nat)) (q : Nat), sy_hand hs pc E = q + 1 → ∃ (j a b : Nat), hs[j]? = some (a, b, q, E) ∧ a ≤ pc ∧ pc < b ∧ ∀ j', j' < j → ∀ r, hs[j']? = some r → (pc < r.1 ∨ r.2.1 ≤ pc) ∨ r.2.2.2 ≠ E
  | [], q, h => nomatch h
  | x :: hs, q, h => by
    have h : cond (cond (Nat.ble x.1 pc) (cond (Nat.ble (Nat.succ pc) x.2.1) (Nat.beq x.2.2.2 E) false) false) (Nat.succ x.2.2.1) (sy_hand hs pc E) = q + 1 := h
    cases hc : cond (Nat.ble x.1 pc) (cond (Nat.ble (Nat.succ pc) x.2.1) (Nat.beq x.2.2.2 E) false) false with
    | true =>
      rw [hc] at h
      have h : Nat.succ x.2.2.1 = q + 1 := h
      obtain ⟨h1, h2⟩ := sy_and hc
      obtain ⟨h2, h3⟩ := sy_and h2
      refine ⟨0, x.1, x.2.1, ?_, sy_ble h1, sy_ble h2, fun j' hj => absurd hj (Nat.not_lt_zero _)⟩
      have e1 : x.2.2.1 = q := by omega
      have e2 : x.2.2.2 = E := sy_beq h3
      show some x = _
      rw [← e1, ← e2]
    | false =>
      rw [hc] at h
      obtain ⟨j, a, b, h1, h2, h3, h4⟩ := sy_hand_inv hs q h
      refine ⟨j + 1, a, b, h1, h2, h3, fun j' hj r hr => ?_⟩
      cases j' with
      | zero =>
        have hr : some x = some r := hr
        cases hr
        by_cases hE : x.2.2.2 = E
        · refine Or.inl ?_
          by_cases h5 : x.1 ≤ pc
          · refine Or.inr (Nat.not_lt.mp fun h6 => ?_)
            rw [Nat.ble_eq_true_of_le h5, Nat.ble_eq_true_of_le (show Nat.succ pc ≤ x.2.1 from h6), hE, Nat.beq_refl] at hc
            cases hc
          · exact Or.inl (by omega)
        · exact Or.inr hE
      | succ k => exact h4 k (by omega) r hr
/-- the machine's table, split at the row that takes it -/
theorem sy_catch {p : Program} {e : Env} {R : Room} {s : State} {m : MethodId} {args : Array Value} {below : List Frame} {meth : Method} {c : Code} {Q : State → Prop} {A : Nat → Prop} {i d pc q E : Nat} {H : Heap} {locs : List Loc} {cells slots : Nat} {ls : Array Slot} {rest : List Value} {qa : Addr} {ce : Cell}
    (hC : sy_Ct l p R s m args meth c w A tk len i d) (hE5 : E ≤ 5) (hh : sy_hand (sy_meth i).2.2.1 pc E = q + 1) (hcell : H[qa]? = some ce) (hv : ce.vm = .none) (hcl : s.vm.findClass (sy_ex E) = some ce.cls)
    (kk : (sy_nth sy_e0 (sy_meth i).1 (q + 2)).2.2.2 = 0 → W p l e R s m args below meth c H locs cells slots Q (F0 m (sy_nth sy_e0 (sy_meth i).1 q).1 ls [.ref qa])) : vx_W p l e R s m args below meth c H locs cells slots Q (F0 m pc ls rest) qa := by
  obtain ⟨hx, hb, hml, hown, hg, hini, hGA, hA, hT, hlocks, hret, htab, hf, hlo, hl, hiw, hg3, hg1⟩ := hC
  obtain ⟨f1, f2, f3, f4, f5, f6, f7, f8⟩ := sy_gd3_of hg3
  have hts := sy_hts hg hGA.2.1
  obtain ⟨z1, z2, z3, z4⟩ := hGA.2.2
  obtain ⟨j, a, b, h1, h2, h3, h4⟩ := sy_hand_inv _ q hh
  have hi0 : i ≠ 0 := fun q0 => by
    rw [q0] at h1
    cases h1
  have htab := htab hi0
  have hj : j < (sy_hh i).length := by rw [← f4]; exact (List.getElem?_eq_some_iff.mp h1).1
  have row : ∀ (k : Nat) (r : Nat × Nat × Nat × Nat) (t : Nat × Nat × Nat × Nat), (sy_meth i).2.2.1[k]? = some r → (sy_hh i)[k]? = some t → sy_ckh i r t = true := fun k r t hr ht => f5 (r, t) (by
    apply List.mem_of_getElem? (i := k)
    rw [List.getElem?_zip_eq_some]
    exact ⟨hr, ht⟩)
  have rowf : ∀ {r t : Nat × Nat × Nat × Nat}, sy_ckh i r t = true → r.1 = t.1 ∧ r.2.1 = t.2.1 ∧ (sy_nth sy_e0 (sy_meth i).1 r.2.2.1).1 = t.2.2.1 ∧ t.2.2.2 ≠ 0 ∧ r.2.2.2 ≤ 5 ∧ (Cond.classLink (sy_im i).cls t.2.2.2 (sy_ex r.2.2.2)).before args s = true := fun hck => by
    obtain ⟨g1, g2⟩ := sy_an2 hck
    obtain ⟨g2, g3⟩ := sy_an2 g2
    obtain ⟨g3, g4⟩ := sy_an2 g3
    obtain ⟨g4, g5⟩ := sy_an2 g4
    obtain ⟨g5, g6⟩ := sy_an2 g5
    obtain ⟨g7, g6⟩ := sy_an2 g6
    exact ⟨sy_beq g1, sy_beq g2, sy_beq g3, of_decide_eq_true g4, sy_ble g5, hts _ (hiw _ (of_decide_eq_true g6))⟩
  have ht0 : (sy_hh i)[j]? = some (sy_hh i)[j] := List.getElem?_eq_getElem hj
  obtain ⟨r1, r2, r3, r4, r5, r6⟩ := rowf (row j _ _ h1 ht0)
  have hsplit : c.exceptionTable.toList = tableOf ((sy_hh i).take j) ++ (⟨(sy_hh i)[j].1, (sy_hh i)[j].2.1, (sy_hh i)[j].2.2.1, (sy_hh i)[j].2.2.2⟩ : ExceptionTableEntry) :: tableOf ((sy_hh i).drop (j + 1)) := by
    rw [htab]
    conv => lhs; rw [← List.take_append_drop j (sy_hh i)]
    unfold tableOf
    rw [List.map_append, List.drop_eq_getElem_cons hj, List.map_cons]
  have hcast : (Cond.castable (sy_ex E) (sy_ex E)).before args s = true := hts _ (sy_tbl_memN ⟨sy_cast_all E hE5, rfl⟩)
  refine vx_catch (name := sy_ex E) hown _ _ _ hsplit (fun z hz => ?_) ?_ r4 r6 hcast hcell hv hcl ?_
  · obtain ⟨t, htm, rfl⟩ := List.mem_map.mp hz
    obtain ⟨k, hk⟩ := List.getElem?_of_mem htm
    have hkj : k < j := by
      have := (List.getElem?_eq_some_iff.mp hk).1
      rw [List.length_take] at this
      omega
    rw [List.getElem?_take_of_lt hkj] at hk
    have hk2 : k < (sy_meth i).2.2.1.length := by omega
    have hr0 : (sy_meth i).2.2.1[k]? = some (sy_meth i).2.2.1[k] := List.getElem?_eq_getElem hk2
    obtain ⟨s1, s2, s3, s4, s5, s6⟩ := rowf (row k _ _ hr0 hk)
    rcases h4 k hkj _ hr0 with ho | ho
    · refine Or.inl ?_
      show (decide (t.1 ≤ pc) && decide (pc < t.2.1)) = false
      rw [Bool.and_eq_false_iff, decide_eq_false_iff_not, decide_eq_false_iff_not]
      omega
    · exact Or.inr ⟨s4, _, s6, z4 _ _ hE5 s5 (fun q => ho q.symm)⟩
  · show (decide ((sy_hh i)[j].1 ≤ pc) && decide (pc < (sy_hh i)[j].2.1)) = true
    rw [← r1, ← r2, Bool.and_eq_true, decide_eq_true_iff, decide_eq_true_iff]
    exact ⟨h2, h3⟩
  · show W p l e R s m args below meth c H locs cells slots Q (F0 m (sy_hh i)[j].2.2.1 ls [.ref qa])
    rw [← r3]
    refine kk ?_
    obtain ⟨-, g⟩ := sy_an2 (row j _ _ h1 ht0)
    obtain ⟨-, g⟩ := sy_an2 g
    obtain ⟨-, g⟩ := sy_an2 g
    obtain ⟨-, g⟩ := sy_an2 g
    obtain ⟨-, g⟩ := sy_an2 g
    obtain ⟨g, -⟩ := sy_an2 g
    exact sy_beq g
theorem sy_tsw_k {sw : List Nat} {df x y L c s : Nat} {st : List Nat} {h : sy_H} : (sy_tsw sw df tk x y L st h c s).1 ≠ 1 := by
  cases st with
  | nil => show (0 : Nat) ≠ 1; decide
  | cons a r =>
    show (sy_if (cond (Nat.beq (sy_tg a) 0) (Nat.ble (sy_py a) 63) false) (sy_force (sy_nth df sw (sy_py a)) fun x => sy_jmp x L r h c s)).1 ≠ 1
    cases cond (Nat.beq (sy_tg a) 0) (Nat.ble (sy_py a) 63) false with
    | true =>
      show (sy_force (sy_nth df sw (sy_py a)) fun x => sy_jmp x L r h c s).1 ≠ 1
      rw [sy_force_eq]
      show (2 : Nat) ≠ 1
      decide
    | false => show (0 : Nat) ≠ 1; decide
end SYJ
end
section
/-! the main induction -/
section SYK1
variable {l : Launch} {w : sy_Wd} {tk : sy_T} {len : Nat}
theorem sy_word_at {args a' : Array Value} {s U : State} {u : Cond} (hW : s.WarmedH U.vm) (hg : goodWord u = true) (h : u.before args s = true) : u.before a' U = true := word_at hW (good_of_word hg) h
theorem sy_nth_drop {α : Type} (d : α) (l : List α) (n : Nat) : sy_nth d (l.drop n) 0 = sy_nth d l n := by
  rw [sy_nth_get, sy_nth_get, List.getElem?_drop, Nat.add_zero]
theorem sy_room_f {d r : Nat} (h : sy_rf (d + 1) ≤ r) : sy_rf d + 1 ≤ r := by
  unfold sy_rf at h ⊢
  omega
theorem sy_room_l {il d r : Nat} (h1 : il ≤ 100) (h : sy_rl (d + 1) ≤ r) : 8 + (il + 11) + sy_rl d ≤ r := by
  have h2 : 300 * (d + 1) + 300 ≤ r := h
  show 8 + (il + 11) + 300 * (d + 1) ≤ r
  generalize 300 * (d + 1) = z at h2 ⊢
  clear h
  omega
/-- a call's premises, of any kind -/
theorem sy_callfacts {p : Program} {R : Room} {s : State} {m : MethodId} {args : Array Value} {meth : Method} {c : Code} {A : Nat → Prop} {i d d' x : Nat} {Z : sy_X} (hC : sy_Ct l p R s m args meth c w A tk len i d) (hd : d = d' + 1) (hx3 : sy_gd3 x = true) (hx4 : sy_gd4 x = true) :
    (sy_rm d' Z).cells = Z.2.2.2.2.2.1 ∧ (sy_rm d' Z).slots = Z.2.2.2.2.2.2 ∧ (sy_rm d' Z).frames + 1 ≤ R.frames ∧ 8 + (sy_il x + 11) + (sy_rm d' Z).locals ≤ R.locals ∧ (∀ u ∈ sy_cw x :: sy_gtb, ∀ (a' : Array Value) (U : State), s.WarmedH U.vm → u.before a' U = true) ∧ (sy_cw x).before args s = true := by
  obtain ⟨hx, hb, hml, hown, hg, hini, hGA, hA, hT, hlocks, hret, htab, hf, hlo, hl, hiw, hg3, hg1⟩ := hC
  obtain ⟨f1, f2, f3, f4, f5, f6, f7, f8⟩ := sy_gd3_of hx3
  obtain ⟨g1, g2⟩ := sy_an2 hx4
  have hcw : sy_cw x ∈ sy_gtb := List.mem_filter.mpr ⟨of_decide_eq_true g1, g2⟩
  refine ⟨rfl, rfl, ?_, ?_, fun u hu a' U hW => ?_, hg _ hcw⟩
  · subst hd
    exact sy_room_f hf
  · subst hd
    exact sy_room_l f3 hlo
  · rcases List.mem_cons.mp hu with rfl | hu
    · exact sy_word_at hW g2 (hg _ hcw)
    · exact sy_word_at hW (List.mem_filter.mp hu).2 (hg _ hu)
/-- what a callee is given -/
theorem sy_pc {s : State} {A : Nat → Prop} {H : Heap} {locs : List Loc} {ρ : Nat → Nat} {h : sy_H} {vals : List Nat} (hGA : sy_GA w len A s s.heap) (hH : sy_HP w A s.heap ρ h H locs) (hA : ∀ q, s.heap.size ≤ q → A q) {U : State} (hU : U.heap = H) (hW : s.WarmedH U.vm) :
    sy_Pc w len ρ h H.size vals (vals.map (sy_v w ρ)).toArray U := by
  have hsub : ∀ q, va_A (sy_ws w ρ h) H.size q → A q := by
    intro q hq
    rcases hq with ⟨k, e', hk⟩ | hq
    · exact hH.2.1.2 k (q, e') hk
    · exact hA q (Nat.le_trans hH.2.2.1.1 hq)
  refine ⟨rfl, by rw [hU], by rw [hU]; exact hH.1, hH.2.1.self, ?_⟩
  rw [hU]
  exact sy_GA_tr hGA hW (fun q _ hq => hsub q hq) hsub hH.2.2.1.1 hH.2.2.1.2.1
theorem sy_blind {ρ : Nat → Nat} {h : sy_H} {sz : Nat} {vals : List Nat} : FrameBlind (sy_Pc w len ρ h sz vals) := by
  intro a U g mk hP
  obtain ⟨h1, h2, h3, h4, h5⟩ := hP
  exact ⟨h1, h2, h3, h4, sy_GA_tr (U := U.calling g mk a) (H' := U.heap) h5 (State.WarmedH.refl U) (fun _ _ q => q) (fun _ q => q) (Nat.le_refl _) (fun _ _ _ => rfl)⟩
theorem sy_ar_of {y : MethodName} {n : Nat} (h : sy_ar y = some n) : ∀ sig, parseMethodDescriptor y.desc = some sig → n = sig.parameters.length := by
  intro sig hs
  unfold sy_ar at h
  rw [hs] at h
  exact (Option.some.inj h).symm
end SYK1
end
section
/-! calls, of each kind -/
section SYCL
variable {l : Launch} {w : sy_Wd} {tk : sy_T} {len : Nat}
/-- a contract without a throw -/
theorem sy_met_of {y : MethodName} {ws : List Cond} {rm : Room} {Pc : Array Value → State → Prop} {Qc : Array Value → State → Outcome → State → Prop} {XC : String → State → State → Prop} {mc ms : Nat} {free : Addr → Prop} (h : vx_Met l y ws rm Pc Qc XC mc ms free) (hno : ∀ E st t, ¬ XC E st t) : Met l y ws rm Pc Qc mc ms free := by
  intro p e ha hf hk s m args below h1 h2 h3 h4
  obtain ⟨n, o, g1, g2, g3, g4⟩ := h p e ha hf hk s m args below h1 h2 h3 h4
  refine ⟨n, o, g1, g2, g3, ?_⟩
  rcases g4 with g4 | ⟨q, -, E, ce, L, hx, -⟩
  · exact g4
  · exact absurd hx (hno _ _ _)
theorem sy_run_of {p : Program} {e : Env} {R : Room} {s : State} {m : MethodId} {args : Array Value} {below : List Frame} {meth : Method} {c : Code} {H : Heap} {locs : List Loc} {cells slots mc ms : Nat} {g : JFrame} {rest : List Value} {Qa : State → Outcome → State → Prop} {XC : String → State → State → Prop} {free : Addr → Prop}
    (h : va_Run p l e R s m args below meth c H locs cells slots mc ms g rest Qa free) : vx_Run p l e R s m args below meth c H locs cells slots mc ms g rest Qa XC free := fun T hT X => by
  obtain ⟨v, st₀, t, T', L, h0, X', hL, e1, e2, hq, st⟩ := h T hT X
  exact Or.inl ⟨v, st₀, t, T', L, h0, X', hL, e1, e2, hq, st⟩
/-- what the stack holds for a call: the arguments, the one it is called on below them -/
theorem sy_stk {st : List Nat} {n : Nat} (hn : n ≤ st.length) (h1 : 1 ≤ n) : ∃ vb As, (st.take n).reverse = vb :: As ∧ As.length = n - 1 ∧ st = As.reverse ++ vb :: st.drop n ∧ sy_nth 0 st (Nat.pred n) = vb := by
  cases hv : (st.take n).reverse with
  | nil =>
    have := congrArg List.length hv
    rw [List.length_reverse, List.length_take, List.length_nil] at this
    omega
  | cons vb As =>
    have hl := congrArg List.length hv
    rw [List.length_reverse, List.length_take, List.length_cons] at hl
    have ht : st.take n = As.reverse ++ [vb] := by
      have := congrArg List.reverse hv
      rw [List.reverse_reverse, List.reverse_cons] at this
      exact this
    have hs : st = As.reverse ++ vb :: st.drop n := by
      conv => lhs; rw [← List.take_append_drop n st, ht]
      simp
    refine ⟨vb, As, rfl, by omega, hs, ?_⟩
    rw [sy_nth_get]
    show (st[n - 1]?).getD 0 = vb
    rw [hs, List.getElem?_append_right (by rw [List.length_reverse]; omega), List.length_reverse, show n - 1 - As.length = 0 by omega]
    rfl
theorem sy_callrun {p : Program} {e : Env} {R : Room} {s : State} {m : MethodId} {args : Array Value} {below : List Frame} {meth : Method} {c : Code} {A : Nat → Prop} {i d d' pc z x y npc : Nat} {ρ : Nat → Nat} {h : sy_H} {H : Heap} {locs : List Loc} {cells slots L : Nat} {ls : Array Slot} {st : List Nat} {Z : sy_X}
    (hC : sy_Ct l p R s m args meth c w A tk len i d) (hd : d = d' + 1) (hz1 : 80 ≤ z) (hz2 : z ≤ 84) (hck : sy_ck2 i pc z x y npc = true) (hg3 : sy_gd3 x = true) (hg4 : sy_gd4 x = true) (hH : sy_HP w A s.heap ρ h H locs) (hL : sy_LP w ρ (sy_il i) h.1 L ls)
    (hn : y % 16 ≤ st.length) (hcat : sy_cats (st.drop (y % 16)) ≤ 8) (hrecv : sy_recv (sy_meth x).2.2.2 (sy_nth 0 st (Nat.pred (y % 16))) h = true)
    (hM : vx_Met l (sy_im x) (sy_cw x :: sy_gtb) (sy_rm d' Z) (sy_Pc w len ρ h H.size (st.take (y % 16)).reverse) (sy_Qc w (va_A (sy_ws w ρ h) H.size) ρ h.1 Z) (sy_XC w (va_A (sy_ws w ρ h) H.size) ρ h.1 Z) Z.2.2.2.2.2.1 Z.2.2.2.2.2.2 (va_A (sy_ws w ρ h) H.size))
    (hspec : z = 82 → Z.1 ≠ 6) (hf : cells + Z.2.2.2.2.2.1 ≤ R.cells ∧ slots + Z.2.2.2.2.2.2 ≤ R.slots) :
    npc = pc + 3 ∧ vx_Run p l e R s m args below meth c H locs cells slots Z.2.2.2.2.2.1 Z.2.2.2.2.2.2 (F0 m pc ls (st.map (sy_v w ρ))) ((st.drop (y % 16)).map (sy_v w ρ)) (sy_Qc w (va_A (sy_ws w ρ h) H.size) ρ h.1 Z (#[] : Array Value)) (sy_XC w (va_A (sy_ws w ρ h) H.size) ρ h.1 Z) (va_A (sy_ws w ρ h) H.size) := by
  obtain ⟨r1, r2, r3, r4, r5, r6⟩ := sy_callfacts (d' := d') (Z := Z) hC hd hg3 hg4
  obtain ⟨hx, hb, hml, hown, hg, hini, hGA, hA, hT, hlocks, hret, htab, hfr, hlo, hl, hiw, hgi3, hgi1⟩ := hC
  obtain ⟨f1, f2, f3, f4, f5, f6, f7, f8⟩ := sy_gd3_of hg3
  have hts := sy_hts hg hGA.2.1
  have hwd : ∀ {u : Cond}, sy_wd (sy_iw i) u = true → u.before args s = true := fun q => hts _ (hiw _ (of_decide_eq_true q))
  have S : CallFix p m c (sy_ib i) (sy_il i) s args sy_tbl (sy_im i).cls := ⟨hx, hb, hml, hown, hts⟩
  have hroom : 2 * (F0 m pc ls (st.map (sy_v w ρ))).monitorRoom + (((st.drop (y % 16)).map (sy_v w ρ)).map fun v => v.category).sum ≤ 8 := by
    refine lv_room ?_
    rw [sy_catsum]
    exact hcat
  have hz : z = 80 ∨ z = 81 ∨ z = 82 ∨ z = 83 ∨ z = 84 := by omega
  rcases hz with hz | hz | hz | hz | hz
  · subst hz
    obtain ⟨c1, g⟩ := sy_an2 hck
    obtain ⟨c2, g⟩ := sy_an2 g
    obtain ⟨c3, g⟩ := sy_an2 g
    obtain ⟨c4, g⟩ := sy_an2 g
    obtain ⟨c5, g⟩ := sy_an2 g
    obtain ⟨c6, g⟩ := sy_an2 g
    obtain ⟨c7, g⟩ := sy_an2 g
    obtain ⟨c8, g⟩ := sy_an2 g
    obtain ⟨c9, g⟩ := sy_an2 g
    obtain ⟨c10, g⟩ := sy_an2 g
    obtain ⟨c11, -⟩ := sy_an2 g
    obtain ⟨hdg, hnp⟩ := sy_dc_of c1
    have c7 := sy_ble c7
    have hh0 := of_decide_eq_true c8
    obtain ⟨vb, As, s1, s2, s3, s4⟩ := sy_stk hn c7
    rw [s4] at hrecv
    rw [sy_cw_nil hh0] at hM r5 r6
    obtain ⟨ci, hci⟩ : ∃ ci, (sy_meth x).2.2.2 = ci + 1 := ⟨(sy_meth x).2.2.2 - 1, by have := sy_ble c9; omega⟩
    have c10 := sy_ble c10
    have c11 := of_decide_eq_true c11
    rw [hci] at hrecv c10 c11
    obtain ⟨v1, v2⟩ := sy_and (hrecv : cond (cond (Nat.beq (sy_tg vb) 5) (Nat.ble (Nat.succ (sy_py vb)) h.1) false) (Nat.beq (sy_hg h.2 (sy_py vb)).1 (Nat.mul 2 ci)) false = true)
    obtain ⟨v1, v3⟩ := sy_and v1
    have v3 : sy_py vb < h.1 := sy_ble v3
    have hge := sy_ws_get (w := w) (ρ := ρ) v3
    have hcell : sy_hg h.2 (sy_py vb) = (2 * ci, (sy_hg h.2 (sy_py vb)).2.1, (sy_hg h.2 (sy_py vb)).2.2) := by
      have e1 : (sy_hg h.2 (sy_py vb)).1 = 2 * ci := sy_beq v2
      rw [← e1]
    rw [hcell, sy_ce_obj] at hge
    have hrc := va_recv hGA.1.1 hH.1 (sy_clsT (show ci ≤ 15 by omega)) hge
    refine ⟨hnp, ?_⟩
    have hmap : st.map (sy_v w ρ) = (As.map (sy_v w ρ)).reverse ++ .ref (ρ (sy_py vb)) :: (st.drop (y % 16)).map (sy_v w ρ) := by
      conv => lhs; rw [s3]
      rw [List.map_append, List.map_cons, List.map_reverse, sy_v5 (sy_beq v1)]
    have hvals : ((st.take (y % 16)).reverse.map (sy_v w ρ)) = .ref (ρ (sy_py vb)) :: As.map (sy_v w ρ) := by
      rw [s1, List.map_cons, sy_v5 (sy_beq v1)]
    have hrow := vx_runV (C := (sy_im x).cls) (b := ρ (sy_py vb)) (As := As.map (sy_v w ρ)) (index := y / 16) (n := y % 16 - 1) (rest := (st.drop (y % 16)).map (sy_v w ρ)) (g := F0 m pc ls (st.map (sy_v w ρ))) (locs := locs) (below := below) (e := e) (meth := meth) S hM
      ⟨⟨r1, r2, r3, r4, r5, List.mem_cons_self, r6, hwd c5, ⟨f7, f8⟩, sy_ar_of (of_decide_eq_true c6), hwd c2⟩, hwd c3, hwd c4⟩ ⟨sy_blind, by rw [← (c11 : sy_cn ci = (sy_im x).cls)]; exact hrc, fun U hU hW => by
        have := sy_pc (vals := (st.take (y % 16)).reverse) hGA hH hA hU hW
        rw [hvals] at this
        exact this⟩ rfl (by rw [List.length_map]; exact s2) hL.1 hmap hroom hdg hf
    exact hrow
  · subst hz
    cases hck
  · subst hz
    obtain ⟨c1, g⟩ := sy_an2 hck
    obtain ⟨c2, g⟩ := sy_an2 g
    obtain ⟨c3, g⟩ := sy_an2 g
    obtain ⟨c5, g⟩ := sy_an2 g
    obtain ⟨c6, g⟩ := sy_an2 g
    obtain ⟨c7, g⟩ := sy_an2 g
    obtain ⟨c8, g⟩ := sy_an2 g
    obtain ⟨c9, g⟩ := sy_an2 g
    obtain ⟨c10, g⟩ := sy_an2 g
    obtain ⟨c11, -⟩ := sy_an2 g
    obtain ⟨hdg, hnp⟩ := sy_dc_of c1
    have c7 := sy_ble c7
    have hh0 := of_decide_eq_true c8
    obtain ⟨vb, As, s1, s2, s3, s4⟩ := sy_stk hn c7
    rw [s4] at hrecv
    rw [sy_cw_nil hh0, of_decide_eq_true c10] at hM r5 r6
    obtain ⟨ci, hci⟩ : ∃ ci, (sy_meth x).2.2.2 = ci + 1 := ⟨(sy_meth x).2.2.2 - 1, by have := sy_ble c11; omega⟩
    rw [hci] at hrecv
    obtain ⟨v1, v2⟩ := sy_and (hrecv : cond (cond (Nat.beq (sy_tg vb) 5) (Nat.ble (Nat.succ (sy_py vb)) h.1) false) (Nat.beq (sy_hg h.2 (sy_py vb)).1 (Nat.mul 2 ci)) false = true)
    obtain ⟨v1, v3⟩ := sy_and v1
    refine ⟨hnp, ?_⟩
    have hmap : st.map (sy_v w ρ) = (As.map (sy_v w ρ)).reverse ++ .ref (ρ (sy_py vb)) :: (st.drop (y % 16)).map (sy_v w ρ) := by
      conv => lhs; rw [s3]
      rw [List.map_append, List.map_cons, List.map_reverse, sy_v5 (sy_beq v1)]
    have hvals : ((st.take (y % 16)).reverse.map (sy_v w ρ)) = .ref (ρ (sy_py vb)) :: As.map (sy_v w ρ) := by
      rw [s1, List.map_cons, sy_v5 (sy_beq v1)]
    have hM2 := sy_met_of hM (fun E st' t hx => hspec rfl hx.1)
    have hrow := va_runI (b := ρ (sy_py vb)) (As := As.map (sy_v w ρ)) (index := y / 16) (n := y % 16 - 1) (rest := (st.drop (y % 16)).map (sy_v w ρ)) (g := F0 m pc ls (st.map (sy_v w ρ))) (locs := locs) (below := below) (e := e) (meth := meth) S hM2
      ⟨⟨r1, r2, r3, r4, r5, List.mem_cons_self, r6, hwd c5, ⟨f7, f8⟩, sy_ar_of (of_decide_eq_true c6), hwd c2⟩, of_decide_eq_true c9, hwd c3⟩ ⟨sy_blind, fun U hU hW => by
        have := sy_pc (vals := (st.take (y % 16)).reverse) hGA hH hA hU hW
        rw [hvals] at this
        exact this⟩ rfl (by rw [List.length_map]; exact s2) hL.1 hmap hroom hdg hf
    exact sy_run_of hrow
  · subst hz
    obtain ⟨c1, g⟩ := sy_an2 hck
    obtain ⟨c2, g⟩ := sy_an2 g
    obtain ⟨c3, g⟩ := sy_an2 g
    obtain ⟨c5, g⟩ := sy_an2 g
    obtain ⟨c6, g⟩ := sy_an2 g
    obtain ⟨c8, -⟩ := sy_an2 g
    obtain ⟨hdg, hnp⟩ := sy_dc_of c1
    have hh0 := of_decide_eq_true c8
    rw [sy_cw_nil hh0] at hM r5 r6
    refine ⟨hnp, ?_⟩
    have hmap : st.map (sy_v w ρ) = (((st.take (y % 16)).reverse).map (sy_v w ρ)).reverse ++ (st.drop (y % 16)).map (sy_v w ρ) := by
      rw [← List.map_reverse, List.reverse_reverse, ← List.map_append, List.take_append_drop]
    have hrow := vx_runS (As := ((st.take (y % 16)).reverse).map (sy_v w ρ)) (index := y / 16) (n := y % 16) (rest := (st.drop (y % 16)).map (sy_v w ρ)) (g := F0 m pc ls (st.map (sy_v w ρ))) (locs := locs) (below := below) (e := e) (meth := meth) S hM
      ⟨⟨r1, r2, r3, r4, r5, List.mem_cons_self, r6, hwd c5, ⟨f7, f8⟩, sy_ar_of (of_decide_eq_true c6), hwd c2⟩, hwd c3⟩ ⟨sy_blind, fun U hU hW => sy_pc hGA hH hA hU hW⟩ rfl (by rw [List.length_map, List.length_reverse, List.length_take]; omega) hL.1 hmap hroom hdg hf
    exact hrow
  · subst hz
    obtain ⟨c1, g⟩ := sy_an2 hck
    obtain ⟨c2, g⟩ := sy_an2 g
    obtain ⟨c3, g⟩ := sy_an2 g
    obtain ⟨c5, g⟩ := sy_an2 g
    obtain ⟨c6, g⟩ := sy_an2 g
    obtain ⟨c8, -⟩ := sy_an2 g
    obtain ⟨hdg, hnp⟩ := sy_dc_of c1
    have hh0 := of_decide_eq_true c8
    rw [sy_cw_cons hh0] at hM r5 r6
    refine ⟨hnp, ?_⟩
    have hmap : st.map (sy_v w ρ) = (((st.take (y % 16)).reverse).map (sy_v w ρ)).reverse ++ (st.drop (y % 16)).map (sy_v w ρ) := by
      rw [← List.map_reverse, List.reverse_reverse, ← List.map_append, List.take_append_drop]
    have hrow := vx_runSX (hh := sy_hh x) (As := ((st.take (y % 16)).reverse).map (sy_v w ρ)) (index := y / 16) (n := y % 16) (rest := (st.drop (y % 16)).map (sy_v w ρ)) (g := F0 m pc ls (st.map (sy_v w ρ))) (locs := locs) (below := below) (e := e) (meth := meth) S hM
      ⟨⟨r1, r2, r3, r4, r5, List.mem_cons_self⟩, r6, hwd c5, ⟨f7, f8⟩, sy_ar_of (of_decide_eq_true c6), hwd c2, hwd c3⟩ ⟨sy_blind, fun U hU hW => sy_pc hGA hH hA hU hW⟩ rfl (by rw [List.length_map, List.length_reverse, List.length_take]; omega) hL.1 hmap hroom hdg hf
    exact hrow
theorem sy_call_x {i pc z x y npc : Nat} (hz1 : 80 ≤ z) (hz2 : z ≤ 84) (hck : sy_ck2 i pc z x y npc = true) : 1 ≤ x ∧ x ≤ 227 := by
  have hz : z = 80 ∨ z = 81 ∨ z = 82 ∨ z = 83 ∨ z = 84 := by omega
  rcases hz with hz | hz | hz | hz | hz
  · subst hz
    obtain ⟨-, g⟩ := sy_an2 hck
    obtain ⟨-, g⟩ := sy_an2 g
    obtain ⟨-, g⟩ := sy_an2 g
    obtain ⟨-, g⟩ := sy_an2 g
    obtain ⟨-, g⟩ := sy_an2 g
    obtain ⟨-, g⟩ := sy_an2 g
    obtain ⟨-, g⟩ := sy_an2 g
    obtain ⟨-, g⟩ := sy_an2 g
    obtain ⟨-, g⟩ := sy_an2 g
    obtain ⟨-, g⟩ := sy_an2 g
    obtain ⟨-, g⟩ := sy_an2 g
    obtain ⟨g1, g2⟩ := sy_an2 g
    exact ⟨sy_ble g1, sy_ble g2⟩
  · subst hz
    cases hck
  · subst hz
    obtain ⟨-, g⟩ := sy_an2 hck
    obtain ⟨-, g⟩ := sy_an2 g
    obtain ⟨-, g⟩ := sy_an2 g
    obtain ⟨-, g⟩ := sy_an2 g
    obtain ⟨-, g⟩ := sy_an2 g
    obtain ⟨-, g⟩ := sy_an2 g
    obtain ⟨-, g⟩ := sy_an2 g
    obtain ⟨-, g⟩ := sy_an2 g
    obtain ⟨-, g⟩ := sy_an2 g
    obtain ⟨-, g⟩ := sy_an2 g
    obtain ⟨g1, g2⟩ := sy_an2 g
    exact ⟨sy_ble g1, sy_ble g2⟩
  · subst hz
    obtain ⟨-, g⟩ := sy_an2 hck
    obtain ⟨-, g⟩ := sy_an2 g
    obtain ⟨-, g⟩ := sy_an2 g
    obtain ⟨-, g⟩ := sy_an2 g
    obtain ⟨-, g⟩ := sy_an2 g
    obtain ⟨-, g⟩ := sy_an2 g
    obtain ⟨g1, g2⟩ := sy_an2 g
    exact ⟨sy_ble g1, sy_ble g2⟩
  · subst hz
    obtain ⟨-, g⟩ := sy_an2 hck
    obtain ⟨-, g⟩ := sy_an2 g
    obtain ⟨-, g⟩ := sy_an2 g
    obtain ⟨-, g⟩ := sy_an2 g
    obtain ⟨-, g⟩ := sy_an2 g
    obtain ⟨-, g⟩ := sy_an2 g
    obtain ⟨g1, g2⟩ := sy_an2 g
    exact ⟨sy_ble g1, sy_ble g2⟩
/-- a handler's three places: store the exception, a number, back -/
theorem sy_caught_ok {p : Program} {e : Env} {R : Room} {s : State} {m : MethodId} {args : Array Value} {below : List Frame} {meth : Method} {c : Code} {Q : State → Prop} {A : Nat → Prop} {i d n L : Nat} {ρ : Nat → Nat} {H : Heap} {locs : List Loc} {cells slots : Nat} {ls : Array Slot} {dl : List sy_E} {qa : Nat}
    (hC : sy_Ct l p R s m args meth c w A tk len i d) (hL : sy_LP w ρ (sy_il i) n L ls) (hck : sy_ckl i dl = true) (t1 : cond (Nat.beq (sy_nth sy_e0 dl 0).2.1 21) true (Nat.beq (sy_nth sy_e0 dl 0).2.1 22) = true) (t3 : (sy_nth sy_e0 dl 1).2.1 = 1) (t4 : (sy_nth sy_e0 dl 2).2.1 = 56) (hy : (sy_nth sy_e0 dl 2).2.2.2 = 0)
    (kk : ∀ (ls2 : Array Slot) (pc2 : Nat), ls2.size = sy_il i → (sy_ir i).map sy_tyc = some 0 → decode (sy_ib i) pc2 = .ok (sy_ri 0, 1) → ∀ v0 : Int32, (v0 = nI (sy_py (sy_nth sy_e0 dl 1).2.2.1) ∧ sy_tg (sy_nth sy_e0 dl 1).2.2.1 = 0 ∧ (sy_nth sy_e0 dl 1).2.2.1 < 2 ^ 71) → W p l e R s m args below meth c H locs cells slots Q (F0 m pc2 ls2 [.int v0])) :
    W p l e R s m args below meth c H locs cells slots Q (F0 m (sy_nth sy_e0 dl 0).1 ls [.ref qa]) := by
  obtain ⟨hx, hb, hml, hown, hg, hini, hGA, hA, hT, hlocks, hret, htab, hfr, hlo, hl, hiw, hgi3, hgi1⟩ := hC
  match dl, hck, t1, t3, t4, hy, kk with
  | [], _, t1, _, _, _, _ => cases t1
  | [_], _, _, t3, _, _, _ => cases t3
  | [_, _], _, _, _, t4, _, _ => cases t4
  | e1 :: e2 :: e3 :: k, hck, t1, t3, t4, hy, kk =>
    obtain ⟨k1, hck⟩ := sy_and hck
    obtain ⟨k2, hck⟩ := sy_and hck
    obtain ⟨k3, -⟩ := sy_and hck
    obtain ⟨a1, -⟩ := sy_an2 k1
    obtain ⟨a2, -⟩ := sy_an2 k2
    obtain ⟨a3, b3⟩ := sy_an2 k3
    have t3 : e2.2.1 = 1 := t3
    have t4 : e3.2.1 = 56 := t4
    have hy : e3.2.2.2 = 0 := hy
    rw [t3] at a2
    rw [t4] at a3 b3
    rw [hy] at a3 b3
    obtain ⟨c1, c2⟩ := sy_an2 a2
    obtain ⟨c1, hn2⟩ := sy_dc_of c1
    obtain ⟨c2, c3⟩ := sy_an2 c2
    obtain ⟨c3, c4⟩ := sy_an2 c3
    have hn2 : e3.1 = e2.1 + 1 := hn2
    obtain ⟨b3, -⟩ := sy_an2 b3
    have htail : ∀ ls2 : Array Slot, ls2.size = sy_il i → W p l e R s m args below meth c H locs cells slots Q (F0 m e2.1 ls2 []) := fun ls2 hsz => by
      refine lv_iconst hx hb c1 (of_decide_eq_true c2) ?_
      rw [← hn2]
      refine kk ls2 e3.1 hsz (of_decide_eq_true b3) (sy_dt_of a3) _ ⟨rfl, sy_beq c3, ?_⟩
      have := sy_ble c4
      show e2.2.2.1 < _
      omega
    have hz : e1.2.1 = 21 ∨ e1.2.1 = 22 := by
      have t1 : cond (Nat.beq e1.2.1 21) true (Nat.beq e1.2.1 22) = true := t1
      cases hb1 : Nat.beq e1.2.1 21 with
      | true => exact Or.inl (sy_beq hb1)
      | false =>
        rw [hb1] at t1
        exact Or.inr (sy_beq t1)
    show W p l e R s m args below meth c H locs cells slots Q (F0 m e1.1 ls [.ref qa])
    rcases hz with hz | hz
    · rw [hz] at a1
      obtain ⟨d1, d2⟩ := sy_an2 a1
      obtain ⟨d1, hn1⟩ := sy_dc_of d1
      have hn1 : e2.1 = e1.1 + 2 := hn1
      refine lv_astore hx hb d1 (sy_held_has hL) (sy_ble d2) rfl fun ls' h' => ?_
      rw [← hn1]
      exact htail ls' h'.1
    · rw [hz] at a1
      obtain ⟨d1, d2⟩ := sy_an2 a1
      obtain ⟨d2, d3⟩ := sy_an2 d2
      obtain ⟨d1, hn1⟩ := sy_dc_of d1
      have hn1 : e2.1 = e1.1 + 1 := hn1
      refine lv_astore_n hx hb d1 (Nat.mod_eq_of_lt (Nat.lt_succ_of_le (sy_ble d2))) (sy_held_has hL) (sy_ble d3) rfl fun ls' h' => ?_
      rw [← hn1]
      exact htail ls' h'.1
end SYCL
end
section
/-! the main induction -/
section SYK2
variable {l : Launch} {w : sy_Wd} {tk : sy_T} {len : Nat}
theorem sy_sound (hl : l.stackTraces = false) (hT : sy_TK tk w.2.2.1) (hOk : sy_Ok) : ∀ fuel, sy_Sd l w tk len fuel
  | 0 => by
    intro d i rest L st h cells slots X hi hck hrun hX0
    exact absurd (by rw [← hrun]; rfl) hX0
  | fuel + 1 => by
    have IH := sy_sound hl hT hOk fuel
    intro d i rest L st h cells slots X hi hck hrun hX0 p e R s m args below meth c Q A hC hcc hss ρ H locs ls stC hH hL hS hE
    have hC0 := hC
    obtain ⟨hx, hb, hml, hown, hg, hini, hGA, hA, hTT, hlocks, hret, htab, hf, hlo, hlt, hiw, hg3, hg1⟩ := hC0
    have hcx := hC.cx
    have hts := sy_hts hg hGA.2.1
    cases rest with
    | nil => exact absurd (by rw [← hrun]; rfl) hX0
    | cons en k =>
    obtain ⟨hce, hckk⟩ := sy_and hck
    obtain ⟨hc1, hc2⟩ := sy_an2 hce
    rw [sy_run_succ] at hrun
    generalize hY : (sy_op len en.2.1).1 tk en.2.2.1 en.2.2.2 L st h cells slots = Y at hrun
    show W p l e R s m args below meth c H locs cells slots Q (F0 m en.1 ls stC)
    have hmn := mn_op len tk en.2.2.1 en.2.2.2 L st h cells slots en.2.1
    rw [hY] at hmn
    -- on to the next places
    have next : ∀ (k' : List sy_E) (L' : Nat) (st' : List Nat) (h' : sy_H) (c' s' : Nat), sy_ckl i k' = true → X = sy_run tk len fuel d (sy_meth i) k' L' st' h' c' s' → h.1 ≤ h'.1 →
        ∀ (ρ' : Nat → Nat) (H' : Heap) (locs' : List Loc) (ls' : Array Slot) (stC' : List Value), sy_ag h.1 ρ ρ' → sy_HP w A s.heap ρ' h' H' locs' → sy_LP w ρ' (sy_il i) h'.1 L' ls' → sy_SP w ρ' h'.1 st' stC' →
          W p l e R s m args below meth c H' locs' c' s' Q (F0 m (sy_nth sy_e0 k' 0).1 ls' stC') := fun k' L' st' h' c' s' g1 g2 g3 ρ' H' locs' ls' stC' g4 g5 g6 g7 =>
      IH d i k' L' st' h' c' s' X hi g1 g2.symm hX0 p e R s m args below meth c Q A hC hcc hss ρ' H' locs' ls' stC' g5 g6 g7 (hE.ag g4 g3)
    have bound : ∀ (k' : List sy_E) (L' : Nat) (st' : List Nat) (h' : sy_H) (c' s' : Nat), X = sy_run tk len fuel d (sy_meth i) k' L' st' h' c' s' → c' ≤ R.cells ∧ s' ≤ R.slots := fun k' L' st' h' c' s' g => by
      have hm := sy_mono tk len fuel d (sy_meth i) k' L' st' h' c' s'
      rw [← g] at hm
      obtain ⟨m1, m2⟩ := hm hX0
      exact ⟨Nat.le_trans m1 hcc, Nat.le_trans m2 hss⟩
    rcases sy_step_inv hrun hX0 with ⟨h1, h2⟩ | ⟨h1, h90, h2⟩ | ⟨h1, hz, h2⟩ | ⟨h1, hz1, hz2, h2⟩ | ⟨h1, hz1, hz2, h2⟩ | ⟨h1, hz1, hz2, hcat, h2⟩ | ⟨h1, h2⟩
    · have hz : en.2.1 ≠ 90 := fun q => by
        rw [q] at hY
        have hk := sy_tsw_k (tk := tk) (sw := sy_sw) (df := 0) (x := en.2.2.1) (y := en.2.2.2) (L := L) (c := cells) (s := slots) (st := st) (h := h)
        exact hk (by have hY : sy_tsw sy_sw 0 tk en.2.2.1 en.2.2.2 L st h cells slots = Y := hY; rw [hY]; exact h1)
      obtain ⟨b1, b2⟩ := bound _ _ _ _ _ _ h2
      refine sy_rowall (l := l) (e := e) (below := below) (Q := Q) hcx en.2.1 hz hc1 L st h cells slots Y hY (Or.inl h1) b1 b2 ρ H locs ls stC hH hL hS ?_
      intro ρ' H' locs' ls' stC' ha hn hH' hL' hS'
      rw [if_pos h1]
      exact next _ _ _ _ _ _ hckk h2 hn ρ' H' locs' ls' stC' ha hH' hL' hS'
    · by_cases hz : en.2.1 = 90
      · rw [hz] at hY hc2
        have hY9 : sy_tsw sy_sw 0 tk en.2.2.1 en.2.2.2 L st h cells slots = Y := hY
        obtain ⟨a, r, e1, q1⟩ := sy_p1_inv hY9 (by rw [h1]; decide)
        subst e1
        obtain ⟨hS1, hva, hr⟩ := sy_SPc hS
        subst hS1
        obtain ⟨q2, q3⟩ := sy_if_inv q1 (by rw [h1]; decide)
        obtain ⟨q2, q4⟩ := sy_and q2
        have q4 := sy_ble q4
        rw [sy_force_eq] at q3
        subst q3
        have hc2 : (match decode (sy_ib i) en.1 with | .ok (.tableswitch d lo hi offs, _) => sy_swk (sy_meth i).1 en.1 lo hi d offs | _ => false) = true := hc2
        rw [sy_v0 (sy_beq q2)]
        have hint : (nI (sy_py a)).toInt = (sy_py a : Int) := nI_toInt (by omega)
        have hck' : sy_ckl i ((sy_meth i).1.drop (sy_nth 0 sy_sw (sy_py a))) = true := sy_ckl_drop _ _ hg1
        have fin := next _ _ _ _ _ _ hck' h2 (Nat.le_refl _) ρ H locs ls _ sy_ag.rf hH hL ⟨rfl, hr⟩
        cases hdec : decode (sy_ib i) en.1 with
        | error z => rw [hdec] at hc2; cases hc2
        | ok v =>
          rw [hdec] at hc2
          obtain ⟨ins, ln⟩ := v
          cases ins with
          | tableswitch df lo hi offs =>
            obtain ⟨g0, g1⟩ := sy_an2 (hc2 : sy_swk (sy_meth i).1 en.1 lo hi df offs = true)
            have g0 := of_decide_eq_true g0
            have g2 := of_decide_eq_true (List.all_eq_true.mp g1 (sy_py a) (List.mem_range.mpr (by omega)))
            rw [show sy_nth sy_e0 ((sy_meth i).1.drop (sy_nth 0 sy_sw (sy_py a))) 0 = _ from sy_nth_drop _ _ _] at fin
            unfold sy_off at g2
            by_cases hlo' : ((sy_py a : Nat) : Int) < lo ∨ hi < ((sy_py a : Nat) : Int)
            · rw [if_pos hlo'] at g2
              exact lv_tableOut hx hb hdec (by rw [hint]; exact hlo') g2.symm fin
            · rw [if_neg hlo'] at g2
              have hin : (((sy_py a : Nat) : Int) - lo).toNat < offs.size := by omega
              rw [Array.getElem?_eq_getElem hin] at g2
              exact lv_tableIn hx hb hdec (by rw [hint]; omega) (by rw [hint]; omega) (by rw [hint]; exact Array.getElem?_eq_getElem hin) g2.symm fin
          | _ => cases hc2
      · have hy := h90.resolve_left hz
        have hck' : sy_ckl i ((sy_meth i).1.drop Y.2.1) = true := sy_ckl_drop _ _ hg1
        obtain ⟨b1, b2⟩ := bound _ _ _ _ _ _ h2
        refine sy_rowall (l := l) (e := e) (below := below) (Q := Q) hcx en.2.1 hz hc1 L st h cells slots Y hY (Or.inr h1) b1 b2 ρ H locs ls stC hH hL hS ?_
        intro ρ' H' locs' ls' stC' ha hn hH' hL' hS'
        rw [if_neg (by rw [h1]; decide), ← hy]
        exact next _ _ _ _ _ _ hck' h2 hn ρ' H' locs' ls' stC' ha hH' hL' hS'
    · rw [hz] at hY hc1 hc2
      have hY9 : sy_retv tk en.2.2.1 en.2.2.2 L st h cells slots = Y := hY
      obtain ⟨q1, q2⟩ := sy_if_inv hY9 (by rw [h1]; decide)
      have hst : st = [] := by
        cases st with
        | nil => rfl
        | cons a r => cases q1
      subst hst
      subst q2
      subst h2
      have hS1 := hS.1
      subst hS1
      exact (hE ρ H locs ls en.1 sy_ag.rf (Nat.le_refl _) hH hL.1).1 h1 (of_decide_eq_true hc2) (sy_dt_of hc1)
    · have hret4 : sy_ret tk en.2.2.1 en.2.2.2 L st h cells slots = Y ∧ decode (sy_ib i) en.1 = .ok (sy_ri en.2.2.2, 1) ∧ (sy_ir i).map sy_tyc = some en.2.2.2 := by
        have hz : en.2.1 = 56 ∨ en.2.1 = 57 ∨ en.2.1 = 58 ∨ en.2.1 = 59 ∨ en.2.1 = 60 := by omega
        rcases hz with hz | hz | hz | hz | hz <;> rw [hz] at hY hc1 hc2
        · obtain ⟨g1, g2⟩ := sy_an2 hc2
          refine ⟨hY, ?_, of_decide_eq_true g1⟩
          have g2 : en.2.2.2 = 0 ∨ en.2.2.2 = 5 ∨ en.2.2.2 = 6 := by
            rw [Bool.or_eq_true, Bool.or_eq_true] at g2
            rcases g2 with g2 | g2 | g2
            · exact Or.inl (sy_beq g2)
            · exact Or.inr (Or.inl (sy_beq g2))
            · exact Or.inr (Or.inr (sy_beq g2))
          have hr : sy_ri en.2.2.2 = .ireturn := by rcases g2 with g2 | g2 | g2 <;> rw [g2] <;> rfl
          rw [hr]
          exact sy_dt_of hc1
        · obtain ⟨g1, g2⟩ := sy_an2 hc2
          refine ⟨hY, ?_, of_decide_eq_true g1⟩
          rw [sy_beq g2]
          exact sy_dt_of hc1
        · obtain ⟨g1, g2⟩ := sy_an2 hc2
          refine ⟨hY, ?_, of_decide_eq_true g1⟩
          rw [sy_beq g2]
          exact sy_dt_of hc1
        · obtain ⟨g1, g2⟩ := sy_an2 hc2
          refine ⟨hY, ?_, of_decide_eq_true g1⟩
          rw [sy_beq g2]
          exact sy_dt_of hc1
        · obtain ⟨g1, g2⟩ := sy_an2 hc2
          refine ⟨hY, ?_, of_decide_eq_true g1⟩
          rw [sy_beq g2]
          exact sy_dt_of hc1
      obtain ⟨hY4, hdec, hty⟩ := hret4
      obtain ⟨a, r, e1, q1⟩ := sy_p1_inv hY4 (by rw [h1]; decide)
      subst e1
      obtain ⟨q2, q3⟩ := sy_if_inv q1 (by rw [h1]; decide)
      have hr : r = [] ∧ sy_okf en.2.2.2 a = true := by
        cases r with
        | nil => exact ⟨rfl, q2⟩
        | cons b t => cases q2
      obtain ⟨hr, hok⟩ := hr
      subst hr
      subst q3
      subst h2
      obtain ⟨hS1, hva, -⟩ := sy_SPc hS
      subst hS1
      exact (hE ρ H locs ls en.1 sy_ag.rf (Nat.le_refl _) hH hL.1).2.1 h1 hva _ hty hok hdec
    · obtain ⟨d', hd, hn, hcat8, hrecv, hcatL, hback⟩ := sy_k5_inv h2.symm hX0
      have hYc : Y = (5, en.2.2.1, L, st, h, cells, slots) := by
        have hz : en.2.1 = 80 ∨ en.2.1 = 81 ∨ en.2.1 = 82 ∨ en.2.1 = 83 ∨ en.2.1 = 84 := by omega
        rcases hz with hz | hz | hz | hz | hz <;> (rw [hz] at hY; exact hY.symm)
      subst hYc
      have hn : en.2.2.2 % 16 ≤ st.length := hn
      have hcat8 : sy_cats (st.drop (en.2.2.2 % 16)) ≤ 8 := hcat8
      have hrecv : sy_recv (sy_meth en.2.2.1).2.2.2 (sy_nth 0 st (Nat.pred (en.2.2.2 % 16))) h = true := hrecv
      have hcatL : sy_cats (st.take (en.2.2.2 % 16)).reverse ≤ (sy_meth en.2.2.1).2.1 := hcatL
      have hback : sy_back (sy_run tk len fuel) d (sy_meth i) en.1 en.2.1 k L (st.drop (en.2.2.2 % 16)) cells slots (sy_run tk len fuel d' (sy_meth en.2.2.1) (sy_meth en.2.2.1).1 (sy_args (st.take (en.2.2.2 % 16)).reverse 0 0) [] h 0 0) = X := hback
      generalize hZ : sy_run tk len fuel d' (sy_meth en.2.2.1) (sy_meth en.2.2.1).1 (sy_args (st.take (en.2.2.2 % 16)).reverse 0 0) [] h 0 0 = Z at hback
      have hbi := sy_back_inv hback hX0
      have hZ3 : Z.1 = 3 ∨ Z.1 = 4 ∨ Z.1 = 6 := by
        rcases hbi with ⟨q, -⟩ | ⟨q, -⟩ | ⟨q, -⟩ | ⟨q, -⟩
        · exact Or.inl q
        · exact Or.inr (Or.inl q)
        · exact Or.inr (Or.inr q)
        · exact Or.inr (Or.inr q)
      have hspec : en.2.1 = 82 → Z.1 ≠ 6 := fun q => by
        rcases hbi with ⟨q2, -⟩ | ⟨q2, -⟩ | ⟨q2, q3, -⟩ | ⟨q2, q3, -⟩
        · omega
        · omega
        · exact absurd q q3
        · exact absurd q q3
      have hroom : cells + Z.2.2.2.2.2.1 ≤ R.cells ∧ slots + Z.2.2.2.2.2.2 ≤ R.slots := by
        rcases hbi with ⟨-, q⟩ | ⟨-, q⟩ | ⟨-, -, -, q⟩ | ⟨-, -, q0, -, q⟩
        · exact bound _ _ _ _ _ _ q
        · exact bound _ _ _ _ _ _ q
        · rw [q] at hcc hss
          exact ⟨hcc, hss⟩
        · rw [q] at hX0 hcc hss
          obtain ⟨-, q9⟩ := sy_if_inv (rfl : sy_caught _ _ _ _ = _) hX0
          rw [← q9] at hcc hss
          exact ⟨hcc, hss⟩
      have hx12 : 1 ≤ en.2.2.1 ∧ en.2.2.1 ≤ 227 := sy_call_x hz1 hz2 hc2
      rcases hOk en.2.2.1 hx12.1 hx12.2 with hnil | ⟨g1, g2, g3, g4⟩
      · exfalso
        rw [hnil] at hZ
        have hZ0 : Z.1 = 0 := by
          rw [← hZ]
          cases fuel <;> rfl
        omega
      · have f1 := (sy_gd3_of g3).1
        have hvals : ∀ v ∈ (st.take (en.2.2.2 % 16)).reverse, sy_wfV h.1 v := fun v hv => hS.2 v (List.mem_of_mem_take (List.mem_reverse.mp hv))
        have hM := sy_contract (sz := H.size) (ρ := ρ) hl hT IH (by omega) hx12.2 g1 g2 g3 g4 hZ hZ3 hvals hH.2.2.2 (by rw [← f1]; exact hcatL)
        have hS1 := hS.1
        subst hS1
        obtain ⟨hnp, hrow⟩ := sy_callrun (e := e) (below := below) hC hd hz1 hz2 hc2 g3 g4 hH hL hn hcat8 hrecv hM hspec hroom
        refine sy_after hrow hH hA fun ρ' H' locs' ha hn' hH' => ⟨fun h3 => ?_, fun h4 hv => ?_, fun h6 h5 q ce hq hv hcl => ?_⟩
        · rcases hbi with ⟨-, q⟩ | ⟨q, -⟩ | ⟨q, -⟩ | ⟨q, -⟩
          · have hSd : sy_SP w ρ h.1 (st.drop (en.2.2.2 % 16)) ((st.drop (en.2.2.2 % 16)).map (sy_v w ρ)) := ⟨rfl, fun v hv => hS.2 v (List.mem_of_mem_drop hv)⟩
            have K := next _ _ _ _ _ _ hckk q hn' ρ' H' locs' ls _ ha hH' (hL.ag ha hn') (hSd.ag ha hn')
            rw [hnp] at K
            exact K
          · omega
          · omega
          · omega
        · rcases hbi with ⟨q, -⟩ | ⟨-, q⟩ | ⟨q, -⟩ | ⟨q, -⟩
          · omega
          · have hSd : sy_SP w ρ h.1 (st.drop (en.2.2.2 % 16)) ((st.drop (en.2.2.2 % 16)).map (sy_v w ρ)) := ⟨rfl, fun v hv => hS.2 v (List.mem_of_mem_drop hv)⟩
            have hSd2 := hSd.ag ha hn'
            have hSP : sy_SP w ρ' Z.2.2.2.2.1.1 (Z.2.1 :: st.drop (en.2.2.2 % 16)) (sy_v w ρ' Z.2.1 :: (st.drop (en.2.2.2 % 16)).map (sy_v w ρ)) :=
              ⟨by rw [hSd2.1]; rfl, fun v hvm => (List.mem_cons.mp hvm).elim (fun e9 => e9 ▸ hv) (fun h9 => hSd2.2 v h9)⟩
            have K := next _ _ _ _ _ _ hckk q hn' ρ' H' locs' ls _ ha hH' (hL.ag ha hn') hSP
            rw [hnp] at K
            exact K
          · omega
          · omega
        · rcases hbi with ⟨q9, -⟩ | ⟨q9, -⟩ | ⟨-, -, q8, q9⟩ | ⟨-, -, q7, q8, q9⟩
          · omega
          · omega
          · subst q9
            have hhi : sy_hh i = [] := by
              have hlen4 := (sy_gd3_of hg3).2.2.2.1
              rw [q8] at hlen4
              exact List.eq_nil_of_length_eq_zero hlen4.symm
            exact (hE ρ' H' locs' ls en.1 ha hn' hH' hL.1).2.2.1 rfl h5 hhi q ce _ hq hv hcl
          · have hX0' := hX0
            rw [q9] at hX0'
            obtain ⟨t1, t2⟩ := sy_if_inv (rfl : sy_caught _ _ _ _ = _) hX0'
            obtain ⟨t1, t3⟩ := sy_and t1
            obtain ⟨t3, t4⟩ := sy_and t3
            have t3 := sy_beq t3
            have t4 := sy_beq t4
            have hXe : X = (4, (sy_nth sy_e0 ((sy_meth i).1.drop q7) 1).2.2.1, 0, [], Z.2.2.2.2.1, cells + Z.2.2.2.2.2.1, slots + Z.2.2.2.2.2.2) := q9.trans t2.symm
            have hckd := sy_ckl_drop _ q7 hg1
            refine sy_catch hC h5 q8 hq hv hcl fun hy0 => ?_
            have hy2 : (sy_nth sy_e0 ((sy_meth i).1.drop q7) 2).2.2.2 = 0 := by
              rw [sy_nth_get, List.getElem?_drop]
              rw [sy_nth_get] at hy0
              exact hy0
            rw [show (sy_nth sy_e0 (sy_meth i).1 q7) = sy_nth sy_e0 ((sy_meth i).1.drop q7) 0 from (sy_nth_drop _ _ _).symm]
            generalize (sy_meth i).1.drop q7 = dl at t1 t3 t4 hXe hckd hy2 ⊢
            exact sy_caught_ok (e := e) (below := below) (Q := Q) hC (hL.ag ha hn') hckd t1 t3 t4 hy2 fun ls2 pc2 hsz2 hty2 hdec2 v0 hv0 => by
              subst hXe
              have K := (hE ρ' H' locs' ls2 pc2 ha hn' hH' hsz2).2.1 rfl (by
                refine ⟨hv0.2.2, fun q => ?_⟩
                have q : sy_tg (sy_nth sy_e0 dl 1).2.2.1 = 5 := q
                rw [hv0.2.1] at q
                cases q) 0 hty2 (by
                show Nat.beq (sy_ty (sy_nth sy_e0 dl 1).2.2.1) 0 = true
                unfold sy_ty
                rw [hv0.2.1]
                rfl) hdec2
              have K : W p l e R s m args below meth c H' locs' (cells + Z.2.2.2.2.2.1) (slots + Z.2.2.2.2.2.2) Q (F0 m pc2 ls2 [sy_v w ρ' (sy_nth sy_e0 dl 1).2.2.1]) := K
              rw [sy_v0 hv0.2.1, ← hv0.1] at K
              exact K
    · have hY6 : sy_thr tk en.2.2.1 en.2.2.2 L st h cells slots = Y := by
        have hz : en.2.1 = 88 ∨ en.2.1 = 89 := by omega
        rcases hz with hz | hz <;> (rw [hz] at hY; exact hY)
      subst hY6
      rcases sy_cond_inv h2.symm with ⟨-, h3⟩ | ⟨-, h3⟩
      · subst h3
        have hS1 := hS.1
        subst hS1
        refine (hE ρ H locs ls en.1 sy_ag.rf (Nat.le_refl _) hH hL.1).2.2.2.1 rfl en.2.1 en.2.2.2 _ _ hz1 hz2 hc2 ?_ cells slots rfl rfl
        rw [sy_catsum]
        exact hcat
      · exact absurd (by rw [← h3]; rfl) hX0
    · subst h2
      exact (hE ρ H locs ls 0 sy_ag.rf (Nat.le_refl _) hH hL.1).2.2.2.2 rfl stC hL hS
end SYK2
end
section
/-! what holds at the law's entry -/
section SYEN
theorem sy_vkR {args : Array Value} {s : State} {own tx : String} {k : Nat} (h : (Cond.stringRef own k tx).before args s = true) : ∃ sa, vk_R own k tx sa s := by
  have h1 : (Cond.stringRef own k tx).before #[] s = true := h
  have h2 := h1
  simp only [Cond.before, Cond.holds, Cond.value] at h2
  cases hc : s.vm.findClass own with
  | none => simp [hc] at h2
  | some c =>
    cases hr : s.resolvedAt? own k with
    | none => simp [hc, hr] at h2
    | some r =>
      cases r with
      | string a =>
        refine ⟨a, h1, ?_⟩
        have hr2 := hr
        unfold State.resolvedAt? at hr2
        simp only [hc, Option.bind_eq_bind, Option.bind_some] at hr2
        simp only [Term.eval, hc, Option.bind_eq_bind, Option.bind_some]
        first | (rw [hr2]; rfl) | (cases hk : s.vm.classes[c]? with
          | none => simp [hk] at hr2
          | some kk => simp [hk] at hr2 ⊢; rw [hr2]; rfl)
      | _ => simp [hc, hr] at h2
set_option maxRecDepth 20000 in
theorem sy_inst : ∀ ci, ci ≤ 15 → Cond.instantiable (sy_cn ci) (sy_cN ci) ∈ lw_tbl := by
  intro ci h
  match ci, h with
  | 0, _ => decide +kernel
  | 1, _ => decide +kernel
  | 2, _ => decide +kernel
  | 3, _ => decide +kernel
  | 4, _ => decide +kernel
  | 5, _ => decide +kernel
  | 6, _ => decide +kernel
  | 7, _ => decide +kernel
  | 8, _ => decide +kernel
  | 9, _ => decide +kernel
  | 10, _ => decide +kernel
  | 11, _ => decide +kernel
  | 12, _ => decide +kernel
  | 13, _ => decide +kernel
  | 14, _ => decide +kernel
  | 15, _ => decide +kernel
theorem sy_arrc {args : Array Value} {s : State} {ty : FieldType} (h : (Cond.arrayClass ty).before args s = true) : ∃ cA : ClassId, ArrOfT s cA ty ∧ s.vm.findClass ("[" ++ ty.toString) = some cA := by
  obtain ⟨c, k, comp, h1, h2, h3⟩ := Cond.arrayClass_spec h
  exact ⟨c, fun n z => ⟨fun k h => (by cases h), k, h2, comp, h3⟩, h1⟩
theorem sy_aw : ∀ t, t ≤ 5 → Cond.arrayClass (sy_fty t) ∈ lw_tbl := by decide +kernel
theorem sy_ao : ∀ t, t ≤ 11 → 6 ≤ t → Cond.arrayOver (.object (sy_an t)) ∈ lw_tbl := by decide +kernel
theorem sy_aoa : Cond.arrayOver (.array .boolean) ∈ lw_tbl := by decide +kernel
theorem sy_cA {args : Array Value} {s : State} (hts : ∀ u ∈ lw_tbl, u.before args s = true) : ∀ t, ∃ cA : ClassId, t ≤ 12 → ArrOfT s cA (sy_fty t) ∧ va_RA s cA (sy_fty t) := by
  intro t
  have prim : ∀ t, t ≤ 5 → ∃ cA : ClassId, ArrOfT s cA (sy_fty t) ∧ va_RA s cA (sy_fty t) := fun t ht => by
    obtain ⟨cA, h1, h2⟩ := sy_arrc (hts _ (sy_aw t ht))
    refine ⟨cA, h1, ?_⟩
    match t, ht with
    | 0, _ => exact h2
    | 1, _ => exact h2
    | 2, _ => exact h2
    | 3, _ => exact h2
    | 4, _ => exact h2
    | 5, _ => exact h2
  by_cases h5 : t ≤ 5
  · obtain ⟨cA, h⟩ := prim t h5
    exact ⟨cA, fun _ => h⟩
  · by_cases h11 : t ≤ 11
    · have hty : sy_fty t = .object (sy_an t) := by
        have h6 : 6 ≤ t := by omega
        match t, h6, h11 with
        | 6, _, _ => rfl
        | 7, _, _ => rfl
        | 8, _, _ => rfl
        | 9, _, _ => rfl
        | 10, _, _ => rfl
        | 11, _, _ => rfl
      obtain ⟨comp, c, k, g1, g2, g3, g4, g5⟩ := Cond.arrayOver_spec (hts _ (sy_ao t h11 (by omega)))
      refine ⟨c, fun _ => ?_⟩
      rw [hty]
      exact ⟨fun n z => ⟨fun k h => (by cases h), k, g3, comp, g4⟩, k, comp, g3, g4, g1, g5⟩
    · by_cases h12 : t = 12
      · subst h12
        obtain ⟨comp, c, k, g1, g3, g4, g5⟩ := Cond.arrayOver_specA (hts _ sy_aoa)
        exact ⟨c, fun _ => ⟨fun n z => ⟨fun k h => (by cases h), k, g3, comp, g4⟩, g5⟩⟩
      · obtain ⟨cA, -⟩ := prim 0 (by decide)
        exact ⟨cA, fun h => absurd h (by omega)⟩
theorem sy_K0 {args : Array Value} {s : State} (hts : ∀ u ∈ lw_tbl, u.before args s = true) : ∃ (D : va_G) (cA : Nat → ClassId), ∀ (xs : Nat → Int32) (b : Nat), va_K D sy_cl (sy_tys (D, cA, xs, b)) s := by
  have h1 : ∀ ci, ∃ x : ClassId × (Nat → Nat), ci ≤ 15 → u_Kn s (sy_cn ci) (sy_fr ci) (sy_cN ci) x.1 x.2 := by
    have one : ∀ ci, ci ≤ 15 → ∃ x : ClassId × (Nat → Nat), u_Kn s (sy_cn ci) (sy_fr ci) (sy_cN ci) x.1 x.2 := fun ci h => by
      obtain ⟨cC, iS, hk⟩ := u_known (ws := lw_tbl) hts (fun u hu => (sy_uws ci h u hu).1) (hts _ (sy_inst ci h))
      exact ⟨(cC, iS), hk⟩
    intro ci
    by_cases h : ci ≤ 15
    · obtain ⟨x, hx⟩ := one ci h
      exact ⟨x, fun _ => hx⟩
    · obtain ⟨x, -⟩ := one 0 (by decide)
      exact ⟨x, fun q => absurd q h⟩
  have h2 := sy_cA hts
  refine ⟨(fun ci => (Classical.choose (h1 ci)).1, fun ci => (Classical.choose (h1 ci)).2), fun t => Classical.choose (h2 t), fun xs b => ⟨fun c q hq => ?_, fun k q hq => ?_⟩⟩
  · have hc : c ≤ 15 := by
      have := (List.getElem?_eq_some_iff.mp hq).1
      have h16 : sy_cl.length = 16 := rfl
      omega
    rw [sy_clsT hc] at hq
    cases hq
    exact Classical.choose_spec (h1 c) hc
  · have hk : k ≤ 12 := by
      have := (List.getElem?_eq_some_iff.mp hq).1
      have h13 : (sy_tys ((fun ci => (Classical.choose (h1 ci)).1, fun ci => (Classical.choose (h1 ci)).2), fun t => Classical.choose (h2 t), xs, b)).length = 13 := by simp [sy_tys]
      omega
    rw [sy_tys_get hk] at hq
    cases hq
    exact Classical.choose_spec (h2 k) hk
end SYEN
end
section
/-! all that holds at the law's entry -/
section SYEG
theorem sy_strs : ∀ k, k ≤ 16 → Cond.stringRef "Manypens" (sy_sit k).2.1 (sy_sit k).2.2.2 ∈ lw_tbl := by decide +kernel
theorem sy_ncs : ∀ a, a ≤ 5 → ∀ b, b ≤ 5 → a ≠ b → Cond.not (.castable (sy_ex a) (sy_ex b)) ∈ flatC (Jvm.Cond.and given_1 narrow_1) := by decide +kernel
theorem sy_isr1 : Cond.isRef (.static Bundle.tN "UNASSIGNED_STACK" Bundle.steD) ∈ flatC (Jvm.Cond.and given_1 narrow_1) := by decide +kernel
theorem sy_isr2 : Cond.isRef (.static Bundle.tN "SUPPRESSED_SENTINEL" Bundle.listD) ∈ flatC (Jvm.Cond.and given_1 narrow_1) := by decide +kernel
theorem sy_lst1 : Cond.laysStatic Bundle.tN "UNASSIGNED_STACK" Bundle.steD ∈ lw_tbl := by decide +kernel
theorem sy_lst2 : Cond.laysStatic Bundle.tN "SUPPRESSED_SENTINEL" Bundle.listD ∈ lw_tbl := by decide +kernel
theorem sy_tin : Cond.initialized Bundle.tN ∈ lw_tbl := by decide +kernel
theorem sy_clo : Cond.castable "[I" "java/lang/Cloneable" ∈ lw_tbl := by decide +kernel
theorem sy_GA0 {s : State} {args : Array Value} {w : sy_Wd} {L : Nat} (hts : ∀ u ∈ lw_tbl, u.before args s = true) (hgv : (Jvm.Cond.and given_1 narrow_1).before args s = true) (hK : va_K w.1 sy_cl (sy_tys w) s) (hX : va_X w.2.2.2 L w.2.2.1 s s.heap) (hbl : w.2.2.2 < s.heap.size) (hL : L ≤ 7) :
    sy_GA w L (fun q : Nat => s.heap.size ≤ q) s s.heap := by
  have hfl := flat_of_before _ hgv
  have hna : ∀ a : Nat, a < s.heap.size → ¬ (fun q : Nat => s.heap.size ≤ q) a := fun a h => Nat.not_le.mpr h
  refine ⟨⟨hK, ⟨hX, hbl, Nat.not_le.mpr hbl⟩, by omega, fun t h1 h2 => hts _ (sy_ao t h2 h1), hts _ sy_aoa, va_Nw.of rfl (hts _ sy_clo)⟩, fun u hu => ?_, ?_, ?_, fun k hk => sy_vkR (hts _ (sy_strs k hk)), fun a b ha hb hab => va_Nc.of (hfl _ (sy_ncs a ha b hb hab))⟩
  · have h1 := hts u (List.mem_filter.mp hu).1
    have hn := (List.mem_filter.mp hu).2
    cases u with
    | fieldLinkNest a i b n d t => exact va_Nw.of rfl h1
    | methodLinkNest a i x t => exact va_Nw.of rfl h1
    | castable a b => exact va_Nw.of rfl h1
    | declares x => exact va_Nw.of rfl h1
    | _ => cases hn
  · exact vx_Zqof (hts _ sy_lst1) (hts _ sy_tin) (hfl _ sy_isr1) hna
  · exact vx_Zqof (hts _ sy_lst2) (hts _ sy_tin) (hfl _ sy_isr2) hna
end SYEG
end
section
/-! the runs over every script, by what is known of it -/
section SYTR
noncomputable def sy_ok1 (X : sy_X) : Bool := cond (Nat.beq X.2.1 16) (cond (Nat.ble X.2.2.2.2.2.1 600006) (Nat.ble X.2.2.2.2.2.2 7302064) false) false
noncomputable def sy_al (X0 : sy_X) (fuel : Nat) : sy_T → Bool :=
  Nat.rec (motive := fun _ => sy_T → Bool) (fun _ => false) (fun _ ih tk =>
    sy_nth false [Nat.rec (motive := fun _ => Bool) false (fun a _ => sy_force (sy_piv (Nat.div a 16)) fun p => sy_split ih tk (Nat.mod a 16) p (sy_tok tk (Nat.mod a 16))) (sy_next tk X0).2.1, false, false, false, sy_ok1 (sy_next tk X0)] (sy_next tk X0).1) fuel
theorem sy_tok_put (tk : sy_T) (k j : Nat) (q : Nat × Nat × Nat) : sy_tok (sy_put (9, 0, 0) q tk k) j = if k = j then q else sy_tok tk j := sy_put_get _ _ _ _ _
theorem sy_TK_lo {tk : sy_T} {τ : Nat → Int32} (h : sy_TK tk τ) {k m : Nat} (h1 : (sy_tok tk k).1 ≤ 1) (hz : ((sy_tok tk k).1 = 0 → sy_k (τ k) ≤ m) ∧ ((sy_tok tk k).1 = 1 → sy_k (sy_ch (τ k)) ≤ m)) : sy_TK (sy_put (9, 0, 0) ((sy_tok tk k).1, (sy_tok tk k).2.1, m) tk k) τ := by
  intro j
  rw [sy_tok_put]
  by_cases hkj : k = j
  · subst hkj
    rw [if_pos rfl]
    obtain ⟨a, b, c⟩ := h k
    exact ⟨fun q => ⟨(a q).1, hz.1 q⟩, fun q => ⟨(b q).1, hz.2 q⟩, fun q => by have q : (sy_tok tk k).1 = 2 := q; omega⟩
  · rw [if_neg hkj]
    exact h j
theorem sy_TK_hi {tk : sy_T} {τ : Nat → Int32} (h : sy_TK tk τ) {k m : Nat} (h1 : (sy_tok tk k).1 ≤ 1) (hz : ((sy_tok tk k).1 = 0 → m ≤ sy_k (τ k)) ∧ ((sy_tok tk k).1 = 1 → m ≤ sy_k (sy_ch (τ k)))) : sy_TK (sy_put (9, 0, 0) ((sy_tok tk k).1, m, (sy_tok tk k).2.2) tk k) τ := by
  intro j
  rw [sy_tok_put]
  by_cases hkj : k = j
  · subst hkj
    rw [if_pos rfl]
    obtain ⟨a, b, c⟩ := h k
    exact ⟨fun q => ⟨hz.1 q, (a q).2⟩, fun q => ⟨hz.2 q, (b q).2⟩, fun q => by have q : (sy_tok tk k).1 = 2 := q; omega⟩
  · rw [if_neg hkj]
    exact h j
def sy_fine (X0 : sy_X) (τ : Nat → Int32) : Prop := ∃ tk, sy_TK tk τ ∧ (sy_next tk X0).1 = 4 ∧ (sy_next tk X0).2.1 = 16 ∧ (sy_next tk X0).2.2.2.2.2.1 ≤ 600006 ∧ (sy_next tk X0).2.2.2.2.2.2 ≤ 7302064
theorem sy_al_ok {X0 : sy_X} {τ : Nat → Int32} : ∀ (fuel : Nat) (tk : sy_T), sy_al X0 fuel tk = true → sy_TK tk τ → sy_fine X0 τ
  | 0, tk, h, _ => nomatch h
  | fuel + 1, tk, h, hT => by
    have h : sy_nth false [Nat.rec (motive := fun _ => Bool) false (fun a _ => sy_force (sy_piv (Nat.div a 16)) fun p => sy_split (sy_al X0 fuel) tk (Nat.mod a 16) p (sy_tok tk (Nat.mod a 16))) (sy_next tk X0).2.1, false, false, false, sy_ok1 (sy_next tk X0)] (sy_next tk X0).1 = true := h
    generalize hk : (sy_next tk X0).1 = kd at h
    match kd, h with
    | 0, h =>
      generalize (sy_next tk X0).2.1 = av at h
      cases av with
      | zero => cases h
      | succ a =>
        have h : (sy_force (sy_piv (Nat.div a 16)) fun p => sy_split (sy_al X0 fuel) tk (Nat.mod a 16) p (sy_tok tk (Nat.mod a 16))) = true := h
        rw [sy_force_eq] at h
        generalize sy_piv (Nat.div a 16) = pv at h
        generalize Nat.mod a 16 = k at h
        obtain ⟨h1, h2⟩ := sy_and h
        obtain ⟨h1, h3⟩ := sy_and h1
        obtain ⟨h3, h4⟩ := sy_and h3
        obtain ⟨h4, -⟩ := sy_and h4
        rw [sy_force_eq] at h2
        obtain ⟨h5, h6⟩ := sy_and h2
        have h1 : (sy_tok tk k).2.1 + 1 ≤ pv := sy_ble h1
        have h4 := sy_ble h4
        have hp : Nat.pred pv + 1 = pv := Nat.succ_pred_eq_of_pos (by omega)
        by_cases hz : ((sy_tok tk k).1 = 0 → sy_k (τ k) ≤ Nat.pred pv) ∧ ((sy_tok tk k).1 = 1 → sy_k (sy_ch (τ k)) ≤ Nat.pred pv)
        · exact sy_al_ok fuel _ h5 (sy_TK_lo hT h4 hz)
        · refine sy_al_ok fuel _ h6 (sy_TK_hi hT h4 ⟨fun q => ?_, fun q => ?_⟩)
          · refine Nat.not_lt.mp fun hl => hz ⟨fun _ => by omega, fun q2 => by omega⟩
          · refine Nat.not_lt.mp fun hl => hz ⟨fun q2 => by omega, fun _ => by omega⟩
    | 1, h => cases h
    | 2, h => cases h
    | 3, h => cases h
    | 4, h =>
      obtain ⟨h1, h2⟩ := sy_and (h : cond (Nat.beq (sy_next tk X0).2.1 16) (cond (Nat.ble (sy_next tk X0).2.2.2.2.2.1 600006) (Nat.ble (sy_next tk X0).2.2.2.2.2.2 7302064) false) false = true)
      obtain ⟨h2, h3⟩ := sy_and h2
      exact ⟨tk, hT, hk, sy_beq h1, sy_ble h2, sy_ble h3⟩
    | n + 5, h => cases h
/-- a script's first int tells the call -/
theorem sy_six (x : Int32) : ∃ K, K < 64 ∧ x &&& 63 = nI K := by
  refine ⟨x.toUInt32.toNat &&& 63, Nat.lt_of_le_of_lt Nat.and_le_right (by decide), ?_⟩
  have e : x = nI x.toUInt32.toNat := by
    show (⟨x.toUInt32⟩ : Int32) = ⟨UInt32.ofNat x.toUInt32.toNat⟩
    rw [UInt32.ofNat_toNat]
  conv => lhs; rw [e]
  exact sy_land _ 63
theorem sy_TK_K {τ : Nat → Int32} {K : Nat} (hK : K < 64) (h : τ 0 &&& 63 = nI K) : sy_TK (sy_tkK K) τ := by
  have fu : ∀ j, ((sy_fu).1 = 0 → (sy_fu).2.1 ≤ sy_k (τ j) ∧ sy_k (τ j) ≤ (sy_fu).2.2) ∧ ((sy_fu).1 = 1 → (sy_fu).2.1 ≤ sy_k (sy_ch (τ j)) ∧ sy_k (sy_ch (τ j)) ≤ (sy_fu).2.2) ∧ ((sy_fu).1 = 2 → τ j &&& 63 = nI (sy_fu).2.1 ∧ (sy_fu).2.1 < 64) := fun j =>
    ⟨fun _ => ⟨Nat.zero_le _, sy_k_max _⟩, fun q => (by cases q), fun q => (by cases q)⟩
  have cu : ∀ j, ((sy_cu).1 = 0 → (sy_cu).2.1 ≤ sy_k (τ j) ∧ sy_k (τ j) ≤ (sy_cu).2.2) ∧ ((sy_cu).1 = 1 → (sy_cu).2.1 ≤ sy_k (sy_ch (τ j)) ∧ sy_k (sy_ch (τ j)) ≤ (sy_cu).2.2) ∧ ((sy_cu).1 = 2 → τ j &&& 63 = nI (sy_cu).2.1 ∧ (sy_cu).2.1 < 64) := fun j =>
    ⟨fun q => (by cases q), fun _ => sy_ch_k _, fun q => (by cases q)⟩
  have all : ∀ l : sy_T, (∀ q ∈ l, q = sy_fu ∨ q = sy_cu) → sy_TK ((2, K, 0) :: l) τ := by
    intro l hl j
    cases j with
    | zero => exact ⟨fun q => (by cases q), fun q => (by cases q), fun _ => ⟨h, hK⟩⟩
    | succ j =>
      have e : sy_tok ((2, K, 0) :: l) (j + 1) = (l[j]?).getD (9, 0, 0) := sy_nth_get _ _ _
      rw [e]
      cases hlj : l[j]? with
      | none => exact ⟨fun q => (by cases q), fun q => (by cases q), fun q => (by cases q)⟩
      | some r =>
        rcases hl r (List.mem_of_getElem? hlj) with rfl | rfl
        · exact fu (j + 1)
        · exact cu (j + 1)
  unfold sy_tkK
  refine all _ fun q hq => ?_
  generalize cond (Nat.beq K 0) 0 (cond (Nat.beq K 6) 1 (cond (Nat.beq K 17) 2 (cond (Nat.beq K 20) 3 9))) = z at hq
  match z, hq with
  | 0, hq =>
    have hq : q ∈ [sy_cu, sy_fu, sy_fu, sy_fu, sy_fu, sy_fu] := hq
    simp only [List.mem_cons, List.not_mem_nil, or_false] at hq
    rcases hq with hq | hq | hq | hq | hq | hq
    all_goals first | exact Or.inl hq | exact Or.inr hq
  | 1, hq =>
    have hq : q ∈ [sy_fu, sy_fu, sy_fu, sy_cu, sy_fu, sy_fu] := hq
    simp only [List.mem_cons, List.not_mem_nil, or_false] at hq
    rcases hq with hq | hq | hq | hq | hq | hq
    all_goals first | exact Or.inl hq | exact Or.inr hq
  | 2, hq =>
    have hq : q ∈ [sy_fu, sy_fu, sy_cu, sy_fu, sy_fu, sy_fu] := hq
    simp only [List.mem_cons, List.not_mem_nil, or_false] at hq
    rcases hq with hq | hq | hq | hq | hq | hq
    all_goals first | exact Or.inl hq | exact Or.inr hq
  | 3, hq =>
    have hq : q ∈ [sy_fu, sy_fu, sy_cu, sy_fu, sy_fu, sy_fu] := hq
    simp only [List.mem_cons, List.not_mem_nil, or_false] at hq
    rcases hq with hq | hq | hq | hq | hq | hq
    all_goals first | exact Or.inl hq | exact Or.inr hq
  | n + 4, hq =>
    have hq : q ∈ [sy_fu, sy_fu, sy_fu, sy_fu, sy_fu, sy_fu] := hq
    simp only [List.mem_cons, List.not_mem_nil, or_false] at hq
    rcases hq with hq | hq | hq | hq | hq | hq
    all_goals first | exact Or.inl hq | exact Or.inr hq
noncomputable def sy_cas (l : List Nat) : Bool := List.rec (motive := fun _ => Bool) true (fun K _ r => cond (sy_al (sy_first 7) 1000 (sy_tkK K)) r false) l
theorem sy_cas_of (l : List Nat) (h : sy_cas l = true) : ∀ K ∈ l, sy_al (sy_first 7) 1000 (sy_tkK K) = true := by
  induction l with
  | nil =>
    intro K hK
    cases hK
  | cons a l ih =>
    have h : cond (sy_al (sy_first 7) 1000 (sy_tkK a)) (sy_cas l) false = true := h
    generalize hg : sy_al (sy_first 7) 1000 (sy_tkK a) = g at h
    obtain ⟨h1, h2⟩ := sy_and h
    intro K hK
    rcases List.mem_cons.mp hK with hK | hK
    · rw [hK, hg]
      exact h1
    · exact ih h2 K hK
/-- the call of K = 6, its hand known to lie within -/
noncomputable def sy_six6 (lo hi : Nat) : sy_T := sy_put (9, 0, 0) (0, lo, hi) (sy_tkK 6) 1
end SYTR
end
section
/-! the runs: every call, every kind of argument, by the kernel -/
section SYRU
set_option maxRecDepth 100000 in
theorem sy_ca0 : sy_cas [0, 1, 2, 3, 4, 5] = true := by decide +kernel
set_option maxRecDepth 100000 in
theorem sy_ca7 : sy_cas [7, 8, 9, 10, 11, 12, 13, 14, 15, 16, 17, 18, 19, 20] = true := by decide +kernel
set_option maxRecDepth 100000 in
theorem sy_ca21 : sy_cas [21, 22, 23, 24, 25, 26, 27, 28] = true := by decide +kernel
set_option maxRecDepth 100000 in
theorem sy_ca29 : sy_cas [29, 30, 31] = true := by decide +kernel
set_option maxRecDepth 100000 in
theorem sy_ca32 : sy_cas [32, 33, 34] = true := by decide +kernel
set_option maxRecDepth 100000 in
theorem sy_ca35 : sy_cas [35, 36] = true := by decide +kernel
set_option maxRecDepth 100000 in
theorem sy_ca37 : sy_cas [37, 38, 39, 40, 41, 42] = true := by decide +kernel
set_option maxRecDepth 100000 in
theorem sy_ca43 : sy_cas [43] = true := by decide +kernel
set_option maxRecDepth 100000 in
theorem sy_ca44 : sy_cas [44, 45, 46, 47, 48, 49, 50, 51, 52, 53, 54, 55, 56, 57, 58, 59, 60, 61, 62, 63] = true := by decide +kernel
set_option maxRecDepth 100000 in
theorem sy_shortr : sy_rg (fun n => cond (Nat.beq (sy_first n).1 4) (sy_ok1 (sy_first n)) false) 0 7 = true := by decide +kernel
set_option maxRecDepth 100000 in
theorem sy_first7 : cond (Nat.beq (sy_first 7).1 8) (cond (Nat.ble (sy_first 7).2.2.2.2.2.1 600006) (Nat.ble (sy_first 7).2.2.2.2.2.2 7302064) false) false = true := by decide +kernel
end SYRU
end
section
/-! the runs of mark -/
section SYRM
set_option maxRecDepth 100000 in
theorem sy_cm0 : sy_al (sy_first 7) 1000 (sy_six6 0 2147483647) = true := by decide +kernel
set_option maxRecDepth 100000 in
theorem sy_cm1 : sy_al (sy_first 7) 1000 (sy_six6 2147483648 2147483648) = true := by decide +kernel
set_option maxRecDepth 100000 in
theorem sy_cm2 : sy_al (sy_first 7) 1000 (sy_six6 2147483649 2147483649) = true := by decide +kernel
set_option maxRecDepth 100000 in
theorem sy_cm3 : sy_al (sy_first 7) 1000 (sy_six6 2147483650 2147483650) = true := by decide +kernel
set_option maxRecDepth 100000 in
theorem sy_cm4 : sy_al (sy_first 7) 1000 (sy_six6 2147483651 2147483651) = true := by decide +kernel
set_option maxRecDepth 100000 in
theorem sy_cm5 : sy_al (sy_first 7) 1000 (sy_six6 2147483652 2147483652) = true := by decide +kernel
set_option maxRecDepth 100000 in
theorem sy_cm6 : sy_al (sy_first 7) 1000 (sy_six6 2147483653 4294967295) = true := by decide +kernel
end SYRM
end
section
/-! the statics' checks, put together -/
section SYSG
noncomputable def sy_emp (l : List sy_E) : Bool := List.rec (motive := fun _ => Bool) true (fun _ _ _ => false) l
noncomputable def sy_gg (i : Nat) : Bool := cond (sy_emp (sy_meth i).1) true (cond (sy_gd1 i) (cond (sy_gd2 i) (cond (sy_gd3 i) (sy_gd4 i) false) false) false)
theorem sy_rg_of {f : Nat → Bool} {a : Nat} : ∀ (n : Nat), sy_rg f a n = true → ∀ k, k < n → f (a + k) = true
  | 0, _, k, hk => absurd hk (Nat.not_lt_zero _)
  | n + 1, h, k, hk => by
    obtain ⟨h1, h2⟩ := sy_and h
    by_cases hkn : k = n
    · subst hkn
      exact h1
    · exact sy_rg_of n h2 k (by omega)
theorem sy_gg_of {i : Nat} (h : sy_gg i = true) : (sy_meth i).1 = [] ∨ (sy_gd1 i = true ∧ sy_gd2 i = true ∧ sy_gd3 i = true ∧ sy_gd4 i = true) := by
  unfold sy_gg at h
  cases he : (sy_meth i).1 with
  | nil => exact Or.inl rfl
  | cons e k =>
    rw [he] at h
    obtain ⟨h1, h2⟩ := sy_and h
    obtain ⟨h2, h3⟩ := sy_and h2
    obtain ⟨h3, h4⟩ := sy_and h3
    exact Or.inr ⟨h1, h2, h3, h4⟩
/-- the first n places of l -/
noncomputable def sy_ckn (i : Nat) (l : List sy_E) : Nat → Bool := List.rec (motive := fun _ => Nat → Bool) (fun _ => true) (fun e k r n => Nat.rec (motive := fun _ => Bool) true (fun m _ => cond (sy_cke i e (sy_nth sy_e0 k 0).1) (r m) false) n) l
theorem sy_ckn_ok {i : Nat} : ∀ (l : List sy_E) (n : Nat), sy_ckn i l n = true → sy_ckl i (l.drop n) = true → sy_ckl i l = true
  | [], _, _, _ => rfl
  | _ :: _, 0, _, h => h
  | e :: k, n + 1, h, h2 => by
    obtain ⟨h1, h3⟩ := sy_and (h : cond (sy_cke i e (sy_nth sy_e0 k 0).1) (sy_ckn i k n) false = true)
    show cond (sy_cke i e (sy_nth sy_e0 k 0).1) (sy_ckl i k) false = true
    rw [h1, sy_ckn_ok k n h3 h2]
    rfl
end SYSG
end
section
section SYSG0
set_option maxRecDepth 100000 in
theorem sy_gr0 : sy_rg sy_gg 1 38 = true := by decide +kernel
end SYSG0
end
section
section SYSG1
set_option maxRecDepth 100000 in
theorem sy_gr1 : sy_rg sy_gg 39 38 = true := by decide +kernel
end SYSG1
end
section
section SYSG2
set_option maxRecDepth 100000 in
theorem sy_gr2 : sy_rg sy_gg 77 38 = true := by decide +kernel
end SYSG2
end
section
section SYSG3
set_option maxRecDepth 100000 in
theorem sy_gr3 : sy_rg sy_gg 115 38 = true := by decide +kernel
end SYSG3
end
section
section SYSG4
set_option maxRecDepth 100000 in
theorem sy_gr4 : sy_rg sy_gg 153 38 = true := by decide +kernel
end SYSG4
end
section
section SYSG5
set_option maxRecDepth 100000 in
theorem sy_gr5 : sy_rg sy_gg 191 37 = true := by decide +kernel
end SYSG5
end
section
section SYSL
set_option maxRecDepth 100000 in
theorem sy_lc0 : sy_ckn 0 ((sy_meth 0).1.drop 0) 120 = true := by decide +kernel
set_option maxRecDepth 100000 in
theorem sy_lc1 : sy_ckn 0 ((sy_meth 0).1.drop 120) 120 = true := by decide +kernel
set_option maxRecDepth 100000 in
theorem sy_lc2 : sy_ckn 0 ((sy_meth 0).1.drop 240) 120 = true := by decide +kernel
set_option maxRecDepth 100000 in
theorem sy_lc3 : sy_ckn 0 ((sy_meth 0).1.drop 360) 120 = true := by decide +kernel
set_option maxRecDepth 100000 in
theorem sy_lc4 : sy_ckn 0 ((sy_meth 0).1.drop 480) 120 = true := by decide +kernel
set_option maxRecDepth 100000 in
theorem sy_lc5 : sy_ckn 0 ((sy_meth 0).1.drop 600) 120 = true := by decide +kernel
set_option maxRecDepth 100000 in
theorem sy_lc6 : sy_ckn 0 ((sy_meth 0).1.drop 720) 120 = true := by decide +kernel
set_option maxRecDepth 100000 in
theorem sy_lc7 : sy_ckn 0 ((sy_meth 0).1.drop 840) 120 = true := by decide +kernel
set_option maxRecDepth 100000 in
theorem sy_lc8 : sy_ckn 0 ((sy_meth 0).1.drop 960) 120 = true := by decide +kernel
set_option maxRecDepth 100000 in
theorem sy_lc9 : sy_ckn 0 ((sy_meth 0).1.drop 1080) 120 = true := by decide +kernel
set_option maxRecDepth 100000 in
theorem sy_lc10 : sy_ckn 0 ((sy_meth 0).1.drop 1200) 120 = true := by decide +kernel
set_option maxRecDepth 100000 in
theorem sy_lc11 : sy_ckn 0 ((sy_meth 0).1.drop 1320) 120 = true := by decide +kernel
set_option maxRecDepth 100000 in
theorem sy_lc12 : sy_ckn 0 ((sy_meth 0).1.drop 1440) 120 = true := by decide +kernel
set_option maxRecDepth 100000 in
theorem sy_lc13 : sy_ckn 0 ((sy_meth 0).1.drop 1560) 120 = true := by decide +kernel
set_option maxRecDepth 100000 in
theorem sy_lc14 : sy_ckn 0 ((sy_meth 0).1.drop 1680) 120 = true := by decide +kernel
set_option maxRecDepth 100000 in
theorem sy_lcz : sy_ckl 0 ((sy_meth 0).1.drop 1800) = true := by decide +kernel
set_option maxRecDepth 100000 in
theorem sy_law2 : sy_gd2 0 = true := by decide +kernel
set_option maxRecDepth 100000 in
theorem sy_law3 : sy_gd3 0 = true := by decide +kernel
theorem sy_law1 : sy_gd1 0 = true := by
  show sy_ckl 0 ((sy_meth 0).1.drop 0) = true
  refine sy_ckn_ok _ 120 sy_lc0 ?_
  rw [List.drop_drop]
  refine sy_ckn_ok _ 120 sy_lc1 ?_
  rw [List.drop_drop]
  refine sy_ckn_ok _ 120 sy_lc2 ?_
  rw [List.drop_drop]
  refine sy_ckn_ok _ 120 sy_lc3 ?_
  rw [List.drop_drop]
  refine sy_ckn_ok _ 120 sy_lc4 ?_
  rw [List.drop_drop]
  refine sy_ckn_ok _ 120 sy_lc5 ?_
  rw [List.drop_drop]
  refine sy_ckn_ok _ 120 sy_lc6 ?_
  rw [List.drop_drop]
  refine sy_ckn_ok _ 120 sy_lc7 ?_
  rw [List.drop_drop]
  refine sy_ckn_ok _ 120 sy_lc8 ?_
  rw [List.drop_drop]
  refine sy_ckn_ok _ 120 sy_lc9 ?_
  rw [List.drop_drop]
  refine sy_ckn_ok _ 120 sy_lc10 ?_
  rw [List.drop_drop]
  refine sy_ckn_ok _ 120 sy_lc11 ?_
  rw [List.drop_drop]
  refine sy_ckn_ok _ 120 sy_lc12 ?_
  rw [List.drop_drop]
  refine sy_ckn_ok _ 120 sy_lc13 ?_
  rw [List.drop_drop]
  refine sy_ckn_ok _ 120 sy_lc14 ?_
  rw [List.drop_drop]
  exact sy_lcz
end SYSL
end
section
section SYSO
theorem sy_ok_all : sy_Ok := by
  intro i h1 h2
  refine sy_gg_of ?_
  rcases Nat.lt_or_ge i 39 with h | h10
  · have := sy_rg_of _ sy_gr0 (i - 1) (by omega)
    rw [show 1 + (i - 1) = i by omega] at this
    exact this
  rcases Nat.lt_or_ge i 77 with h | h11
  · have := sy_rg_of _ sy_gr1 (i - 39) (by omega)
    rw [show 39 + (i - 39) = i by omega] at this
    exact this
  rcases Nat.lt_or_ge i 115 with h | h12
  · have := sy_rg_of _ sy_gr2 (i - 77) (by omega)
    rw [show 77 + (i - 77) = i by omega] at this
    exact this
  rcases Nat.lt_or_ge i 153 with h | h13
  · have := sy_rg_of _ sy_gr3 (i - 115) (by omega)
    rw [show 115 + (i - 115) = i by omega] at this
    exact this
  rcases Nat.lt_or_ge i 191 with h | h14
  · have := sy_rg_of _ sy_gr4 (i - 153) (by omega)
    rw [show 153 + (i - 153) = i by omega] at this
    exact this
  rcases Nat.lt_or_ge i 228 with h | h15
  · have := sy_rg_of _ sy_gr5 (i - 191) (by omega)
    rw [show 191 + (i - 191) = i by omega] at this
    exact this
  omega
end SYSO
end
section
/-! THE CLAIM OUT OF ONE WALK OF THE LAW'S BODY. Your part is whole_start (and what it stands on); all else here is the same for every law, but numbers. -/
def R_law : String := "ManypensLaw"
def lw_P (b : Addr) (xs : List Int32) (args : Array Value) (s : State) : Prop := args = #[.ref b] ∧ s.IntsAt b xs ∧ xs.length ≤ 7 ∧ (Jvm.Cond.and given_1 narrow_1).before args s = true
/-- what a walk over the start with the record d0 says of its end, said of the start itself -/
theorem lw_closed {s t : State} {o : Outcome} {d0 : Drawn} {L : List Loc} {k n : Nat} (hd0 : s.drawn.sameBut d0 lw_cs) (hv : ∃ v, o = .returned v) (hW : (s.setDrawn d0).WarmedH t.vm) (hs : (s.setDrawn d0).sameButNew ({ t with vm := s.vm } : State) L k n) : State.butDraws s t lw_cs (fun t1 => Framed s o t1 L k n) := by
  have h2 : t.drawn = d0 := congrArg State.drawn hs.1
  refine ⟨⟨hv, hW, State.sameButNew.setDrawn hs s.drawn⟩, ?_, by decide⟩
  rw [h2]
  exact hd0
def lw_Q (_ : Array Value) (s : State) (o : Outcome) (t : State) : Prop := o = .returned (some (.int 1)) ∧ State.butDraws s t lw_cs (fun t1 => Framed s o t1 [] 600006 7302064)
def lw_Z (below : List Frame) (a : Array Value) (s : State) : State → Prop := fun t => ∃ o, t.status = .running ∧ Ended t below o ∧ lw_Q a s o t
/-- the law's own end, with 1 on the stack, nothing written that was there before, its room as the claim has it; d0: the record of draws at this point (at the entry s.drawn: begin with 'refine W.base ?_' and 'have hd0 := Drawn.sameBut.refl s.drawn lw_cs') -/
theorem lw_ret {p : Program} {l : Launch} {e : Env} {s : State} {m : MethodId} {below : List Frame} {meth : Method} {c : Code} {b : Nat} {d0 : Drawn} (hd0 : s.drawn.sameBut d0 lw_cs) (hx : p.tables.exec = Jvm.exec) (hb : c.code = code) (hr : meth.sig.returnType = ret) (hlocks : meth.locks = false) {pc : Nat} {H : Heap} {ls : Array Slot} (hdg : decode code pc = .ok (.ireturn, 1)) : W p l e room_1 (s.setDrawn d0) m #[Value.ref b] below meth c H [] 600006 7302064 (lw_Z below #[Value.ref b] s) (F0 m pc ls [.int 1]) := by
  intro T hT X
  obtain ⟨fs, hret, hrun, hended, hW, hframe⟩ := X.leave (v := some (.int 1)) (hlocks := hlocks) (fun h => by rw [hr] at h; cases h)
  have hmeth' : T.vm.method? m = some meth := X.method'
  refine ⟨T.setFrames fs, ?_, .returned (some (.int 1)), hrun, hended, rfl, lw_closed hd0 ⟨_, rfl⟩ hW hframe⟩
  jvm_step X.here [X.here.top, hx, hb, hdg, hmeth', hr, ret, narrow_b1]
  (try refine ⟨rfl, ?_⟩); (try refine ⟨rfl, ?_⟩)
  first | (intro acts; rw [hret _ acts rfl rfl rfl]) | rw [hret _ _ rfl rfl rfl]
  exact Steps.refl _
/-- what holds at the law's entry: the machine, the code, the tables' words (any of lw_tbl by 'hts w (by decide +kernel)'), the script of L ints xs at the cell b, what the Statement gives of the start (any of its parts by flat_of_before) -/
def lw_At (p : Program) (s : State) (m : MethodId) (meth : Method) (c : Code) (b L : Nat) (xs : Nat → Int32) : Prop :=
  p.tables.exec = Jvm.exec ∧ c.code = code ∧ meth.sig.returnType = ret ∧ c.maxLocals = 9 ∧ s.vm.findClass R_law = some m.cls ∧ (∀ w ∈ lw_tbl, w.before #[Value.ref b] s = true) ∧ va_X b L xs s s.heap ∧ b < s.heap.size ∧ meth.locks = false ∧ (Jvm.Cond.and given_1 narrow_1).before #[Value.ref b] s = true
theorem sy_seek_ok {i : Nat} (pc : Nat) : ∀ l : List sy_E, sy_ckl i l = true → sy_ckl i (sy_seek l pc) = true ∧ (sy_seek l pc = [] ∨ (sy_nth sy_e0 (sy_seek l pc) 0).1 = pc)
  | [], _ => ⟨rfl, Or.inl rfl⟩
  | e :: k, h => by
    show sy_ckl i (cond (Nat.beq e.1 pc) (e :: k) (sy_seek k pc)) = true ∧ (cond (Nat.beq e.1 pc) (e :: k) (sy_seek k pc) = [] ∨ (sy_nth sy_e0 (cond (Nat.beq e.1 pc) (e :: k) (sy_seek k pc)) 0).1 = pc)
    cases hb : Nat.beq e.1 pc with
    | true => exact ⟨h, Or.inr (sy_beq hb)⟩
    | false => exact sy_seek_ok pc k (sy_and h).2
theorem sy_lists : ∀ K, K < 64 → K = 6 ∨ K ∈ [0, 1, 2, 3, 4, 5] ∨ K ∈ [7, 8, 9, 10, 11, 12, 13, 14, 15, 16, 17, 18, 19, 20] ∨ K ∈ [21, 22, 23, 24, 25, 26, 27, 28] ∨ K ∈ [29, 30, 31] ∨ K ∈ [32, 33, 34] ∨ K ∈ [35, 36] ∨ K ∈ [37, 38, 39, 40, 41, 42] ∨ K ∈ [43] ∨ K ∈ [44, 45, 46, 47, 48, 49, 50, 51, 52, 53, 54, 55, 56, 57, 58, 59, 60, 61, 62, 63] := by decide
theorem sy_six6_TK {τ : Nat → Int32} (h : sy_TK (sy_tkK 6) τ) {lo hi : Nat} (h1 : lo ≤ sy_k (τ 1)) (h2 : sy_k (τ 1) ≤ hi) : sy_TK (sy_six6 lo hi) τ := by
  intro j
  unfold sy_six6
  rw [sy_tok_put]
  by_cases hj : 1 = j
  · subst hj
    rw [if_pos rfl]
    exact ⟨fun _ => ⟨h1, h2⟩, fun q => (by cases q), fun q => (by cases q)⟩
  · rw [if_neg hj]
    exact h j
theorem sy_fine_all (xs : Nat → Int32) : sy_fine (sy_first 7) xs := by
  obtain ⟨K, hK, hxK⟩ := sy_six (xs 0)
  have hTK := sy_TK_K hK hxK
  rcases sy_lists K hK with h | h | h | h | h | h | h | h | h | h
  · subst h
    have hm := sy_k_max (xs 1)
    by_cases c0 : sy_k (xs 1) ≤ 2147483647
    · exact sy_al_ok _ _ sy_cm0 (sy_six6_TK hTK (Nat.zero_le _) c0)
    by_cases c1 : sy_k (xs 1) ≤ 2147483648
    · exact sy_al_ok _ _ sy_cm1 (sy_six6_TK hTK (by omega) c1)
    by_cases c2 : sy_k (xs 1) ≤ 2147483649
    · exact sy_al_ok _ _ sy_cm2 (sy_six6_TK hTK (by omega) c2)
    by_cases c3 : sy_k (xs 1) ≤ 2147483650
    · exact sy_al_ok _ _ sy_cm3 (sy_six6_TK hTK (by omega) c3)
    by_cases c4 : sy_k (xs 1) ≤ 2147483651
    · exact sy_al_ok _ _ sy_cm4 (sy_six6_TK hTK (by omega) c4)
    by_cases c5 : sy_k (xs 1) ≤ 2147483652
    · exact sy_al_ok _ _ sy_cm5 (sy_six6_TK hTK (by omega) c5)
    · exact sy_al_ok _ _ sy_cm6 (sy_six6_TK hTK (by omega) hm)
  · exact sy_al_ok _ _ (sy_cas_of _ sy_ca0 K h) hTK
  · exact sy_al_ok _ _ (sy_cas_of _ sy_ca7 K h) hTK
  · exact sy_al_ok _ _ (sy_cas_of _ sy_ca21 K h) hTK
  · exact sy_al_ok _ _ (sy_cas_of _ sy_ca29 K h) hTK
  · exact sy_al_ok _ _ (sy_cas_of _ sy_ca32 K h) hTK
  · exact sy_al_ok _ _ (sy_cas_of _ sy_ca35 K h) hTK
  · exact sy_al_ok _ _ (sy_cas_of _ sy_ca37 K h) hTK
  · exact sy_al_ok _ _ (sy_cas_of _ sy_ca43 K h) hTK
  · exact sy_al_ok _ _ (sy_cas_of _ sy_ca44 K h) hTK
theorem sy_TK_nil (τ : Nat → Int32) : sy_TK [] τ := fun _ => ⟨fun q => (by cases q), fun q => (by cases q), fun q => (by cases q)⟩
theorem sy_room1 {X : sy_X} (h : Nat.ble X.2.2.2.2.2.1 600006 = true) : X.2.2.2.2.2.1 ≤ room_1.cells := Nat.le_trans (sy_ble h) (Nat.le_of_eq (show 600006 = room_1.cells from rfl))
theorem sy_room2 {X : sy_X} (h : Nat.ble X.2.2.2.2.2.2 7302064 = true) : X.2.2.2.2.2.2 ≤ room_1.slots := Nat.le_trans (sy_ble h) (Nat.le_of_eq (show 7302064 = room_1.slots from rfl))
theorem sy_rm1 : 600006 = room_1.cells := rfl
theorem sy_rm2 : 7302064 = room_1.slots := rfl
theorem sy_ne0 {a b : Nat} (h : a = Nat.succ b) : a ≠ 0 := fun q => Nat.succ_ne_zero b (h.symm.trans q)
theorem sy_first_eq (len : Nat) : sy_run [] len 100000 12 (sy_meth 0) (sy_meth 0).1 (sy_args [9] 0 0) [] sy_heap0 0 0 = sy_first len := (sy_first.eq_1 len).symm
theorem sy_next_eq (tk : sy_T) (X : sy_X) : sy_run tk 7 100000 12 (sy_meth 0) (sy_seek (sy_meth 0).1 X.2.1) X.2.2.1 X.2.2.2.1 X.2.2.2.2.1 X.2.2.2.2.2.1 X.2.2.2.2.2.2 = sy_next tk X := (sy_next.eq_1 tk X).symm
theorem whole_start {p : Program} {e : Env} {s : State} {m : MethodId} {below : List Frame} {meth : Method} {c : Code} (l : Launch) (hflags : l.flags = flags0) {b L : Nat} {xs : Nat → Int32} (hL : L ≤ 7) (C0 : lw_At p s m meth c b L xs) : W p l e room_1 s m #[Value.ref b] below meth c s.heap [] 0 0 (lw_Z below #[Value.ref b] s) (entryFrame m ([Value.ref b] : List Value).toArray 9) := by
  obtain ⟨hx, hb, hr, hml, hown, hts, hX, hbl, hlocks, hgv⟩ := id C0
  have hl : l.stackTraces = false := by
    unfold Launch.stackTraces
    rw [hflags]
    decide
  obtain ⟨D, cA, hK⟩ := sy_K0 hts
  have hA : ∀ q : Nat, s.heap.size ≤ q → (fun q : Nat => s.heap.size ≤ q) q := fun _ h => h
  have hGA : sy_GA (D, cA, xs, b) L (fun q : Nat => s.heap.size ≤ q) s s.heap := sy_GA0 hts hgv (hK xs b) hX hbl hL
  have hCt : ∀ tk, sy_TK tk xs → sy_Ct l p room_1 s m #[Value.ref b] meth c (D, cA, xs, b) (fun q : Nat => s.heap.size ≤ q) tk L 0 12 := fun tk hT =>
    ⟨hx, hb, hml, hown, fun u hu => hts u (List.mem_filter.mp hu).1, fun q => absurd q (by decide), hGA, hA, hT, hlocks, hr, fun q => absurd rfl q, by decide, by decide, hl, sy_gd2_of sy_law2, sy_law3, sy_law1⟩
  have hd0 := Drawn.sameBut.refl s.drawn lw_cs
  have hlv := lv_entry ([.ref b]) (n := 9) (Nat.le_of_ble_eq_true rfl)
  rw [lg_entry_eq]
  generalize (lg_sl ([.ref b]) ++ List.replicate (9 - (lg_sl ([.ref b])).length) Slot.unset).toArray = ls at hlv ⊢
  have hlv : lv_has ls 9 (lv_args 0 ([9].map (sy_v (D, cA, xs, b) (fun _ => 0)))) := hlv
  have hLP : sy_LP (D, cA, xs, b) (fun _ => 0) (sy_il 0) 0 (sy_args [9] 0 0) ls := sy_LP_entry (fun v hv => by
    rcases List.mem_cons.mp hv with rfl | hv
    · exact ⟨by decide, fun q => absurd q (by decide)⟩
    · cases hv) hlv
  have hHP : sy_HP (D, cA, xs, b) (fun q : Nat => s.heap.size ≤ q) s.heap (fun _ => 0) sy_heap0 s.heap [] :=
    ⟨fun k q hk => (by cases hk), ⟨fun i j p q hp => (by cases hp), fun k q hk => (by cases hk)⟩, va_S.rf, Nat.zero_le _, fun i hi => absurd hi (Nat.not_lt_zero _)⟩
  have fin : ∀ (X : sy_X) (n : Nat) (ρ : Nat → Nat), X.1 = 4 → X.2.1 = 16 → X.2.2.2.2.2.1 ≤ 600006 → X.2.2.2.2.2.2 ≤ 7302064 → sy_En p l e room_1 s m #[Value.ref b] below meth c (lw_Z below #[Value.ref b] s) (D, cA, xs, b) (fun q : Nat => s.heap.size ≤ q) 0 n ρ X := by
    intro X n ρ f4 f16 fc fs ρ' H' locs' ls' pc' ha hn hH hsz
    refine ⟨fun h => by omega, fun _ hv y hy hok hd => ?_, fun h => by omega, fun h => by omega, fun h => by omega⟩
    have hy5 : y = 5 := (Option.some.inj (show some 5 = some y from hy)).symm
    subst hy5
    rw [f16]
    refine va_forget (fun q hq => hH.2.2.1.2.2 q hq) ?_
    refine W.widen fc fs ?_
    exact lw_ret (d0 := s.drawn) hd0 hx hb hr hlocks hd
  by_cases hL7 : L = 7
  · subst hL7
    obtain ⟨tk, hTk, f4, f16, fc, fs⟩ := sy_fine_all xs
    obtain ⟨k8, kk⟩ := sy_and sy_first7
    obtain ⟨kc, ks⟩ := sy_and kk
    have k8 := sy_beq k8
    refine sy_sound hl (sy_TK_nil _) sy_ok_all 100000 12 0 (sy_meth 0).1 (sy_args [9] 0 0) [] sy_heap0 0 0 (sy_first 7) (by decide) sy_law1 (sy_first_eq 7) (sy_ne0 k8) p e room_1 s m _ below meth c _ _ (hCt [] (sy_TK_nil _)) (sy_room1 kc) (sy_room2 ks) (fun _ => 0) s.heap [] ls [] hHP hLP ⟨rfl, fun v hv => nomatch hv⟩ ?_
    intro ρ' H' locs' ls' pc' ha hn hH hsz
    refine ⟨fun h => by omega, fun h => by omega, fun h => by omega, fun h => by omega, fun _ stC hLP' hSP' => ?_⟩
    obtain ⟨g1, g2⟩ := sy_seek_ok (i := 0) (sy_first 7).2.1 (sy_meth 0).1 sy_law1
    have K := sy_sound hl hTk sy_ok_all 100000 12 0 (sy_seek (sy_meth 0).1 (sy_first 7).2.1) (sy_first 7).2.2.1 (sy_first 7).2.2.2.1 (sy_first 7).2.2.2.2.1 (sy_first 7).2.2.2.2.2.1 (sy_first 7).2.2.2.2.2.2 (sy_next tk (sy_first 7)) (by decide) g1 (sy_next_eq tk (sy_first 7)) (sy_ne0 f4) p e room_1 s m _ below meth c _ _ (hCt tk hTk) (Nat.le_trans fc (Nat.le_of_eq sy_rm1)) (Nat.le_trans fs (Nat.le_of_eq sy_rm2)) ρ' H' locs' ls' stC hH hLP' hSP' (fin _ _ _ f4 f16 fc fs)
    rcases g2 with g2 | g2
    · exfalso
      have h0 : (sy_next tk (sy_first 7)).1 = 0 := by
        unfold sy_next
        rw [g2]
        rfl
      omega
    · rw [g2] at K
      exact K
  · have hs := sy_rg_of _ sy_shortr L (by omega)
    rw [Nat.zero_add] at hs
    obtain ⟨k4, kk⟩ := sy_and hs
    obtain ⟨k16, kk⟩ := sy_and (kk : cond (Nat.beq (sy_first L).2.1 16) (cond (Nat.ble (sy_first L).2.2.2.2.2.1 600006) (Nat.ble (sy_first L).2.2.2.2.2.2 7302064) false) false = true)
    obtain ⟨kc, ks⟩ := sy_and kk
    have k4 := sy_beq k4
    exact sy_sound hl (sy_TK_nil _) sy_ok_all 100000 12 0 (sy_meth 0).1 (sy_args [9] 0 0) [] sy_heap0 0 0 (sy_first L) (by decide) sy_law1 (sy_first_eq L) (sy_ne0 k4) p e room_1 s m _ below meth c _ _ (hCt [] (sy_TK_nil _)) (sy_room1 kc) (sy_room2 ks) (fun _ => 0) s.heap [] ls [] hHP hLP ⟨rfl, fun v hv => nomatch hv⟩ (fin _ _ _ k4 (sy_beq k16) (sy_ble kc) (sy_ble ks))
-- ===== YOUR PART ENDS =====
set_option maxHeartbeats 4000000 in
theorem lw_walk (l : Launch) (hflags : l.flags = flags0) (b : Addr) (xs : List Int32) : MetFree l x (headSpec (Jvm.Cond.code x code maxLocals ret :: tables_1) room_1) (lw_P b xs) (fun _ _ _ _ _ => True) lw_Q := by
  refine MetFree.of_bodyS (code := code) (maxLocals := maxLocals) (ret := ret) (by decide) ?_ ?_
  · intro args s m h hn
    obtain ⟨meth, c, h1, h2, h3, h4, h5, h6, -, -⟩ := Cond.code_spec hn (atoms_spec (ws := Jvm.Cond.code x code maxLocals ret :: tables_1) h _ List.mem_cons_self)
    exact ⟨meth, c, h1, h2, h3, h4, h5, h6⟩
  · intro p e s m args below meth c s₁ B hml0 hP _
    obtain ⟨rfl, hx, hbd, hgv⟩ := hP
    obtain ⟨scr, harrAt, hlist, hof, hsmall⟩ := hx
    obtain ⟨hcb, hkn, -, -⟩ := State.arrayAt?_spec harrAt
    have hown : s.vm.findClass R_law = some m.cls := findClass_of_methodNamed B.named
    have hts0 : ∀ c ∈ (Jvm.Cond.code x code maxLocals ret :: tables_1), c.before #[Value.ref b] s = true := atoms_spec (ws := Jvm.Cond.code x code maxLocals ret :: tables_1) B.pre
    have hts : ∀ w ∈ lw_tbl, w.before #[Value.ref b] s = true := k2_hts_sels lw_privs (fun w hw => hts0 w (List.mem_cons_of_mem _ hw)) lw_privs_ok
    have hml : c.maxLocals = 9 := B.maxLocals_eq (hts0 _ List.mem_cons_self)
    have X₀ : Stand p l e room_1 s m #[Value.ref b] below meth c s₁ [] 0 0 := Stand.of_body B
    have hh0 : s₁.heap = s.heap := by rw [B.state]; rfl
    have hsz : scr.slots.size = xs.length := by rw [← Array.length_toList, hlist, List.length_map]
    have hval : ∀ j : Nat, j < xs.length → scr.slots[j]? = some (.int (xs.getD j 0)) := fun j hj => by
      rw [← Array.getElem?_toList, hlist]
      simp [hj]
    have hbl : b < s.heap.size := (Array.getElem?_eq_some_iff.mp hcb).1
    have hX : va_X b xs.length (fun j => xs.getD j 0) s s.heap := ⟨scr, hcb, hof, hkn, hsz, hval⟩
    have K : W p l e room_1 s m #[Value.ref b] below meth c s₁.heap [] 0 0 (lw_Z below #[Value.ref b] s) (entryFrame m ([Value.ref b] : List Value).toArray 9) := by
      rw [hh0]
      exact whole_start l hflags hbd ⟨B.exec, B.bytes, B.returns, hml, hown, hts, hX, hbl, B.notSynchronized, hgv⟩
    obtain ⟨t, a1, o, b1, b2, b3⟩ := K s₁ rfl X₀
    exact ⟨t, o, a1, b1, b2, b3⟩
theorem lw_pre_spec {args : Array Value} {s : State} (h : (Jvm.Cond.and given_1 narrow_1).before args s = true) (hr : rest_1_c.before args s = true) : ∃ (b : Addr) (xs : List Int32), lw_P b xs args s := by
  have hs := flat_of_before _ h
  have hq := flat_of_before _ hr
  have hc : (Cond.count 1).before args s = true := hs _ (by decide +kernel)
  have harr : (Cond.arrayOf (.arg 0) .int).before args s = true := hs _ (by decide +kernel)
  have hle : (Cond.le (.length (.arg 0)) (.int 7)).before args s = true := hs _ (by decide +kernel)
  have hlen : (Cond.isInt (.length (.arg 0))).before args s = true := hq _ (by decide +kernel)
  have hall : (Cond.all (.arg 0) (.isInt (.elem (.arg 0) (.index 0)))).before args s = true := hq _ (by decide +kernel)
  obtain ⟨b, xs, hb, hx⟩ := State.ints_of_pre rfl harr hlen hall
  have hsm : xs.length < 2 ^ 31 := hx.choose_spec.2.2.2
  have hev : (Term.length (.arg 0)).eval args s none [] s = some (.int xs.length.toInt32) := hx.length_eval hb
  have hv := Cond.le_ints hev (show (Term.int 7).eval args s none [] s = some (.int 7) from rfl)
  have hd : xs.length.toInt32 ≤ 7 := by
    simpa [Cond.before, Cond.holds, hv] using hle
  have hN : xs.length ≤ 7 := (Int32.ofNat_le_ofNat hsm (by decide)).mp (show Int32.ofNat xs.length ≤ Int32.ofNat 7 from hd)
  exact ⟨b, xs, Cond.one_arg hc (show args[0]? = some (.ref b) from hb), hx, hN, h⟩
theorem lw_comes (l : Launch) (hflags : l.flags = flags0) : Comes l x (Jvm.Cond.code x code maxLocals ret :: tables_1) room_1 (fun tb e args s => Calls_1 tb e args s ∧ rest_1 tb e args s ∧ Pre_1 tb e args s)
    (fun _ _ args s o t => lw_Q args s o t) := by
  intro p e ha hc hk s m args below hf hfit hheap happ hpre
  obtain ⟨b, xs, hP⟩ := lw_pre_spec hpre.2.2 hpre.2.1
  obtain ⟨k, o, h1, h2, h3, hQ⟩ := lw_walk l hflags b xs p e ha hc hk s m args below hf ((Spec.applies_iff_loose hf).mp happ).1 hP trivial
  exact ⟨k, o, h1, h2, h3, hQ⟩
theorem lw_frame {s t : State} {o : Outcome} {args : Array Value} (h : State.butDraws s t lw_cs (fun t1 => Framed s o t1 [] 600006 7302064)) :
    State.butDraws s t [Jvm.Choice.named "NaN.bits"] (fun t1 => Framed s o t1 (fieldLocs frame_1_writes args s ++ arrayLocs frame_1_arrays args s ++ staticLocs frame_1_statics s) 600006 7302064) := h
theorem lw_limb (L : Cond) (hL : ∀ (args : Array Value) (s t : State), L.after args s (.returned (some (.int 1))) t = true) :
    ArmFor flags0 classFile x code maxLocals ret World_1 tables_1 room_1 Calls_1 rest_1 Pre_1
      (fun tb e a s o t => postC L tb e a s o t ∧ State.butDraws s t [Jvm.Choice.named "NaN.bits"] (fun t1 => Framed s o t1 (fieldLocs frame_1_writes a s ++ arrayLocs frame_1_arrays a s ++ staticLocs frame_1_statics s) 600006 7302064)) := by
  intro l hflags _ _ p e ha hc hk s m args below hf hfit hheap happ hpre
  obtain ⟨k, o, h1, h2, h3, rfl, hF⟩ := lw_comes l hflags p e ha hc hk s m args below hf hfit hheap happ hpre
  exact ⟨k, _, h1, h2, h3, hL args s _, lw_frame hF⟩
theorem i_vc : Claimed_1_1 ∧ Claimed_1_2 := ⟨lw_limb limb_1_1 (fun args s t => by simp [limb_1_1, Cond.after, Cond.holds, Cond.value]), lw_limb limb_1_2 (fun args s t => Cond.after_iff.mpr (by
  first | (rw [show limb_1_2 = Cond.eq .result (.int 1) from rfl, Cond.eq_ints (x := 1) (y := 1) rfl rfl]; simp; done) | (simp [limb_1_2, Cond.value, Term.eval]; done)))⟩
end

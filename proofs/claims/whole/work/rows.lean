section
-- ===== PART A: goes FIRST, ahead of the names: the tables' words, and 'selects' of the private methods out of them =====
/-- a private method of a class that the tables say can be made, by its rows of tables_1 -/
def lw_okq (q : MethodName × Nat) : Prop := (q.1.cls ≠ "java/lang/invoke/MethodHandle" ∧ q.1.cls ≠ "java/lang/invoke/VarHandle") ∧ Cond.instantiable q.1.cls q.2 ∈ tables_1 ∧ Cond.privateMethod q.1 ∈ tables_1 ∧ Cond.instanceMethod q.1 ∈ tables_1
theorem lw_p0 : lw_okq (⟨"WornNames", "find", "(I)I"⟩, 10) := ⟨⟨by decide +kernel, by decide +kernel⟩, List.mem_of_getElem? (i := 13) (by decide +kernel), List.mem_of_getElem? (i := 228) (by decide +kernel), List.mem_of_getElem? (i := 229) (by decide +kernel)⟩
theorem lw_p1 : lw_okq (⟨"WornNames$Folk", "add", "(I)Z"⟩, 4) := ⟨⟨by decide +kernel, by decide +kernel⟩, List.mem_of_getElem? (i := 29) (by decide +kernel), List.mem_of_getElem? (i := 303) (by decide +kernel), List.mem_of_getElem? (i := 304) (by decide +kernel)⟩
theorem lw_p2 : lw_okq (⟨"WornNames$Town", "carryOutCall", "(III)I"⟩, 8) := ⟨⟨by decide +kernel, by decide +kernel⟩, List.mem_of_getElem? (i := 23) (by decide +kernel), List.mem_of_getElem? (i := 324) (by decide +kernel), List.mem_of_getElem? (i := 325) (by decide +kernel)⟩
theorem lw_p3 : lw_okq (⟨"WornNames$Folk", "wear", "(II)V"⟩, 4) := ⟨⟨by decide +kernel, by decide +kernel⟩, List.mem_of_getElem? (i := 29) (by decide +kernel), List.mem_of_getElem? (i := 359) (by decide +kernel), List.mem_of_getElem? (i := 360) (by decide +kernel)⟩
theorem lw_p4 : lw_okq (⟨"WornNames$Town", "carryOutMending", "(III)V"⟩, 8) := ⟨⟨by decide +kernel, by decide +kernel⟩, List.mem_of_getElem? (i := 23) (by decide +kernel), List.mem_of_getElem? (i := 376) (by decide +kernel), List.mem_of_getElem? (i := 377) (by decide +kernel)⟩
theorem lw_p5 : lw_okq (⟨"WornNames", "isPerson", "(I)Z"⟩, 10) := ⟨⟨by decide +kernel, by decide +kernel⟩, List.mem_of_getElem? (i := 13) (by decide +kernel), List.mem_of_getElem? (i := 385) (by decide +kernel), List.mem_of_getElem? (i := 386) (by decide +kernel)⟩
theorem lw_p6 : lw_okq (⟨"WornNames", "isPair", "(II)Z"⟩, 10) := ⟨⟨by decide +kernel, by decide +kernel⟩, List.mem_of_getElem? (i := 13) (by decide +kernel), List.mem_of_getElem? (i := 425) (by decide +kernel), List.mem_of_getElem? (i := 426) (by decide +kernel)⟩
theorem lw_p7 : lw_okq (⟨"WornNames", "callsFinding", "(LWornNames$Row;I)I"⟩, 10) := ⟨⟨by decide +kernel, by decide +kernel⟩, List.mem_of_getElem? (i := 13) (by decide +kernel), List.mem_of_getElem? (i := 554) (by decide +kernel), List.mem_of_getElem? (i := 555) (by decide +kernel)⟩
theorem lw_p8 : lw_okq (⟨"WornNames$Search", "seekOrder", "(LWornNames$Row;III)V"⟩, 9) := ⟨⟨by decide +kernel, by decide +kernel⟩, List.mem_of_getElem? (i := 124) (by decide +kernel), List.mem_of_getElem? (i := 572) (by decide +kernel), List.mem_of_getElem? (i := 573) (by decide +kernel)⟩
theorem lw_p9 : lw_okq (⟨"WornNames$Search", "takeTrial", "(II)V"⟩, 9) := ⟨⟨by decide +kernel, by decide +kernel⟩, List.mem_of_getElem? (i := 124) (by decide +kernel), List.mem_of_getElem? (i := 576) (by decide +kernel), List.mem_of_getElem? (i := 577) (by decide +kernel)⟩
theorem lw_p10 : lw_okq (⟨"WornNames$Search", "goOn", "(III)V"⟩, 9) := ⟨⟨by decide +kernel, by decide +kernel⟩, List.mem_of_getElem? (i := 124) (by decide +kernel), List.mem_of_getElem? (i := 581) (by decide +kernel), List.mem_of_getElem? (i := 582) (by decide +kernel)⟩
theorem lw_p11 : lw_okq (⟨"WornNames", "fewestInto", "(II)I"⟩, 10) := ⟨⟨by decide +kernel, by decide +kernel⟩, List.mem_of_getElem? (i := 13) (by decide +kernel), List.mem_of_getElem? (i := 586) (by decide +kernel), List.mem_of_getElem? (i := 587) (by decide +kernel)⟩
theorem lw_p12 : lw_okq (⟨"WornNames$Search", "seekCallers", "(LWornNames$Row;II)V"⟩, 9) := ⟨⟨by decide +kernel, by decide +kernel⟩, List.mem_of_getElem? (i := 124) (by decide +kernel), List.mem_of_getElem? (i := 595) (by decide +kernel), List.mem_of_getElem? (i := 596) (by decide +kernel)⟩
theorem lw_p13 : lw_okq (⟨"WornNames", "goesWell", "(LWornNames$Row;II)Z"⟩, 10) := ⟨⟨by decide +kernel, by decide +kernel⟩, List.mem_of_getElem? (i := 13) (by decide +kernel), List.mem_of_getElem? (i := 604) (by decide +kernel), List.mem_of_getElem? (i := 605) (by decide +kernel)⟩
theorem lw_p14 : lw_okq (⟨"WornNames$Search", "seekCalled", "(ILWornNames$Row;I)V"⟩, 9) := ⟨⟨by decide +kernel, by decide +kernel⟩, List.mem_of_getElem? (i := 124) (by decide +kernel), List.mem_of_getElem? (i := 619) (by decide +kernel), List.mem_of_getElem? (i := 620) (by decide +kernel)⟩
theorem lw_p15 : lw_okq (⟨"WornNames$Search", "holdTrial", "(I)V"⟩, 9) := ⟨⟨by decide +kernel, by decide +kernel⟩, List.mem_of_getElem? (i := 124) (by decide +kernel), List.mem_of_getElem? (i := 623) (by decide +kernel), List.mem_of_getElem? (i := 624) (by decide +kernel)⟩
def lw_privs_1 : List (MethodName × Nat) := [(⟨"WornNames", "find", "(I)I"⟩, 10), (⟨"WornNames$Folk", "add", "(I)Z"⟩, 4), (⟨"WornNames$Town", "carryOutCall", "(III)I"⟩, 8), (⟨"WornNames$Folk", "wear", "(II)V"⟩, 4), (⟨"WornNames$Town", "carryOutMending", "(III)V"⟩, 8), (⟨"WornNames", "isPerson", "(I)Z"⟩, 10), (⟨"WornNames", "isPair", "(II)Z"⟩, 10), (⟨"WornNames", "callsFinding", "(LWornNames$Row;I)I"⟩, 10), (⟨"WornNames$Search", "seekOrder", "(LWornNames$Row;III)V"⟩, 9), (⟨"WornNames$Search", "takeTrial", "(II)V"⟩, 9), (⟨"WornNames$Search", "goOn", "(III)V"⟩, 9), (⟨"WornNames", "fewestInto", "(II)I"⟩, 10), (⟨"WornNames$Search", "seekCallers", "(LWornNames$Row;II)V"⟩, 9), (⟨"WornNames", "goesWell", "(LWornNames$Row;II)Z"⟩, 10), (⟨"WornNames$Search", "seekCalled", "(ILWornNames$Row;I)V"⟩, 9), (⟨"WornNames$Search", "holdTrial", "(I)V"⟩, 9)]
theorem lw_r1 : ∀ q ∈ lw_privs_1, lw_okq q := List.forall_mem_cons.mpr ⟨lw_p0, List.forall_mem_cons.mpr ⟨lw_p1, List.forall_mem_cons.mpr ⟨lw_p2, List.forall_mem_cons.mpr ⟨lw_p3, List.forall_mem_cons.mpr ⟨lw_p4, List.forall_mem_cons.mpr ⟨lw_p5, List.forall_mem_cons.mpr ⟨lw_p6, List.forall_mem_cons.mpr ⟨lw_p7, List.forall_mem_cons.mpr ⟨lw_p8, List.forall_mem_cons.mpr ⟨lw_p9, List.forall_mem_cons.mpr ⟨lw_p10, List.forall_mem_cons.mpr ⟨lw_p11, List.forall_mem_cons.mpr ⟨lw_p12, List.forall_mem_cons.mpr ⟨lw_p13, List.forall_mem_cons.mpr ⟨lw_p14, List.forall_mem_cons.mpr ⟨lw_p15, fun _ h => absurd h List.not_mem_nil⟩⟩⟩⟩⟩⟩⟩⟩⟩⟩⟩⟩⟩⟩⟩⟩
theorem lw_p16 : lw_okq (⟨"WornNamesModel", "meet", "(I)I"⟩, 36) := ⟨⟨by decide +kernel, by decide +kernel⟩, List.mem_of_getElem? (i := 715) (by decide +kernel), List.mem_of_getElem? (i := 840) (by decide +kernel), List.mem_of_getElem? (i := 841) (by decide +kernel)⟩
theorem lw_p17 : lw_okq (⟨"WornNamesModel", "setRow", "(III)V"⟩, 36) := ⟨⟨by decide +kernel, by decide +kernel⟩, List.mem_of_getElem? (i := 715) (by decide +kernel), List.mem_of_getElem? (i := 844) (by decide +kernel), List.mem_of_getElem? (i := 845) (by decide +kernel)⟩
theorem lw_p18 : lw_okq (⟨"WornNamesModel", "askedRow", "(I)I"⟩, 36) := ⟨⟨by decide +kernel, by decide +kernel⟩, List.mem_of_getElem? (i := 715) (by decide +kernel), List.mem_of_getElem? (i := 852) (by decide +kernel), List.mem_of_getElem? (i := 853) (by decide +kernel)⟩
theorem lw_p19 : lw_okq (⟨"WornNamesModel", "rowAt", "(II)I"⟩, 36) := ⟨⟨by decide +kernel, by decide +kernel⟩, List.mem_of_getElem? (i := 715) (by decide +kernel), List.mem_of_getElem? (i := 856) (by decide +kernel), List.mem_of_getElem? (i := 857) (by decide +kernel)⟩
theorem lw_p20 : lw_okq (⟨"WornNamesModel", "ask", "(II)I"⟩, 36) := ⟨⟨by decide +kernel, by decide +kernel⟩, List.mem_of_getElem? (i := 715) (by decide +kernel), List.mem_of_getElem? (i := 860) (by decide +kernel), List.mem_of_getElem? (i := 861) (by decide +kernel)⟩
theorem lw_p21 : lw_okq (⟨"WornNamesModel", "askedText", "(I)I"⟩, 36) := ⟨⟨by decide +kernel, by decide +kernel⟩, List.mem_of_getElem? (i := 715) (by decide +kernel), List.mem_of_getElem? (i := 892) (by decide +kernel), List.mem_of_getElem? (i := 893) (by decide +kernel)⟩
theorem lw_p22 : lw_okq (⟨"WornNamesModel", "goesOn", "(I)I"⟩, 36) := ⟨⟨by decide +kernel, by decide +kernel⟩, List.mem_of_getElem? (i := 715) (by decide +kernel), List.mem_of_getElem? (i := 900) (by decide +kernel), List.mem_of_getElem? (i := 901) (by decide +kernel)⟩
theorem lw_p23 : lw_okq (⟨"WornNamesModel", "here", "(I)I"⟩, 36) := ⟨⟨by decide +kernel, by decide +kernel⟩, List.mem_of_getElem? (i := 715) (by decide +kernel), List.mem_of_getElem? (i := 904) (by decide +kernel), List.mem_of_getElem? (i := 905) (by decide +kernel)⟩
theorem lw_p24 : lw_okq (⟨"WornNamesModel", "readsPerson", "(I)Z"⟩, 36) := ⟨⟨by decide +kernel, by decide +kernel⟩, List.mem_of_getElem? (i := 715) (by decide +kernel), List.mem_of_getElem? (i := 908) (by decide +kernel), List.mem_of_getElem? (i := 909) (by decide +kernel)⟩
theorem lw_p25 : lw_okq (⟨"WornNamesModel", "isOne", "(I)Z"⟩, 36) := ⟨⟨by decide +kernel, by decide +kernel⟩, List.mem_of_getElem? (i := 715) (by decide +kernel), List.mem_of_getElem? (i := 923) (by decide +kernel), List.mem_of_getElem? (i := 924) (by decide +kernel)⟩
theorem lw_p26 : lw_okq (⟨"WornNamesModel", "personOf", "(II)I"⟩, 36) := ⟨⟨by decide +kernel, by decide +kernel⟩, List.mem_of_getElem? (i := 715) (by decide +kernel), List.mem_of_getElem? (i := 927) (by decide +kernel), List.mem_of_getElem? (i := 928) (by decide +kernel)⟩
theorem lw_p27 : lw_okq (⟨"WornNamesModel", "lenOf", "(I)I"⟩, 36) := ⟨⟨by decide +kernel, by decide +kernel⟩, List.mem_of_getElem? (i := 715) (by decide +kernel), List.mem_of_getElem? (i := 931) (by decide +kernel), List.mem_of_getElem? (i := 932) (by decide +kernel)⟩
theorem lw_p28 : lw_okq (⟨"WornNamesModel", "letterOf", "(II)I"⟩, 36) := ⟨⟨by decide +kernel, by decide +kernel⟩, List.mem_of_getElem? (i := 715) (by decide +kernel), List.mem_of_getElem? (i := 939) (by decide +kernel), List.mem_of_getElem? (i := 940) (by decide +kernel)⟩
theorem lw_p29 : lw_okq (⟨"WornNamesModel", "isA", "(II)Z"⟩, 36) := ⟨⟨by decide +kernel, by decide +kernel⟩, List.mem_of_getElem? (i := 715) (by decide +kernel), List.mem_of_getElem? (i := 947) (by decide +kernel), List.mem_of_getElem? (i := 948) (by decide +kernel)⟩
theorem lw_p30 : lw_okq (⟨"WornNamesModel", "mayCall", "(II)Z"⟩, 36) := ⟨⟨by decide +kernel, by decide +kernel⟩, List.mem_of_getElem? (i := 715) (by decide +kernel), List.mem_of_getElem? (i := 951) (by decide +kernel), List.mem_of_getElem? (i := 952) (by decide +kernel)⟩
theorem lw_p31 : lw_okq (⟨"WornNamesModel", "comers", "(II)I"⟩, 36) := ⟨⟨by decide +kernel, by decide +kernel⟩, List.mem_of_getElem? (i := 715) (by decide +kernel), List.mem_of_getElem? (i := 955) (by decide +kernel), List.mem_of_getElem? (i := 956) (by decide +kernel)⟩
def lw_privs_2 : List (MethodName × Nat) := [(⟨"WornNamesModel", "meet", "(I)I"⟩, 36), (⟨"WornNamesModel", "setRow", "(III)V"⟩, 36), (⟨"WornNamesModel", "askedRow", "(I)I"⟩, 36), (⟨"WornNamesModel", "rowAt", "(II)I"⟩, 36), (⟨"WornNamesModel", "ask", "(II)I"⟩, 36), (⟨"WornNamesModel", "askedText", "(I)I"⟩, 36), (⟨"WornNamesModel", "goesOn", "(I)I"⟩, 36), (⟨"WornNamesModel", "here", "(I)I"⟩, 36), (⟨"WornNamesModel", "readsPerson", "(I)Z"⟩, 36), (⟨"WornNamesModel", "isOne", "(I)Z"⟩, 36), (⟨"WornNamesModel", "personOf", "(II)I"⟩, 36), (⟨"WornNamesModel", "lenOf", "(I)I"⟩, 36), (⟨"WornNamesModel", "letterOf", "(II)I"⟩, 36), (⟨"WornNamesModel", "isA", "(II)Z"⟩, 36), (⟨"WornNamesModel", "mayCall", "(II)Z"⟩, 36), (⟨"WornNamesModel", "comers", "(II)I"⟩, 36)]
theorem lw_r2 : ∀ q ∈ lw_privs_2, lw_okq q := List.forall_mem_cons.mpr ⟨lw_p16, List.forall_mem_cons.mpr ⟨lw_p17, List.forall_mem_cons.mpr ⟨lw_p18, List.forall_mem_cons.mpr ⟨lw_p19, List.forall_mem_cons.mpr ⟨lw_p20, List.forall_mem_cons.mpr ⟨lw_p21, List.forall_mem_cons.mpr ⟨lw_p22, List.forall_mem_cons.mpr ⟨lw_p23, List.forall_mem_cons.mpr ⟨lw_p24, List.forall_mem_cons.mpr ⟨lw_p25, List.forall_mem_cons.mpr ⟨lw_p26, List.forall_mem_cons.mpr ⟨lw_p27, List.forall_mem_cons.mpr ⟨lw_p28, List.forall_mem_cons.mpr ⟨lw_p29, List.forall_mem_cons.mpr ⟨lw_p30, List.forall_mem_cons.mpr ⟨lw_p31, fun _ h => absurd h List.not_mem_nil⟩⟩⟩⟩⟩⟩⟩⟩⟩⟩⟩⟩⟩⟩⟩⟩
theorem lw_p32 : lw_okq (⟨"WornNamesModel", "isLike", "(II)Z"⟩, 36) := ⟨⟨by decide +kernel, by decide +kernel⟩, List.mem_of_getElem? (i := 715) (by decide +kernel), List.mem_of_getElem? (i := 959) (by decide +kernel), List.mem_of_getElem? (i := 960) (by decide +kernel)⟩
theorem lw_p33 : lw_okq (⟨"WornNamesModel", "likes", "(I)I"⟩, 36) := ⟨⟨by decide +kernel, by decide +kernel⟩, List.mem_of_getElem? (i := 715) (by decide +kernel), List.mem_of_getElem? (i := 966) (by decide +kernel), List.mem_of_getElem? (i := 967) (by decide +kernel)⟩
theorem lw_p34 : lw_okq (⟨"WornNamesModel", "areTwo", "(II)Z"⟩, 36) := ⟨⟨by decide +kernel, by decide +kernel⟩, List.mem_of_getElem? (i := 715) (by decide +kernel), List.mem_of_getElem? (i := 982) (by decide +kernel), List.mem_of_getElem? (i := 983) (by decide +kernel)⟩
theorem lw_p35 : lw_okq (⟨"WornNamesModel", "note", "()V"⟩, 36) := ⟨⟨by decide +kernel, by decide +kernel⟩, List.mem_of_getElem? (i := 715) (by decide +kernel), List.mem_of_getElem? (i := 986) (by decide +kernel), List.mem_of_getElem? (i := 987) (by decide +kernel)⟩
theorem lw_p36 : lw_okq (⟨"WornNamesModel", "doCall", "(II)I"⟩, 36) := ⟨⟨by decide +kernel, by decide +kernel⟩, List.mem_of_getElem? (i := 715) (by decide +kernel), List.mem_of_getElem? (i := 990) (by decide +kernel), List.mem_of_getElem? (i := 991) (by decide +kernel)⟩
theorem lw_p37 : lw_okq (⟨"WornNamesModel", "comeOne", "(I)V"⟩, 36) := ⟨⟨by decide +kernel, by decide +kernel⟩, List.mem_of_getElem? (i := 715) (by decide +kernel), List.mem_of_getElem? (i := 997) (by decide +kernel), List.mem_of_getElem? (i := 998) (by decide +kernel)⟩
theorem lw_p38 : lw_okq (⟨"WornNamesModel", "wear", "([III)I"⟩, 36) := ⟨⟨by decide +kernel, by decide +kernel⟩, List.mem_of_getElem? (i := 715) (by decide +kernel), List.mem_of_getElem? (i := 1001) (by decide +kernel), List.mem_of_getElem? (i := 1002) (by decide +kernel)⟩
theorem lw_p39 : lw_okq (⟨"WornNamesModel", "wornAt", "([III)I"⟩, 36) := ⟨⟨by decide +kernel, by decide +kernel⟩, List.mem_of_getElem? (i := 715) (by decide +kernel), List.mem_of_getElem? (i := 1005) (by decide +kernel), List.mem_of_getElem? (i := 1006) (by decide +kernel)⟩
theorem lw_p40 : lw_okq (⟨"WornNamesModel", "putAside", "()V"⟩, 36) := ⟨⟨by decide +kernel, by decide +kernel⟩, List.mem_of_getElem? (i := 715) (by decide +kernel), List.mem_of_getElem? (i := 1043) (by decide +kernel), List.mem_of_getElem? (i := 1044) (by decide +kernel)⟩
theorem lw_p41 : lw_okq (⟨"WornNamesModel", "comeBack", "()V"⟩, 36) := ⟨⟨by decide +kernel, by decide +kernel⟩, List.mem_of_getElem? (i := 715) (by decide +kernel), List.mem_of_getElem? (i := 1047) (by decide +kernel), List.mem_of_getElem? (i := 1048) (by decide +kernel)⟩
theorem lw_p42 : lw_okq (⟨"WornNamesModel", "comeAll", "()V"⟩, 36) := ⟨⟨by decide +kernel, by decide +kernel⟩, List.mem_of_getElem? (i := 715) (by decide +kernel), List.mem_of_getElem? (i := 1059) (by decide +kernel), List.mem_of_getElem? (i := 1060) (by decide +kernel)⟩
theorem lw_p43 : lw_okq (⟨"WornNamesModel", "unlikeNow", "()I"⟩, 36) := ⟨⟨by decide +kernel, by decide +kernel⟩, List.mem_of_getElem? (i := 715) (by decide +kernel), List.mem_of_getElem? (i := 1063) (by decide +kernel), List.mem_of_getElem? (i := 1064) (by decide +kernel)⟩
theorem lw_p44 : lw_okq (⟨"WornNamesModel", "living", "()I"⟩, 36) := ⟨⟨by decide +kernel, by decide +kernel⟩, List.mem_of_getElem? (i := 715) (by decide +kernel), List.mem_of_getElem? (i := 1071) (by decide +kernel), List.mem_of_getElem? (i := 1072) (by decide +kernel)⟩
theorem lw_p45 : lw_okq (⟨"WornNamesModel", "askedName", "(I)I"⟩, 36) := ⟨⟨by decide +kernel, by decide +kernel⟩, List.mem_of_getElem? (i := 715) (by decide +kernel), List.mem_of_getElem? (i := 1079) (by decide +kernel), List.mem_of_getElem? (i := 1080) (by decide +kernel)⟩
theorem lw_p46 : lw_okq (⟨"WornNamesModel", "oneLasts", "(I)I"⟩, 36) := ⟨⟨by decide +kernel, by decide +kernel⟩, List.mem_of_getElem? (i := 715) (by decide +kernel), List.mem_of_getElem? (i := 1083) (by decide +kernel), List.mem_of_getElem? (i := 1084) (by decide +kernel)⟩
theorem lw_p47 : lw_okq (⟨"WornNamesModel", "haveOne", "(I)I"⟩, 36) := ⟨⟨by decide +kernel, by decide +kernel⟩, List.mem_of_getElem? (i := 715) (by decide +kernel), List.mem_of_getElem? (i := 1087) (by decide +kernel), List.mem_of_getElem? (i := 1088) (by decide +kernel)⟩
def lw_privs_3 : List (MethodName × Nat) := [(⟨"WornNamesModel", "isLike", "(II)Z"⟩, 36), (⟨"WornNamesModel", "likes", "(I)I"⟩, 36), (⟨"WornNamesModel", "areTwo", "(II)Z"⟩, 36), (⟨"WornNamesModel", "note", "()V"⟩, 36), (⟨"WornNamesModel", "doCall", "(II)I"⟩, 36), (⟨"WornNamesModel", "comeOne", "(I)V"⟩, 36), (⟨"WornNamesModel", "wear", "([III)I"⟩, 36), (⟨"WornNamesModel", "wornAt", "([III)I"⟩, 36), (⟨"WornNamesModel", "putAside", "()V"⟩, 36), (⟨"WornNamesModel", "comeBack", "()V"⟩, 36), (⟨"WornNamesModel", "comeAll", "()V"⟩, 36), (⟨"WornNamesModel", "unlikeNow", "()I"⟩, 36), (⟨"WornNamesModel", "living", "()I"⟩, 36), (⟨"WornNamesModel", "askedName", "(I)I"⟩, 36), (⟨"WornNamesModel", "oneLasts", "(I)I"⟩, 36), (⟨"WornNamesModel", "haveOne", "(I)I"⟩, 36)]
theorem lw_r3 : ∀ q ∈ lw_privs_3, lw_okq q := List.forall_mem_cons.mpr ⟨lw_p32, List.forall_mem_cons.mpr ⟨lw_p33, List.forall_mem_cons.mpr ⟨lw_p34, List.forall_mem_cons.mpr ⟨lw_p35, List.forall_mem_cons.mpr ⟨lw_p36, List.forall_mem_cons.mpr ⟨lw_p37, List.forall_mem_cons.mpr ⟨lw_p38, List.forall_mem_cons.mpr ⟨lw_p39, List.forall_mem_cons.mpr ⟨lw_p40, List.forall_mem_cons.mpr ⟨lw_p41, List.forall_mem_cons.mpr ⟨lw_p42, List.forall_mem_cons.mpr ⟨lw_p43, List.forall_mem_cons.mpr ⟨lw_p44, List.forall_mem_cons.mpr ⟨lw_p45, List.forall_mem_cons.mpr ⟨lw_p46, List.forall_mem_cons.mpr ⟨lw_p47, fun _ h => absurd h List.not_mem_nil⟩⟩⟩⟩⟩⟩⟩⟩⟩⟩⟩⟩⟩⟩⟩⟩
theorem lw_p48 : lw_okq (⟨"WornNamesModel", "askedCalls", "(II)I"⟩, 36) := ⟨⟨by decide +kernel, by decide +kernel⟩, List.mem_of_getElem? (i := 715) (by decide +kernel), List.mem_of_getElem? (i := 1099) (by decide +kernel), List.mem_of_getElem? (i := 1100) (by decide +kernel)⟩
theorem lw_p49 : lw_okq (⟨"WornNamesModel", "isCall", "(I)Z"⟩, 36) := ⟨⟨by decide +kernel, by decide +kernel⟩, List.mem_of_getElem? (i := 715) (by decide +kernel), List.mem_of_getElem? (i := 1103) (by decide +kernel), List.mem_of_getElem? (i := 1104) (by decide +kernel)⟩
theorem lw_p50 : lw_okq (⟨"WornNamesModel", "missed", "()I"⟩, 36) := ⟨⟨by decide +kernel, by decide +kernel⟩, List.mem_of_getElem? (i := 715) (by decide +kernel), List.mem_of_getElem? (i := 1107) (by decide +kernel), List.mem_of_getElem? (i := 1108) (by decide +kernel)⟩
theorem lw_p51 : lw_okq (⟨"WornNamesModel", "callOn", "(I)I"⟩, 36) := ⟨⟨by decide +kernel, by decide +kernel⟩, List.mem_of_getElem? (i := 715) (by decide +kernel), List.mem_of_getElem? (i := 1111) (by decide +kernel), List.mem_of_getElem? (i := 1112) (by decide +kernel)⟩
theorem lw_p52 : lw_okq (⟨"WornNamesModel", "orderOn", "(III)V"⟩, 36) := ⟨⟨by decide +kernel, by decide +kernel⟩, List.mem_of_getElem? (i := 715) (by decide +kernel), List.mem_of_getElem? (i := 1120) (by decide +kernel), List.mem_of_getElem? (i := 1121) (by decide +kernel)⟩
theorem lw_p53 : lw_okq (⟨"WornNamesModel", "meetLaid", "(I)V"⟩, 36) := ⟨⟨by decide +kernel, by decide +kernel⟩, List.mem_of_getElem? (i := 715) (by decide +kernel), List.mem_of_getElem? (i := 1124) (by decide +kernel), List.mem_of_getElem? (i := 1125) (by decide +kernel)⟩
theorem lw_p54 : lw_okq (⟨"WornNamesModel", "layBest", "(II)I"⟩, 36) := ⟨⟨by decide +kernel, by decide +kernel⟩, List.mem_of_getElem? (i := 715) (by decide +kernel), List.mem_of_getElem? (i := 1128) (by decide +kernel), List.mem_of_getElem? (i := 1129) (by decide +kernel)⟩
theorem lw_p55 : lw_okq (⟨"WornNamesModel", "callersOn", "(II)V"⟩, 36) := ⟨⟨by decide +kernel, by decide +kernel⟩, List.mem_of_getElem? (i := 715) (by decide +kernel), List.mem_of_getElem? (i := 1137) (by decide +kernel), List.mem_of_getElem? (i := 1138) (by decide +kernel)⟩
theorem lw_p56 : lw_okq (⟨"WornNamesModel", "isSpared", "(III)Z"⟩, 36) := ⟨⟨by decide +kernel, by decide +kernel⟩, List.mem_of_getElem? (i := 715) (by decide +kernel), List.mem_of_getElem? (i := 1145) (by decide +kernel), List.mem_of_getElem? (i := 1146) (by decide +kernel)⟩
theorem lw_p57 : lw_okq (⟨"WornNamesModel", "askedHeld", "(II)I"⟩, 36) := ⟨⟨by decide +kernel, by decide +kernel⟩, List.mem_of_getElem? (i := 715) (by decide +kernel), List.mem_of_getElem? (i := 1157) (by decide +kernel), List.mem_of_getElem? (i := 1158) (by decide +kernel)⟩
theorem lw_p58 : lw_okq (⟨"WornNamesModel", "heldOn", "(IIII)V"⟩, 36) := ⟨⟨by decide +kernel, by decide +kernel⟩, List.mem_of_getElem? (i := 715) (by decide +kernel), List.mem_of_getElem? (i := 1161) (by decide +kernel), List.mem_of_getElem? (i := 1162) (by decide +kernel)⟩
theorem lw_p59 : lw_okq (⟨"WornNamesModel", "beginSo", "(II)I"⟩, 36) := ⟨⟨by decide +kernel, by decide +kernel⟩, List.mem_of_getElem? (i := 715) (by decide +kernel), List.mem_of_getElem? (i := 1173) (by decide +kernel), List.mem_of_getElem? (i := 1174) (by decide +kernel)⟩
theorem lw_p60 : lw_okq (⟨"WornNamesModel", "sumOf", "(I)I"⟩, 36) := ⟨⟨by decide +kernel, by decide +kernel⟩, List.mem_of_getElem? (i := 715) (by decide +kernel), List.mem_of_getElem? (i := 1197) (by decide +kernel), List.mem_of_getElem? (i := 1198) (by decide +kernel)⟩
theorem lw_p61 : lw_okq (⟨"WornNamesModel", "tells", "(I)I"⟩, 36) := ⟨⟨by decide +kernel, by decide +kernel⟩, List.mem_of_getElem? (i := 715) (by decide +kernel), List.mem_of_getElem? (i := 1212) (by decide +kernel), List.mem_of_getElem? (i := 1213) (by decide +kernel)⟩
theorem lw_p62 : lw_okq (⟨"WornNamesModel", "mix", "(I)V"⟩, 36) := ⟨⟨by decide +kernel, by decide +kernel⟩, List.mem_of_getElem? (i := 715) (by decide +kernel), List.mem_of_getElem? (i := 1229) (by decide +kernel), List.mem_of_getElem? (i := 1230) (by decide +kernel)⟩
theorem lw_p63 : lw_okq (⟨"WornNamesModel", "mixTown", "()V"⟩, 36) := ⟨⟨by decide +kernel, by decide +kernel⟩, List.mem_of_getElem? (i := 715) (by decide +kernel), List.mem_of_getElem? (i := 1234) (by decide +kernel), List.mem_of_getElem? (i := 1235) (by decide +kernel)⟩
def lw_privs_4 : List (MethodName × Nat) := [(⟨"WornNamesModel", "askedCalls", "(II)I"⟩, 36), (⟨"WornNamesModel", "isCall", "(I)Z"⟩, 36), (⟨"WornNamesModel", "missed", "()I"⟩, 36), (⟨"WornNamesModel", "callOn", "(I)I"⟩, 36), (⟨"WornNamesModel", "orderOn", "(III)V"⟩, 36), (⟨"WornNamesModel", "meetLaid", "(I)V"⟩, 36), (⟨"WornNamesModel", "layBest", "(II)I"⟩, 36), (⟨"WornNamesModel", "callersOn", "(II)V"⟩, 36), (⟨"WornNamesModel", "isSpared", "(III)Z"⟩, 36), (⟨"WornNamesModel", "askedHeld", "(II)I"⟩, 36), (⟨"WornNamesModel", "heldOn", "(IIII)V"⟩, 36), (⟨"WornNamesModel", "beginSo", "(II)I"⟩, 36), (⟨"WornNamesModel", "sumOf", "(I)I"⟩, 36), (⟨"WornNamesModel", "tells", "(I)I"⟩, 36), (⟨"WornNamesModel", "mix", "(I)V"⟩, 36), (⟨"WornNamesModel", "mixTown", "()V"⟩, 36)]
theorem lw_r4 : ∀ q ∈ lw_privs_4, lw_okq q := List.forall_mem_cons.mpr ⟨lw_p48, List.forall_mem_cons.mpr ⟨lw_p49, List.forall_mem_cons.mpr ⟨lw_p50, List.forall_mem_cons.mpr ⟨lw_p51, List.forall_mem_cons.mpr ⟨lw_p52, List.forall_mem_cons.mpr ⟨lw_p53, List.forall_mem_cons.mpr ⟨lw_p54, List.forall_mem_cons.mpr ⟨lw_p55, List.forall_mem_cons.mpr ⟨lw_p56, List.forall_mem_cons.mpr ⟨lw_p57, List.forall_mem_cons.mpr ⟨lw_p58, List.forall_mem_cons.mpr ⟨lw_p59, List.forall_mem_cons.mpr ⟨lw_p60, List.forall_mem_cons.mpr ⟨lw_p61, List.forall_mem_cons.mpr ⟨lw_p62, List.forall_mem_cons.mpr ⟨lw_p63, fun _ h => absurd h List.not_mem_nil⟩⟩⟩⟩⟩⟩⟩⟩⟩⟩⟩⟩⟩⟩⟩⟩
def lw_privs : List (MethodName × Nat) := lw_privs_1 ++ (lw_privs_2 ++ (lw_privs_3 ++ (lw_privs_4)))
def lw_tbl : List Cond := k2_sels lw_privs ++ tables_1
theorem lw_privs_ok : ∀ q ∈ lw_privs, lw_okq q := by
  show ∀ q ∈ lw_privs_1 ++ (lw_privs_2 ++ (lw_privs_3 ++ (lw_privs_4))), lw_okq q
  exact List.forall_mem_append.mpr ⟨lw_r1, List.forall_mem_append.mpr ⟨lw_r2, List.forall_mem_append.mpr ⟨lw_r3, lw_r4⟩⟩⟩
-- ===== end of PART A; then your names; then what follows =====
end
section
-- printed by wip/whole/gen/tabs.py: the tables of the pure machine
def pv_cn : List String := ["WornNames$Deeds", "WornNames$Folk", "WornNames$Row", "WornNames$Search", "WornNames$Town", "WornNames", "WornNamesModel", "WornNames$Name", "java/lang/Integer", "WornNamesLaw"]
def pv_T0 : u_T := fun k => match k with
  | 0 => ("WornNames$Deeds", "doers", "[I", true)
  | 1 => ("WornNames$Deeds", "others", "[I", true)
  | 2 => ("WornNames$Deeds", "letters", "[I", true)
  | 3 => ("WornNames$Deeds", "terms", "[I", true)
  | 4 => ("WornNames$Deeds", "size", "I", false)
  | _ => ("WornNames$Deeds", "there", "Z", false)
def pv_y0 : Nat → FieldType := fun k => match k with
  | 0 => .array .int
  | 1 => .array .int
  | 2 => .array .int
  | 3 => .array .int
  | 4 => .int
  | _ => .boolean
def pv_T1 : u_T := fun k => match k with
  | 0 => ("WornNames$Folk", "kinds", "[I", true)
  | 1 => ("WornNames$Folk", "names", "[I", true)
  | 2 => ("WornNames$Folk", "dues", "[I", true)
  | _ => ("WornNames$Folk", "size", "I", false)
def pv_y1 : Nat → FieldType := fun k => match k with
  | 0 => .array .int
  | 1 => .array .int
  | 2 => .array .int
  | _ => .int
def pv_T2 : u_T := fun k => match k with
  | 0 => ("WornNames$Row", "places", "[I", true)
  | 1 => ("WornNames$Row", "there", "Z", false)
  | _ => ("WornNames$Row", "size", "I", false)
def pv_y2 : Nat → FieldType := fun k => match k with
  | 0 => .array .int
  | 1 => .boolean
  | _ => .int
def pv_T3 : u_T := fun k => match k with
  | 0 => ("WornNames$Search", "levels", "[LWornNames$Folk;", true)
  | 1 => ("WornNames$Search", "trial", "[I", true)
  | 2 => ("WornNames$Search", "found", "[I", true)
  | 3 => ("WornNames$Search", "calledAt", "[I", true)
  | 4 => ("WornNames$Search", "way", "I", false)
  | 5 => ("WornNames$Search", "mistakes", "I", false)
  | 6 => ("WornNames$Search", "fewest", "I", false)
  | 7 => ("WornNames$Search", "heldRows", "I", false)
  | _ => ("WornNames$Search", "firstHeld", "I", false)
def pv_y3 : Nat → FieldType := fun k => match k with
  | 0 => .array (.object "WornNames$Folk")
  | 1 => .array .int
  | 2 => .array .int
  | 3 => .array .int
  | 4 => .int
  | 5 => .int
  | 6 => .int
  | 7 => .int
  | _ => .int
def pv_T4 : u_T := fun k => match k with
  | 0 => ("WornNames$Town", "founders", "LWornNames$Folk;", true)
  | 1 => ("WornNames$Town", "now", "LWornNames$Folk;", true)
  | 2 => ("WornNames$Town", "came", "[I", true)
  | 3 => ("WornNames$Town", "mistaken", "[I", true)
  | 4 => ("WornNames$Town", "called", "[I", true)
  | 5 => ("WornNames$Town", "deeds", "LWornNames$Deeds;", true)
  | 6 => ("WornNames$Town", "kept", "[LWornNames$Deeds;", true)
  | _ => ("WornNames$Town", "paid", "I", false)
def pv_y4 : Nat → FieldType := fun k => match k with
  | 0 => .object "WornNames$Folk"
  | 1 => .object "WornNames$Folk"
  | 2 => .array .int
  | 3 => .array .int
  | 4 => .array .int
  | 5 => .object "WornNames$Deeds"
  | 6 => .array (.object "WornNames$Deeds")
  | _ => .int
def pv_T5 : u_T := fun k => match k with
  | 0 => ("WornNames", "rows", "[LWornNames$Row;", true)
  | 1 => ("WornNames", "texts", "[LWornNames$Row;", true)
  | 2 => ("WornNames", "town", "LWornNames$Town;", true)
  | 3 => ("WornNames", "reading", "LWornNames$Folk;", true)
  | 4 => ("WornNames", "search", "LWornNames$Search;", true)
  | 5 => ("WornNames", "found", "[I", true)
  | 6 => ("WornNames", "way", "I", false)
  | 7 => ("WornNames", "vowelPrice", "I", false)
  | 8 => ("WornNames", "told", "I", false)
  | _ => ("WornNames", "latest", "I", false)
def pv_y5 : Nat → FieldType := fun k => match k with
  | 0 => .array (.object "WornNames$Row")
  | 1 => .array (.object "WornNames$Row")
  | 2 => .object "WornNames$Town"
  | 3 => .object "WornNames$Folk"
  | 4 => .object "WornNames$Search"
  | 5 => .array .int
  | 6 => .int
  | 7 => .int
  | 8 => .int
  | _ => .int
def pv_T6 : u_T := fun k => match k with
  | 0 => ("WornNamesModel", "finding", "I", false)
  | 1 => ("WornNamesModel", "findings", "[I", true)
  | 2 => ("WornNamesModel", "asked", "I", false)
  | 3 => ("WornNamesModel", "sizes", "[I", true)
  | 4 => ("WornNamesModel", "rows", "[I", true)
  | 5 => ("WornNamesModel", "moving", "[I", true)
  | 6 => ("WornNamesModel", "lengths", "[I", true)
  | 7 => ("WornNamesModel", "texts", "[I", true)
  | 8 => ("WornNamesModel", "many", "I", false)
  | 9 => ("WornNamesModel", "way", "I", false)
  | 10 => ("WornNamesModel", "price", "I", false)
  | 11 => ("WornNamesModel", "kinds", "[I", true)
  | 12 => ("WornNamesModel", "readAt", "I", false)
  | 13 => ("WornNamesModel", "readMany", "I", false)
  | 14 => ("WornNamesModel", "readKinds", "[I", true)
  | 15 => ("WornNamesModel", "readLens", "[I", true)
  | 16 => ("WornNamesModel", "readNames", "[I", true)
  | 17 => ("WornNamesModel", "now", "[I", true)
  | 18 => ("WornNamesModel", "done", "I", false)
  | 19 => ("WornNamesModel", "notes", "[I", true)
  | 20 => ("WornNamesModel", "keptMany", "[I", true)
  | 21 => ("WornNamesModel", "keptNow", "[I", true)
  | 22 => ("WornNamesModel", "keptNotes", "[I", true)
  | 23 => ("WornNamesModel", "aside", "[I", true)
  | 24 => ("WornNamesModel", "noneMany", "I", false)
  | 25 => ("WornNamesModel", "one", "[I", true)
  | 26 => ("WornNamesModel", "oneLen", "I", false)
  | 27 => ("WornNamesModel", "depth", "[I", true)
  | 28 => ("WornNamesModel", "laid", "[I", true)
  | 29 => ("WornNamesModel", "bestLaid", "[I", true)
  | 30 => ("WornNamesModel", "bestMissed", "I", false)
  | 31 => ("WornNamesModel", "missedAhead", "I", false)
  | 32 => ("WornNamesModel", "heldMany", "I", false)
  | 33 => ("WornNamesModel", "heldFirst", "I", false)
  | 34 => ("WornNamesModel", "heldSets", "[I", true)
  | _ => ("WornNamesModel", "h0", "J", false)
def pv_y6 : Nat → FieldType := fun k => match k with
  | 0 => .int
  | 1 => .array .int
  | 2 => .int
  | 3 => .array .int
  | 4 => .array .int
  | 5 => .array .int
  | 6 => .array .int
  | 7 => .array .int
  | 8 => .int
  | 9 => .int
  | 10 => .int
  | 11 => .array .int
  | 12 => .int
  | 13 => .int
  | 14 => .array .int
  | 15 => .array .int
  | 16 => .array .int
  | 17 => .array .int
  | 18 => .int
  | 19 => .array .int
  | 20 => .array .int
  | 21 => .array .int
  | 22 => .array .int
  | 23 => .array .int
  | 24 => .int
  | 25 => .array .int
  | 26 => .int
  | 27 => .array .int
  | 28 => .array .int
  | 29 => .array .int
  | 30 => .int
  | 31 => .int
  | 32 => .int
  | 33 => .int
  | 34 => .array .int
  | _ => .long
def pv_cl : List vw_C := [("WornNames$Deeds", pv_T0, 6), ("WornNames$Folk", pv_T1, 4), ("WornNames$Row", pv_T2, 3), ("WornNames$Search", pv_T3, 9), ("WornNames$Town", pv_T4, 8), ("WornNames", pv_T5, 10), ("WornNamesModel", pv_T6, 36)]
/-- type of field k of class ci -/
def pv_ft : Nat → Nat → FieldType := fun ci => match ci with
  | 0 => pv_y0
  | 1 => pv_y1
  | 2 => pv_y2
  | 3 => pv_y3
  | 4 => pv_y4
  | 5 => pv_y5
  | _ => pv_y6
/-- what a new object holds -/
def pv_df : List (List Value) := [[.null, .null, .null, .null, .int 0, .int 0], [.null, .null, .null, .int 0], [.null, .int 0, .int 0], [.null, .null, .null, .null, .int 0, .int 0, .int 0, .int 0, .int 0], [.null, .null, .null, .null, .null, .null, .null, .int 0], [.null, .null, .null, .null, .null, .null, .int 0, .int 0, .int 0, .int 0], [.int 0, .null, .int 0, .null, .null, .null, .null, .null, .int 0, .int 0, .int 0, .null, .int 0, .int 0, .null, .null, .null, .null, .int 0, .null, .null, .null, .null, .null, .int 0, .null, .int 0, .null, .null, .null, .int 0, .int 0, .int 0, .int 0, .null, .long 0]]
/-- a method: name, bytes, locals, what it returns, number of its own class, cells and slots that it may make -/
abbrev pv_I : Type := MethodName × ByteArray × Nat × Option FieldType × Nat × Nat × Nat
def pv_t0 : List pv_I := [(⟨"WornNames$Deeds", "<init>", "()V"⟩, prog_2_method_1_code, 1, none, 0, 4, 240),
  (⟨"WornNames$Deeds", "hasRoomFor", "(I)Z"⟩, prog_2_method_2_code, 2, (some .boolean), 0, 0, 0),
  (⟨"WornNames$Deeds", "add", "(IIII)V"⟩, prog_2_method_3_code, 5, none, 0, 0, 0),
  (⟨"WornNames$Deeds", "take", "(LWornNames$Deeds;)V"⟩, prog_2_method_4_code, 2, none, 0, 0, 0),
  (⟨"WornNames$Folk", "<init>", "()V"⟩, prog_3_method_1_code, 1, none, 1, 3, 21),
  (⟨"WornNames$Folk", "take", "(LWornNames$Folk;)V"⟩, prog_3_method_2_code, 2, none, 1, 0, 0),
  (⟨"WornNames$Folk", "read", "(LWornNames$Row;)I"⟩, prog_3_method_3_code, 6, (some .int), 1, 0, 0),
  (⟨"WornNames$Folk", "add", "(I)Z"⟩, prog_3_method_4_code, 2, (some .boolean), 1, 0, 0),
  (⟨"WornNames$Folk", "is", "(II)Z"⟩, prog_3_method_5_code, 3, (some .boolean), 1, 0, 0),
  (⟨"WornNames$Folk", "lives", "(I)Z"⟩, prog_3_method_6_code, 2, (some .boolean), 1, 0, 0),
  (⟨"WornNames$Folk", "canCall", "(II)Z"⟩, prog_3_method_7_code, 3, (some .boolean), 1, 0, 0),
  (⟨"WornNames$Folk", "canGrow", "(II)Z"⟩, prog_3_method_8_code, 3, (some .boolean), 1, 0, 0),
  (⟨"WornNames$Folk", "comers", "(II)I"⟩, prog_3_method_9_code, 4, (some .int), 1, 0, 0),
  (⟨"WornNames$Folk", "named", "(I)I"⟩, prog_3_method_10_code, 4, (some .int), 1, 0, 0),
  (⟨"WornNames$Folk", "beginning", "(I)I"⟩, prog_3_method_11_code, 5, (some .int), 1, 0, 0),
  (⟨"WornNames$Folk", "wearBy", "(III)V"⟩, prog_3_method_12_code, 4, none, 1, 0, 0)]
def pv_t1 : List pv_I := [(⟨"WornNames$Folk", "wear", "(II)V"⟩, prog_3_method_13_code, 5, none, 1, 0, 0),
  (⟨"WornNames$Folk", "wearAll", "(II)V"⟩, prog_3_method_14_code, 5, none, 1, 0, 0),
  (⟨"WornNames$Folk", "timesTill", "(III)I"⟩, prog_3_method_15_code, 7, (some .int), 1, 0, 0),
  (⟨"WornNames$Folk", "callsTillTaken", "(III)I"⟩, prog_3_method_16_code, 6, (some .int), 1, 0, 0),
  (⟨"WornNames$Folk", "living", "()I"⟩, prog_3_method_17_code, 3, (some .int), 1, 0, 0),
  (⟨"WornNames$Folk", "nameless", "()I"⟩, prog_3_method_18_code, 1, (some .int), 1, 0, 0),
  (⟨"WornNames$Folk", "unlikeNames", "()I"⟩, prog_3_method_19_code, 4, (some .int), 1, 0, 0),
  (⟨"WornNames$Folk", "letters", "()I"⟩, prog_3_method_20_code, 3, (some .int), 1, 0, 0),
  (⟨"WornNames$Folk", "mothers", "()I"⟩, prog_3_method_21_code, 3, (some .int), 1, 0, 0),
  (⟨"WornNames$Row", "<init>", "(I)V"⟩, prog_5_method_1_code, 2, none, 2, 1, 80),
  (⟨"WornNames$Row", "renew", "(II)V"⟩, prog_5_method_2_code, 4, none, 2, 0, 0),
  (⟨"WornNames$Row", "has", "(I)Z"⟩, prog_5_method_3_code, 2, (some .boolean), 2, 0, 0),
  (⟨"WornNames$Row", "hasRun", "(II)Z"⟩, prog_5_method_4_code, 3, (some .boolean), 2, 0, 0),
  (⟨"WornNames$Row", "sum", "()J"⟩, prog_5_method_5_code, 4, (some .long), 2, 0, 0),
  (⟨"WornNames$Row", "spelling", "()I"⟩, prog_5_method_6_code, 3, (some .int), 2, 0, 0),
  (⟨"WornNames$Row", "mixedInto", "(J)J"⟩, prog_5_method_7_code, 6, (some .long), 2, 0, 0)]
def pv_t2 : List pv_I := [(⟨"WornNames$Search", "<init>", "()V"⟩, prog_6_method_1_code, 2, none, 3, 32, 200),
  (⟨"WornNames$Search", "from", "(LWornNames$Folk;I)LWornNames$Folk;"⟩, prog_6_method_2_code, 4, (some (.object "WornNames$Folk")), 3, 0, 0),
  (⟨"WornNames$Search", "judgeCalls", "(LWornNames$Row;)I"⟩, prog_6_method_3_code, 6, (some .int), 3, 0, 0),
  (⟨"WornNames$Search", "goOn", "(III)V"⟩, prog_6_method_4_code, 4, none, 3, 0, 0),
  (⟨"WornNames$Search", "takeTrial", "(II)V"⟩, prog_6_method_5_code, 3, none, 3, 0, 0),
  (⟨"WornNames$Search", "seekOrder", "(LWornNames$Row;III)V"⟩, prog_6_method_6_code, 10, none, 3, 0, 0),
  (⟨"WornNames$Search", "seekCallers", "(LWornNames$Row;II)V"⟩, prog_6_method_7_code, 7, none, 3, 0, 0),
  (⟨"WornNames$Search", "seekCalled", "(ILWornNames$Row;I)V"⟩, prog_6_method_8_code, 6, none, 3, 0, 0),
  (⟨"WornNames$Search", "holdTrial", "(I)V"⟩, prog_6_method_9_code, 4, none, 3, 0, 0),
  (⟨"WornNames$Town", "<init>", "()V"⟩, prog_7_method_1_code, 2, none, 4, 32, 1060),
  (⟨"WornNames$Town", "found", "(LWornNames$Folk;)V"⟩, prog_7_method_2_code, 3, none, 4, 0, 0),
  (⟨"WornNames$Town", "goBack", "(I)V"⟩, prog_7_method_3_code, 3, none, 4, 0, 0),
  (⟨"WornNames$Town", "callOut", "(III)I"⟩, prog_7_method_4_code, 4, (some .int), 4, 0, 0),
  (⟨"WornNames$Town", "mendName", "(IIII)V"⟩, prog_7_method_5_code, 5, none, 4, 0, 0),
  (⟨"WornNames$Town", "carryOutCall", "(III)I"⟩, prog_7_method_6_code, 7, (some .int), 4, 0, 0),
  (⟨"WornNames$Town", "carryOutMending", "(III)V"⟩, prog_7_method_7_code, 4, none, 4, 0, 0)]
def pv_t3 : List pv_I := [(⟨"WornNames$Town", "fact", "(II)I"⟩, prog_7_method_8_code, 3, (some .int), 4, 0, 0),
  (⟨"WornNames$Town", "sum", "([I)I"⟩, prog_7_method_9_code, 4, (some .int), 4, 0, 0),
  (⟨"WornNames$Town", "keptTowns", "()I"⟩, prog_7_method_10_code, 3, (some .int), 4, 0, 0),
  (⟨"WornNames$Town", "mixedInto", "(J)J"⟩, prog_7_method_11_code, 7, (some .long), 4, 0, 0),
  (⟨"WornNames", "<init>", "()V"⟩, prog_1_method_1_code, 2, none, 5, 93, 2200),
  (⟨"WornNames", "row", "(II)I"⟩, prog_1_method_2_code, 3, (some .int), 5, 0, 0),
  (⟨"WornNames", "lay", "(III)I"⟩, prog_1_method_3_code, 5, (some .int), 5, 0, 0),
  (⟨"WornNames", "at", "(II)I"⟩, prog_1_method_4_code, 4, (some .int), 5, 0, 0),
  (⟨"WornNames", "tear", "(I)I"⟩, prog_1_method_5_code, 2, (some .int), 5, 0, 0),
  (⟨"WornNames", "copy", "(IIIII)I"⟩, prog_1_method_6_code, 6, (some .int), 5, 0, 0),
  (⟨"WornNames", "mean", "(I)I"⟩, prog_1_method_7_code, 2, (some .int), 5, 0, 0),
  (⟨"WornNames", "text", "(II)I"⟩, prog_1_method_8_code, 3, (some .int), 5, 0, 0),
  (⟨"WornNames", "put", "(III)I"⟩, prog_1_method_9_code, 6, (some .int), 5, 0, 0),
  (⟨"WornNames", "fault", "(I)I"⟩, prog_1_method_10_code, 2, (some .int), 5, 0, 0),
  (⟨"WornNames", "town", "(I)I"⟩, prog_1_method_11_code, 2, (some .int), 5, 0, 0),
  (⟨"WornNames", "person", "(II)I"⟩, prog_1_method_12_code, 3, (some .int), 5, 0, 0)]
def pv_t4 : List pv_I := [(⟨"WornNames", "letter", "(II)I"⟩, prog_1_method_13_code, 4, (some .int), 5, 0, 0),
  (⟨"WornNames", "mark", "(II)I"⟩, prog_1_method_14_code, 3, (some .int), 5, 0, 0),
  (⟨"WornNames", "way", "(I)I"⟩, prog_1_method_15_code, 3, (some .int), 5, 0, 0),
  (⟨"WornNames", "price", "(I)I"⟩, prog_1_method_16_code, 3, (some .int), 5, 0, 0),
  (⟨"WornNames", "call", "(II)I"⟩, prog_1_method_17_code, 3, (some .int), 5, 0, 0),
  (⟨"WornNames", "mend", "(III)I"⟩, prog_1_method_18_code, 6, (some .int), 5, 0, 0),
  (⟨"WornNames", "undo", "(I)I"⟩, prog_1_method_19_code, 3, (some .int), 5, 0, 0),
  (⟨"WornNames", "comes", "(II)I"⟩, prog_1_method_20_code, 4, (some .int), 5, 0, 0),
  (⟨"WornNames", "alike", "(I)I"⟩, prog_1_method_21_code, 2, (some .int), 5, 0, 0),
  (⟨"WornNames", "keep", "(I)I"⟩, prog_1_method_22_code, 2, (some .int), 5, 0, 0),
  (⟨"WornNames", "on", "(I)I"⟩, prog_1_method_23_code, 2, (some .int), 5, 0, 0),
  (⟨"WornNames", "lasts", "(I)I"⟩, prog_1_method_24_code, 2, (some .int), 5, 0, 0),
  (⟨"WornNames", "becomes", "(II)I"⟩, prog_1_method_25_code, 3, (some .int), 5, 0, 0),
  (⟨"WornNames", "unlike", "(I)I"⟩, prog_1_method_26_code, 3, (some .int), 5, 0, 0),
  (⟨"WornNames", "first", "()I"⟩, prog_1_method_27_code, 3, (some .int), 5, 0, 0),
  (⟨"WornNames", "name", "(I)I"⟩, prog_1_method_28_code, 3, (some .int), 5, 0, 0)]
def pv_t5 : List pv_I := [(⟨"WornNames", "best", "(I)I"⟩, prog_1_method_29_code, 6, (some .int), 5, 0, 0),
  (⟨"WornNames", "judge", "(I)I"⟩, prog_1_method_30_code, 4, (some .int), 5, 0, 0),
  (⟨"WornNames", "order", "(II)I"⟩, prog_1_method_31_code, 4, (some .int), 5, 0, 0),
  (⟨"WornNames", "callers", "(II)I"⟩, prog_1_method_32_code, 4, (some .int), 5, 0, 0),
  (⟨"WornNames", "spare", "(I)I"⟩, prog_1_method_33_code, 5, (some .int), 5, 0, 0),
  (⟨"WornNames", "whose", "(I)I"⟩, prog_1_method_34_code, 7, (some .int), 5, 0, 0),
  (⟨"WornNames", "held", "(II)I"⟩, prog_1_method_35_code, 4, (some .int), 5, 0, 0),
  (⟨"WornNames", "could", "(III)I"⟩, prog_1_method_36_code, 5, (some .int), 5, 0, 0),
  (⟨"WornNames", "crowd", "(I)I"⟩, prog_1_method_37_code, 4, (some .int), 5, 0, 0),
  (⟨"WornNames", "shortest", "(I)I"⟩, prog_1_method_38_code, 4, (some .int), 5, 0, 0),
  (⟨"WornNames", "days", "(II)I"⟩, prog_1_method_39_code, 9, (some .int), 5, 0, 0),
  (⟨"WornNames", "asked", "()I"⟩, prog_1_method_40_code, 1, (some .int), 5, 0, 0),
  (⟨"WornNames", "upper", "()J"⟩, prog_1_method_41_code, 2, (some .long), 5, 0, 0),
  (⟨"WornNames", "lower", "()J"⟩, prog_1_method_42_code, 2, (some .long), 5, 0, 0),
  (⟨"WornNames", "count", "(I)I"⟩, prog_1_method_43_code, 2, (some .int), 5, 0, 0),
  (⟨"WornNames", "finding", "()I"⟩, prog_1_method_44_code, 1, (some .int), 5, 0, 0)]
def pv_t6 : List pv_I := [(⟨"WornNames", "findings", "(I)I"⟩, prog_1_method_45_code, 2, (some .int), 5, 0, 0),
  (⟨"WornNames", "digest", "()J"⟩, prog_1_method_46_code, 4, (some .long), 5, 0, 0),
  (⟨"WornNames", "isRow", "(I)Z"⟩, prog_1_method_47_code, 1, (some .boolean), 5, 0, 0),
  (⟨"WornNames", "isText", "(I)Z"⟩, prog_1_method_48_code, 1, (some .boolean), 5, 0, 0),
  (⟨"WornNames", "isKeepingPlace", "(I)Z"⟩, prog_1_method_49_code, 1, (some .boolean), 5, 0, 0),
  (⟨"WornNames", "isPerson", "(I)Z"⟩, prog_1_method_50_code, 2, (some .boolean), 5, 0, 0),
  (⟨"WornNames", "isPair", "(II)Z"⟩, prog_1_method_51_code, 3, (some .boolean), 5, 0, 0),
  (⟨"WornNames", "find", "(I)I"⟩, prog_1_method_52_code, 2, (some .int), 5, 0, 0),
  (⟨"WornNames", "placeFinding", "(LWornNames$Row;I)I"⟩, prog_1_method_53_code, 2, (some .int), 5, 0, 0),
  (⟨"WornNames", "nameFinding", "(LWornNames$Row;)I"⟩, prog_1_method_54_code, 2, (some .int), 5, 0, 0),
  (⟨"WornNames", "numbersFinding", "(LWornNames$Row;II)I"⟩, prog_1_method_55_code, 4, (some .int), 5, 0, 0),
  (⟨"WornNames", "callsFinding", "(LWornNames$Row;I)I"⟩, prog_1_method_56_code, 5, (some .int), 5, 0, 0),
  (⟨"WornNames", "fewestInto", "(II)I"⟩, prog_1_method_57_code, 3, (some .int), 5, 0, 0),
  (⟨"WornNames", "goesWell", "(LWornNames$Row;II)Z"⟩, prog_1_method_58_code, 6, (some .boolean), 5, 0, 0),
  (⟨"WornNames", "thereAmong", "([LWornNames$Row;)I"⟩, prog_1_method_59_code, 3, (some .int), 5, 0, 0),
  (⟨"WornNames", "commonPart", "(II)I"⟩, prog_1_method_60_code, 3, (some .int), 5, 0, 0)]
def pv_t7 : List pv_I := [(⟨"WornNamesModel", "<init>", "()V"⟩, prog_9_method_1_code, 2, none, 6, 21, 21000),
  (⟨"WornNamesModel", "in", "(III)Z"⟩, prog_9_method_3_code, 3, (some .boolean), 6, 0, 0),
  (⟨"WornNamesModel", "meet", "(I)I"⟩, prog_9_method_4_code, 2, (some .int), 6, 0, 0),
  (⟨"WornNamesModel", "ask", "(II)I"⟩, prog_9_method_5_code, 3, (some .int), 6, 0, 0),
  (⟨"WornNamesModel", "has", "(II)Z"⟩, prog_9_method_6_code, 2, (some .boolean), 6, 0, 0),
  (⟨"WornNamesModel", "sizeOf", "(I)I"⟩, prog_9_method_7_code, 3, (some .int), 6, 0, 0),
  (⟨"WornNamesModel", "isRow", "(I)Z"⟩, prog_9_method_8_code, 1, (some .boolean), 6, 0, 0),
  (⟨"WornNamesModel", "isText", "(I)Z"⟩, prog_9_method_9_code, 1, (some .boolean), 6, 0, 0),
  (⟨"WornNamesModel", "askedRow", "(I)I"⟩, prog_9_method_10_code, 2, (some .int), 6, 0, 0),
  (⟨"WornNamesModel", "askedText", "(I)I"⟩, prog_9_method_11_code, 2, (some .int), 6, 0, 0),
  (⟨"WornNamesModel", "rowAt", "(II)I"⟩, prog_9_method_12_code, 3, (some .int), 6, 0, 0),
  (⟨"WornNamesModel", "setRow", "(III)V"⟩, prog_9_method_13_code, 4, none, 6, 0, 0),
  (⟨"WornNamesModel", "row", "(II)I"⟩, prog_9_method_14_code, 4, (some .int), 6, 0, 0),
  (⟨"WornNamesModel", "at", "(II)I"⟩, prog_9_method_15_code, 4, (some .int), 6, 0, 0),
  (⟨"WornNamesModel", "lay", "(III)I"⟩, prog_9_method_16_code, 5, (some .int), 6, 0, 0),
  (⟨"WornNamesModel", "tear", "(I)I"⟩, prog_9_method_17_code, 3, (some .int), 6, 0, 0)]
def pv_t8 : List pv_I := [(⟨"WornNamesModel", "copy", "(IIIII)I"⟩, prog_9_method_18_code, 7, (some .int), 6, 0, 0),
  (⟨"WornNamesModel", "mean", "(I)I"⟩, prog_9_method_19_code, 6, (some .int), 6, 0, 0),
  (⟨"WornNamesModel", "text", "(II)I"⟩, prog_9_method_20_code, 4, (some .int), 6, 0, 0),
  (⟨"WornNamesModel", "put", "(III)I"⟩, prog_9_method_21_code, 6, (some .int), 6, 0, 0),
  (⟨"WornNamesModel", "here", "(I)I"⟩, prog_9_method_22_code, 2, (some .int), 6, 0, 0),
  (⟨"WornNamesModel", "isLetter", "(I)Z"⟩, prog_9_method_23_code, 1, (some .boolean), 6, 0, 0),
  (⟨"WornNamesModel", "isVowel", "(I)Z"⟩, prog_9_method_24_code, 1, (some .boolean), 6, 0, 0),
  (⟨"WornNamesModel", "readsPerson", "(I)Z"⟩, prog_9_method_25_code, 4, (some .boolean), 6, 0, 0),
  (⟨"WornNamesModel", "goesOn", "(I)I"⟩, prog_9_method_26_code, 2, (some .int), 6, 0, 0),
  (⟨"WornNamesModel", "fault", "(I)I"⟩, prog_9_method_27_code, 3, (some .int), 6, 0, 0),
  (⟨"WornNamesModel", "town", "(I)I"⟩, prog_9_method_28_code, 5, (some .int), 6, 0, 0),
  (⟨"WornNamesModel", "isOne", "(I)Z"⟩, prog_9_method_29_code, 2, (some .boolean), 6, 0, 0),
  (⟨"WornNamesModel", "isA", "(II)Z"⟩, prog_9_method_30_code, 3, (some .boolean), 6, 0, 0),
  (⟨"WornNamesModel", "lenOf", "(I)I"⟩, prog_9_method_31_code, 2, (some .int), 6, 0, 0),
  (⟨"WornNamesModel", "letterOf", "(II)I"⟩, prog_9_method_32_code, 3, (some .int), 6, 0, 0),
  (⟨"WornNamesModel", "isLike", "(II)Z"⟩, prog_9_method_33_code, 5, (some .boolean), 6, 0, 0)]
def pv_t9 : List pv_I := [(⟨"WornNamesModel", "likes", "(I)I"⟩, prog_9_method_34_code, 4, (some .int), 6, 0, 0),
  (⟨"WornNamesModel", "personOf", "(II)I"⟩, prog_9_method_35_code, 3, (some .int), 6, 0, 0),
  (⟨"WornNamesModel", "person", "(II)I"⟩, prog_9_method_36_code, 3, (some .int), 6, 0, 0),
  (⟨"WornNamesModel", "letter", "(II)I"⟩, prog_9_method_37_code, 3, (some .int), 6, 0, 0),
  (⟨"WornNamesModel", "mark", "(II)I"⟩, prog_9_method_38_code, 3, (some .int), 6, 0, 0),
  (⟨"WornNamesModel", "way", "(I)I"⟩, prog_9_method_39_code, 3, (some .int), 6, 0, 0),
  (⟨"WornNamesModel", "price", "(I)I"⟩, prog_9_method_40_code, 3, (some .int), 6, 0, 0),
  (⟨"WornNamesModel", "mayCall", "(II)Z"⟩, prog_9_method_41_code, 3, (some .boolean), 6, 0, 0),
  (⟨"WornNamesModel", "comers", "(II)I"⟩, prog_9_method_42_code, 6, (some .int), 6, 0, 0),
  (⟨"WornNamesModel", "wornAt", "([III)I"⟩, prog_9_method_43_code, 5, (some .int), 6, 0, 0),
  (⟨"WornNamesModel", "wear", "([III)I"⟩, prog_9_method_44_code, 6, (some .int), 6, 0, 0),
  (⟨"WornNamesModel", "comeOne", "(I)V"⟩, prog_9_method_45_code, 3, none, 6, 0, 0),
  (⟨"WornNamesModel", "doCall", "(II)I"⟩, prog_9_method_46_code, 5, (some .int), 6, 0, 0),
  (⟨"WornNamesModel", "note", "()V"⟩, prog_9_method_47_code, 2, none, 6, 0, 0),
  (⟨"WornNamesModel", "areTwo", "(II)Z"⟩, prog_9_method_48_code, 3, (some .boolean), 6, 0, 0),
  (⟨"WornNamesModel", "call", "(II)I"⟩, prog_9_method_49_code, 3, (some .int), 6, 0, 0)]
def pv_t10 : List pv_I := [(⟨"WornNamesModel", "mend", "(III)I"⟩, prog_9_method_50_code, 5, (some .int), 6, 0, 0),
  (⟨"WornNamesModel", "copies", "([II[II)V"⟩, prog_9_method_51_code, 5, none, 6, 0, 0),
  (⟨"WornNamesModel", "undo", "(I)I"⟩, prog_9_method_52_code, 3, (some .int), 6, 0, 0),
  (⟨"WornNamesModel", "comes", "(II)I"⟩, prog_9_method_53_code, 3, (some .int), 6, 0, 0),
  (⟨"WornNamesModel", "alike", "(I)I"⟩, prog_9_method_54_code, 2, (some .int), 6, 0, 0),
  (⟨"WornNamesModel", "keep", "(I)I"⟩, prog_9_method_55_code, 3, (some .int), 6, 0, 0),
  (⟨"WornNamesModel", "on", "(I)I"⟩, prog_9_method_56_code, 3, (some .int), 6, 0, 0),
  (⟨"WornNamesModel", "putAside", "()V"⟩, prog_9_method_57_code, 1, none, 6, 0, 0),
  (⟨"WornNamesModel", "comeBack", "()V"⟩, prog_9_method_58_code, 1, none, 6, 0, 0),
  (⟨"WornNamesModel", "lasts", "(I)I"⟩, prog_9_method_59_code, 3, (some .int), 6, 0, 0),
  (⟨"WornNamesModel", "becomes", "(II)I"⟩, prog_9_method_60_code, 5, (some .int), 6, 0, 0),
  (⟨"WornNamesModel", "comeAll", "()V"⟩, prog_9_method_61_code, 2, none, 6, 0, 0),
  (⟨"WornNamesModel", "unlikeNow", "()I"⟩, prog_9_method_62_code, 6, (some .int), 6, 0, 0),
  (⟨"WornNamesModel", "unlike", "(I)I"⟩, prog_9_method_63_code, 3, (some .int), 6, 0, 0),
  (⟨"WornNamesModel", "living", "()I"⟩, prog_9_method_64_code, 3, (some .int), 6, 0, 0),
  (⟨"WornNamesModel", "first", "()I"⟩, prog_9_method_65_code, 4, (some .int), 6, 0, 0)]
def pv_t11 : List pv_I := [(⟨"WornNamesModel", "haveOne", "(I)I"⟩, prog_9_method_66_code, 6, (some .int), 6, 0, 0),
  (⟨"WornNamesModel", "oneLasts", "(I)I"⟩, prog_9_method_67_code, 3, (some .int), 6, 0, 0),
  (⟨"WornNamesModel", "askedName", "(I)I"⟩, prog_9_method_68_code, 4, (some .int), 6, 0, 0),
  (⟨"WornNamesModel", "name", "(I)I"⟩, prog_9_method_69_code, 3, (some .int), 6, 0, 0),
  (⟨"WornNamesModel", "best", "(I)I"⟩, prog_9_method_70_code, 6, (some .int), 6, 0, 0),
  (⟨"WornNamesModel", "isCall", "(I)Z"⟩, prog_9_method_71_code, 2, (some .boolean), 6, 0, 0),
  (⟨"WornNamesModel", "askedCalls", "(II)I"⟩, prog_9_method_72_code, 5, (some .int), 6, 0, 0),
  (⟨"WornNamesModel", "missed", "()I"⟩, prog_9_method_73_code, 3, (some .int), 6, 0, 0),
  (⟨"WornNamesModel", "callOn", "(I)I"⟩, prog_9_method_74_code, 3, (some .int), 6, 0, 0),
  (⟨"WornNamesModel", "judge", "(I)I"⟩, prog_9_method_75_code, 6, (some .int), 6, 0, 0),
  (⟨"WornNamesModel", "meetLaid", "(I)V"⟩, prog_9_method_76_code, 4, none, 6, 0, 0),
  (⟨"WornNamesModel", "orderOn", "(III)V"⟩, prog_9_method_77_code, 6, none, 6, 0, 0),
  (⟨"WornNamesModel", "layBest", "(II)I"⟩, prog_9_method_78_code, 4, (some .int), 6, 0, 0),
  (⟨"WornNamesModel", "order", "(II)I"⟩, prog_9_method_79_code, 4, (some .int), 6, 0, 0),
  (⟨"WornNamesModel", "callersOn", "(II)V"⟩, prog_9_method_80_code, 4, none, 6, 0, 0),
  (⟨"WornNamesModel", "callers", "(II)I"⟩, prog_9_method_81_code, 5, (some .int), 6, 0, 0)]
def pv_t12 : List pv_I := [(⟨"WornNamesModel", "isSpared", "(III)Z"⟩, prog_9_method_82_code, 6, (some .boolean), 6, 0, 0),
  (⟨"WornNamesModel", "spare", "(I)I"⟩, prog_9_method_83_code, 5, (some .int), 6, 0, 0),
  (⟨"WornNamesModel", "whose", "(I)I"⟩, prog_9_method_84_code, 7, (some .int), 6, 0, 0),
  (⟨"WornNamesModel", "heldOn", "(IIII)V"⟩, prog_9_method_85_code, 6, none, 6, 0, 0),
  (⟨"WornNamesModel", "askedHeld", "(II)I"⟩, prog_9_method_86_code, 5, (some .int), 6, 0, 0),
  (⟨"WornNamesModel", "held", "(II)I"⟩, prog_9_method_87_code, 4, (some .int), 6, 0, 0),
  (⟨"WornNamesModel", "could", "(III)I"⟩, prog_9_method_88_code, 5, (some .int), 6, 0, 0),
  (⟨"WornNamesModel", "beginSo", "(II)I"⟩, prog_9_method_89_code, 7, (some .int), 6, 0, 0),
  (⟨"WornNamesModel", "crowd", "(I)I"⟩, prog_9_method_90_code, 3, (some .int), 6, 0, 0),
  (⟨"WornNamesModel", "shortest", "(I)I"⟩, prog_9_method_91_code, 3, (some .int), 6, 0, 0),
  (⟨"WornNamesModel", "days", "(II)I"⟩, prog_9_method_92_code, 9, (some .int), 6, 0, 0),
  (⟨"WornNamesModel", "asked", "()I"⟩, prog_9_method_93_code, 1, (some .int), 6, 0, 0),
  (⟨"WornNamesModel", "sumOf", "(I)I"⟩, prog_9_method_94_code, 4, (some .int), 6, 0, 0),
  (⟨"WornNamesModel", "divisor", "(II)I"⟩, prog_9_method_95_code, 5, (some .int), 6, 0, 0),
  (⟨"WornNamesModel", "upper", "()J"⟩, prog_9_method_96_code, 2, (some .long), 6, 0, 0),
  (⟨"WornNamesModel", "lower", "()J"⟩, prog_9_method_97_code, 2, (some .long), 6, 0, 0)]
def pv_t13 : List pv_I := [(⟨"WornNamesModel", "tells", "(I)I"⟩, prog_9_method_98_code, 4, (some .int), 6, 0, 0),
  (⟨"WornNamesModel", "count", "(I)I"⟩, prog_9_method_99_code, 2, (some .int), 6, 0, 0),
  (⟨"WornNamesModel", "finding", "()I"⟩, prog_9_method_100_code, 1, (some .int), 6, 0, 0),
  (⟨"WornNamesModel", "findings", "(I)I"⟩, prog_9_method_101_code, 2, (some .int), 6, 0, 0),
  (⟨"WornNamesModel", "mix", "(I)V"⟩, prog_9_method_102_code, 2, none, 6, 0, 0),
  (⟨"WornNamesModel", "mixTown", "()V"⟩, prog_9_method_103_code, 3, none, 6, 0, 0),
  (⟨"WornNamesModel", "digest", "()J"⟩, prog_9_method_104_code, 3, (some .long), 6, 0, 0),
  (⟨"WornNames$Name", "isLetter", "(I)Z"⟩, prog_4_method_2_code, 1, (some .boolean), 7, 0, 0),
  (⟨"WornNames$Name", "isVowel", "(I)Z"⟩, prog_4_method_3_code, 1, (some .boolean), 7, 0, 0),
  (⟨"WornNames$Name", "size", "(I)I"⟩, prog_4_method_4_code, 2, (some .int), 7, 0, 0),
  (⟨"WornNames$Name", "letterAt", "(II)I"⟩, prog_4_method_5_code, 2, (some .int), 7, 0, 0),
  (⟨"WornNames$Name", "start", "(II)I"⟩, prog_4_method_6_code, 3, (some .int), 7, 0, 0),
  (⟨"WornNames$Name", "with", "(II)I"⟩, prog_4_method_7_code, 2, (some .int), 7, 0, 0),
  (⟨"WornNames$Name", "without", "(II)I"⟩, prog_4_method_8_code, 4, (some .int), 7, 0, 0),
  (⟨"WornNames$Name", "worn", "(II)I"⟩, prog_4_method_9_code, 4, (some .int), 7, 0, 0),
  (⟨"java/lang/Integer", "bitCount", "(I)I"⟩, prog_10_method_49_code, 1, (some .int), 8, 0, 0)]
def pv_t14 : List pv_I := [(⟨"WornNamesLaw", "law", "([I)Z"⟩, code, 4, (some .boolean), 9, 600000, 7302250)]
def pv_tab : List pv_I := pv_t0 ++ (pv_t1 ++ (pv_t2 ++ (pv_t3 ++ (pv_t4 ++ (pv_t5 ++ (pv_t6 ++ (pv_t7 ++ (pv_t8 ++ (pv_t9 ++ (pv_t10 ++ (pv_t11 ++ (pv_t12 ++ (pv_t13 ++ (pv_t14))))))))))))))
def pv_law : Nat := 224
def pv_inf (y : Nat) : pv_I := pv_tab.getD y (⟨"", "", ""⟩, ⟨#[]⟩, 0, none, 0, 0, 0)
abbrev pv_nm (y : Nat) : MethodName := (pv_inf y).1
abbrev pv_by (y : Nat) : ByteArray := (pv_inf y).2.1
abbrev pv_ml (y : Nat) : Nat := (pv_inf y).2.2.1
abbrev pv_rt (y : Nat) : Option FieldType := (pv_inf y).2.2.2.1
abbrev pv_oc (y : Nat) : Nat := (pv_inf y).2.2.2.2.1
abbrev pv_mc (y : Nat) : Nat := (pv_inf y).2.2.2.2.2.1
abbrev pv_ms (y : Nat) : Nat := (pv_inf y).2.2.2.2.2.2
abbrev pv_on (y : Nat) : String := pv_cn.getD (pv_oc y) ""
/-- constant pools: by class and index: (0, class, field), (1, method, parameters) virtual, 2 static, 3 <init>, 4 Object.<init>, 5 arraycopy, (6, class, 0), 7 virtual of a nest mate, 8 <init> of a nest mate, 9 Math.min -/
def pv_p0 : List (Nat × Nat × Nat × Nat) := [(3, 4, 0, 0), (9, 0, 0, 0), (15, 0, 0, 1), (18, 0, 0, 2), (21, 0, 0, 3), (24, 0, 0, 4), (28, 0, 0, 5), (32, 1, 1, 1), (36, 5, 0, 0)]
def pv_p1 : List (Nat × Nat × Nat × Nat) := [(3, 4, 0, 0), (9, 0, 1, 0), (15, 0, 1, 1), (18, 0, 1, 2), (21, 0, 1, 3), (25, 5, 0, 0), (31, 0, 2, 2), (34, 0, 2, 0), (37, 2, 215, 1), (43, 2, 217, 1), (46, 2, 220, 2), (50, 1, 7, 1), (53, 1, 9, 1), (56, 1, 10, 2), (60, 2, 219, 2), (63, 1, 14, 1), (66, 1, 13, 1), (69, 1, 8, 2), (72, 1, 16, 2), (76, 2, 222, 2), (79, 2, 223, 1)]
def pv_p2 : List (Nat × Nat × Nat × Nat) := [(3, 4, 0, 0), (9, 0, 2, 1), (15, 0, 2, 2), (19, 0, 2, 0), (23, 2, 220, 2)]
def pv_p3 : List (Nat × Nat × Nat × Nat) := [(5, 4, 0, 0), (11, 6, 1, 0), (13, 0, 3, 0), (19, 0, 3, 1), (23, 0, 3, 2), (26, 0, 3, 3), (29, 0, 3, 4), (33, 0, 3, 5), (37, 0, 3, 6), (40, 0, 3, 7), (43, 0, 3, 8), (46, 8, 4, 0), (47, 1, 5, 1), (51, 0, 2, 2), (56, 0, 2, 0), (59, 1, 12, 2), (63, 2, 223, 1), (67, 1, 15, 3), (71, 5, 0, 0), (77, 1, 36, 2), (81, 1, 35, 3), (84, 1, 37, 4), (88, 0, 1, 3), (89, 1, 38, 3), (93, 1, 40, 1), (97, 1, 39, 3)]
def pv_p4 : List (Nat × Nat × Nat × Nat) := [(3, 4, 0, 0), (9, 6, 1, 0), (11, 8, 4, 0), (12, 0, 4, 0), (18, 0, 4, 1), (21, 0, 4, 2), (25, 0, 4, 3), (28, 0, 4, 4), (31, 6, 0, 0), (33, 8, 0, 0), (34, 0, 4, 5), (38, 0, 4, 6), (42, 0, 4, 7), (46, 1, 5, 1), (50, 0, 0, 5), (54, 1, 43, 1), (58, 0, 0, 4), (61, 0, 0, 2), (64, 0, 0, 0), (67, 0, 0, 1), (70, 0, 0, 3), (73, 1, 46, 3), (77, 1, 47, 3), (81, 1, 2, 4), (85, 1, 12, 2), (89, 1, 15, 3), (92, 0, 1, 3), (93, 0, 1, 1), (96, 2, 220, 2), (101, 0, 1, 0), (104, 2, 217, 1), (109, 1, 48, 2), (114, 2, 218, 2), (117, 0, 1, 2)]
def pv_p5 : List (Nat × Nat × Nat × Nat) := [(1, 4, 0, 0), (9, 6, 2, 0), (11, 0, 5, 0), (15, 0, 5, 1), (18, 6, 4, 0), (20, 3, 41, 0), (21, 0, 5, 2), (25, 6, 1, 0), (27, 8, 4, 0), (28, 0, 5, 3), (32, 6, 3, 0), (34, 3, 32, 0), (35, 0, 5, 4), (39, 0, 5, 5), (43, 0, 5, 6), (47, 0, 5, 7), (50, 0, 5, 8), (53, 0, 5, 9), (56, 3, 25, 1), (59, 2, 98, 1), (63, 1, 103, 1), (67, 1, 26, 2), (71, 2, 104, 2), (75, 0, 2, 0), (78, 0, 2, 1), (82, 1, 28, 2), (86, 5, 0, 0), (92, 0, 2, 2), (95, 1, 29, 0), (99, 2, 99, 1), (102, 1, 6, 1), (106, 1, 42, 1), (109, 0, 4, 1), (112, 0, 1, 3), (113, 1, 101, 1), (116, 1, 48, 2), (120, 0, 1, 1), (123, 2, 217, 1), (127, 2, 218, 2), (130, 1, 8, 2), (133, 0, 4, 7), (136, 0, 1, 2), (139, 1, 12, 2), (142, 2, 223, 1), (147, 1, 13, 1), (150, 1, 102, 2), (153, 1, 10, 2), (156, 0, 4, 5), (160, 1, 1, 1), (165, 1, 44, 3), (169, 2, 215, 1), (172, 1, 11, 2), (175, 2, 216, 1), (178, 1, 45, 4), (182, 0, 0, 4), (183, 1, 43, 1), (186, 2, 100, 1), (189, 0, 4, 6), (193, 1, 3, 1), (197, 0, 0, 5), (198, 1, 9, 1), (201, 1, 18, 3), (204, 1, 33, 2), (208, 1, 17, 2), (211, 1, 21, 0), (215, 1, 22, 0), (218, 1, 20, 0), (221, 2, 105, 1), (224, 1, 30, 0), (227, 1, 19, 3), (230, 2, 220, 2), (233, 1, 107, 2), (236, 1, 34, 1), (239, 0, 3, 5), (242, 7, 37, 4), (246, 1, 108, 2), (249, 2, 106, 3), (253, 7, 38, 3), (257, 1, 109, 3), (261, 9, 0, 0), (266, 7, 39, 3), (270, 0, 3, 8), (273, 0, 3, 7), (276, 1, 27, 1), (279, 0, 3, 3), (282, 1, 14, 1), (285, 2, 219, 2), (294, 0, 4, 2), (297, 1, 49, 1), (300, 0, 4, 3), (303, 2, 111, 2), (306, 1, 23, 0), (309, 1, 24, 0), (312, 1, 50, 0), (315, 2, 110, 1), (323, 1, 94, 1), (326, 1, 51, 1), (330, 1, 31, 1), (331, 0, 3, 6), (335, 0, 3, 2)]
def pv_p6 : List (Nat × Nat × Nat × Nat) := [(1, 4, 0, 0), (7, 0, 6, 1), (13, 0, 6, 3), (16, 0, 6, 4), (19, 0, 6, 5), (22, 0, 6, 6), (25, 0, 6, 7), (28, 0, 6, 10), (32, 0, 6, 11), (35, 0, 6, 14), (38, 0, 6, 15), (41, 0, 6, 16), (44, 0, 6, 17), (47, 0, 6, 19), (50, 0, 6, 20), (53, 0, 6, 21), (56, 0, 6, 22), (59, 0, 6, 23), (62, 0, 6, 25), (65, 0, 6, 27), (68, 0, 6, 28), (71, 0, 6, 29), (74, 0, 6, 34), (77, 0, 6, 0), (80, 0, 6, 2), (83, 2, 113, 3), (87, 2, 118, 1), (91, 1, 114, 1), (95, 2, 119, 1), (98, 1, 123, 3), (102, 1, 120, 1), (105, 1, 122, 2), (109, 1, 115, 2), (112, 1, 125, 2), (115, 1, 121, 1), (118, 0, 6, 12), (121, 1, 132, 1), (124, 0, 6, 13), (127, 2, 133, 1), (130, 1, 135, 1), (133, 1, 136, 1), (136, 0, 6, 8), (139, 0, 6, 18), (142, 1, 141, 1), (145, 1, 142, 2), (148, 1, 143, 2), (152, 1, 139, 1), (155, 1, 145, 2), (158, 1, 140, 2), (161, 1, 151, 2), (164, 1, 152, 2), (167, 2, 117, 1), (170, 1, 144, 1), (173, 0, 6, 9), (176, 2, 134, 1), (179, 1, 153, 3), (183, 1, 154, 3), (186, 2, 116, 2), (189, 1, 155, 1), (193, 1, 158, 2), (196, 1, 157, 0), (199, 1, 156, 2), (202, 2, 161, 4), (206, 1, 167, 0), (209, 1, 168, 0), (212, 0, 6, 24), (215, 1, 171, 0), (218, 1, 172, 0), (222, 1, 174, 0), (225, 0, 6, 26), (228, 1, 176, 1), (231, 1, 178, 1), (234, 1, 177, 1), (237, 1, 181, 1), (240, 1, 182, 2), (243, 1, 183, 0), (246, 1, 184, 1), (249, 0, 6, 31), (252, 0, 6, 30), (255, 1, 186, 1), (258, 1, 187, 3), (262, 1, 124, 2), (265, 1, 188, 2), (268, 1, 190, 2), (272, 1, 192, 3), (275, 0, 6, 32), (278, 0, 6, 33), (281, 1, 195, 4), (285, 1, 196, 2), (288, 1, 199, 2), (298, 1, 204, 1), (301, 2, 205, 2), (304, 1, 208, 1), (309, 0, 6, 35), (313, 1, 212, 1), (318, 1, 213, 0)]
def pv_p7 : List (Nat × Nat × Nat × Nat) := [(12, 2, 217, 1), (16, 2, 221, 2), (20, 2, 218, 2), (23, 2, 216, 1)]
def pv_p8 : List (Nat × Nat × Nat × Nat) := []
def pv_p9 : List (Nat × Nat × Nat × Nat) := [(7, 6, 5, 0), (9, 3, 52, 0), (10, 6, 6, 0), (12, 3, 112, 0), (13, 1, 53, 2), (17, 1, 124, 2), (18, 1, 54, 3), (22, 1, 126, 3), (23, 1, 55, 2), (26, 1, 125, 2), (27, 1, 56, 1), (31, 1, 127, 1), (32, 1, 57, 5), (36, 1, 128, 5), (37, 1, 58, 1), (40, 1, 129, 1), (41, 1, 59, 2), (44, 1, 130, 2), (45, 1, 60, 3), (48, 1, 131, 3), (49, 1, 61, 1), (52, 1, 137, 1), (53, 1, 62, 1), (56, 1, 138, 1), (57, 1, 63, 2), (60, 1, 146, 2), (61, 1, 64, 2), (64, 1, 147, 2), (65, 1, 65, 2), (68, 1, 148, 2), (69, 1, 66, 1), (72, 1, 149, 1), (73, 1, 67, 1), (76, 1, 150, 1), (77, 1, 68, 2), (80, 1, 159, 2), (81, 1, 69, 3), (84, 1, 160, 3), (85, 1, 70, 1), (88, 1, 162, 1), (89, 1, 71, 2), (92, 1, 163, 2), (93, 1, 72, 1), (96, 1, 164, 1), (97, 1, 73, 1), (100, 1, 165, 1), (101, 1, 74, 1), (104, 1, 166, 1), (105, 1, 75, 1), (108, 1, 169, 1), (109, 1, 76, 2), (112, 1, 170, 2), (113, 1, 77, 1), (116, 1, 173, 1), (117, 1, 78, 0), (121, 1, 175, 0), (122, 1, 79, 1), (125, 1, 179, 1), (126, 1, 80, 1), (129, 1, 180, 1), (130, 1, 81, 1), (133, 1, 185, 1), (134, 1, 82, 2), (137, 1, 189, 2), (138, 1, 83, 2), (141, 1, 191, 2), (142, 1, 84, 1), (145, 1, 193, 1), (146, 1, 85, 1), (149, 1, 194, 1), (150, 1, 86, 2), (153, 1, 197, 2), (154, 1, 87, 3), (157, 1, 198, 3), (158, 1, 88, 1), (161, 1, 200, 1), (162, 1, 89, 1), (165, 1, 201, 1), (166, 1, 90, 2), (169, 1, 202, 2), (170, 1, 91, 0), (173, 1, 203, 0), (174, 1, 92, 0), (178, 1, 206, 0), (179, 1, 93, 0), (182, 1, 207, 0), (183, 1, 94, 1), (186, 1, 209, 1), (187, 1, 95, 0), (190, 1, 210, 0), (191, 1, 96, 1), (194, 1, 211, 1), (195, 1, 97, 0), (198, 1, 214, 0)]
def pv_cp : List (List (Nat × Nat × Nat × Nat)) := [pv_p0, pv_p1, pv_p2, pv_p3, pv_p4, pv_p5, pv_p6, pv_p7, pv_p8, pv_p9]
def pv_look (o i : Nat) : Option (Nat × Nat × Nat) := ((pv_cp.getD o []).find? (fun q => q.1 == i)).map (fun q => q.2)
def pv_kit : List (Nat × Nat × Int32) := [(3, 36, 2147483647), (7, 11, 2130466), (8, 265, 1431655765), (8, 266, 858993459), (8, 267, 252645135), (5, 334, 2147483647), (6, 261, 1048576), (6, 291, 2147483646)]
def pv_ki (o i : Nat) : Option Int32 := (pv_kit.find? (fun q => q.1 == o && q.2.1 == i)).map (fun q => q.2.2)
def pv_klt : List (Nat × Nat × Int64) := [(5, 288, 2147483647), (5, 290, 48271), (5, 292, 64), (5, 319, 17), (5, 321, 31), (4, 107, 31), (4, 112, 96), (2, 29, 31), (6, 292, 48271), (6, 294, 2147483647), (6, 296, 64), (6, 316, 17), (6, 307, 31)]
def pv_kl (o i : Nat) : Option Int64 := (pv_klt.find? (fun q => q.1 == o && q.2.1 == i)).map (fun q => q.2.2)
end
section
/-! THE PURE MACHINE: a memory of cells by number (a row of ints, a row of references, an object), locals, an operand stack; one instruction a step; a call runs the callee to its end. -/
abbrev pv_C : Type := (Nat × (Nat → Int32)) ⊕ ((Nat × Nat × (Nat → Option Nat)) ⊕ (Nat × List Value))
abbrev pv_M : Type := List pv_C
abbrev pv_Lv : Type := List (Option Value)
/-- cells and slots made, place, locals, stack, memory -/
abbrev pv_St : Type := Nat × Nat × Nat × pv_Lv × List Value × pv_M
/-- goes on; or calls (method, arguments, what stays on the stack); or returns -/
abbrev pv_Out : Type := pv_St ⊕ ((Nat × List Value × List Value) ⊕ Option Value)
def pv_ln (ins : Instr) (len : Nat) : Nat := match ins with
  | .tableswitch _ _ _ _ => len
  | .aload _ => 2
  | .iload _ => 2
  | .lload _ => 2
  | .istore _ => 2
  | .lstore _ => 2
  | .astore _ => 2
  | .bipush _ => 2
  | .ldc _ => 2
  | .newarray _ => 2
  | .sipush _ => 3
  | .ldc_w _ => 3
  | .ldc2_w _ => 3
  | .getfield _ => 3
  | .putfield _ => 3
  | .goto _ => 3
  | .if_icmp _ _ => 3
  | .ifCond _ _ => 3
  | .iinc _ _ => 3
  | .invokevirtual _ => 3
  | .invokestatic _ => 3
  | .invokespecial _ => 3
  | .new _ => 3
  | .anewarray _ => 3
  | _ => 1
def pv_gr (lv : pv_Lv) (i : Nat) : Option Value := match lv[i]? with
  | some (some (.ref a)) => some (.ref a)
  | some (some (.retAddr a)) => some (.retAddr a)
  | _ => none
def pv_gi (lv : pv_Lv) (i : Nat) : Option Int32 := match lv[i]? with
  | some (some (.int x)) => some x
  | _ => none
def pv_gl (lv : pv_Lv) (i : Nat) : Option Int64 := match lv[i]? with
  | some (some (.long x)) => some x
  | _ => none
/-- what loads and pushes -/
def pv_ld (ins : Instr) (o : Nat) (k n pc : Nat) (lv : pv_Lv) (st : List Value) (M : pv_M) : Option pv_St := match ins with
  | .aload_n i => (pv_gr lv i.val).map fun v => (k, n, pc + 1, lv, v :: st, M)
  | .aload i => (pv_gr lv i).map fun v => (k, n, pc + 2, lv, v :: st, M)
  | .iload_n i => (pv_gi lv i.val).map fun x => (k, n, pc + 1, lv, .int x :: st, M)
  | .iload i => (pv_gi lv i).map fun x => (k, n, pc + 2, lv, .int x :: st, M)
  | .lload_n i => (pv_gl lv i.val).map fun x => (k, n, pc + 1, lv, .long x :: st, M)
  | .lload i => (pv_gl lv i).map fun x => (k, n, pc + 2, lv, .long x :: st, M)
  | .iconst i => some (k, n, pc + 1, lv, .int (Int32.ofInt i) :: st, M)
  | .bipush i => some (k, n, pc + 2, lv, .int (Int8.ofInt i).toInt32 :: st, M)
  | .sipush i => some (k, n, pc + 3, lv, .int (Int16.ofInt i).toInt32 :: st, M)
  | .lconst i => some (k, n, pc + 1, lv, .long (Int64.ofNat i.val) :: st, M)
  | .ldc i => (pv_ki o i).map fun x => (k, n, pc + 2, lv, .int x :: st, M)
  | .ldc_w i => (pv_ki o i).map fun x => (k, n, pc + 3, lv, .int x :: st, M)
  | .ldc2_w i => (pv_kl o i).map fun x => (k, n, pc + 3, lv, .long x :: st, M)
  | _ => none
def pv_ok (lv : pv_Lv) (i : Nat) : Bool := decide (i < lv.length) && (match i with
  | 0 => true
  | j + 1 => match lv[j]? with
    | some (some w) => w.category == 1
    | _ => true)
def pv_s1 (lv : pv_Lv) (i : Nat) (v : Value) : Option pv_Lv := if pv_ok lv i = true then some (lv.set i (some v)) else none
def pv_s2 (lv : pv_Lv) (i : Nat) (v : Value) : Option pv_Lv := if pv_ok lv i = true ∧ i + 1 < lv.length then some ((lv.set i (some v)).set (i + 1) none) else none
/-- what stores to locals -/
def pv_so (ins : Instr) (k n pc : Nat) (lv : pv_Lv) (st : List Value) (M : pv_M) : Option pv_St := match ins, st with
  | .istore_n i, .int x :: r => (pv_s1 lv i.val (.int x)).map fun l => (k, n, pc + 1, l, r, M)
  | .istore i, .int x :: r => (pv_s1 lv i (.int x)).map fun l => (k, n, pc + 2, l, r, M)
  | .astore_n i, .ref x :: r => (pv_s1 lv i.val (.ref x)).map fun l => (k, n, pc + 1, l, r, M)
  | .astore i, .ref x :: r => (pv_s1 lv i (.ref x)).map fun l => (k, n, pc + 2, l, r, M)
  | .lstore_n i, .long x :: r => (pv_s2 lv i.val (.long x)).map fun l => (k, n, pc + 1, l, r, M)
  | .lstore i, .long x :: r => (pv_s2 lv i (.long x)).map fun l => (k, n, pc + 2, l, r, M)
  | .iinc i c, st => (pv_gi lv i).bind fun x => (pv_s1 lv i (.int (x + Int32.ofInt c))).map fun l => (k, n, pc + 3, l, st, M)
  | _, _ => none
/-- the stack: what comes of it -/
def pv_ax (ins : Instr) (st : List Value) : Option (List Value) := match ins, st with
  | .iadd, .int y :: .int x :: r => some (.int (x + y) :: r)
  | .isub, .int y :: .int x :: r => some (.int (x - y) :: r)
  | .imul, .int y :: .int x :: r => some (.int (x * y) :: r)
  | .iand, .int y :: .int x :: r => some (.int (x &&& y) :: r)
  | .ior, .int y :: .int x :: r => some (.int (x ||| y) :: r)
  | .ixor, .int y :: .int x :: r => some (.int (x ^^^ y) :: r)
  | .idiv, .int y :: .int x :: r => if y = 0 then none else some (.int (x / y) :: r)
  | .irem, .int y :: .int x :: r => if y = 0 then none else some (.int (x - x / y * y) :: r)
  | .ishl, .int y :: .int x :: r => some (.int (x <<< (y &&& 31)) :: r)
  | .ishr, .int y :: .int x :: r => some (.int (x >>> (y &&& 31)) :: r)
  | .iushr, .int y :: .int x :: r => some (.int (x.toUInt32 >>> (y.toUInt32 &&& Int32.toUInt32 31)).toInt32 :: r)
  | .ladd, .long y :: .long x :: r => some (.long (x + y) :: r)
  | .lsub, .long y :: .long x :: r => some (.long (x - y) :: r)
  | .lmul, .long y :: .long x :: r => some (.long (x * y) :: r)
  | .ldiv, .long y :: .long x :: r => if y = 0 then none else some (.long (x / y) :: r)
  | .lrem, .long y :: .long x :: r => if y = 0 then none else some (.long (x - x / y * y) :: r)
  | .lcmp, .long y :: .long x :: r => some (.int (lg_cmp x y) :: r)
  | .i2l, .int x :: r => some (.long x.toInt64 :: r)
  | .l2i, .long x :: r => some (.int x.toInt32 :: r)
  | .i2b, .int x :: r => some (.int x.toInt8.toInt32 :: r)
  | .dup, v :: r => if v.category = 1 then some (v :: v :: r) else none
  | .pop, v :: r => if v.category = 1 then some r else none
  | .dup2, v :: w :: r => if v.category = 1 ∧ w.category = 1 then some (v :: w :: v :: w :: r) else none
  | _, _ => none
def pv_al (ins : Instr) (k n pc : Nat) (lv : pv_Lv) (st : List Value) (M : pv_M) : Option pv_St := (pv_ax ins st).map fun r => (k, n, pc + 1, lv, r, M)
def pv_tg (pc : Nat) (off : Int) : Option Nat := if 0 ≤ (pc : Int) + off then some ((pc : Int) + off).toNat else none
/-- where a branch goes, and the stack then -/
def pv_bx (ins : Instr) (pc : Nat) (st : List Value) : Option (Nat × List Value) := match ins, st with
  | .goto off, r => (pv_tg pc off).map fun t => (t, r)
  | .ifCond .eq off, .int x :: r => (pv_tg pc off).map fun t => if x = 0 then (t, r) else (pc + 3, r)
  | .ifCond .ne off, .int x :: r => (pv_tg pc off).map fun t => if x = 0 then (pc + 3, r) else (t, r)
  | .ifCond .lt off, .int x :: r => (pv_tg pc off).map fun t => if x < 0 then (t, r) else (pc + 3, r)
  | .ifCond .ge off, .int x :: r => (pv_tg pc off).map fun t => if 0 ≤ x then (t, r) else (pc + 3, r)
  | .ifCond .gt off, .int x :: r => (pv_tg pc off).map fun t => if 0 < x then (t, r) else (pc + 3, r)
  | .ifCond .le off, .int x :: r => (pv_tg pc off).map fun t => if x ≤ 0 then (t, r) else (pc + 3, r)
  | .if_icmp .eq off, .int y :: .int x :: r => (pv_tg pc off).map fun t => if x = y then (t, r) else (pc + 3, r)
  | .if_icmp .ne off, .int y :: .int x :: r => (pv_tg pc off).map fun t => if x = y then (pc + 3, r) else (t, r)
  | .if_icmp .lt off, .int y :: .int x :: r => (pv_tg pc off).map fun t => if x < y then (t, r) else (pc + 3, r)
  | .if_icmp .ge off, .int y :: .int x :: r => (pv_tg pc off).map fun t => if y ≤ x then (t, r) else (pc + 3, r)
  | .if_icmp .gt off, .int y :: .int x :: r => (pv_tg pc off).map fun t => if y < x then (t, r) else (pc + 3, r)
  | .if_icmp .le off, .int y :: .int x :: r => (pv_tg pc off).map fun t => if x ≤ y then (t, r) else (pc + 3, r)
  | .tableswitch d lo hi offs, .int x :: r => if x.toInt < lo ∨ hi < x.toInt then (pv_tg pc d).map fun t => (t, r) else (offs[(x.toInt - lo).toNat]?).bind fun off => (pv_tg pc off).map fun t => (t, r)
  | _, _ => none
def pv_br (ins : Instr) (k n pc : Nat) (lv : pv_Lv) (st : List Value) (M : pv_M) : Option pv_St := (pv_bx ins pc st).map fun q => (k, n, q.1, lv, q.2, M)
def pv_in (i : Int32) (n : Nat) : Bool := !(decide (i < 0)) && decide (i.toNatClampNeg < n)
/-- may this value be put into that field by that method? -/
def pv_pt (y ci f : Nat) (v : Value) : Bool := decide (narrow (pv_ft ci f) v = v) && fits (pv_ft ci f) v && (match pv_cl[ci]? with
  | some r => decide (f < r.2.2) && (!(r.2.1 f).2.2.2 || ((r.2.1 f).2.2.2 && (decide ((pv_nm y).name = "<init>") && decide ((r.2.1 f).1 = pv_on y))))
  | none => false)
/-- fields and rows -/
def pv_me (xs : Nat → Int32) (L : Nat) (ins : Instr) (y k n pc : Nat) (lv : pv_Lv) (st : List Value) (M : pv_M) : Option pv_St := match ins, st with
  | .getfield i, .ref a :: r => match M[a]?, pv_look (pv_oc y) i with
    | some (.inr (.inr (ci, fs))), some (0, cj, f) => if ci = cj then (fs[f]?).map fun v => (k, n, pc + 3, lv, v :: r, M) else none
    | _, _ => none
  | .putfield i, v :: .ref a :: r => match M[a]?, pv_look (pv_oc y) i with
    | some (.inr (.inr (ci, fs))), some (0, cj, f) => if ci = cj ∧ pv_pt y ci f v = true ∧ f < fs.length then some (k, n, pc + 3, lv, r, M.set a (.inr (.inr (ci, fs.set f v)))) else none
    | _, _ => none
  | .iaload, .int i :: .ref a :: r => match M[a]? with
    | some (.inl (z, f)) => if pv_in i z = true then some (k, n, pc + 1, lv, .int (f i.toNatClampNeg) :: r, M) else none
    | _ => none
  | .iaload, .int i :: .retAddr _ :: r => if y = pv_law ∧ pv_in i L = true then some (k, n, pc + 1, lv, .int (xs i.toNatClampNeg) :: r, M) else none
  | .iastore, .int x :: .int i :: .ref a :: r => match M[a]? with
    | some (.inl (z, f)) => if pv_in i z = true then some (k, n, pc + 1, lv, r, M.set a (.inl (z, upd f i.toNatClampNeg x))) else none
    | _ => none
  | .aaload, .int i :: .ref a :: r => match M[a]? with
    | some (.inr (.inl (ci, z, f))) => if ci < 3 ∧ pv_in i z = true then (f i.toNatClampNeg).map fun b => (k, n, pc + 1, lv, .ref b :: r, M) else none
    | _ => none
  | .aastore, .ref b :: .int i :: .ref a :: r => match M[a]?, M[b]? with
    | some (.inr (.inl (ci, z, f))), some (.inr (.inr (cj, _))) => if ci < 3 ∧ cj = ci ∧ pv_in i z = true then some (k, n, pc + 1, lv, r, M.set a (.inr (.inl (ci, z, va_up f i.toNatClampNeg (some b))))) else none
    | _, _ => none
  | .arraylength, .ref a :: r => match M[a]? with
    | some (.inl (z, _)) => some (k, n, pc + 1, lv, .int (Int32.ofNat z) :: r, M)
    | some (.inr (.inl (ci, z, _))) => if ci < 3 then some (k, n, pc + 1, lv, .int (Int32.ofNat z) :: r, M) else none
    | _ => none
  | .arraylength, .retAddr _ :: r => if y = pv_law then some (k, n, pc + 1, lv, .int (Int32.ofNat L) :: r, M) else none
  | _, _ => none
/-- what makes cells, and the two methods of the JDK that aren't walked -/
def pv_mk (ins : Instr) (d y k n pc : Nat) (lv : pv_Lv) (st : List Value) (M : pv_M) : Option pv_St := match ins, st with
  | .new i, r => match pv_look (pv_oc y) i with
    | some (6, ci, _) => match pv_cl[ci]?, pv_df[ci]? with
      | some q, some fs => if k + 1 ≤ pv_mc y ∧ n + q.2.2 ≤ pv_ms y then some (k + 1, n + q.2.2, pc + 3, lv, .ref M.length :: r, M ++ [.inr (.inr (ci, fs))]) else none
      | _, _ => none
    | _ => none
  | .newarray .int, .int z :: r => if ¬ z < 0 ∧ z.toNatClampNeg ≤ 100000 ∧ k + 1 ≤ pv_mc y ∧ n + z.toNatClampNeg ≤ pv_ms y then some (k + 1, n + z.toNatClampNeg, pc + 2, lv, .ref M.length :: r, M ++ [.inl (z.toNatClampNeg, fun _ => 0)]) else none
  | .anewarray i, .int z :: r => match pv_look (pv_oc y) i with
    | some (6, ci, _) => if ci < 3 ∧ ¬ z < 0 ∧ z.toNatClampNeg ≤ 100000 ∧ k + 1 ≤ pv_mc y ∧ n + z.toNatClampNeg ≤ pv_ms y then some (k + 1, n + z.toNatClampNeg, pc + 3, lv, .ref M.length :: r, M ++ [.inr (.inl (ci, z.toNatClampNeg, fun _ => none))]) else none
    | _ => none
  | .invokestatic i, .int z :: .int dp :: .ref b :: .int sp :: .ref a :: r => match pv_look (pv_oc y) i, M[a]?, M[b]? with
    | some (5, _, _), some (.inl (n0, f)), some (.inl (n1, g)) => if 1 ≤ d ∧ (r.map fun v => v.category).sum ≤ 8 ∧ ¬ sp < 0 ∧ ¬ dp < 0 ∧ ¬ z < 0 ∧ sp.toNatClampNeg + z.toNatClampNeg ≤ n0 ∧ dp.toNatClampNeg + z.toNatClampNeg ≤ n1 then some (k, n, pc + 3, lv, r, M.set b (.inl (n1, va_cpy f g sp.toNatClampNeg dp.toNatClampNeg z.toNatClampNeg))) else none
    | _, _, _ => none
  | .invokestatic i, .int b :: .int a :: r => match pv_look (pv_oc y) i with
    | some (9, _, _) => if 1 ≤ d ∧ (r.map fun v => v.category).sum ≤ 8 ∧ k ≤ pv_mc y ∧ n ≤ pv_ms y then some (k, n, pc + 3, lv, .int (if b < a then b else a) :: r, M) else none
    | _ => none
  | .invokespecial i, .ref _ :: r => match pv_look (pv_oc y) i with
    | some (4, _, _) => if 1 ≤ d ∧ (r.map fun v => v.category).sum ≤ 8 then some (k, n, pc + 3, lv, r, M) else none
    | _ => none
  | _, _ => none
def pv_pl : List Value → pv_Lv
  | [] => []
  | v :: vs => if v.category = 2 then some v :: none :: pv_pl vs else some v :: pv_pl vs
/-- the locals with which a method begins -/
def pv_en (z : Nat) (as : List Value) : pv_Lv := pv_pl as ++ List.replicate (pv_ml z - (pv_pl as).length) none
def pv_fit (z y k n : Nat) (as r : List Value) : Bool := decide ((pv_pl as).length ≤ pv_ml z) && decide ((r.map fun v => v.category).sum ≤ 8) && decide (k + pv_mc z ≤ pv_mc y) && decide (n + pv_ms z ≤ pv_ms y) && !(z == pv_law)
/-- calls: method, arguments, what stays on the stack -/
def pv_ca (ins : Instr) (y k n : Nat) (st : List Value) (M : pv_M) : Option (Nat × List Value × List Value) := match ins with
  | .invokevirtual i => match pv_look (pv_oc y) i with
    | some (t, z, np) => if t = 1 ∨ t = 7 then (match st.drop np with
      | .ref a :: r => (match M[a]? with
        | some (.inr (.inr (ci, _))) => if ci = pv_oc z ∧ (st.take np).length = np ∧ pv_fit z y k n (.ref a :: (st.take np).reverse) r = true then some (z, .ref a :: (st.take np).reverse, r) else none
        | _ => none)
      | _ => none) else none
    | none => none
  | .invokestatic i => match pv_look (pv_oc y) i with
    | some (2, z, np) => if (st.take np).length = np ∧ pv_fit z y k n (st.take np).reverse (st.drop np) = true then some (z, (st.take np).reverse, st.drop np) else none
    | _ => none
  | .invokespecial i => match pv_look (pv_oc y) i with
    | some (t, z, np) => if t = 3 ∨ t = 8 then (match st.drop np with
      | .ref a :: r => if (st.take np).length = np ∧ pv_fit z y k n (.ref a :: (st.take np).reverse) r = true then some (z, .ref a :: (st.take np).reverse, r) else none
      | _ => none) else none
    | none => none
  | _ => none
def pv_re (ins : Instr) (y k n : Nat) (st : List Value) : Option (Option Value) := if (y = pv_law ∨ k = pv_mc y) ∧ k ≤ pv_mc y ∧ n ≤ pv_ms y then (match ins, st, pv_rt y with
  | .ireturn, [.int v], some .int => some (some (.int v))
  | .ireturn, [.int v], some .boolean => if narrow .boolean (.int v) = .int v then some (some (.int v)) else none
  | .lreturn, [.long v], some .long => some (some (.long v))
  | .areturn, [.ref a], some (.object _) => some (some (.ref a))
  | .return_, [], none => some none
  | _, _, _ => none) else none
def pv_one (xs : Nat → Int32) (L : Nat) (d y k n pc : Nat) (lv : pv_Lv) (st : List Value) (M : pv_M) : Option pv_Out := match decode (pv_by y) pc with
  | .ok (ins, len) => if pv_ln ins len = len then
      (match pv_ld ins (pv_oc y) k n pc lv st M with
      | some s => some (.inl s)
      | none => match pv_so ins k n pc lv st M with
        | some s => some (.inl s)
        | none => match pv_al ins k n pc lv st M with
          | some s => some (.inl s)
          | none => match pv_br ins k n pc lv st M with
            | some s => some (.inl s)
            | none => match pv_me xs L ins y k n pc lv st M with
              | some s => some (.inl s)
              | none => match pv_mk ins d y k n pc lv st M with
                | some s => some (.inl s)
                | none => match pv_ca ins y k n st M with
                  | some q => some (.inr (.inl q))
                  | none => (pv_re ins y k n st).map fun v => .inr (.inr v)) else none
  | .error _ => none
def pv_run (xs : Nat → Int32) (L : Nat) : Nat → Nat → Nat → pv_St → Option (Option Value × pv_M)
  | 0, _, _, _ => none
  | f + 1, d, y, (k, n, pc, lv, st, M) => match pv_one xs L d y k n pc lv st M with
    | none => none
    | some (.inl s) => pv_run xs L f d y s
    | some (.inr (.inr v)) => some (v, M)
    | some (.inr (.inl (z, as, r))) => match d with
      | 0 => none
      | d' + 1 => match pv_run xs L f d' z (0, 0, 0, pv_en z as, [], M) with
        | none => none
        | some (v, M1) => pv_run xs L f (d' + 1) y (k + pv_mc z, n + pv_ms z, pc + 3, lv, v.toList ++ r, M1)
theorem pv_run_mono (xs : Nat → Int32) (L : Nat) : ∀ (f f' d y : Nat) (s : pv_St) (r : Option Value × pv_M), f ≤ f' → pv_run xs L f d y s = some r → pv_run xs L f' d y s = some r := by
  intro f
  induction f with
  | zero => intro f' d y s r _ h; simp [pv_run] at h
  | succ f ih =>
    intro f' d y s r hf h
    obtain ⟨g, rfl⟩ : ∃ g, f' = g + 1 := ⟨f' - 1, by omega⟩
    obtain ⟨k, n, pc, lv, st, M⟩ := s
    have hg : f ≤ g := by omega
    unfold pv_run at h ⊢
    cases ho : pv_one xs L d y k n pc lv st M with
    | none => rw [ho] at h; cases h
    | some o =>
      rw [ho] at h
      rcases o with s' | ⟨z, as, r'⟩ | v
      · exact ih g d y s' r hg h
      · cases d with
        | zero => cases h
        | succ d' =>
          dsimp only at h ⊢
          cases hc : pv_run xs L f d' z (0, 0, 0, pv_en z as, [], M) with
          | none => rw [hc] at h; cases h
          | some q =>
            rw [hc] at h
            rw [ih g d' z _ q hg hc]
            exact ih g _ y _ r hg h
      · exact h
end
section
/-! printed by wip/whole/gen/checks.py: the tables agree with the words -/
def pv_zc : List Nat := [52, 41, 4, 0, 32, 25, 53, 98, 103, 26, 54, 104, 27, 55, 56, 57, 28, 58, 29, 59, 99, 60, 61, 6, 215, 217, 220, 7, 62, 42, 5, 43, 46, 12, 10, 9, 219, 14, 13, 15, 8, 16, 222, 221, 218, 216, 47, 63, 101, 48, 64, 65, 223, 66, 67, 68, 102, 1, 44, 2, 69, 11, 45, 70, 71, 72, 73, 100, 3, 74, 75, 18, 76, 77, 33, 17, 21, 22, 78, 20, 79, 105, 30, 19, 80, 81, 107, 106, 34, 82, 37, 36, 35, 108, 83, 38, 84, 109, 85, 86, 39, 40, 87, 88, 89, 90, 91, 92, 49, 111, 93, 94, 23, 24, 50, 110, 95, 96, 97, 51, 31, 112, 124, 118, 113, 114, 123, 125, 120, 122, 115, 126, 127, 128, 129, 130, 119, 131, 121, 137, 136, 132, 135, 133, 138, 146, 139, 145, 141, 147, 142, 148, 140, 151, 152, 143, 117, 144, 149, 150, 159, 158, 157, 156, 116, 155, 154, 153, 134, 160, 162, 161, 163, 164, 165, 166, 169, 167, 168, 170, 173, 171, 172, 175, 174, 179, 178, 177, 176, 180, 185, 182, 181, 183, 184, 189, 187, 186, 188, 191, 190, 193, 192, 194, 197, 196, 195, 198, 200, 199, 201, 202, 203, 206, 204, 205, 207, 209, 208, 210, 211, 214, 212, 213]
def pv_zi : List Nat := [52, 41, 4, 0, 32, 25, 53, 103, 26, 54, 27, 55, 56, 57, 28, 58, 29, 59, 60, 61, 6, 7, 62, 42, 5, 43, 46, 12, 10, 9, 14, 13, 15, 8, 16, 47, 63, 101, 48, 64, 65, 66, 67, 68, 102, 1, 44, 2, 69, 11, 45, 70, 71, 72, 73, 3, 74, 75, 18, 76, 77, 33, 17, 21, 22, 78, 20, 79, 30, 19, 80, 81, 107, 34, 82, 37, 36, 35, 108, 83, 38, 84, 109, 85, 86, 39, 40, 87, 88, 89, 90, 91, 92, 49, 93, 94, 23, 24, 50, 95, 96, 97, 51, 31, 112, 124, 114, 123, 125, 120, 122, 115, 126, 127, 128, 129, 130, 131, 121, 137, 136, 132, 135, 138, 146, 139, 145, 141, 147, 142, 148, 140, 151, 152, 143, 144, 149, 150, 159, 158, 157, 156, 155, 154, 153, 160, 162, 163, 164, 165, 166, 169, 167, 168, 170, 173, 171, 172, 175, 174, 179, 178, 177, 176, 180, 185, 182, 181, 183, 184, 189, 187, 186, 188, 191, 190, 193, 192, 194, 197, 196, 195, 198, 200, 199, 201, 202, 203, 206, 204, 207, 209, 208, 210, 211, 214, 212, 213]
def pv_zs : List Nat := [98, 104, 99, 215, 217, 220, 219, 222, 221, 218, 216, 223, 100, 105, 106, 111, 110, 118, 113, 119, 133, 117, 116, 134, 161, 205]
def pv_zv : List Nat := [103, 7, 46, 16, 47, 101, 102, 107, 37, 36, 35, 108, 38, 109, 39, 40, 114, 123, 120, 122, 115, 121, 136, 132, 135, 139, 145, 141, 142, 140, 151, 152, 143, 144, 158, 157, 156, 155, 154, 153, 167, 168, 171, 172, 174, 178, 177, 176, 182, 181, 183, 184, 187, 186, 188, 190, 192, 196, 195, 199, 204, 208, 212, 213, 53, 26, 54, 27, 55, 56, 57, 28, 58, 29, 59, 60, 61, 6, 62, 42, 5, 43, 12, 10, 9, 14, 13, 15, 8, 63, 48, 64, 65, 66, 67, 68, 1, 44, 2, 69, 11, 45, 70, 71, 72, 73, 3, 74, 75, 18, 76, 77, 33, 17, 21, 22, 78, 20, 79, 30, 19, 80, 81, 34, 82, 83, 84, 85, 86, 87, 88, 89, 90, 91, 92, 49, 93, 94, 23, 24, 50, 95, 96, 97, 51, 31, 124, 125, 126, 127, 128, 129, 130, 131, 137, 138, 146, 147, 148, 149, 150, 159, 160, 162, 163, 164, 165, 166, 169, 170, 173, 175, 179, 180, 185, 189, 191, 193, 194, 197, 198, 200, 201, 202, 203, 206, 207, 209, 210, 211, 214]
def pv_lf : List (Nat × Nat × Nat × Nat) := [(1, 9, 1, 0), (4, 101, 1, 0), (1, 15, 1, 1), (4, 93, 1, 1), (5, 120, 1, 1), (1, 18, 1, 2), (4, 117, 1, 2), (5, 136, 1, 2), (1, 21, 1, 3), (4, 92, 1, 3), (3, 88, 1, 3), (5, 112, 1, 3), (0, 9, 0, 0), (4, 64, 0, 0), (0, 15, 0, 1), (4, 67, 0, 1), (0, 18, 0, 2), (4, 61, 0, 2), (0, 21, 0, 3), (4, 70, 0, 3), (0, 24, 0, 4), (4, 58, 0, 4), (5, 182, 0, 4), (0, 28, 0, 5), (4, 50, 0, 5), (5, 197, 0, 5), (4, 12, 4, 0), (4, 18, 4, 1), (5, 109, 4, 1), (4, 21, 4, 2), (5, 294, 4, 2), (4, 25, 4, 3), (5, 300, 4, 3), (4, 28, 4, 4), (4, 34, 4, 5), (5, 156, 4, 5), (4, 38, 4, 6), (5, 189, 4, 6), (4, 42, 4, 7), (5, 133, 4, 7), (3, 13, 3, 0), (3, 19, 3, 1), (3, 23, 3, 2), (5, 335, 3, 2), (3, 26, 3, 3), (5, 279, 3, 3), (3, 29, 3, 4), (3, 33, 3, 5), (5, 239, 3, 5), (3, 37, 3, 6), (5, 331, 3, 6), (3, 40, 3, 7), (5, 273, 3, 7), (3, 43, 3, 8), (5, 270, 3, 8), (2, 19, 2, 0), (3, 56, 2, 0), (1, 34, 2, 0), (5, 75, 2, 0), (2, 9, 2, 1), (5, 78, 2, 1), (2, 15, 2, 2), (3, 51, 2, 2), (1, 31, 2, 2), (5, 92, 2, 2), (5, 11, 5, 0), (5, 15, 5, 1), (5, 21, 5, 2), (5, 28, 5, 3), (5, 35, 5, 4), (5, 39, 5, 5), (5, 43, 5, 6), (5, 47, 5, 7), (5, 50, 5, 8), (5, 53, 5, 9), (6, 77, 6, 0), (6, 7, 6, 1), (6, 80, 6, 2), (6, 13, 6, 3), (6, 16, 6, 4), (6, 19, 6, 5), (6, 22, 6, 6), (6, 25, 6, 7), (6, 136, 6, 8), (6, 173, 6, 9), (6, 28, 6, 10), (6, 32, 6, 11), (6, 118, 6, 12), (6, 124, 6, 13), (6, 35, 6, 14), (6, 38, 6, 15), (6, 41, 6, 16), (6, 44, 6, 17), (6, 139, 6, 18), (6, 47, 6, 19), (6, 50, 6, 20), (6, 53, 6, 21), (6, 56, 6, 22), (6, 59, 6, 23), (6, 212, 6, 24), (6, 62, 6, 25), (6, 225, 6, 26), (6, 65, 6, 27), (6, 68, 6, 28), (6, 71, 6, 29), (6, 252, 6, 30), (6, 249, 6, 31), (6, 275, 6, 32), (6, 278, 6, 33), (6, 74, 6, 34), (6, 309, 6, 35)]
def pv_lm : List (Nat × Nat × Nat) := [(9, 9, 52), (5, 20, 41), (5, 34, 32), (5, 56, 25), (9, 13, 53), (5, 59, 98), (5, 63, 103), (5, 67, 26), (9, 18, 54), (5, 71, 104), (5, 276, 27), (9, 23, 55), (9, 27, 56), (9, 32, 57), (5, 82, 28), (9, 37, 58), (5, 95, 29), (9, 41, 59), (5, 99, 99), (9, 45, 60), (9, 49, 61), (5, 102, 6), (1, 37, 215), (1, 43, 217), (1, 46, 220), (7, 12, 217), (1, 50, 7), (9, 53, 62), (5, 106, 42), (4, 46, 5), (4, 54, 43), (4, 73, 46), (4, 85, 12), (1, 56, 10), (1, 53, 9), (1, 60, 219), (1, 63, 14), (1, 66, 13), (4, 89, 15), (1, 69, 8), (1, 72, 16), (1, 76, 222), (7, 16, 221), (7, 20, 218), (7, 23, 216), (4, 77, 47), (4, 96, 220), (9, 57, 63), (5, 113, 101), (5, 116, 48), (4, 104, 217), (9, 61, 64), (5, 123, 217), (5, 127, 218), (9, 65, 65), (5, 130, 8), (5, 139, 12), (5, 142, 223), (5, 147, 13), (9, 69, 66), (9, 73, 67), (9, 77, 68), (5, 150, 102), (5, 153, 10), (5, 160, 1), (5, 165, 44), (4, 81, 2), (0, 32, 1), (9, 81, 69), (5, 169, 215), (5, 172, 11), (5, 175, 216), (5, 178, 45), (9, 85, 70), (5, 183, 43), (9, 89, 71), (9, 93, 72), (9, 97, 73), (5, 186, 100), (5, 193, 3), (9, 101, 74), (9, 105, 75), (5, 198, 9), (5, 201, 18), (9, 109, 76), (9, 113, 77), (5, 204, 33), (3, 47, 5), (5, 208, 17), (5, 211, 21), (1, 79, 223), (5, 215, 22), (9, 117, 78), (5, 218, 20), (9, 122, 79), (5, 221, 105), (5, 224, 30), (2, 23, 220), (5, 227, 19), (9, 126, 80), (5, 230, 220), (9, 130, 81), (5, 233, 107), (5, 249, 106), (5, 236, 34), (3, 59, 12), (3, 63, 223), (3, 67, 15), (9, 134, 82), (3, 77, 36), (3, 81, 35), (3, 84, 37), (5, 246, 108), (9, 138, 83), (3, 89, 38), (9, 142, 84), (5, 257, 109), (9, 146, 85), (9, 150, 86), (3, 93, 40), (3, 97, 39), (9, 154, 87), (9, 158, 88), (5, 282, 14), (9, 162, 89), (5, 285, 219), (9, 166, 90), (9, 170, 91), (9, 174, 92), (5, 297, 49), (5, 303, 111), (9, 179, 93), (9, 183, 94), (5, 306, 23), (5, 309, 24), (5, 312, 50), (5, 315, 110), (9, 187, 95), (9, 191, 96), (9, 195, 97), (5, 323, 94), (5, 326, 51), (4, 109, 48), (4, 114, 218), (5, 330, 31), (9, 12, 112), (9, 17, 124), (6, 87, 118), (6, 83, 113), (6, 91, 114), (6, 98, 123), (9, 26, 125), (6, 102, 120), (6, 105, 122), (6, 109, 115), (9, 22, 126), (6, 112, 125), (9, 31, 127), (9, 36, 128), (9, 40, 129), (9, 44, 130), (6, 95, 119), (9, 48, 131), (6, 115, 121), (9, 52, 137), (6, 133, 136), (6, 121, 132), (6, 130, 135), (6, 127, 133), (9, 56, 138), (9, 60, 146), (6, 152, 139), (6, 155, 145), (6, 142, 141), (9, 64, 147), (6, 145, 142), (9, 68, 148), (6, 158, 140), (6, 161, 151), (6, 164, 152), (6, 148, 143), (6, 167, 117), (6, 170, 144), (9, 72, 149), (9, 76, 150), (9, 80, 159), (6, 193, 158), (6, 196, 157), (6, 199, 156), (6, 186, 116), (6, 189, 155), (6, 183, 154), (6, 179, 153), (6, 176, 134), (9, 84, 160), (9, 88, 162), (6, 202, 161), (9, 92, 163), (9, 96, 164), (9, 100, 165), (9, 104, 166), (9, 108, 169), (6, 206, 167), (6, 209, 168), (9, 112, 170), (9, 116, 173), (6, 215, 171), (6, 218, 172), (9, 121, 175), (6, 222, 174), (9, 125, 179), (6, 231, 178), (6, 234, 177), (6, 228, 176), (9, 129, 180), (9, 133, 185), (6, 240, 182), (6, 237, 181), (6, 243, 183), (6, 246, 184), (9, 137, 189), (6, 258, 187), (6, 255, 186), (6, 265, 188), (6, 262, 124), (9, 141, 191), (6, 268, 190), (9, 145, 193), (6, 272, 192), (9, 149, 194), (9, 153, 197), (6, 285, 196), (6, 281, 195), (9, 157, 198), (9, 161, 200), (6, 288, 199), (9, 165, 201), (9, 169, 202), (9, 173, 203), (9, 178, 206), (6, 298, 204), (6, 301, 205), (9, 182, 207), (9, 186, 209), (6, 304, 208), (9, 190, 210), (9, 194, 211), (9, 198, 214), (6, 313, 212), (6, 318, 213)]
def pv_lN : List (Nat × Nat × Nat) := [(4, 11, 4), (4, 33, 0), (5, 27, 4), (3, 46, 4), (5, 242, 37), (5, 253, 38), (5, 266, 39)]
def pv_lc : List (Nat × Nat × Nat) := [(9, 7, 5), (5, 9, 2), (5, 18, 4), (4, 9, 1), (4, 31, 0), (5, 25, 1), (5, 32, 3), (3, 11, 1), (9, 10, 6)]
def pv_lo : List (Nat × Nat) := [(5, 1), (4, 3), (1, 3), (0, 3), (3, 5), (2, 3), (6, 1)]
def pv_ly : List (Nat × Nat) := [(5, 86), (1, 25), (0, 36), (3, 71)]
def pv_lx : List (Nat × Nat) := [(5, 261)]
abbrev pv_o (o : Nat) : String := pv_cn.getD o ""
theorem pv_fm {α : Type} {L : List α} {enc : α → Cond} {sel : Cond → Bool} (h : L.map enc = lw_tbl.filter sel) {a : α} (ha : a ∈ L) : enc a ∈ lw_tbl := by
  have h1 : enc a ∈ L.map enc := List.mem_map_of_mem ha
  rw [h] at h1
  exact (List.mem_filter.mp h1).1
def pv_sc (w : Cond) : Bool := match w with
  | .code y _ _ _ => !(y.cls == "java/lang/Object") && !(y.cls == "java/lang/Math")
  | _ => false
def pv_si (w : Cond) : Bool := match w with
  | .instanceMethod y => !(y.cls == "java/lang/Object")
  | _ => false
def pv_ss (w : Cond) : Bool := match w with
  | .static y => !(y.cls == "java/lang/System") && !(y.cls == "java/lang/Math")
  | _ => false
def pv_sv (w : Cond) : Bool := match w with
  | .selects _ _ _ => true
  | _ => false
def pv_sf (w : Cond) : Bool := match w with
  | .fieldLink _ _ _ _ _ => true
  | _ => false
def pv_sm (w : Cond) : Bool := match w with
  | .methodLink _ _ y => !(y.cls == "java/lang/Object") && !(y.cls == "java/lang/System") && !(y.cls == "java/lang/Math")
  | _ => false
def pv_sN (w : Cond) : Bool := match w with
  | .methodLinkNest _ _ _ _ => true
  | _ => false
def pv_sl (w : Cond) : Bool := match w with
  | .classLink _ _ _ => true
  | _ => false
def pv_sob (w : Cond) : Bool := match w with
  | .methodLink _ _ y => y.cls == "java/lang/Object"
  | _ => false
def pv_ssy (w : Cond) : Bool := match w with
  | .methodLink _ _ y => y.cls == "java/lang/System"
  | _ => false
def pv_sma (w : Cond) : Bool := match w with
  | .methodLink _ _ y => y.cls == "java/lang/Math"
  | _ => false
abbrev pv_ef (q : Nat × Nat × Nat × Nat) : Cond := .fieldLink (pv_o q.1) q.2.1 ((pv_cl.getD q.2.2.1 ("", pv_T0, 0)).2.1 q.2.2.2).1 ((pv_cl.getD q.2.2.1 ("", pv_T0, 0)).2.1 q.2.2.2).2.1 ((pv_cl.getD q.2.2.1 ("", pv_T0, 0)).2.1 q.2.2.2).2.2.1
set_option maxRecDepth 400000 in
set_option maxHeartbeats 40000000 in
theorem pv_hc : pv_zc.map (fun z => Cond.code (pv_nm z) (pv_by z) (pv_ml z) (pv_rt z)) = lw_tbl.filter pv_sc := by rfl
theorem pv_hi : pv_zi.map (fun z => Cond.instanceMethod (pv_nm z)) = lw_tbl.filter pv_si := by decide +kernel
theorem pv_hs : pv_zs.map (fun z => Cond.static (pv_nm z)) = lw_tbl.filter pv_ss := by decide +kernel
theorem pv_hv : pv_zv.map (fun z => Cond.selects (pv_on z) (pv_nm z) (pv_nm z)) = lw_tbl.filter pv_sv := by decide +kernel
theorem pv_hf : pv_lf.map pv_ef = lw_tbl.filter pv_sf := by decide +kernel
theorem pv_hm : pv_lm.map (fun q => Cond.methodLink (pv_o q.1) q.2.1 (pv_nm q.2.2)) = lw_tbl.filter pv_sm := by decide +kernel
theorem pv_hN : pv_lN.map (fun q => Cond.methodLinkNest (pv_o q.1) q.2.1 (pv_nm q.2.2) "WornNames") = lw_tbl.filter pv_sN := by decide +kernel
theorem pv_hl : pv_lc.map (fun q => Cond.classLink (pv_o q.1) q.2.1 (pv_o q.2.2)) = lw_tbl.filter pv_sl := by decide +kernel
theorem pv_hob : pv_lo.map (fun q => Cond.methodLink (pv_o q.1) q.2 objectInit) = lw_tbl.filter pv_sob := by decide +kernel
theorem pv_hx : pv_lx.map (fun q => Cond.methodLink (pv_o q.1) q.2 Lib.Math.min.name) = lw_tbl.filter pv_sma := by decide +kernel
theorem pv_hsy : pv_ly.map (fun q => Cond.methodLink (pv_o q.1) q.2 arraycopyName) = lw_tbl.filter pv_ssy := by decide +kernel
end
section
/-! the words that a method needs, all good ones of the tables -/
def pv_W : List Cond := lw_tbl.filter goodWord
theorem pv_Wi {w : Cond} (h : w ∈ lw_tbl) (g : goodWord w = true) : w ∈ pv_W := List.mem_filter.mpr ⟨h, g⟩
theorem pv_Wg : GoodIn pv_W pv_W := fun w hw => ⟨hw, good_of_word (List.mem_filter.mp hw).2⟩
def pv_clok (ci : Nat) : Bool := match pv_cl[ci]?, pv_df[ci]? with
  | some r, some fs => (u_ws r.1 r.2.1 r.2.2).all (fun w => decide (w ∈ lw_tbl) && goodWord w) && (List.range r.2.2).all (fun k => decide (parseFieldDescriptor (r.2.1 k).2.2.1 = some (pv_ft ci k)) && decide (defaultValue (pv_ft ci k) = vp_V fs k) && (List.range r.2.2).all (fun b => decide (k = b) || decide ((r.2.1 k).2.1 ≠ (r.2.1 b).2.1))) && decide (Cond.instantiable r.1 r.2.2 ∈ lw_tbl) && decide (Cond.initialized r.1 ∈ lw_tbl) && decide (pv_o ci = r.1) && decide (fs.length = r.2.2)
  | _, _ => false
theorem pv_clok_all : ∀ ci, ci < 7 → pv_clok ci = true := by decide +kernel
theorem pv_ini_all : ∀ o, o < 10 → Cond.initialized (pv_o o) ∈ lw_tbl := by decide +kernel
theorem pv_on_all : ∀ o, o < 10 → pv_o o ≠ "java/lang/invoke/MethodHandle" ∧ pv_o o ≠ "java/lang/invoke/VarHandle" ∧ plainName (pv_o o) = true := by
  intro o ho
  match o, ho with
  | 0, _ => exact ⟨by decide, by decide, by decide⟩
  | 1, _ => exact ⟨by decide, by decide, by decide⟩
  | 2, _ => exact ⟨by decide, by decide, by decide⟩
  | 3, _ => exact ⟨by decide, by decide, by decide⟩
  | 4, _ => exact ⟨by decide, by decide, by decide⟩
  | 5, _ => exact ⟨by decide, by decide, by decide⟩
  | 6, _ => exact ⟨by decide, by decide, by decide⟩
  | 7, _ => exact ⟨by decide, by decide, by decide⟩
  | 8, _ => exact ⟨by decide, by decide, by decide⟩
  | 9, _ => exact ⟨by decide, by decide, by decide⟩
  | n + 10, h => omega
def pv_mok (z : Nat) : Bool := decide (z ∈ pv_zc) && decide (pv_oc z < 10) && decide ((pv_nm z).cls = pv_on z) && decide (pv_ml z ≤ 21)
theorem pv_mok_r : (List.range 225).all (fun z => decide (pv_law ≤ z) || pv_mok z) = true := by decide +kernel
theorem pv_mok_all (z : Nat) (h : z < pv_law) : pv_mok z = true := by
  have h2 : z < 225 := Nat.lt_of_lt_of_le h (by decide)
  have h1 := List.all_eq_true.mp pv_mok_r z (List.mem_range.mpr h2)
  rcases (Bool.or_eq_true _ _).mp h1 with q | q
  · exact absurd (of_decide_eq_true q) (Nat.not_le.mpr h)
  · exact q
def pv_np (z np : Nat) : Bool := decide ((parseMethodDescriptor (pv_nm z).desc).map (fun d => d.parameters.length) = some np)
def pv_lkok (o : Nat) (e : Nat × Nat × Nat × Nat) : Bool := match e with
  | (i, 0, ci, f) => decide (ci < 7) && decide (f < (pv_cl.getD ci ("", pv_T0, 0)).2.2) && decide ((o, i, ci, f) ∈ pv_lf)
  | (i, 1, z, np) => decide (z < pv_law) && pv_np z np && decide ((o, i, z) ∈ pv_lm) && decide (z ∈ pv_zi) && decide (z ∈ pv_zv) && decide (pv_oc z < 7)
  | (i, 2, z, np) => decide (z < pv_law) && pv_np z np && decide ((o, i, z) ∈ pv_lm) && decide (z ∈ pv_zs)
  | (i, 3, z, np) => decide (z < pv_law) && pv_np z np && decide ((o, i, z) ∈ pv_lm) && decide (z ∈ pv_zi) && decide ((pv_nm z).name = "<init>") && decide (pv_rt z = none)
  | (i, 4, _, _) => decide ((o, i) ∈ pv_lo)
  | (i, 5, _, _) => decide ((o, i) ∈ pv_ly)
  | (i, 9, _, _) => decide ((o, i) ∈ pv_lx)
  | (i, 6, ci, _) => decide (ci < 7) && decide ((o, i, ci) ∈ pv_lc)
  | (i, 7, z, np) => decide (z < pv_law) && pv_np z np && decide ((o, i, z) ∈ pv_lN) && decide (z ∈ pv_zi) && decide (z ∈ pv_zv) && decide (pv_oc z < 7)
  | (i, 8, z, np) => decide (z < pv_law) && pv_np z np && decide ((o, i, z) ∈ pv_lN) && decide (z ∈ pv_zi) && decide ((pv_nm z).name = "<init>") && decide (pv_rt z = none)
  | _ => false
theorem pv_lk0 : pv_p0.all (pv_lkok 0) = true := by decide +kernel
theorem pv_lk1 : pv_p1.all (pv_lkok 1) = true := by decide +kernel
theorem pv_lk2 : pv_p2.all (pv_lkok 2) = true := by decide +kernel
theorem pv_lk3 : pv_p3.all (pv_lkok 3) = true := by decide +kernel
theorem pv_lk4 : pv_p4.all (pv_lkok 4) = true := by decide +kernel
theorem pv_lk5 : pv_p5.all (pv_lkok 5) = true := by decide +kernel
theorem pv_lk6 : pv_p6.all (pv_lkok 6) = true := by decide +kernel
theorem pv_lk7 : pv_p7.all (pv_lkok 7) = true := by decide +kernel
theorem pv_lk9 : pv_p9.all (pv_lkok 9) = true := by decide +kernel
theorem pv_look_ok {o i t a b : Nat} (h : pv_look o i = some (t, a, b)) : pv_lkok o (i, t, a, b) = true := by
  unfold pv_look at h
  obtain ⟨q, hq, he⟩ := Option.map_eq_some_iff.mp h
  have hm := List.mem_of_find?_eq_some hq
  have hi : q.1 = i := by simpa using List.find?_some hq
  obtain ⟨q1, q2⟩ := q
  cases hi
  cases he
  have key : ∀ (L : List (Nat × Nat × Nat × Nat)), pv_cp.getD o [] = L → L.all (pv_lkok o) = true := by
    intro L hL
    match o, hL with
    | 0, hL => rw [← hL]; exact pv_lk0
    | 1, hL => rw [← hL]; exact pv_lk1
    | 2, hL => rw [← hL]; exact pv_lk2
    | 3, hL => rw [← hL]; exact pv_lk3
    | 4, hL => rw [← hL]; exact pv_lk4
    | 5, hL => rw [← hL]; exact pv_lk5
    | 6, hL => rw [← hL]; exact pv_lk6
    | 7, hL => rw [← hL]; exact pv_lk7
    | 8, hL => rw [← hL]; rfl
    | 9, hL => rw [← hL]; exact pv_lk9
    | n + 10, hL => rw [← hL]; rfl
  exact List.all_eq_true.mp (key _ rfl) _ hm
theorem pv_kit_ok : pv_kit.all (fun q => decide (Cond.constant (pv_cn.getD q.1 "") q.2.1 q.2.2 ∈ lw_tbl)) = true := by decide +kernel
theorem pv_klt_ok : pv_klt.all (fun q => decide (Cond.constantLong (pv_cn.getD q.1 "") q.2.1 q.2.2 ∈ lw_tbl)) = true := by decide +kernel
theorem pv_ki_ok {o i : Nat} {v : Int32} (h : pv_ki o i = some v) : Cond.constant (pv_o o) i v ∈ pv_W := by
  unfold pv_ki at h
  obtain ⟨q, hq, he⟩ := Option.map_eq_some_iff.mp h
  have hm := List.mem_of_find?_eq_some hq
  have hi := List.find?_some hq
  obtain ⟨q1, q2, q3⟩ := q
  simp only [Bool.and_eq_true, beq_iff_eq] at hi
  obtain ⟨rfl, rfl⟩ := hi
  cases he
  exact pv_Wi (of_decide_eq_true (List.all_eq_true.mp pv_kit_ok _ hm)) rfl
theorem pv_kl_ok {o i : Nat} {v : Int64} (h : pv_kl o i = some v) : Cond.constantLong (pv_o o) i v ∈ pv_W := by
  unfold pv_kl at h
  obtain ⟨q, hq, he⟩ := Option.map_eq_some_iff.mp h
  have hm := List.mem_of_find?_eq_some hq
  have hi := List.find?_some hq
  obtain ⟨q1, q2, q3⟩ := q
  simp only [Bool.and_eq_true, beq_iff_eq] at hi
  obtain ⟨rfl, rfl⟩ := hi
  cases he
  have h2 := List.all_eq_true.mp pv_klt_ok _ hm
  simp only [decide_eq_true_eq] at h2
  exact pv_Wi h2 rfl
theorem pv_w_misc : Cond.instanceMethod objectInit ∈ lw_tbl ∧ Cond.code objectInit ⟨#[0xb1]⟩ 1 none ∈ lw_tbl ∧ Cond.native arraycopyName ∈ lw_tbl ∧ Cond.static arraycopyName ∈ lw_tbl ∧ Cond.initialized "java/lang/System" ∈ lw_tbl ∧ Cond.arrayClass .int ∈ lw_tbl ∧ Cond.static Lib.Math.min.name ∈ lw_tbl ∧ Cond.initialized "java/lang/Math" ∈ lw_tbl ∧ Cond.code Lib.Math.min.name Lib.Math.min.code 2 (some .int) ∈ lw_tbl ∧ Cond.arrayOver (.object "WornNames$Deeds") ∈ lw_tbl ∧ Cond.arrayOver (.object "WornNames$Folk") ∈ lw_tbl ∧ Cond.arrayOver (.object "WornNames$Row") ∈ lw_tbl := by decide +kernel
/-! what the checks say, by kind of entry -/
theorem pv_f_ok {o i ci f : Nat} (h : pv_look o i = some (0, ci, f)) : ∃ r, pv_cl[ci]? = some r ∧ f < r.2.2 ∧ ci < 7 ∧ Cond.fieldLink (pv_o o) i (r.2.1 f).1 (r.2.1 f).2.1 (r.2.1 f).2.2.1 ∈ pv_W := by
  have h1 := pv_look_ok h
  simp only [pv_lkok, Bool.and_eq_true, decide_eq_true_eq] at h1
  obtain ⟨⟨h2, h3⟩, h4⟩ := h1
  have h5 : ci < pv_cl.length := h2
  have h6 : pv_cl[ci]? = some pv_cl[ci] := List.getElem?_eq_getElem h5
  have h7 : pv_cl.getD ci ("", pv_T0, 0) = pv_cl[ci] := by simp [List.getD_eq_getElem?_getD, h6]
  have h8 := pv_fm pv_hf h4
  simp only [pv_ef] at h8
  rw [h7] at h3 h8
  exact ⟨_, h6, h3, h2, pv_Wi h8 rfl⟩
theorem pv_c_ok {ci : Nat} {r : vw_C} (h : pv_cl[ci]? = some r) : ∃ fs, pv_df[ci]? = some fs ∧ (∀ w ∈ u_ws r.1 r.2.1 r.2.2, w ∈ pv_W) ∧ (∀ k, k < r.2.2 → parseFieldDescriptor (r.2.1 k).2.2.1 = some (pv_ft ci k)) ∧ (∀ k, k < r.2.2 → defaultValue (pv_ft ci k) = vp_V fs k) ∧ (∀ a, a < r.2.2 → ∀ b, b < r.2.2 → a ≠ b → (r.2.1 a).2.1 ≠ (r.2.1 b).2.1) ∧ Cond.instantiable r.1 r.2.2 ∈ pv_W ∧ Cond.initialized r.1 ∈ pv_W ∧ pv_o ci = r.1 ∧ fs.length = r.2.2 := by
  have h0 : ci < 7 := (List.getElem?_eq_some_iff.mp h).1
  have h1 := pv_clok_all ci h0
  unfold pv_clok at h1
  rw [h] at h1
  cases hfs : pv_df[ci]? with
  | none => rw [hfs] at h1; cases h1
  | some fs =>
    rw [hfs] at h1
    simp only [Bool.and_eq_true, decide_eq_true_eq, List.all_eq_true, List.mem_range, Bool.or_eq_true] at h1
    obtain ⟨⟨⟨⟨⟨a1, a2⟩, a3⟩, a4⟩, a5⟩, a6⟩ := h1
    refine ⟨fs, rfl, fun w hw => pv_Wi (a1 w hw).1 (a1 w hw).2, fun k hk => ((a2 k hk).1).1, fun k hk => ((a2 k hk).1).2, fun a ha b hb hab => ?_, pv_Wi a3 rfl, pv_Wi a4 rfl, a5, a6⟩
    rcases (a2 a ha).2 b hb with z | z
    · exact absurd z hab
    · exact z
theorem pv_m_ok {z : Nat} (h : z < pv_law) : Cond.code (pv_nm z) (pv_by z) (pv_ml z) (pv_rt z) ∈ pv_W ∧ Cond.initialized (pv_nm z).cls ∈ pv_W ∧ (pv_nm z).cls = pv_on z ∧ (pv_nm z).cls ≠ "java/lang/invoke/MethodHandle" ∧ (pv_nm z).cls ≠ "java/lang/invoke/VarHandle" ∧ plainName (pv_nm z).cls = true ∧ pv_ml z ≤ 21 := by
  have h1 := pv_mok_all z h
  simp only [pv_mok, Bool.and_eq_true, decide_eq_true_eq] at h1
  obtain ⟨⟨⟨a1, a2⟩, a3⟩, a7⟩ := h1
  have b := pv_on_all _ a2
  refine ⟨pv_Wi (pv_fm pv_hc a1) rfl, ?_, a3, ?_, ?_, ?_, a7⟩
  · rw [a3]
    exact pv_Wi (pv_ini_all _ a2) rfl
  · rw [a3]; exact b.1
  · rw [a3]; exact b.2.1
  · rw [a3]; exact b.2.2
end
section
/-! the pure machine's memory as a world -/
def pv_V (N0 scr : Nat) : Value → Value
  | .ref a => .ref (N0 + a)
  | .retAddr _ => .ref scr
  | v => v
theorem pv_V_cat (N0 scr : Nat) (v : Value) : (pv_V N0 scr v).category = v.category := by cases v <;> rfl
theorem pv_V_sum (N0 scr : Nat) (r : List Value) : ((r.map (pv_V N0 scr)).map fun v => v.category).sum = (r.map fun v => v.category).sum := by
  rw [List.map_map]
  congr 1
  apply List.map_congr_left
  intro v _
  exact pv_V_cat N0 scr v
def pv_E (N0 scr : Nat) (cI : ClassId) (cR : Nat → ClassId) : pv_C → va_E
  | .inl (n, f) => .inl (cI, n, .inl f)
  | .inr (.inl (ci, n, f)) => .inl (cR ci, n, .inr (.inr (.inr (.inr (fun i => (f i).map (fun b => N0 + b))))))
  | .inr (.inr (ci, fs)) => .inr (ci, fs.map (pv_V N0 scr))
def pv_w (N0 scr : Nat) (cI : ClassId) (cR : Nat → ClassId) (M : pv_M) : va_W := M.mapIdx (fun k c => (N0 + k, pv_E N0 scr cI cR c))
section PW
variable {N0 scr : Nat} {cI : ClassId} {cR : Nat → ClassId} {M : pv_M}
theorem pv_w_get (k : Nat) : (pv_w N0 scr cI cR M)[k]? = (M[k]?).map (fun c => (N0 + k, pv_E N0 scr cI cR c)) := by simp [pv_w]
theorem pv_w_at {k : Nat} {c : pv_C} (h : M[k]? = some c) : (pv_w N0 scr cI cR M)[k]? = some (N0 + k, pv_E N0 scr cI cR c) := by rw [pv_w_get, h]; rfl
theorem pv_w_set {k : Nat} (c : pv_C) : (pv_w N0 scr cI cR M).set k (N0 + k, pv_E N0 scr cI cR c) = pv_w N0 scr cI cR (M.set k c) := by
  apply List.ext_getElem?
  intro j
  rw [pv_w_get, List.getElem?_set, List.getElem?_set, pv_w_get]
  have hl : (pv_w N0 scr cI cR M).length = M.length := by simp [pv_w]
  by_cases hk : k = j
  · subst hk
    by_cases h : k < M.length
    · simp [h, hl]
    · simp [h, hl]
  · simp [hk]
theorem pv_w_app (c : pv_C) : pv_w N0 scr cI cR (M ++ [c]) = pv_w N0 scr cI cR M ++ [(N0 + M.length, pv_E N0 scr cI cR c)] := by
  simp [pv_w, List.mapIdx_append]
theorem pv_w_D : va_D (fun q => N0 ≤ q) (pv_w N0 scr cI cR M) := by
  have key : ∀ (i : Nat) (p : Nat × va_E), (pv_w N0 scr cI cR M)[i]? = some p → p.1 = N0 + i := by
    intro i p h
    rw [pv_w_get] at h
    obtain ⟨c, -, rfl⟩ := Option.map_eq_some_iff.mp h
    rfl
  refine ⟨fun i j p q hi hj hpq => ?_, fun k q hk => ?_⟩
  · have a := key i p hi
    have b := key j q hj
    omega
  · have a := key k q hk
    show N0 ≤ q.1
    omega
end PW
/-- the locals -/
def pv_L (N0 scr : Nat) (ls : Array Slot) (lv : pv_Lv) : Prop := ls.size = lv.length ∧ lv_wf ls ∧ ∀ (i : Nat) (v : Value), lv[i]? = some (some v) → ls[i]? = some (.val (pv_V N0 scr v))
def pv_ps (N0 scr : Nat) (lv : pv_Lv) : List (Nat × Value) := (List.range lv.length).filterMap (fun i => (lv.getD i none).map (fun v => (i, pv_V N0 scr v)))
section PL
variable {N0 scr : Nat} {ls : Array Slot} {lv : pv_Lv}
theorem pv_ps_mem {i : Nat} {w : Value} : (i, w) ∈ pv_ps N0 scr lv ↔ ∃ v, lv[i]? = some (some v) ∧ w = pv_V N0 scr v := by
  unfold pv_ps
  rw [List.mem_filterMap]
  constructor
  · rintro ⟨j, hj, h⟩
    obtain ⟨v, hv, he⟩ := Option.map_eq_some_iff.mp h
    cases he
    rw [List.mem_range] at hj
    refine ⟨v, ?_, rfl⟩
    rw [List.getD_eq_getElem?_getD, List.getElem?_eq_getElem hj] at hv
    rw [List.getElem?_eq_getElem hj]
    simpa using hv
  · rintro ⟨v, hv, rfl⟩
    have hj := (List.getElem?_eq_some_iff.mp hv).1
    refine ⟨i, List.mem_range.mpr hj, ?_⟩
    rw [List.getD_eq_getElem?_getD, hv]
    rfl
theorem pv_L_has (h : pv_L N0 scr ls lv) : lv_has ls lv.length (pv_ps N0 scr lv) := by
  refine ⟨h.1, h.2.1, fun q hq => ?_⟩
  obtain ⟨i, w⟩ := q
  obtain ⟨v, hv, rfl⟩ := pv_ps_mem.mp hq
  exact h.2.2 i v hv
theorem pv_L_set1 {ls' : Array Slot} {i : Nat} {v : Value} (hok : pv_ok lv i = true) (h : lv_has ls' lv.length ((i, pv_V N0 scr v) :: (pv_ps N0 scr lv).filter (fun q => !(q.1 == i) && !(q.1 + 1 == i && q.2.category == 2)))) : pv_L N0 scr ls' (lv.set i (some v)) := by
  refine ⟨by rw [List.length_set]; exact h.1, h.2.1, fun j w hj => ?_⟩
  by_cases hij : i = j
  · subst hij
    rw [List.getElem?_set_self (by
      have := (List.getElem?_eq_some_iff.mp hj).1
      simpa using this)] at hj
    cases hj
    exact h.2.2 (i, _) List.mem_cons_self
  · rw [List.getElem?_set_ne hij] at hj
    refine h.2.2 (j, pv_V N0 scr w) (List.mem_cons_of_mem _ (List.mem_filter.mpr ⟨pv_ps_mem.mpr ⟨w, hj, rfl⟩, ?_⟩))
    have h1 : (j == i) = false := by simpa using fun e => hij e.symm
    have h2 : (j + 1 == i && (pv_V N0 scr w).category == 2) = false := by
      by_cases e : j + 1 = i
      · subst e
        unfold pv_ok at hok
        rw [Bool.and_eq_true] at hok
        have h3 := hok.2
        dsimp only at h3
        rw [hj] at h3
        have h4 : w.category = 1 := by simpa using h3
        rw [pv_V_cat, h4]
        simp
      · have : (j + 1 == i) = false := by simpa using e
        rw [this]
        rfl
    simp only [h1, h2]
    rfl
theorem pv_L_set2 {ls' : Array Slot} {i : Nat} {v : Value} (hok : pv_ok lv i = true) (h : lv_has ls' lv.length ((i, pv_V N0 scr v) :: (pv_ps N0 scr lv).filter (fun q => !(q.1 == i) && (!(q.1 == i + 1) && !(q.1 + 1 == i && q.2.category == 2))))) : pv_L N0 scr ls' ((lv.set i (some v)).set (i + 1) none) := by
  refine ⟨by rw [List.length_set, List.length_set]; exact h.1, h.2.1, fun j w hj => ?_⟩
  by_cases hi1 : i + 1 = j
  · subst hi1
    have hlt := (List.getElem?_eq_some_iff.mp hj).1
    rw [List.getElem?_set_self (by simpa using hlt)] at hj
    cases hj
  rw [List.getElem?_set_ne hi1] at hj
  by_cases hij : i = j
  · subst hij
    rw [List.getElem?_set_self (by
      have := (List.getElem?_eq_some_iff.mp hj).1
      simpa using this)] at hj
    cases hj
    exact h.2.2 (i, _) List.mem_cons_self
  · rw [List.getElem?_set_ne hij] at hj
    refine h.2.2 (j, pv_V N0 scr w) (List.mem_cons_of_mem _ (List.mem_filter.mpr ⟨pv_ps_mem.mpr ⟨w, hj, rfl⟩, ?_⟩))
    have h1 : (j == i) = false := by simpa using fun e => hij e.symm
    have h0 : (j == i + 1) = false := by simpa using fun e => hi1 e.symm
    have h2 : (j + 1 == i && (pv_V N0 scr w).category == 2) = false := by
      by_cases e : j + 1 = i
      · subst e
        unfold pv_ok at hok
        rw [Bool.and_eq_true] at hok
        have h3 := hok.2
        dsimp only at h3
        rw [hj] at h3
        have h4 : w.category = 1 := by simpa using h3
        rw [pv_V_cat, h4]
        simp
      · have : (j + 1 == i) = false := by simpa using e
        rw [this]
        rfl
    simp only [h0, h1, h2]
    rfl
theorem pv_ok_lt {i : Nat} (h : pv_ok lv i = true) : i < lv.length := by
  unfold pv_ok at h
  rw [Bool.and_eq_true] at h
  exact of_decide_eq_true h.1
theorem pv_gr_ok {i : Nat} {v : Value} (h : pv_gr lv i = some v) (hl : pv_L N0 scr ls lv) : ∃ q, pv_V N0 scr v = .ref q ∧ ls[i]? = some (.val (.ref q)) := by
  unfold pv_gr at h
  split at h
  next a e => cases h; exact ⟨N0 + a, rfl, hl.2.2 i _ e⟩
  next a e => cases h; exact ⟨scr, rfl, hl.2.2 i _ e⟩
  next => cases h
theorem pv_gi_ok {i : Nat} {x : Int32} (h : pv_gi lv i = some x) : lv[i]? = some (some (.int x)) := by
  unfold pv_gi at h
  split at h
  next a e => cases h; exact e
  next => cases h
theorem pv_gl_ok {i : Nat} {x : Int64} (h : pv_gl lv i = some x) : lv[i]? = some (some (.long x)) := by
  unfold pv_gl at h
  split at h
  next a e => cases h; exact e
  next => cases h
end PL
theorem pv_pl_args {N0 scr : Nat} : ∀ (as : List Value) (i j : Nat) (v : Value), (pv_pl as)[j]? = some (some v) → (i + j, pv_V N0 scr v) ∈ lv_args i (as.map (pv_V N0 scr)) := by
  intro as
  induction as with
  | nil => intro i j v h; simp [pv_pl] at h
  | cons a as ih =>
    intro i j v h
    unfold pv_pl at h
    simp only [List.map_cons, lv_args, pv_V_cat]
    by_cases hc : a.category = 2
    · rw [if_pos hc] at h
      rw [if_pos hc]
      match j, h with
      | 0, h => simp at h; subst h; exact List.mem_cons_self
      | 1, h => simp at h
      | j + 2, h =>
        simp only [List.getElem?_cons_succ] at h
        have := ih (i + 2) j v h
        rw [show i + (j + 2) = i + 2 + j by omega]
        exact List.mem_cons_of_mem _ this
    · rw [if_neg hc] at h
      rw [if_neg hc]
      match j, h with
      | 0, h => simp at h; subst h; exact List.mem_cons_self
      | j + 1, h =>
        simp only [List.getElem?_cons_succ] at h
        have := ih (i + 1) j v h
        rw [show i + (j + 1) = i + 1 + j by omega]
        exact List.mem_cons_of_mem _ this
theorem pv_pl_len {N0 scr : Nat} : ∀ (as : List Value), (lg_sl (as.map (pv_V N0 scr))).length = (pv_pl as).length := by
  intro as
  induction as with
  | nil => rfl
  | cons a as ih =>
    have e : lg_sl ((a :: as).map (pv_V N0 scr)) = (if (pv_V N0 scr a).category = 2 then [Slot.val (pv_V N0 scr a), Slot.second] else [Slot.val (pv_V N0 scr a)]) ++ lg_sl (as.map (pv_V N0 scr)) := by
      simp only [lg_sl, List.map_cons, List.flatMap_cons]
    rw [e, List.length_append, ih, pv_V_cat, show pv_pl (a :: as) = if a.category = 2 then some a :: none :: pv_pl as else some a :: pv_pl as from rfl]
    by_cases hc : a.category = 2
    · rw [if_pos hc, if_pos hc]
      simp only [List.length_cons, List.length_nil]
      omega
    · rw [if_neg hc, if_neg hc]
      simp only [List.length_cons, List.length_nil]
      omega
theorem pv_en_L {N0 scr z : Nat} {as : List Value} {ls : Array Slot} (hle : (pv_pl as).length ≤ pv_ml z) (h : lv_has ls (pv_ml z) (lv_args 0 (as.map (pv_V N0 scr)))) : pv_L N0 scr ls (pv_en z as) := by
  refine ⟨by rw [h.1]; simp [pv_en]; omega, h.2.1, fun i v hi => ?_⟩
  unfold pv_en at hi
  by_cases hl : i < (pv_pl as).length
  · rw [List.getElem?_append_left hl] at hi
    have := pv_pl_args (N0 := N0) (scr := scr) as 0 i v hi
    rw [Nat.zero_add] at this
    exact h.2.2 (i, _) this
  · rw [List.getElem?_append_right (by omega)] at hi
    have := List.mem_of_getElem? hi
    rw [List.mem_replicate] at this
    exact absurd this.2 (by simp)
end
section
/-! one step of the pure machine is a step of the machine -/
def pv_ty (cI : ClassId) (cR : Nat → ClassId) : List (ClassId × FieldType) := [(cR 0, .object "WornNames$Deeds"), (cR 1, .object "WornNames$Folk"), (cR 2, .object "WornNames$Row"), (cI, .int)]
/-- the tables, at a state -/
def pv_K (D : va_G) (cI : ClassId) (cR : Nat → ClassId) (U : State) : Prop := va_K D pv_cl (pv_ty cI cR) U ∧ (∀ ci, ci < 3 → va_AO (pv_o ci) U) ∧ ∀ q ∈ pv_lN, va_Nw (.methodLinkNest (pv_o q.1) q.2.1 (pv_nm q.2.2) "WornNames") U
theorem pv_K.warm {D : va_G} {cI : ClassId} {cR : Nat → ClassId} {s U : State} (hW : s.WarmedH U.vm) (h : pv_K D cI cR s) : pv_K D cI cR U := ⟨va_K.moved hW.alike h.1, fun ci hc => (h.2.1 ci hc).moved hW.alike, fun q hq => va_Nw.warmM hW (h.2.2 q hq)⟩
theorem pv_K.same {D : va_G} {cI : ClassId} {cR : Nat → ClassId} {s U : State} (hv : s.vm = U.vm) (h : pv_K D cI cR s) : pv_K D cI cR U := ⟨va_K.moved (by rw [hv]; exact Vm.Alike.refl U.vm) h.1, fun ci hc => (h.2.1 ci hc).moved (by rw [hv]; exact Vm.Alike.refl U.vm), fun q hq => va_Nw.same rfl hv (h.2.2 q hq)⟩
/-- what holds all through a method's run -/
def pv_G (p : Program) (R : Room) (s : State) (m : MethodId) (args : Array Value) (meth : Method) (c : Code) (D : va_G) (cI : ClassId) (cR : Nat → ClassId) (N0 scr L : Nat) (xs : Nat → Int32) (d y : Nat) : Prop :=
  p.tables.exec = Jvm.exec ∧ c.code = pv_by y ∧ c.maxLocals = pv_ml y ∧ meth.sig.returnType = pv_rt y ∧ meth.locks = false ∧ (y ≠ pv_law → meth.name = (pv_nm y).name) ∧ s.vm.findClass (pv_on y) = some m.cls ∧ (∀ w ∈ pv_W, w.before args s = true) ∧ pv_K D cI cR s ∧ N0 ≤ s.heap.size ∧ (y = pv_law → va_X scr L xs s s.heap ∧ scr < s.heap.size ∧ ¬ N0 ≤ scr) ∧ d ≤ R.frames ∧ 60 * d ≤ R.locals ∧ pv_mc y ≤ R.cells ∧ pv_ms y ≤ R.slots
/-- the memory in the heap -/
def pv_H (D : va_G) (cI : ClassId) (cR : Nat → ClassId) (N0 scr : Nat) (s : State) (k : Nat) (M : pv_M) (H : Heap) (locs : List Loc) : Prop :=
  va_P D pv_cl (pv_w N0 scr cI cR M) H ∧ va_S (fun q => N0 ≤ q) s.heap H locs ∧ s.heap.size + k = N0 + M.length
def pv_Go (p : Program) (l : Launch) (e : Env) (R : Room) (s : State) (m : MethodId) (args : Array Value) (below : List Frame) (meth : Method) (c : Code) (D : va_G) (cI : ClassId) (cR : Nat → ClassId) (N0 scr nL : Nat) (Q : State → Prop) (t : pv_St) : Prop :=
  ∀ (H : Heap) (locs : List Loc) (ls : Array Slot), pv_H D cI cR N0 scr s t.1 t.2.2.2.2.2 H locs → pv_L N0 scr ls t.2.2.2.1 → t.2.2.2.1.length = nL → W p l e R s m args below meth c H locs t.1 t.2.1 Q (F0 m t.2.2.1 ls (t.2.2.2.2.1.map (pv_V N0 scr)))
section PS
variable {p : Program} {l : Launch} {e : Env} {R : Room} {s : State} {m : MethodId} {args : Array Value} {below : List Frame} {meth : Method} {c : Code} {D : va_G} {cI : ClassId} {cR : Nat → ClassId} {N0 scr L nL : Nat} {xs : Nat → Int32} {Q : State → Prop} {d y k n pc len : Nat} {lv : pv_Lv} {st : List Value} {M : pv_M} {ins : Instr} {t : pv_St}
theorem pv_ld_ok (G : pv_G p R s m args meth c D cI cR N0 scr L xs d y) (hd : decode (pv_by y) pc = .ok (ins, len)) (hln : pv_ln ins len = len) (h : pv_ld ins (pv_oc y) k n pc lv st M = some t) (kk : pv_Go p l e R s m args below meth c D cI cR N0 scr nL Q t) : pv_Go p l e R s m args below meth c D cI cR N0 scr nL Q (k, n, pc, lv, st, M) := by
  intro H locs ls hH hl hnl
  obtain ⟨hx, hb, hml, hr, hlk, hin, hown, hts, ⟨hK, hAO, hNl⟩, hN, hsc, hR1, hR2, hR3, hR4⟩ := G
  dsimp only at hH hl hnl ⊢
  unfold pv_ld at h
  split at h
  · obtain ⟨v, hv, rfl⟩ := Option.map_eq_some_iff.mp h
    obtain ⟨q, hq, hg⟩ := pv_gr_ok hv hl
    obtain rfl : 1 = len := hln
    have k1 := kk H locs ls hH hl hnl
    dsimp only at k1
    rw [List.map_cons, hq] at k1
    exact lv_aload_n hx hb hd rfl hg k1
  · obtain ⟨v, hv, rfl⟩ := Option.map_eq_some_iff.mp h
    obtain ⟨q, hq, hg⟩ := pv_gr_ok hv hl
    obtain rfl : 2 = len := hln
    have k1 := kk H locs ls hH hl hnl
    dsimp only at k1
    rw [List.map_cons, hq] at k1
    exact lv_aload hx hb hd hg k1
  · obtain ⟨x, hv, rfl⟩ := Option.map_eq_some_iff.mp h
    obtain rfl : 1 = len := hln
    exact lv_iload_n hx hb hd rfl (hl.2.2 _ _ (pv_gi_ok hv)) (kk H locs ls hH hl hnl)
  · obtain ⟨x, hv, rfl⟩ := Option.map_eq_some_iff.mp h
    obtain rfl : 2 = len := hln
    exact lv_iload hx hb hd (hl.2.2 _ _ (pv_gi_ok hv)) (kk H locs ls hH hl hnl)
  · obtain ⟨x, hv, rfl⟩ := Option.map_eq_some_iff.mp h
    obtain rfl : 1 = len := hln
    exact lv_lload_n hx hb hd rfl (hl.2.2 _ _ (pv_gl_ok hv)) (kk H locs ls hH hl hnl)
  · obtain ⟨x, hv, rfl⟩ := Option.map_eq_some_iff.mp h
    obtain rfl : 2 = len := hln
    exact lv_lload hx hb hd (hl.2.2 _ _ (pv_gl_ok hv)) (kk H locs ls hH hl hnl)
  · cases h
    obtain rfl : 1 = len := hln
    exact lv_iconst hx hb hd rfl (kk H locs ls hH hl hnl)
  · cases h
    obtain rfl : 2 = len := hln
    exact lv_bipush hx hb hd rfl (kk H locs ls hH hl hnl)
  · cases h
    obtain rfl : 3 = len := hln
    exact lv_sipush hx hb hd rfl (kk H locs ls hH hl hnl)
  · cases h
    obtain rfl : 1 = len := hln
    exact lv_lconst hx hb hd rfl (kk H locs ls hH hl hnl)
  · obtain ⟨x, hv, rfl⟩ := Option.map_eq_some_iff.mp h
    obtain rfl : 2 = len := hln
    exact lv_ldc hx hb hown (hts _ (pv_ki_ok hv)) hd (kk H locs ls hH hl hnl)
  · obtain ⟨x, hv, rfl⟩ := Option.map_eq_some_iff.mp h
    obtain rfl : 3 = len := hln
    exact lv_ldcw hx hb hown (hts _ (pv_ki_ok hv)) hd (kk H locs ls hH hl hnl)
  · obtain ⟨x, hv, rfl⟩ := Option.map_eq_some_iff.mp h
    obtain rfl : 3 = len := hln
    exact lv_ldc2 hx hb hown (hts _ (pv_kl_ok hv)) hd (kk H locs ls hH hl hnl)
  · cases h
theorem pv_s1_ok {i : Nat} {v : Value} {lv' : pv_Lv} (h : pv_s1 lv i v = some lv') : pv_ok lv i = true ∧ lv' = lv.set i (some v) := by
  unfold pv_s1 at h
  split at h
  next e => cases h; exact ⟨e, rfl⟩
  next => cases h
theorem pv_s2_ok {i : Nat} {v : Value} {lv' : pv_Lv} (h : pv_s2 lv i v = some lv') : pv_ok lv i = true ∧ i + 1 < lv.length ∧ lv' = (lv.set i (some v)).set (i + 1) none := by
  unfold pv_s2 at h
  split at h
  next e => cases h; exact ⟨e.1, e.2, rfl⟩
  next => cases h
theorem pv_so_ok (G : pv_G p R s m args meth c D cI cR N0 scr L xs d y) (hd : decode (pv_by y) pc = .ok (ins, len)) (hln : pv_ln ins len = len) (h : pv_so ins k n pc lv st M = some t) (kk : pv_Go p l e R s m args below meth c D cI cR N0 scr nL Q t) : pv_Go p l e R s m args below meth c D cI cR N0 scr nL Q (k, n, pc, lv, st, M) := by
  intro H locs ls hH hl hnl
  obtain ⟨hx, hb, hml, hr, hlk, hin, hown, hts, ⟨hK, hAO, hNl⟩, hN, hsc, hR1, hR2, hR3, hR4⟩ := G
  dsimp only at hH hl hnl ⊢
  have hl0 := pv_L_has hl
  unfold pv_so at h
  split at h
  · obtain ⟨l1, hv, rfl⟩ := Option.map_eq_some_iff.mp h
    obtain ⟨hok, rfl⟩ := pv_s1_ok hv
    obtain rfl : 1 = len := hln
    exact lv_istore_n hx hb hd rfl hl0 (pv_ok_lt hok) rfl (fun ls' hl' => kk H locs ls' hH (pv_L_set1 hok hl') (by rw [← hnl]; simp))
  · obtain ⟨l1, hv, rfl⟩ := Option.map_eq_some_iff.mp h
    obtain ⟨hok, rfl⟩ := pv_s1_ok hv
    obtain rfl : 2 = len := hln
    exact lv_istore hx hb hd hl0 (pv_ok_lt hok) rfl (fun ls' hl' => kk H locs ls' hH (pv_L_set1 hok hl') (by rw [← hnl]; simp))
  · obtain ⟨l1, hv, rfl⟩ := Option.map_eq_some_iff.mp h
    obtain ⟨hok, rfl⟩ := pv_s1_ok hv
    obtain rfl : 1 = len := hln
    exact lv_astore_n hx hb hd rfl hl0 (pv_ok_lt hok) rfl (fun ls' hl' => kk H locs ls' hH (pv_L_set1 hok hl') (by rw [← hnl]; simp))
  · obtain ⟨l1, hv, rfl⟩ := Option.map_eq_some_iff.mp h
    obtain ⟨hok, rfl⟩ := pv_s1_ok hv
    obtain rfl : 2 = len := hln
    exact lv_astore hx hb hd hl0 (pv_ok_lt hok) rfl (fun ls' hl' => kk H locs ls' hH (pv_L_set1 hok hl') (by rw [← hnl]; simp))
  · obtain ⟨l1, hv, rfl⟩ := Option.map_eq_some_iff.mp h
    obtain ⟨hok, hlt, rfl⟩ := pv_s2_ok hv
    obtain rfl : 1 = len := hln
    exact lv_lstore_n hx hb hd rfl hl0 hlt rfl (fun ls' hl' => kk H locs ls' hH (pv_L_set2 hok hl') (by rw [← hnl]; simp))
  · obtain ⟨l1, hv, rfl⟩ := Option.map_eq_some_iff.mp h
    obtain ⟨hok, hlt, rfl⟩ := pv_s2_ok hv
    obtain rfl : 2 = len := hln
    exact lv_lstore hx hb hd hl0 hlt rfl (fun ls' hl' => kk H locs ls' hH (pv_L_set2 hok hl') (by rw [← hnl]; simp))
  · obtain ⟨x, hg, h2⟩ := Option.bind_eq_some_iff.mp h
    obtain ⟨l1, hv, rfl⟩ := Option.map_eq_some_iff.mp h2
    obtain ⟨hok, rfl⟩ := pv_s1_ok hv
    obtain rfl : 3 = len := hln
    obtain ⟨j, hj⟩ := List.getElem?_of_mem ((pv_ps_mem (N0 := N0) (scr := scr)).mpr ⟨_, pv_gi_ok hg, rfl⟩)
    exact lv_iinc hx hb hd hl0 hj rfl (pv_ok_lt hok) rfl (fun ls' hl' => kk H locs ls' hH (pv_L_set1 hok hl') (by rw [← hnl]; simp))
  · cases h
theorem pv_al_ok (G : pv_G p R s m args meth c D cI cR N0 scr L xs d y) (hd : decode (pv_by y) pc = .ok (ins, len)) (hln : pv_ln ins len = len) (h : pv_al ins k n pc lv st M = some t) (kk : pv_Go p l e R s m args below meth c D cI cR N0 scr nL Q t) : pv_Go p l e R s m args below meth c D cI cR N0 scr nL Q (k, n, pc, lv, st, M) := by
  intro H locs ls hH hl hnl
  obtain ⟨hx, hb, hml, hr, hlk, hin, hown, hts, ⟨hK, hAO, hNl⟩, hN, hsc, hR1, hR2, hR3, hR4⟩ := G
  dsimp only at hH hl hnl ⊢
  unfold pv_al at h
  obtain ⟨r, hv, rfl⟩ := Option.map_eq_some_iff.mp h
  have k1 := kk H locs ls hH hl hnl
  dsimp only at k1
  unfold pv_ax at hv
  split at hv
  · cases hv; obtain rfl : 1 = len := hln; exact lv_iadd hx hb hd k1
  · cases hv; obtain rfl : 1 = len := hln; exact lv_isub hx hb hd k1
  · cases hv; obtain rfl : 1 = len := hln; exact lv_imul hx hb hd k1
  · cases hv; obtain rfl : 1 = len := hln; exact lv_iand hx hb hd k1
  · cases hv; obtain rfl : 1 = len := hln; exact lv_ior hx hb hd k1
  · cases hv; obtain rfl : 1 = len := hln; exact lv_ixor hx hb hd k1
  · split at hv
    · cases hv
    · next hne => cases hv; obtain rfl : 1 = len := hln; exact lv_idiv hx hb hd hne k1
  · split at hv
    · cases hv
    · next hne => cases hv; obtain rfl : 1 = len := hln; exact lv_irem hx hb hd hne k1
  · cases hv; obtain rfl : 1 = len := hln; exact lv_ishl hx hb hd k1
  · cases hv; obtain rfl : 1 = len := hln; exact lv_ishr hx hb hd k1
  · cases hv; obtain rfl : 1 = len := hln; exact lv_iushr hx hb hd rfl k1
  · cases hv; obtain rfl : 1 = len := hln; exact lv_ladd hx hb hd k1
  · cases hv; obtain rfl : 1 = len := hln; exact lv_lsub hx hb hd k1
  · cases hv; obtain rfl : 1 = len := hln; exact lv_lmul hx hb hd k1
  · split at hv
    · cases hv
    · next hne => cases hv; obtain rfl : 1 = len := hln; exact lv_ldiv hx hb hd hne k1
  · split at hv
    · cases hv
    · next hne => cases hv; obtain rfl : 1 = len := hln; exact lv_lrem hx hb hd hne k1
  · cases hv; obtain rfl : 1 = len := hln; exact W.lcmp hx hb hd k1
  · cases hv; obtain rfl : 1 = len := hln; exact lv_i2l hx hb hd rfl k1
  · cases hv; obtain rfl : 1 = len := hln; exact lv_l2i hx hb hd rfl k1
  · cases hv; obtain rfl : 1 = len := hln; exact lv_i2b hx hb hd rfl k1
  · split at hv
    · next hc => cases hv; obtain rfl : 1 = len := hln; exact lv_dup hx hb hd (by rw [pv_V_cat]; exact hc) k1
    · cases hv
  · split at hv
    · next hc => cases hv; obtain rfl : 1 = len := hln; exact lv_pop hx hb hd (by rw [pv_V_cat]; exact hc) k1
    · cases hv
  · split at hv
    · next hc => cases hv; obtain rfl : 1 = len := hln; exact lv_dup2_11 hx hb hd (by rw [pv_V_cat]; exact hc.1) (by rw [pv_V_cat]; exact hc.2) k1
    · cases hv
  · cases hv
theorem pv_tg_ok {off : Int} {q : Nat} (h : pv_tg pc off = some q) : (pc : Int) + off = (q : Int) := by
  unfold pv_tg at h
  split at h
  next e => cases h; omega
  next => cases h
theorem pv_br_ok (G : pv_G p R s m args meth c D cI cR N0 scr L xs d y) (hd : decode (pv_by y) pc = .ok (ins, len)) (hln : pv_ln ins len = len) (h : pv_br ins k n pc lv st M = some t) (kk : pv_Go p l e R s m args below meth c D cI cR N0 scr nL Q t) : pv_Go p l e R s m args below meth c D cI cR N0 scr nL Q (k, n, pc, lv, st, M) := by
  intro H locs ls hH hl hnl
  obtain ⟨hx, hb, hml, hr, hlk, hin, hown, hts, ⟨hK, hAO, hNl⟩, hN, hsc, hR1, hR2, hR3, hR4⟩ := G
  dsimp only at hH hl hnl ⊢
  unfold pv_br at h
  obtain ⟨r, hv, rfl⟩ := Option.map_eq_some_iff.mp h
  have k1 := kk H locs ls hH hl hnl
  dsimp only at k1
  unfold pv_bx at hv
  split at hv
  · obtain ⟨q, hq, rfl⟩ := Option.map_eq_some_iff.mp hv
    obtain rfl : 3 = len := hln
    exact lv_goto hx hb hd (pv_tg_ok hq) k1
  · obtain ⟨q, hq, rfl⟩ := Option.map_eq_some_iff.mp hv
    obtain rfl : 3 = len := hln
    exact lv_if_eq hx hb hd (pv_tg_ok hq) (fun hc => by rw [if_pos hc] at k1; exact k1) (fun hc => by rw [if_neg hc] at k1; exact k1)
  · obtain ⟨q, hq, rfl⟩ := Option.map_eq_some_iff.mp hv
    obtain rfl : 3 = len := hln
    exact lv_if_ne hx hb hd (pv_tg_ok hq) (fun hc => by rw [if_neg hc] at k1; exact k1) (fun hc => by rw [if_pos hc] at k1; exact k1)
  · obtain ⟨q, hq, rfl⟩ := Option.map_eq_some_iff.mp hv
    obtain rfl : 3 = len := hln
    exact lv_if_lt hx hb hd (pv_tg_ok hq) (fun hc => by rw [if_pos hc] at k1; exact k1) (fun hc => by rw [if_neg hc] at k1; exact k1)
  · obtain ⟨q, hq, rfl⟩ := Option.map_eq_some_iff.mp hv
    obtain rfl : 3 = len := hln
    exact lv_if_ge hx hb hd (pv_tg_ok hq) (fun hc => by rw [if_pos hc] at k1; exact k1) (fun hc => by rw [if_neg hc] at k1; exact k1)
  · obtain ⟨q, hq, rfl⟩ := Option.map_eq_some_iff.mp hv
    obtain rfl : 3 = len := hln
    exact lv_if_gt hx hb hd (pv_tg_ok hq) (fun hc => by rw [if_pos hc] at k1; exact k1) (fun hc => by rw [if_neg hc] at k1; exact k1)
  · obtain ⟨q, hq, rfl⟩ := Option.map_eq_some_iff.mp hv
    obtain rfl : 3 = len := hln
    exact lv_if_le hx hb hd (pv_tg_ok hq) (fun hc => by rw [if_pos hc] at k1; exact k1) (fun hc => by rw [if_neg hc] at k1; exact k1)
  · obtain ⟨q, hq, rfl⟩ := Option.map_eq_some_iff.mp hv
    obtain rfl : 3 = len := hln
    exact lv_icmp_eq hx hb hd (pv_tg_ok hq) (fun hc => by rw [if_pos hc] at k1; exact k1) (fun hc => by rw [if_neg hc] at k1; exact k1)
  · obtain ⟨q, hq, rfl⟩ := Option.map_eq_some_iff.mp hv
    obtain rfl : 3 = len := hln
    exact lv_icmp_ne hx hb hd (pv_tg_ok hq) (fun hc => by rw [if_neg hc] at k1; exact k1) (fun hc => by rw [if_pos hc] at k1; exact k1)
  · obtain ⟨q, hq, rfl⟩ := Option.map_eq_some_iff.mp hv
    obtain rfl : 3 = len := hln
    exact lv_icmp_lt hx hb hd (pv_tg_ok hq) (fun hc => by rw [if_pos hc] at k1; exact k1) (fun hc => by rw [if_neg hc] at k1; exact k1)
  · obtain ⟨q, hq, rfl⟩ := Option.map_eq_some_iff.mp hv
    obtain rfl : 3 = len := hln
    exact lv_icmp_ge hx hb hd (pv_tg_ok hq) (fun hc => by rw [if_pos hc] at k1; exact k1) (fun hc => by rw [if_neg hc] at k1; exact k1)
  · obtain ⟨q, hq, rfl⟩ := Option.map_eq_some_iff.mp hv
    obtain rfl : 3 = len := hln
    exact lv_icmp_gt hx hb hd (pv_tg_ok hq) (fun hc => by rw [if_pos hc] at k1; exact k1) (fun hc => by rw [if_neg hc] at k1; exact k1)
  · obtain ⟨q, hq, rfl⟩ := Option.map_eq_some_iff.mp hv
    obtain rfl : 3 = len := hln
    exact lv_icmp_le hx hb hd (pv_tg_ok hq) (fun hc => by rw [if_pos hc] at k1; exact k1) (fun hc => by rw [if_neg hc] at k1; exact k1)
  · split at hv
    · next hc =>
      obtain ⟨q, hq, rfl⟩ := Option.map_eq_some_iff.mp hv
      exact lv_tableOut hx hb hd hc (pv_tg_ok hq) k1
    · next hc =>
      obtain ⟨off, ho, hv⟩ := Option.bind_eq_some_iff.mp hv
      obtain ⟨q, hq, rfl⟩ := Option.map_eq_some_iff.mp hv
      exact lv_tableIn hx hb hd (fun z => hc (Or.inl z)) (fun z => hc (Or.inr z)) ho (pv_tg_ok hq) k1
  · cases hv
theorem pv_in_ok {i : Int32} {z : Nat} (h : pv_in i z = true) : vp_in i z := by
  unfold pv_in at h
  simp only [Bool.and_eq_true, Bool.not_eq_true', decide_eq_false_iff_not, decide_eq_true_eq] at h
  rintro (q | q)
  · exact h.1 q
  · omega
theorem pv_V_nar {ty : FieldType} {v : Value} (h1 : narrow ty v = v) (h2 : fits ty v = true) : narrow ty (pv_V N0 scr v) = pv_V N0 scr v ∧ fits ty (pv_V N0 scr v) = true := by
  cases v <;> first | exact ⟨h1, h2⟩ | (cases ty <;> simp [fits] at h2 <;> exact ⟨rfl, rfl⟩)
theorem pv_set_obj {a ci f : Nat} {fs : List Value} {v : Value} {H1 : Heap} (h : va_P D pv_cl ((pv_w N0 scr cI cR M).set a (N0 + a, .inr (ci, (fs.map (pv_V N0 scr)).set f (pv_V N0 scr v)))) H1) : va_P D pv_cl (pv_w N0 scr cI cR (M.set a (.inr (.inr (ci, fs.set f v))))) H1 := by
  rw [← pv_w_set]
  show va_P D pv_cl ((pv_w N0 scr cI cR M).set a (N0 + a, .inr (ci, (fs.set f v).map (pv_V N0 scr)))) H1
  rw [List.map_set]
  exact h
theorem pv_set_int {a z : Nat} {g : Nat → Int32} {H1 : Heap} (h : va_P D pv_cl ((pv_w N0 scr cI cR M).set a (N0 + a, .inl (cI, z, .inl g))) H1) : va_P D pv_cl (pv_w N0 scr cI cR (M.set a (.inl (z, g)))) H1 := by
  rw [← pv_w_set]
  exact h
theorem pv_set_ref {a ci z j b : Nat} {g : Nat → Option Nat} {H1 : Heap} (h : va_P D pv_cl ((pv_w N0 scr cI cR M).set a (N0 + a, .inl (cR ci, z, .inr (.inr (.inr (.inr (va_up (fun i => (g i).map (fun b => N0 + b)) j (some (N0 + b))))))))) H1) : va_P D pv_cl (pv_w N0 scr cI cR (M.set a (.inr (.inl (ci, z, va_up g j (some b)))))) H1 := by
  rw [← pv_w_set]
  have e : (fun i => ((va_up g j (some b)) i).map (fun b => N0 + b)) = va_up (fun i => (g i).map (fun b => N0 + b)) j (some (N0 + b)) := by
    funext i
    unfold va_up
    by_cases hi : i = j
    · simp [hi]
    · simp [hi]
  show va_P D pv_cl ((pv_w N0 scr cI cR M).set a (N0 + a, .inl (cR ci, z, .inr (.inr (.inr (.inr (fun i => ((va_up g j (some b)) i).map (fun b => N0 + b)))))))) H1
  rw [e]
  exact h
theorem pv_ty_ok {ci : Nat} (h : ci < 3) : (pv_ty cI cR)[ci]? = some (cR ci, .object (pv_o ci)) := by
  match ci, h with
  | 0, _ => rfl
  | 1, _ => rfl
  | 2, _ => rfl
theorem pv_ty_cl {ci : Nat} (h : ci < 3) : ∃ r : vw_C, pv_cl[ci]? = some r ∧ (pv_ty cI cR)[ci]? = some (cR ci, .object r.1) := by
  match ci, h with
  | 0, _ => exact ⟨_, rfl, rfl⟩
  | 1, _ => exact ⟨_, rfl, rfl⟩
  | 2, _ => exact ⟨_, rfl, rfl⟩
theorem pv_me_ok (G : pv_G p R s m args meth c D cI cR N0 scr L xs d y) (hd : decode (pv_by y) pc = .ok (ins, len)) (hln : pv_ln ins len = len) (h : pv_me xs L ins y k n pc lv st M = some t) (kk : pv_Go p l e R s m args below meth c D cI cR N0 scr nL Q t) : pv_Go p l e R s m args below meth c D cI cR N0 scr nL Q (k, n, pc, lv, st, M) := by
  intro H locs ls hH hl hnl
  obtain ⟨hx, hb, hml, hr, hlk, hin, hown, hts, ⟨hK, hAO, hNl⟩, hN, hsc, hR1, hR2, hR3, hR4⟩ := G
  dsimp only at hH hl hnl ⊢
  obtain ⟨hP, hS, hk⟩ := id hH
  have hD := pv_w_D (N0 := N0) (scr := scr) (cI := cI) (cR := cR) (M := M)
  unfold pv_me at h
  split at h
  · -- getfield
    obtain rfl : 3 = len := hln
    split at h
    · next hM hlook =>
      split at h
      · next hcc =>
        subst hcc
        obtain ⟨v, hv, rfl⟩ := Option.map_eq_some_iff.mp h
        obtain ⟨⟨C, T, N⟩, hc, hf, -, hlink⟩ := pv_f_ok hlook
        obtain ⟨fs0, -, hu, -⟩ := pv_c_ok hc
        exact va_get (C := C) (T := T) (N := N) hx hb hts hu hown hK hP _ (pv_w_at hM) hc _ hf (hts _ hlink) (fun _ h9 => h9) (by rw [List.getElem?_map, hv]; rfl) hd (kk H locs ls hH hl hnl)
      · cases h
    · cases h
  · -- putfield
    obtain rfl : 3 = len := hln
    split at h
    · next hM hlook =>
      split at h
      · next hcc =>
        obtain ⟨rfl, hpt, hfl⟩ := hcc
        cases h
        obtain ⟨⟨C, T, N⟩, hc, hf, -, hlink⟩ := pv_f_ok hlook
        obtain ⟨fs0, -, hu, hpar, -, hnm, -⟩ := pv_c_ok hc
        unfold pv_pt at hpt
        rw [hc] at hpt
        simp only [Bool.and_eq_true, decide_eq_true_eq, Bool.or_eq_true, Bool.not_eq_true'] at hpt
        obtain ⟨⟨h1, h2⟩, -, h3⟩ := hpt
        obtain ⟨g1, g2⟩ := pv_V_nar (N0 := N0) (scr := scr) h1 h2
        rcases h3 with h3 | ⟨hfin, h3, h4⟩
        · exact va_put (C := C) (T := T) (N := N) hx hb hts hu (pv_ft _) hpar hnm hown hK hP hD hS _ (pv_w_at hM) hc _ hf (hts _ hlink) (fun _ h9 => h9) h3 (hpar _ hf) g1 g2 (by rw [List.length_map]; exact hfl) hd (fun H1 locs1 p1 _ p3 => kk H1 locs1 ls ⟨pv_set_obj p1, p3, by rw [List.length_set]; exact hk⟩ hl hnl)
        · exact va_putF (C := C) (T := T) (N := N) hx hb hts hu (pv_ft _) hpar hnm hown hK hP hD hS _ (pv_w_at hM) hc _ hf (hts _ hlink) (fun _ h9 => h9) hfin (by rw [hin (fun e9 => by rw [e9] at h3; exact absurd h3 (by decide))]; exact h3) h4 (hpar _ hf) g1 g2 (by rw [List.length_map]; exact hfl) hd (fun H1 locs1 p1 _ p3 => kk H1 locs1 ls ⟨pv_set_obj p1, p3, by rw [List.length_set]; exact hk⟩ hl hnl)
      · cases h
    · cases h
  · -- iaload
    obtain rfl : 1 = len := hln
    split at h
    · next hM =>
      split at h
      · next hi =>
        cases h
        exact va_iald hx hb hK hP _ 3 (pv_w_at hM) rfl (pv_in_ok hi) hd (kk H locs ls hH hl hnl)
      · cases h
    · cases h
  · -- iaload of the script
    obtain rfl : 1 = len := hln
    split at h
    · next hi =>
      cases h
      obtain ⟨x1, x2, x3⟩ := hsc hi.1
      exact va_sld hx hb x1 x2 x3 hS (pv_in_ok hi.2) hd (kk H locs ls hH hl hnl)
    · cases h
  · -- iastore
    obtain rfl : 1 = len := hln
    split at h
    · next hM =>
      split at h
      · next hi =>
        cases h
        exact va_iast hx hb hK hP hD hS _ 3 (pv_w_at hM) rfl (pv_in_ok hi) hd (fun H1 locs1 p1 _ p3 => kk H1 locs1 ls ⟨pv_set_int p1, p3, by rw [List.length_set]; exact hk⟩ hl hnl)
      · cases h
    · cases h
  · -- aaload
    obtain rfl : 1 = len := hln
    split at h
    · next hM =>
      split at h
      · next hi =>
        obtain ⟨b, hb1, rfl⟩ := Option.map_eq_some_iff.mp h
        have k1 := kk H locs ls hH hl hnl
        dsimp only at k1
        refine va_aldq hx hb hK hP _ _ (pv_w_at hM) (pv_ty_ok hi.1) (pv_in_ok hi.2) hd ?_
        rw [hb1]
        exact k1
      · cases h
    · cases h
  · -- aastore
    obtain rfl : 1 = len := hln
    split at h
    · next hM1 hM2 =>
      split at h
      · next hi =>
        obtain ⟨h3, rfl, hi⟩ := hi
        cases h
        obtain ⟨r, hc, ht⟩ := pv_ty_cl (cI := cI) (cR := cR) h3
        exact va_astq hx hb hK hP hD hS _ _ _ _ (pv_w_at hM1) ht (pv_w_at hM2) hc (pv_in_ok hi) hd (fun H1 locs1 p1 _ p3 => kk H1 locs1 ls ⟨pv_set_ref p1, p3, by rw [List.length_set]; exact hk⟩ hl hnl)
      · cases h
    · cases h
  · -- arraylength
    obtain rfl : 1 = len := hln
    split at h
    · next hM =>
      cases h
      exact va_alen hx hb hK hP _ 3 (pv_w_at hM) rfl rfl hd (kk H locs ls hH hl hnl)
    · next hM =>
      split at h
      · next hi =>
        cases h
        exact va_alen hx hb hK hP _ _ (pv_w_at hM) (pv_ty_ok hi) rfl hd (kk H locs ls hH hl hnl)
      · cases h
    · cases h
  · -- arraylength of the script
    obtain rfl : 1 = len := hln
    split at h
    · next hi =>
      cases h
      obtain ⟨x1, x2, x3⟩ := hsc hi
      exact va_slen hx hb x1 x2 x3 hS hd (kk H locs ls hH hl hnl)
    · cases h
  · cases h
end PS
end
section
/-! what makes cells; calls; returns; a whole run -/
section PS3
variable {p : Program} {l : Launch} {e : Env} {R : Room} {s : State} {m : MethodId} {args : Array Value} {below : List Frame} {meth : Method} {c : Code} {D : va_G} {cI : ClassId} {cR : Nat → ClassId} {N0 scr L nL : Nat} {xs : Nat → Int32} {Q : State → Prop} {d y k n pc len : Nat} {lv : pv_Lv} {st : List Value} {M : pv_M} {ins : Instr} {t : pv_St} {H : Heap} {locs : List Loc}
theorem pv_size {g : JFrame} (h : H.size ≤ s.heap.size + k → W p l e R s m args below meth c H locs k n Q g) : W p l e R s m args below meth c H locs k n Q g := fun T hT X => h (by rw [← hT]; exact X.heapSize) T hT X
theorem pv_addr {E : va_E} {q : Nat} {H1 : Heap} (hP1 : va_P D pv_cl (pv_w N0 scr cI cR M ++ [(q, E)]) H1) (hD1 : va_D (fun q => N0 ≤ q) (pv_w N0 scr cI cR M ++ [(q, E)])) (hz : H1.size ≤ N0 + M.length + 1) : q = N0 + M.length := by
  have hlen : (pv_w N0 scr cI cR M).length = M.length := by simp [pv_w]
  have hq : (pv_w N0 scr cI cR M ++ [(q, E)])[M.length]? = some (q, E) := by
    rw [List.getElem?_append_right (by omega), hlen]
    simp
  have h1 : N0 ≤ q := hD1.2 _ _ hq
  have h2 : q < H1.size := (hP1 _ _ hq).lt
  rcases Nat.lt_or_ge q (N0 + M.length) with h3 | h3
  · exfalso
    obtain ⟨i, rfl⟩ : ∃ i, q = N0 + i := ⟨q - N0, by omega⟩
    have hi : i < M.length := by omega
    have h4 : (pv_w N0 scr cI cR M ++ [(N0 + i, E)])[i]? = some (N0 + i, pv_E N0 scr cI cR M[i]) := by
      rw [List.getElem?_append_left (by omega)]
      exact pv_w_at (List.getElem?_eq_getElem hi)
    have := hD1.1 i M.length _ _ h4 hq rfl
    omega
  · omega
theorem pv_df_V {ci : Nat} {fs : List Value} (h : pv_df[ci]? = some fs) : fs.map (pv_V N0 scr) = fs := by
  match ci, h with
  | 0, h => cases h; rfl
  | 1, h => cases h; rfl
  | 2, h => cases h; rfl
  | 3, h => cases h; rfl
  | 4, h => cases h; rfl
  | 5, h => cases h; rfl
  | 6, h => cases h; rfl
  | j + 7, h => simp [pv_df] at h
theorem pv_c6_ok {o i ci b : Nat} (h : pv_look o i = some (6, ci, b)) : ci < 7 ∧ Cond.classLink (pv_o o) i (pv_o ci) ∈ pv_W := by
  have h1 := pv_look_ok h
  simp only [pv_lkok, Bool.and_eq_true, decide_eq_true_eq] at h1
  exact ⟨h1.1, pv_Wi (pv_fm pv_hl h1.2) rfl⟩
theorem pv_mk_ok (G : pv_G p R s m args meth c D cI cR N0 scr L xs d y) (hnL : nL = pv_ml y) (hd : decode (pv_by y) pc = .ok (ins, len)) (hln : pv_ln ins len = len) (h : pv_mk ins d y k n pc lv st M = some t) (kk : pv_Go p l e R s m args below meth c D cI cR N0 scr nL Q t) : pv_Go p l e R s m args below meth c D cI cR N0 scr nL Q (k, n, pc, lv, st, M) := by
  intro H locs ls hH hl hnl
  obtain ⟨hx, hb, hml, hr, hlk, hin, hown, hts, ⟨hK, hAO, hNl⟩, hN, hsc, hR1, hR2, hR3, hR4⟩ := G
  dsimp only at hH hl hnl ⊢
  obtain ⟨hP, hS, hk⟩ := id hH
  have hD := pv_w_D (N0 := N0) (scr := scr) (cI := cI) (cR := cR) (M := M)
  have hA : ∀ q, s.heap.size ≤ q → (fun q => N0 ≤ q) q := fun q hq => Nat.le_trans hN hq
  have hmls : c.maxLocals = ls.size := by rw [hml, hl.1, hnl, hnL]
  obtain ⟨m1, m2, m3, m4, m5, m6, m7, m8, m9, -⟩ := pv_w_misc
  unfold pv_mk at h
  split at h
  · -- new
    obtain rfl : 3 = len := hln
    split at h
    · next hlook =>
      split at h
      · next q fs hc hdf =>
        split at h
        · next hroom =>
          cases h
          obtain ⟨fs0, hdf0, hu, hpar, hdv, hnm, hinst, hini, hcn, hlen⟩ := pv_c_ok hc
          obtain ⟨C, T, N⟩ := q
          obtain rfl : fs0 = fs := Option.some.inj (hdf0.symm.trans hdf)
          have hl6 := (pv_c6_ok hlook).2
          rw [hcn] at hl6
          refine va_new (C := C) (T := T) (N := N) (fs := fs0) hx hb hts hu (pv_ft _) hpar hown (hts _ hl6) (hts _ hinst) (hts _ hini) hK hP hD hS hA hc hdv (Nat.le_trans hroom.1 hR3) (Nat.le_trans hroom.2 hR4) hd (fun q1 H1 p1 p2 p3 => pv_size fun hz => ?_)
          obtain rfl := pv_addr p1 p2 (by omega)
          refine kk H1 locs ls ⟨?_, p3, by rw [List.length_append]; dsimp only [List.length_cons, List.length_nil]; omega⟩ hl hnl
          dsimp only
          rw [pv_w_app]
          show va_P D pv_cl (pv_w N0 scr cI cR M ++ [(N0 + M.length, .inr (_, fs0.map (pv_V N0 scr)))]) H1
          rw [pv_df_V hdf]
          exact p1
        · cases h
      · cases h
    · cases h
  · -- newarray
    obtain rfl : 2 = len := hln
    split at h
    · next z r hc =>
      cases h
      refine va_newa (a0 := (z.toNatClampNeg, .inl (fun _ => 0))) hx hb (atype := .int) (hts _ (pv_Wi m6 rfl)) rfl hK hP hD hS hA (fun _ => rfl) hc.1 rfl (by show z.toNatClampNeg * 4 ≤ 536870912; omega) (by omega) (by omega) hd (fun q1 cA H1 p0 p1 p2 p3 => pv_size fun hz => ?_)
      have e1 : s.vm.findClass ("[" ++ FieldType.int.toString) = some cA := (p0.2 4 _ rfl).2
      have e2 : s.vm.findClass ("[" ++ FieldType.int.toString) = some cI := (hK.2 3 _ rfl).2
      obtain rfl : cA = cI := Option.some.inj (e1.symm.trans e2)
      obtain rfl := pv_addr p1 p2 (by omega)
      refine kk H1 locs ls ⟨?_, p3, by rw [List.length_append]; dsimp only [List.length_cons, List.length_nil]; omega⟩ hl hnl
      dsimp only
      rw [pv_w_app]
      exact p1
    · cases h
  · -- anewarray
    obtain rfl : 3 = len := hln
    split at h
    · next hlook =>
      split at h
      · next hc =>
        cases h
        have hl6 := (pv_c6_ok hlook).2
        refine va_newq hx hb hown (hts _ hl6) (hAO _ hc.1) hK hP hD hS hA hc.2.1 rfl (by omega) (by omega) (by omega) hd (fun q1 cA H1 p0 p1 p2 p3 => pv_size fun hz => ?_)
        obtain ⟨_, _, -, -, -, e1⟩ := (p0.2 4 _ rfl).2
        obtain ⟨_, _, -, -, -, e2⟩ := (hK.2 _ _ (pv_ty_ok hc.1)).2
        obtain rfl := Option.some.inj (e1.symm.trans e2)
        obtain rfl := pv_addr p1 p2 (by omega)
        refine kk H1 locs ls ⟨?_, p3, by rw [List.length_append]; dsimp only [List.length_cons, List.length_nil]; omega⟩ hl hnl
        dsimp only
        rw [pv_w_app]
        exact p1
      · cases h
    · cases h
  · -- arraycopy
    obtain rfl : 3 = len := hln
    split at h
    · next hlook hM1 hM2 =>
      split at h
      · next hc =>
        cases h
        obtain ⟨c1, c2, c3, c4, c5, c6, c7⟩ := hc
        have h5 := pv_look_ok hlook
        simp only [pv_lkok, decide_eq_true_eq] at h5
        have hlink := pv_Wi (pv_fm pv_hsy h5) rfl
        refine va_copyi hx hb hmls hown (hts _ hlink) (hts _ (pv_Wi m3 rfl)) (hts _ (pv_Wi m4 rfl)) (hts _ (pv_Wi m5 rfl)) hK hP hD hS _ _ 3 3 (pv_w_at hM1) (pv_w_at hM2) rfl rfl rfl c3 c4 c5 c6 c7 (fun _ _ => rfl) (by omega) ?_ hd (fun H1 locs1 p1 _ p3 => kk H1 locs1 ls ⟨pv_set_int p1, p3, by rw [List.length_set]; exact hk⟩ hl hnl)
        rw [pv_V_sum]
        have e7 : nativeFrameWords "java/lang/System" "arraycopy" 5 = 7 := by decide
        rw [e7]
        omega
      · cases h
    · cases h
  · -- Math.min
    obtain rfl : 3 = len := hln
    split at h
    · next hlook =>
      split at h
      · next hc =>
        cases h
        obtain ⟨c1, c2, c3, c4⟩ := hc
        have h5 := pv_look_ok hlook
        simp only [pv_lkok, decide_eq_true_eq] at h5
        have hlink := pv_Wi (pv_fm pv_hx h5) rfl
        refine va_mmin hx hb hmls hown (hts _ hlink) (hts _ (pv_Wi m7 rfl)) (hts _ (pv_Wi m8 rfl)) (hts _ (pv_Wi m9 rfl)) (by omega) ?_ (by omega) (by omega) hd (kk H locs ls hH hl hnl)
        rw [pv_V_sum]
        omega
      · cases h
    · cases h
  · -- Object.<init>
    obtain rfl : 3 = len := hln
    split at h
    · next hlook =>
      split at h
      · next hc =>
        cases h
        have h5 := pv_look_ok hlook
        simp only [pv_lkok, decide_eq_true_eq] at h5
        have hlink := pv_Wi (pv_fm pv_hob h5) rfl
        refine W.objInit hx hb hown (hts _ hlink) (hts _ (pv_Wi m1 rfl)) (hts _ (pv_Wi m2 rfl)) rfl hmls.symm rfl hd (by omega) ?_ (kk H locs ls hH hl hnl)
        rw [pv_V_sum]
        show 2 * 0 + _ + 12 ≤ _
        omega
      · cases h
    · cases h
  · cases h
/-- a call, by what its run says -/
theorem pv_callg {v : Option Value} {B : State → Prop} {A : Nat → Prop} {H0 : Heap} {ls : Array Slot} {mc ms : Nat} {st0 rest : List Value} {free : Addr → Prop}
    (hr : va_Run p l e R s m args below meth c H locs k n mc ms (F0 m pc ls st0) rest (fun st oc t => (oc = .returned v ∧ B t) ∧ va_F A st t) free) (hS : va_S A H0 H locs) (hf : ∀ q, free q → A q)
    (kk : ∀ (H1 : Heap) (locs1 : List Loc), (∃ t : State, t.heap = H1 ∧ B t) → va_S A H0 H1 locs1 → W p l e R s m args below meth c H1 locs1 (k + mc) (n + ms) Q (F0 m (pc + 3) ls (v.toList ++ rest))) : W p l e R s m args below meth c H locs k n Q (F0 m pc ls st0) := by
  intro T hT X
  obtain ⟨w, st₀, t, T', L, h0, X', hL, e1, e2, ⟨⟨hv, hB⟩, hz, hk⟩, st⟩ := hr T hT X
  cases hv
  rw [h0] at hz hk
  obtain ⟨t2, a1, b1⟩ := kk T'.heap (locs ++ L) ⟨t, e1.symm, hB⟩ ⟨Nat.le_trans hS.1 (by rw [e1]; exact hz), fun q h1 h2 => by rw [e1, hk q (Nat.lt_of_lt_of_le h1 hS.1) h2]; exact hS.2.1 q h1 h2, fun q hq => by
      rcases List.mem_append.mp hq with h | h
      · exact hS.2.2 q h
      · exact hf _ (hL q h)⟩ T' rfl X'
  exact ⟨t2, st t2 a1, b1⟩
/-- a method's words, room, start and end -/
def pv_ws (z : Nat) : List Cond := .code (pv_nm z) (pv_by z) (pv_ml z) (pv_rt z) :: pv_W
def pv_rm (z d : Nat) : Room := { frames := d, cells := pv_mc z, slots := pv_ms z, locals := 60 * d }
def pv_Pc (D : va_G) (cI : ClassId) (cR : Nat → ClassId) (N0 scr : Nat) (M : pv_M) (as : List Value) : Array Value → State → Prop := va_Pc (as.map (pv_V N0 scr)) (fun U => U.heap.size = N0 + M.length ∧ va_P D pv_cl (pv_w N0 scr cI cR M) U.heap ∧ pv_K D cI cR U)
def pv_Qc (D : va_G) (cI : ClassId) (cR : Nat → ClassId) (N0 scr z : Nat) (M : pv_M) (v : Option Value) (M1 : pv_M) : Array Value → State → Outcome → State → Prop := fun _ st oc t => (oc = .returned (v.map (pv_V N0 scr)) ∧ va_P D pv_cl (pv_w N0 scr cI cR M1) t.heap ∧ M1.length = M.length + pv_mc z) ∧ va_F (fun q => N0 ≤ q) st t
theorem pv_Pc_blind {as : List Value} : FrameBlind (pv_Pc D cI cR N0 scr M as) := fun a U g mk q => by
  obtain ⟨q0, q1, qP, qK⟩ := q
  exact ⟨q0, q1, qP, pv_K.same (s := U) (U := U.calling g mk a) rfl qK⟩
theorem pv_gin {ws : List Cond} (h : ∀ w ∈ ws, w ∈ pv_W) : GoodIn pv_W ws := fun w hw => pv_Wg w (h w hw)
theorem pv_ws_in {z : Nat} (hz : z < pv_law) : ∀ w ∈ pv_ws z, w ∈ pv_W := by
  intro w hw
  rcases List.mem_cons.mp hw with rfl | hw
  · exact (pv_m_ok hz).1
  · exact hw
theorem pv_fit_ok {z : Nat} {as r : List Value} (h : pv_fit z y k n as r = true) : (pv_pl as).length ≤ pv_ml z ∧ (r.map fun v => v.category).sum ≤ 8 ∧ k + pv_mc z ≤ pv_mc y ∧ n + pv_ms z ≤ pv_ms y ∧ z ≠ pv_law := by
  unfold pv_fit at h
  simp only [Bool.and_eq_true, decide_eq_true_eq, Bool.not_eq_true', beq_eq_false_iff_ne] at h
  obtain ⟨⟨⟨⟨h1, h2⟩, h3⟩, h4⟩, h5⟩ := h
  exact ⟨h1, h2, h3, h4, h5⟩
theorem pv_low (hP : va_P D pv_cl (pv_w N0 scr cI cR M) H) (hS : va_S (fun q => N0 ≤ q) s.heap H locs) (hN : N0 ≤ s.heap.size) : N0 + M.length ≤ H.size := by
  rcases Nat.eq_zero_or_pos M.length with h | h
  · have := hS.1; omega
  · have h1 : M.length - 1 < M.length := by omega
    have h2 := (hP _ _ (pv_w_at (List.getElem?_eq_getElem h1))).lt
    dsimp only at h2
    omega
/-- what a call needs to be told -/
def pv_CallOk (l : Launch) (D : va_G) (cI : ClassId) (cR : Nat → ClassId) (N0 scr : Nat) (d z : Nat) (as : List Value) (M : pv_M) (v : Option Value) (M1 : pv_M) : Prop :=
  Met l (pv_nm z) (pv_ws z) (pv_rm z d) (pv_Pc D cI cR N0 scr M as) (pv_Qc D cI cR N0 scr z M v M1) (pv_mc z) (pv_ms z) (fun q => N0 ≤ q)
theorem pv_ca_fit {z : Nat} {as r : List Value} (h : pv_ca ins y k n st M = some (z, as, r)) : z < pv_law ∧ pv_fit z y k n as r = true := by
  unfold pv_ca at h
  split at h
  · split at h
    · next tg z' np hlook =>
      have hlk := pv_look_ok hlook
      split at h
      · next htg =>
        split at h
        · split at h
          · split at h
            · next hcc =>
              cases h
              refine ⟨?_, hcc.2.2⟩
              rcases htg with rfl | rfl <;> simp only [pv_lkok, Bool.and_eq_true, decide_eq_true_eq] at hlk
              · exact hlk.1.1.1.1.1
              · exact hlk.1.1.1.1.1
            · cases h
          · cases h
        · cases h
      · cases h
    · cases h
  · split at h
    · next z' np hlook =>
      have hlk := pv_look_ok hlook
      split at h
      · next hcc =>
        cases h
        simp only [pv_lkok, Bool.and_eq_true, decide_eq_true_eq] at hlk
        exact ⟨hlk.1.1.1, hcc.2⟩
      · cases h
    · cases h
  · split at h
    · next tg z' np hlook =>
      have hlk := pv_look_ok hlook
      split at h
      · next htg =>
        split at h
        · split at h
          · next hcc =>
            cases h
            refine ⟨?_, hcc.2⟩
            rcases htg with rfl | rfl <;> simp only [pv_lkok, Bool.and_eq_true, decide_eq_true_eq] at hlk
            · exact hlk.1.1.1.1.1
            · exact hlk.1.1.1.1.1
          · cases h
        · cases h
      · cases h
    · cases h
  · cases h
theorem pv_ca_ok {z : Nat} {as r : List Value} {v : Option Value} {M1 : pv_M} (G : pv_G p R s m args meth c D cI cR N0 scr L xs (d + 1) y) (hnL : nL = pv_ml y) (hd : decode (pv_by y) pc = .ok (ins, len)) (hln : pv_ln ins len = len) (h : pv_ca ins y k n st M = some (z, as, r)) (hM : pv_CallOk l D cI cR N0 scr d z as M v M1) (kk : pv_Go p l e R s m args below meth c D cI cR N0 scr nL Q (k + pv_mc z, n + pv_ms z, pc + 3, lv, v.toList ++ r, M1)) : pv_Go p l e R s m args below meth c D cI cR N0 scr nL Q (k, n, pc, lv, st, M) := by
  intro H locs ls hH hl hnl
  have hz : z < pv_law ∧ (pv_pl as).length ≤ pv_ml z ∧ (r.map fun v => v.category).sum ≤ 8 ∧ k + pv_mc z ≤ pv_mc y ∧ n + pv_ms z ≤ pv_ms y ∧ z ≠ pv_law := ⟨(pv_ca_fit h).1, pv_fit_ok (pv_ca_fit h).2⟩
  obtain ⟨hx, hb, hml, hr, hlk, hin, hown, hts, hK, hN, hsc, hR1, hR2, hR3, hR4⟩ := G
  dsimp only at hH hl hnl ⊢
  obtain ⟨hP, hS, hk⟩ := id hH
  obtain ⟨hzl, f1, f2, f3, f4, f5⟩ := hz
  obtain ⟨w1, w2, w3, w4, w5, w6, w7⟩ := pv_m_ok hzl
  refine pv_size fun hsz => ?_
  have hlow := pv_low hP hS hN
  have hroom : (pv_rm z d).frames + 1 ≤ R.frames ∧ 8 + (pv_ml z + 11) + (pv_rm z d).locals ≤ R.locals := ⟨by show d + 1 ≤ _; omega, by show 8 + (pv_ml z + 11) + 60 * d ≤ _; omega⟩
  have hcont : ∀ (H1 : Heap) (locs1 : List Loc), (∃ t : State, t.heap = H1 ∧ (va_P D pv_cl (pv_w N0 scr cI cR M1) t.heap ∧ M1.length = M.length + pv_mc z)) → va_S (fun q => N0 ≤ q) s.heap H1 locs1 → W p l e R s m args below meth c H1 locs1 (k + pv_mc z) (n + pv_ms z) Q (F0 m (pc + 3) ls ((v.map (pv_V N0 scr)).toList ++ r.map (pv_V N0 scr))) := by
    rintro H1 locs1 ⟨t, ht, b1, b2⟩ hS1
    rw [ht] at b1
    have k1 := kk H1 locs1 ls ⟨b1, hS1, by dsimp only; omega⟩ hl hnl
    dsimp only at k1
    rw [List.map_append] at k1
    cases v <;> exact k1
  have hpre : ∀ U : State, U.heap = H → s.WarmedH U.vm → pv_Pc D cI cR N0 scr M as (as.map (pv_V N0 scr)).toArray U := fun U hU hW => ⟨rfl, by rw [hU]; omega, by rw [hU]; exact hP, hK.warm hW⟩
  have hsz2 : ls.size = pv_ml y := by rw [hl.1, hnl, hnL]
  have hrr : ∀ {pc' : Nat} {st' : List Value}, 2 * (F0 m pc' ls st').monitorRoom + ((r.map (pv_V N0 scr)).map fun v => v.category).sum ≤ 8 := by
    intro pc' st'
    apply lv_room
    rw [pv_V_sum]
    exact f2
  unfold pv_ca at h
  split at h
  · -- invokevirtual
    obtain rfl : 3 = len := hln
    split at h
    · next tg z' np hlook =>
      split at h
      · next htg =>
        split at h
        · next a r' hdrop =>
          split at h
          · next ci fs hMa =>
            split at h
            · next hcc =>
              cases h
              obtain ⟨hci, htake, -⟩ := hcc
              have hst : st.map (pv_V N0 scr) = (((st.take np).reverse).map (pv_V N0 scr)).reverse ++ Value.ref (N0 + a) :: r.map (pv_V N0 scr) := by
                rw [List.map_reverse, List.reverse_reverse]
                conv => lhs; rw [← List.take_append_drop np st, hdrop]
                rw [List.map_append]
                rfl
              have hlk9 := pv_look_ok hlook
              have hn9 : (((st.take np).reverse).map (pv_V N0 scr)).length = np := by rw [List.length_map, List.length_reverse]; exact htake
              have h7 : ci < 7 := by
                rcases htg with rfl | rfl <;> simp only [pv_lkok, Bool.and_eq_true, decide_eq_true_eq] at hlk9
                · rw [hci]; exact hlk9.2
                · rw [hci]; exact hlk9.2
              have hrecv : ∀ C, C = pv_on z → ∃ cellB : Cell, H[N0 + a]? = some cellB ∧ cellB.vm.isStatics = false ∧ s.vm.findClass C = some cellB.cls := by
                intro C hC
                have hc7 : pv_cl[ci]? = some pv_cl[ci] := List.getElem?_eq_getElem h7
                have := va_recv hK.1 hP hc7 (pv_w_at hMa)
                obtain ⟨fs0, -, -, -, -, -, -, -, hcn, -⟩ := pv_c_ok hc7
                rw [show C = pv_cl[ci].1 from by rw [hC, ← hcn, hci]]
                exact this
              rcases htg with rfl | rfl
              · simp only [pv_lkok, pv_np, Bool.and_eq_true, decide_eq_true_eq] at hlk9
                obtain ⟨⟨⟨⟨⟨-, g1⟩, g2⟩, g3⟩, g4⟩, g5⟩ := hlk9
                have hw := pv_gin (ws := wsV (pv_on y) _ (pv_nm z).cls (pv_nm z) (pv_ws z)) (by
                  intro w hw
                  unfold wsV at hw
                  rcases List.mem_append.mp hw with hw | hw
                  · simp only [List.mem_cons, List.not_mem_nil, or_false] at hw
                    rcases hw with rfl | rfl | rfl | rfl
                    · exact pv_Wi (pv_fm pv_hm g2) rfl
                    · exact pv_Wi (pv_fm pv_hi g3) rfl
                    · rw [w3]; exact pv_Wi (pv_fm pv_hv g4) rfl
                    · exact w2
                  · exact pv_ws_in hzl w hw)
                refine pv_callg (va_runV (As := ((st.take np).reverse).map (pv_V N0 scr)) (rest := r.map (pv_V N0 scr)) ⟨hx, hb, hml, hown, hts⟩ hM (cwV np hts hw rfl rfl rfl ⟨rfl, w4, w5, g1⟩ hroom) ⟨pv_Pc_blind, hrecv _ w3, hpre⟩ rfl hn9 hsz2 hst hrr hd ⟨by omega, by omega⟩) hS (fun _ h => h) hcont
              · simp only [pv_lkok, pv_np, Bool.and_eq_true, decide_eq_true_eq] at hlk9
                obtain ⟨⟨⟨⟨⟨-, g1⟩, g2⟩, g3⟩, g4⟩, g5⟩ := hlk9
                have g4' : (Cond.selects (pv_on z) (pv_nm z) (pv_nm z)).before args s = true := hts _ (pv_Wi (pv_fm pv_hv g4) rfl)
                refine pv_callg (va_runVN (C := pv_on z) (As := ((st.take np).reverse).map (pv_V N0 scr)) (rest := r.map (pv_V N0 scr)) ⟨hx, hb, hml, hown, hts⟩ hM ⟨va_cnB np hts (pv_gin (pv_ws_in hzl)) rfl rfl rfl (hK.2.2 _ g2) (hts _ w2) ⟨w4, w5, g1⟩ hroom, hts _ (pv_Wi (pv_fm pv_hi g3) rfl), g4'⟩ ⟨pv_Pc_blind, hrecv _ rfl, hpre⟩ rfl hn9 hsz2 hst hrr hd ⟨by omega, by omega⟩) hS (fun _ h => h) hcont
            · cases h
          · cases h
        · cases h
      · cases h
    · cases h
  · -- invokestatic
    obtain rfl : 3 = len := hln
    split at h
    · next z' np hlook =>
      split at h
      · next hcc =>
        cases h
        obtain ⟨htake, -⟩ := hcc
        have hst : st.map (pv_V N0 scr) = (((st.take np).reverse).map (pv_V N0 scr)).reverse ++ (st.drop np).map (pv_V N0 scr) := by
          rw [List.map_reverse, List.reverse_reverse, ← List.map_append, List.take_append_drop]
        have hlk9 := pv_look_ok hlook
        have hn9 : (((st.take np).reverse).map (pv_V N0 scr)).length = np := by rw [List.length_map, List.length_reverse]; exact htake
        simp only [pv_lkok, pv_np, Bool.and_eq_true, decide_eq_true_eq] at hlk9
        obtain ⟨⟨⟨-, g1⟩, g2⟩, g3⟩ := hlk9
        have hw := pv_gin (ws := va_wsS (pv_on y) _ (pv_nm z) (pv_ws z)) (by
          intro w hw
          unfold va_wsS at hw
          rcases List.mem_append.mp hw with hw | hw
          · simp only [List.mem_cons, List.not_mem_nil, or_false] at hw
            rcases hw with rfl | rfl | rfl
            · exact pv_Wi (pv_fm pv_hm g2) rfl
            · exact pv_Wi (pv_fm pv_hs g3) rfl
            · exact w2
          · exact pv_ws_in hzl w hw)
        refine pv_callg (va_runS (As := ((st.take np).reverse).map (pv_V N0 scr)) (rest := (st.drop np).map (pv_V N0 scr)) ⟨hx, hb, hml, hown, hts⟩ hM (va_cwS np hts hw rfl rfl rfl ⟨w4, w5, g1⟩ hroom) ⟨pv_Pc_blind, hpre⟩ rfl hn9 hsz2 hst hrr hd ⟨by omega, by omega⟩) hS (fun _ h => h) hcont
      · cases h
    · cases h
  · -- invokespecial
    obtain rfl : 3 = len := hln
    split at h
    · next tg z' np hlook =>
      split at h
      · next htg =>
        split at h
        · next a r' hdrop =>
          split at h
          · next hcc =>
            cases h
            obtain ⟨htake, -⟩ := hcc
            have hst : st.map (pv_V N0 scr) = (((st.take np).reverse).map (pv_V N0 scr)).reverse ++ Value.ref (N0 + a) :: r.map (pv_V N0 scr) := by
              rw [List.map_reverse, List.reverse_reverse]
              conv => lhs; rw [← List.take_append_drop np st, hdrop]
              rw [List.map_append]
              rfl
            have hlk9 := pv_look_ok hlook
            have hn9 : (((st.take np).reverse).map (pv_V N0 scr)).length = np := by rw [List.length_map, List.length_reverse]; exact htake
            rcases htg with rfl | rfl
            · simp only [pv_lkok, pv_np, Bool.and_eq_true, decide_eq_true_eq] at hlk9
              obtain ⟨⟨⟨⟨⟨-, g1⟩, g2⟩, g3⟩, g4⟩, g5⟩ := hlk9
              have hM2 := hM
              unfold pv_CallOk pv_ws at hM2
              rw [g5] at hM2
              refine pv_callg (va_runI (As := ((st.take np).reverse).map (pv_V N0 scr)) (rest := r.map (pv_V N0 scr)) ⟨hx, hb, hml, hown, hts⟩ hM2 (cwI np hts (pv_gin (fun w hw => pv_ws_in hzl w (by unfold pv_ws; rw [g5]; exact hw))) rfl rfl rfl (hts _ w2) (hts _ (pv_Wi (pv_fm pv_hm g2) rfl)) (hts _ (pv_Wi (pv_fm pv_hi g3) rfl)) g4 ⟨w4, w5, g1⟩ hroom) ⟨pv_Pc_blind, hpre⟩ rfl hn9 hsz2 hst hrr hd ⟨by omega, by omega⟩) hS (fun _ h => h) hcont
            · simp only [pv_lkok, pv_np, Bool.and_eq_true, decide_eq_true_eq] at hlk9
              obtain ⟨⟨⟨⟨⟨-, g1⟩, g2⟩, g3⟩, g4⟩, g5⟩ := hlk9
              have hM2 := hM
              unfold pv_CallOk pv_ws at hM2
              rw [g5] at hM2
              refine pv_callg (va_runIN (As := ((st.take np).reverse).map (pv_V N0 scr)) (rest := r.map (pv_V N0 scr)) ⟨hx, hb, hml, hown, hts⟩ hM2 ⟨va_cnB np hts (pv_gin (fun w hw => pv_ws_in hzl w (by unfold pv_ws; rw [g5]; exact hw))) rfl rfl rfl (hK.2.2 _ g2) (hts _ w2) ⟨w4, w5, g1⟩ hroom, g4, hts _ (pv_Wi (pv_fm pv_hi g3) rfl)⟩ ⟨pv_Pc_blind, hpre⟩ rfl hn9 hsz2 hst hrr hd ⟨by omega, by omega⟩) hS (fun _ h => h) hcont
          · cases h
        · cases h
      · cases h
    · cases h
  · cases h
/-- a step that goes on -/
theorem pv_one_ok (G : pv_G p R s m args meth c D cI cR N0 scr L xs d y) (hnL : nL = pv_ml y) (h : pv_one xs L d y k n pc lv st M = some (.inl t)) (kk : pv_Go p l e R s m args below meth c D cI cR N0 scr nL Q t) : pv_Go p l e R s m args below meth c D cI cR N0 scr nL Q (k, n, pc, lv, st, M) := by
  unfold pv_one at h
  split at h
  · next ins len hd =>
    split at h
    · next hln =>
      split at h
      · next h1 => cases h; exact pv_ld_ok G hd hln h1 kk
      · split at h
        · next h1 => cases h; exact pv_so_ok G hd hln h1 kk
        · split at h
          · next h1 => cases h; exact pv_al_ok G hd hln h1 kk
          · split at h
            · next h1 => cases h; exact pv_br_ok G hd hln h1 kk
            · split at h
              · next h1 => cases h; exact pv_me_ok G hd hln h1 kk
              · split at h
                · next h1 => cases h; exact pv_mk_ok G hnL hd hln h1 kk
                · split at h
                  · cases h
                  · obtain ⟨v, hv, he⟩ := Option.map_eq_some_iff.mp h
                    cases he
    · cases h
  · cases h
theorem pv_one_ca {q : Nat × List Value × List Value} (h : pv_one xs L d y k n pc lv st M = some (.inr (.inl q))) : ∃ ins len, decode (pv_by y) pc = .ok (ins, len) ∧ pv_ln ins len = len ∧ pv_ca ins y k n st M = some q := by
  unfold pv_one at h
  split at h
  · next ins len hd =>
    split at h
    · next hln =>
      split at h
      · cases h
      · split at h
        · cases h
        · split at h
          · cases h
          · split at h
            · cases h
            · split at h
              · cases h
              · split at h
                · cases h
                · split at h
                  · next h1 => cases h; exact ⟨ins, len, hd, hln, h1⟩
                  · obtain ⟨v, hv, he⟩ := Option.map_eq_some_iff.mp h
                    cases he
    · cases h
  · cases h
theorem pv_one_re {v : Option Value} (h : pv_one xs L d y k n pc lv st M = some (.inr (.inr v))) : ∃ ins len, decode (pv_by y) pc = .ok (ins, len) ∧ pv_ln ins len = len ∧ pv_re ins y k n st = some v := by
  unfold pv_one at h
  split at h
  · next ins len hd =>
    split at h
    · next hln =>
      split at h
      · cases h
      · split at h
        · cases h
        · split at h
          · cases h
          · split at h
            · cases h
            · split at h
              · cases h
              · split at h
                · cases h
                · split at h
                  · cases h
                  · obtain ⟨v, hv, he⟩ := Option.map_eq_some_iff.mp h
                    cases he
                    exact ⟨ins, len, hd, hln, hv⟩
    · cases h
  · cases h
/-- the end of a method, as its contract has it -/
theorem pv_re_ok {v : Option Value} {M0 : pv_M} (G : pv_G p R s m args meth c D cI cR N0 scr L xs d y) (hy : y ≠ pv_law) (hs0 : s.heap.size = N0 + M0.length) (hd : decode (pv_by y) pc = .ok (ins, len)) (hln : pv_ln ins len = len) (h : pv_re ins y k n st = some v) : pv_Go p l e R s m args below meth c D cI cR N0 scr nL (MQ below (pv_Qc D cI cR N0 scr y M0 v M) args s (pv_mc y) (pv_ms y) (fun q => N0 ≤ q)) (k, n, pc, lv, st, M) := by
  intro H locs ls hH hl hnl
  obtain ⟨hx, hb, hml, hr, hlk, hin, hown, hts, hK, hN, hsc, hR1, hR2, hR3, hR4⟩ := G
  dsimp only at hH hl hnl ⊢
  obtain ⟨hP, hS, hk⟩ := id hH
  unfold pv_re at h
  split at h
  · next hc =>
    obtain ⟨hc1, hc2, hc3⟩ := hc
    have hkm : k = pv_mc y := by
      rcases hc1 with z | z
      · exact absurd z hy
      · exact z
    have hq : ∀ t : State, t.heap = H → s.WarmedH t.vm → pv_Qc D cI cR N0 scr y M0 v M args s (.returned (v.map (pv_V N0 scr))) t := fun t ht _ => ⟨⟨rfl, by rw [ht]; exact hP, by omega⟩, hS.F ht⟩
    refine W.widen (k := pv_mc y) (n := pv_ms y) hc2 hc3 ?_
    split at h
    · next hrt => cases h; obtain rfl : 1 = len := hln; exact W.iret hx hb (by rw [hr]; exact hrt) hq hS.2.2 hd hlk
    · next hrt =>
      split at h
      · next hnr => cases h; obtain rfl : 1 = len := hln; exact W.zret hx hb (by rw [hr]; exact hrt) hnr hq hS.2.2 hd hlk
      · cases h
    · next hrt => cases h; obtain rfl : 1 = len := hln; exact W.lret hx hb (by rw [hr]; exact hrt) hq hS.2.2 hd hlk
    · next hrt => cases h; obtain rfl : 1 = len := hln; exact W.aret hx hb (by rw [hr]; exact hrt) (Or.inl ⟨_, rfl⟩) (Or.inr ⟨_, rfl⟩) hq hS.2.2 hd hlk
    · next hrt => cases h; obtain rfl : 1 = len := hln; exact W.vret hx hb (by rw [hr]; exact hrt) hq hS.2.2 hd hlk
    · cases h
  · cases h
end PS3
/-- THE PURE MACHINE IS SOUND -/
theorem pv_sound (l : Launch) (D : va_G) (cI : ClassId) (cR : Nat → ClassId) (N0 scr L : Nat) (xs : Nat → Int32) : ∀ (f d y : Nat) (t : pv_St) (r : Option Value × pv_M), pv_run xs L f d y t = some r →
    ∀ (p : Program) (e : Env) (R : Room) (s : State) (m : MethodId) (args : Array Value) (below : List Frame) (meth : Method) (c : Code) (Q : State → Prop), pv_G p R s m args meth c D cI cR N0 scr L xs d y →
    (∀ (k n pc : Nat) (lv : pv_Lv) (st : List Value) (M : pv_M) (v : Option Value) (ins : Instr) (len : Nat), decode (pv_by y) pc = .ok (ins, len) → pv_ln ins len = len → pv_re ins y k n st = some v → (v, M) = r → pv_Go p l e R s m args below meth c D cI cR N0 scr (pv_ml y) Q (k, n, pc, lv, st, M)) →
    pv_Go p l e R s m args below meth c D cI cR N0 scr (pv_ml y) Q t := by
  intro f
  induction f with
  | zero => intro d y t r h; simp [pv_run] at h
  | succ f ih =>
    intro d y t r h p e R s m args below meth c Q G hQ
    obtain ⟨k, n, pc, lv, st, M⟩ := t
    unfold pv_run at h
    cases ho : pv_one xs L d y k n pc lv st M with
    | none => rw [ho] at h; cases h
    | some o =>
      rw [ho] at h
      rcases o with s' | ⟨z, as, r'⟩ | v
      · exact pv_one_ok G rfl ho (ih d y s' r h p e R s m args below meth c Q G hQ)
      · cases d with
        | zero => cases h
        | succ d =>
          dsimp only at h
          cases hc : pv_run xs L f d z (0, 0, 0, pv_en z as, [], M) with
          | none => rw [hc] at h; cases h
          | some q =>
            rw [hc] at h
            obtain ⟨v, M1⟩ := q
            dsimp only at h
            obtain ⟨ins, len, h1, h2, h3⟩ := pv_one_ca ho
            obtain ⟨hz, hfit⟩ := pv_ca_fit h3
            obtain ⟨f1, f2, f3, f4, f5⟩ := pv_fit_ok hfit
            obtain ⟨w1, w2, w3, w4, w5, w6, w7⟩ := pv_m_ok hz
            have hM : pv_CallOk l D cI cR N0 scr d z as M v M1 := by
              unfold pv_CallOk
              refine Met.ofW (cc := pv_by z) (maxL := pv_ml z) (ret := pv_rt z) w6 rfl ?_
              intro p e s m args below meth c s₁ B hml hv
              obtain ⟨rfl, hsz, hP, hK⟩ := hv
              have Gz : pv_G p (headSpec (pv_ws z) (pv_rm z d)).room s m (as.map (pv_V N0 scr)).toArray meth c D cI cR N0 scr L xs d z := ⟨B.exec, B.bytes, hml, B.returns, B.notSynchronized, fun _ => (name_of_methodNamed B.named B.method).1, by rw [← w3]; exact findClass_of_methodNamed B.named, fun w hw => atoms_spec (ws := pv_ws z) B.pre w (List.mem_cons_of_mem _ hw), hK, by omega, fun q => absurd q f5, Nat.le_refl _, Nat.le_refl _, Nat.le_refl _, Nat.le_refl _⟩
              rw [lg_entry_eq]
              have hl := lv_entry (as.map (pv_V N0 scr)) (n := pv_ml z) (by rw [pv_pl_len]; exact f1)
              exact ih d z _ _ hc p e _ s m _ below meth c _ Gz (fun k n pc lv st M2 v2 ins len a1 a2 a3 a4 => by
                cases a4
                exact pv_re_ok Gz f5 hsz a1 a2 a3) s.heap [] _ ⟨hP, va_S.rf, by dsimp only; omega⟩ (pv_en_L f1 hl) (by simp [pv_en]; omega)
            exact pv_ca_ok G rfl h1 h2 h3 hM (ih (d + 1) y _ r h p e R s m args below meth c Q G hQ)
      · cases h
        obtain ⟨ins, len, h1, h2, h3⟩ := pv_one_re ho
        exact hQ k n pc lv st M v ins len h1 h2 h3 rfl
end
section
/-! THE CLAIM OUT OF ONE WALK OF THE LAW'S BODY. Your part is whole_start (and what it stands on); all else here is the same for every law, but numbers. -/
def R_law : String := "WornNamesLaw"
def lw_P (b : Addr) (xs : List Int32) (args : Array Value) (s : State) : Prop := args = #[.ref b] ∧ s.IntsAt b xs ∧ xs.length ≤ 3072 ∧ (Jvm.Cond.and given_1 narrow_1).before args s = true
def lw_Q (_ : Array Value) (s : State) (o : Outcome) (t : State) : Prop := o = .returned (some (.int 1)) ∧ Framed s o t [] 600000 7302250
def lw_Z (below : List Frame) (a : Array Value) (s : State) : State → Prop := fun t => ∃ o, t.status = .running ∧ Ended t below o ∧ lw_Q a s o t
/-- the law's own end, with 1 on the stack, nothing written that was there before, its room as the claim has it -/
theorem lw_ret {p : Program} {l : Launch} {e : Env} {s : State} {m : MethodId} {below : List Frame} {meth : Method} {c : Code} {b : Nat} (hx : p.tables.exec = Jvm.exec) (hb : c.code = code) (hr : meth.sig.returnType = ret) (hlocks : meth.locks = false) {pc : Nat} {H : Heap} {ls : Array Slot} (hdg : decode code pc = .ok (.ireturn, 1)) : W p l e room_1 s m #[Value.ref b] below meth c H [] 600000 7302250 (lw_Z below #[Value.ref b] s) (F0 m pc ls [.int 1]) := by
  intro T hT X
  obtain ⟨fs, hret, hrun, hended, hW, hframe⟩ := X.leave (v := some (.int 1)) (hlocks := hlocks) (fun h => by rw [hr] at h; cases h)
  have hmeth' : T.vm.method? m = some meth := X.method'
  refine ⟨T.setFrames fs, ?_, .returned (some (.int 1)), hrun, hended, rfl, ⟨_, rfl⟩, hW, hframe⟩
  jvm_step X.here [X.here.top, hx, hb, hdg, hmeth', hr, ret, narrow_b1]
  (try refine ⟨rfl, ?_⟩); (try refine ⟨rfl, ?_⟩)
  first | (intro acts; rw [hret _ acts rfl rfl rfl]) | rw [hret _ _ rfl rfl rfl]
  exact Steps.refl _
/-- what holds at the law's entry: the machine, the code, the tables' words (any of lw_tbl by 'hts w (by decide +kernel)'), the script of L ints xs at the cell b, what the Statement gives of the start (any of its parts by flat_of_before) -/
def lw_At (p : Program) (s : State) (m : MethodId) (meth : Method) (c : Code) (b L : Nat) (xs : Nat → Int32) : Prop :=
  p.tables.exec = Jvm.exec ∧ c.code = code ∧ meth.sig.returnType = ret ∧ c.maxLocals = 4 ∧ s.vm.findClass R_law = some m.cls ∧ (∀ w ∈ lw_tbl, w.before #[Value.ref b] s = true) ∧ va_X b L xs s s.heap ∧ b < s.heap.size ∧ meth.locks = false ∧ (Jvm.Cond.and given_1 narrow_1).before #[Value.ref b] s = true
/-! from the law's entry to the pure machine -/
theorem pv_start {args : Array Value} {s : State} (hts : ∀ w ∈ lw_tbl, w.before args s = true) : ∃ (D : va_G) (cI : ClassId) (cR : Nat → ClassId), pv_K D cI cR s := by
  obtain ⟨m1, m2, m3, m4, m5, m6, m7, m8, m9, m10, m11, m12⟩ := pv_w_misc
  have hcl : ∀ ci : Nat, ∃ (c0 : ClassId) (iS : Nat → Nat), ∀ r : vw_C, pv_cl[ci]? = some r → u_Kn s r.1 r.2.1 r.2.2 c0 iS := by
    intro ci
    cases hr : pv_cl[ci]? with
    | none => exact ⟨0, fun _ => 0, fun r h => by cases h⟩
    | some r =>
      obtain ⟨fs, -, hu, -, -, -, hi, -⟩ := pv_c_ok hr
      obtain ⟨c0, iS, h⟩ := u_known (C := r.1) (T := r.2.1) (N := r.2.2) (n := r.2.2) hts (fun w hw => (List.mem_filter.mp (hu w hw)).1) (hts _ (List.mem_filter.mp hi).1)
      exact ⟨c0, iS, fun r' h' => by cases h'; exact h⟩
  obtain ⟨cB, kB, comp, a1, a2, a3⟩ := Cond.arrayClass_spec (hts _ m6)
  have hao : ∀ ci : Nat, ci < 3 → va_AO (pv_o ci) s := by
    intro ci h
    match ci, h with
    | 0, _ => exact va_AO.of (hts _ m10)
    | 1, _ => exact va_AO.of (hts _ m11)
    | 2, _ => exact va_AO.of (hts _ m12)
  have har : ∀ ci : Nat, ∃ cA : ClassId, ci < 3 → ArrOfT s cA (.object (pv_o ci)) ∧ va_RA s cA (.object (pv_o ci)) := by
    intro ci
    by_cases h : ci < 3
    · obtain ⟨comp, c, k, h1, h2, h3, h4, h5⟩ := Cond.arrayOver_spec (hao ci h)
      exact ⟨c, fun _ => ⟨fun N z => ⟨fun k h => (by cases h), k, h3, comp, h4⟩, k, comp, h3, h4, h1, h5⟩⟩
    · exact ⟨0, fun z => absurd z h⟩
  refine ⟨(fun ci => (hcl ci).choose, fun ci => (hcl ci).choose_spec.choose), cB, fun ci => (har ci).choose, ⟨fun ci r h => (hcl ci).choose_spec.choose_spec r h, fun k q h => ?_⟩, hao, fun q hq => va_Nw.of rfl (hts _ (pv_fm pv_hN hq))⟩
  match k, h with
  | 0, h => cases h; exact (har 0).choose_spec (by decide)
  | 1, h => cases h; exact (har 1).choose_spec (by decide)
  | 2, h => cases h; exact (har 2).choose_spec (by decide)
  | 3, h => cases h; exact ⟨fun N z => ⟨fun k h => (by cases h), kB, a2, comp, a3⟩, a1⟩
  | j + 4, h => simp [pv_ty] at h
/-- the law's run on the pure machine -/
def pv_Pure (xs : Nat → Int32) (L : Nat) : Prop := ∃ (f : Nat) (M : pv_M), pv_run xs L f 40 pv_law (0, 0, 0, [some (.retAddr 0), none, none, none], [], []) = some (some (.int 1), M)
theorem pv_link {p : Program} {e : Env} {s : State} {m : MethodId} {below : List Frame} {meth : Method} {c : Code} (l : Launch) {b L : Nat} {xs : Nat → Int32} (hp : pv_Pure xs L) (C0 : lw_At p s m meth c b L xs) : W p l e room_1 s m #[Value.ref b] below meth c s.heap [] 0 0 (lw_Z below #[Value.ref b] s) (entryFrame m ([Value.ref b] : List Value).toArray 4) := by
  obtain ⟨hx, hb, hr, hml, hown, hts, hX, hbl, hlocks, hgv⟩ := id C0
  obtain ⟨D, cI, cR, hK⟩ := pv_start hts
  obtain ⟨f, M, hrun⟩ := hp
  have G : pv_G p room_1 s m #[Value.ref b] meth c D cI cR s.heap.size b L xs 40 pv_law := ⟨hx, hb, hml, hr, hlocks, fun h => absurd rfl h, hown, fun w hw => hts w (List.mem_filter.mp hw).1, hK, Nat.le_refl _, fun _ => ⟨hX, hbl, Nat.not_le.mpr hbl⟩, by decide, by decide, by decide, by decide⟩
  have hl := lv_entry ([.ref b]) (n := 4) (Nat.le_of_ble_eq_true rfl)
  rw [lg_entry_eq]
  refine pv_sound l D cI cR s.heap.size b L xs f 40 pv_law _ _ hrun p e room_1 s m _ below meth c _ G ?_ s.heap [] _ ⟨fun k q h => by simp [pv_w] at h, va_S.rf, rfl⟩ (pv_en_L (z := pv_law) (as := [.retAddr 0]) (by decide) hl) rfl
  intro k n pc lv st M2 v ins len a1 a2 a3 a4
  cases a4
  intro H locs ls hH hl2 hnl
  obtain ⟨hP, hS, hk⟩ := hH
  dsimp only at hP hS hk ⊢
  unfold pv_re at a3
  split at a3
  · next hc =>
    refine va_forget (fun q hq => hS.2.2 q hq) (W.widen (k := 600000) (n := 7302250) hc.2.1 hc.2.2 ?_)
    split at a3
    · next hrt => cases hrt
    · split at a3
      · cases a3; obtain rfl : 1 = len := a2; exact lw_ret hx hb hr hlocks a1
      · cases a3
    · cases a3
    · cases a3
    · cases a3
    · cases a3
  · cases a3
end
section
/-! runs of the pure machine, and its memory once both objects are made -/
def pv_Ev (xs : Nat → Int32) (L d y : Nat) (t : pv_St) (r : Option Value × pv_M) : Prop := ∃ f, pv_run xs L f d y t = some r
section EV
variable {xs : Nat → Int32} {L d y k n pc pc' len i j ci a b z : Nat} {lv : pv_Lv} {st rs : List Value} {M M1 : pv_M} {t t' : pv_St} {r : Option Value × pv_M} {ins : Instr} {v : Option Value} {as : List Value}
theorem pv_Ev.next (h : pv_one xs L d y k n pc lv st M = some (.inl t)) (kk : pv_Ev xs L d y t r) : pv_Ev xs L d y (k, n, pc, lv, st, M) r := by
  obtain ⟨f, hf⟩ := kk
  exact ⟨f + 1, by unfold pv_run; rw [h]; exact hf⟩
theorem pv_Ev.ret (h : pv_one xs L d y k n pc lv st M = some (.inr (.inr v))) : pv_Ev xs L d y (k, n, pc, lv, st, M) (v, M) := ⟨1, by unfold pv_run; rw [h]⟩
theorem pv_Ev.call (h : pv_one xs L (d + 1) y k n pc lv st M = some (.inr (.inl (z, as, rs)))) (hz : pv_Ev xs L d z (0, 0, 0, pv_en z as, [], M) (v, M1)) (kk : pv_Ev xs L (d + 1) y (k + pv_mc z, n + pv_ms z, pc + 3, lv, v.toList ++ rs, M1) r) : pv_Ev xs L (d + 1) y (k, n, pc, lv, st, M) r := by
  obtain ⟨f1, h1⟩ := hz
  obtain ⟨f2, h2⟩ := kk
  refine ⟨max f1 f2 + 1, ?_⟩
  unfold pv_run
  rw [h]
  dsimp only
  rw [pv_run_mono xs L f1 (max f1 f2) d z _ _ (Nat.le_max_left _ _) h1]
  exact pv_run_mono xs L f2 (max f1 f2) _ y _ _ (Nat.le_max_right _ _) h2
/-- loads, stores, arithmetic, branches -/
def pv_b1 (ins : Instr) (o k n pc : Nat) (lv : pv_Lv) (st : List Value) (M : pv_M) : Option pv_St := match pv_ld ins o k n pc lv st M with
  | some s => some s
  | none => match pv_so ins k n pc lv st M with
    | some s => some s
    | none => match pv_al ins k n pc lv st M with
      | some s => some s
      | none => pv_br ins k n pc lv st M
theorem pv_one_b1 (hd : decode (pv_by y) pc = .ok (ins, len)) (hln : pv_ln ins len = len) (h : pv_b1 ins (pv_oc y) k n pc lv st M = some t) : pv_one xs L d y k n pc lv st M = some (.inl t) := by
  unfold pv_one
  rw [hd]
  dsimp only
  rw [if_pos hln]
  unfold pv_b1 at h
  split at h
  · next h1 => cases h; rw [h1]
  · next h1 =>
    rw [h1]
    split at h
    · next h2 => cases h; rw [h2]
    · next h2 =>
      rw [h2]
      split at h
      · next h3 => cases h; rw [h3]
      · next h3 => rw [h3, h]
def pv_dk (y : Nat) (ps : List (Nat × Instr × Nat)) : Bool := ps.all fun q => decide (decode (pv_by y) q.1 = .ok (q.2.1, q.2.2)) && decide (pv_ln q.2.1 q.2.2 = q.2.2)
def pv_bk (o : Nat) : List (Nat × Instr × Nat) → pv_St → Option pv_St
  | [], t => some t
  | (p, i, _) :: r, (k, n, pc, lv, st, M) => if p = pc then (pv_b1 i o k n pc lv st M).bind (pv_bk o r) else none
theorem pv_e_bk : ∀ {ps : List (Nat × Instr × Nat)} {t t' : pv_St}, pv_dk y ps = true → pv_bk (pv_oc y) ps t = some t' → pv_Ev xs L d y t' r → pv_Ev xs L d y t r := by
  intro ps
  induction ps with
  | nil => intro t t' _ h kk; cases h; exact kk
  | cons q ps ih =>
    intro t t' hd h kk
    obtain ⟨p, i, len⟩ := q
    obtain ⟨k, n, pc, lv, st, M⟩ := t
    unfold pv_dk at hd
    rw [List.all_cons, Bool.and_eq_true] at hd
    obtain ⟨h1, h2⟩ := hd
    rw [Bool.and_eq_true] at h1
    unfold pv_bk at h
    split at h
    · next hp =>
      subst hp
      obtain ⟨t1, h3, h4⟩ := Option.bind_eq_some_iff.mp h
      exact pv_Ev.next (pv_one_b1 (of_decide_eq_true h1.1) (of_decide_eq_true h1.2) h3) (ih h2 h4 kk)
    · cases h
/-- branches -/
theorem pv_e_ifeq {x : Int32} {off : Int} (hd : pv_dk y [(pc, .ifCond .eq off, 3)] = true) (ht : pv_tg pc off = some b) (hp : pc + 3 = pc') (h1 : x = 0 → pv_Ev xs L d y (k, n, b, lv, st, M) r) (h2 : ¬ x = 0 → pv_Ev xs L d y (k, n, pc', lv, st, M) r) : pv_Ev xs L d y (k, n, pc, lv, .int x :: st, M) r := by
  subst hp
  by_cases hc : x = 0
  · exact pv_e_bk hd (by simp [pv_bk, pv_b1, pv_ld, pv_so, pv_al, pv_ax, pv_br, pv_bx, ht, hc]) (h1 hc)
  · exact pv_e_bk hd (by simp [pv_bk, pv_b1, pv_ld, pv_so, pv_al, pv_ax, pv_br, pv_bx, ht, hc]) (h2 hc)
theorem pv_e_ifne {x : Int32} {off : Int} (hd : pv_dk y [(pc, .ifCond .ne off, 3)] = true) (ht : pv_tg pc off = some b) (hp : pc + 3 = pc') (h1 : x = 0 → pv_Ev xs L d y (k, n, pc', lv, st, M) r) (h2 : ¬ x = 0 → pv_Ev xs L d y (k, n, b, lv, st, M) r) : pv_Ev xs L d y (k, n, pc, lv, .int x :: st, M) r := by
  subst hp
  by_cases hc : x = 0
  · exact pv_e_bk hd (by simp [pv_bk, pv_b1, pv_ld, pv_so, pv_al, pv_ax, pv_br, pv_bx, ht, hc]) (h1 hc)
  · exact pv_e_bk hd (by simp [pv_bk, pv_b1, pv_ld, pv_so, pv_al, pv_ax, pv_br, pv_bx, ht, hc]) (h2 hc)
theorem pv_e_iflt {x : Int32} {off : Int} (hd : pv_dk y [(pc, .ifCond .lt off, 3)] = true) (ht : pv_tg pc off = some b) (hp : pc + 3 = pc') (h1 : x < 0 → pv_Ev xs L d y (k, n, b, lv, st, M) r) (h2 : ¬ x < 0 → pv_Ev xs L d y (k, n, pc', lv, st, M) r) : pv_Ev xs L d y (k, n, pc, lv, .int x :: st, M) r := by
  subst hp
  by_cases hc : x < 0
  · exact pv_e_bk hd (by simp [pv_bk, pv_b1, pv_ld, pv_so, pv_al, pv_ax, pv_br, pv_bx, ht, hc]) (h1 hc)
  · exact pv_e_bk hd (by simp only [pv_bk, pv_b1, pv_ld, pv_so, pv_al, pv_ax, pv_br, pv_bx, ht, hc]; simp) (h2 hc)
theorem pv_e_ifge {x : Int32} {off : Int} (hd : pv_dk y [(pc, .ifCond .ge off, 3)] = true) (ht : pv_tg pc off = some b) (hp : pc + 3 = pc') (h1 : 0 ≤ x → pv_Ev xs L d y (k, n, b, lv, st, M) r) (h2 : ¬ 0 ≤ x → pv_Ev xs L d y (k, n, pc', lv, st, M) r) : pv_Ev xs L d y (k, n, pc, lv, .int x :: st, M) r := by
  subst hp
  by_cases hc : 0 ≤ x
  · exact pv_e_bk hd (by simp [pv_bk, pv_b1, pv_ld, pv_so, pv_al, pv_ax, pv_br, pv_bx, ht, hc]) (h1 hc)
  · exact pv_e_bk hd (by simp only [pv_bk, pv_b1, pv_ld, pv_so, pv_al, pv_ax, pv_br, pv_bx, ht, hc]; simp) (h2 hc)
theorem pv_e_ifgt {x : Int32} {off : Int} (hd : pv_dk y [(pc, .ifCond .gt off, 3)] = true) (ht : pv_tg pc off = some b) (hp : pc + 3 = pc') (h1 : 0 < x → pv_Ev xs L d y (k, n, b, lv, st, M) r) (h2 : ¬ 0 < x → pv_Ev xs L d y (k, n, pc', lv, st, M) r) : pv_Ev xs L d y (k, n, pc, lv, .int x :: st, M) r := by
  subst hp
  by_cases hc : 0 < x
  · exact pv_e_bk hd (by simp [pv_bk, pv_b1, pv_ld, pv_so, pv_al, pv_ax, pv_br, pv_bx, ht, hc]) (h1 hc)
  · exact pv_e_bk hd (by simp only [pv_bk, pv_b1, pv_ld, pv_so, pv_al, pv_ax, pv_br, pv_bx, ht, hc]; simp) (h2 hc)
theorem pv_e_ifle {x : Int32} {off : Int} (hd : pv_dk y [(pc, .ifCond .le off, 3)] = true) (ht : pv_tg pc off = some b) (hp : pc + 3 = pc') (h1 : x ≤ 0 → pv_Ev xs L d y (k, n, b, lv, st, M) r) (h2 : ¬ x ≤ 0 → pv_Ev xs L d y (k, n, pc', lv, st, M) r) : pv_Ev xs L d y (k, n, pc, lv, .int x :: st, M) r := by
  subst hp
  by_cases hc : x ≤ 0
  · exact pv_e_bk hd (by simp [pv_bk, pv_b1, pv_ld, pv_so, pv_al, pv_ax, pv_br, pv_bx, ht, hc]) (h1 hc)
  · exact pv_e_bk hd (by simp only [pv_bk, pv_b1, pv_ld, pv_so, pv_al, pv_ax, pv_br, pv_bx, ht, hc]; simp) (h2 hc)
theorem pv_e_icmpeq {x q : Int32} {off : Int} (hd : pv_dk y [(pc, .if_icmp .eq off, 3)] = true) (ht : pv_tg pc off = some b) (hp : pc + 3 = pc') (h1 : x = q → pv_Ev xs L d y (k, n, b, lv, st, M) r) (h2 : ¬ x = q → pv_Ev xs L d y (k, n, pc', lv, st, M) r) : pv_Ev xs L d y (k, n, pc, lv, .int q :: .int x :: st, M) r := by
  subst hp
  by_cases hc : x = q
  · exact pv_e_bk hd (by simp [pv_bk, pv_b1, pv_ld, pv_so, pv_al, pv_ax, pv_br, pv_bx, ht, hc]) (h1 hc)
  · exact pv_e_bk hd (by simp [pv_bk, pv_b1, pv_ld, pv_so, pv_al, pv_ax, pv_br, pv_bx, ht, hc]) (h2 hc)
theorem pv_e_icmpne {x q : Int32} {off : Int} (hd : pv_dk y [(pc, .if_icmp .ne off, 3)] = true) (ht : pv_tg pc off = some b) (hp : pc + 3 = pc') (h1 : x = q → pv_Ev xs L d y (k, n, pc', lv, st, M) r) (h2 : ¬ x = q → pv_Ev xs L d y (k, n, b, lv, st, M) r) : pv_Ev xs L d y (k, n, pc, lv, .int q :: .int x :: st, M) r := by
  subst hp
  by_cases hc : x = q
  · exact pv_e_bk hd (by simp [pv_bk, pv_b1, pv_ld, pv_so, pv_al, pv_ax, pv_br, pv_bx, ht, hc]) (h1 hc)
  · exact pv_e_bk hd (by simp [pv_bk, pv_b1, pv_ld, pv_so, pv_al, pv_ax, pv_br, pv_bx, ht, hc]) (h2 hc)
theorem pv_e_icmplt {x q : Int32} {off : Int} (hd : pv_dk y [(pc, .if_icmp .lt off, 3)] = true) (ht : pv_tg pc off = some b) (hp : pc + 3 = pc') (h1 : x < q → pv_Ev xs L d y (k, n, b, lv, st, M) r) (h2 : ¬ x < q → pv_Ev xs L d y (k, n, pc', lv, st, M) r) : pv_Ev xs L d y (k, n, pc, lv, .int q :: .int x :: st, M) r := by
  subst hp
  by_cases hc : x < q
  · exact pv_e_bk hd (by simp [pv_bk, pv_b1, pv_ld, pv_so, pv_al, pv_ax, pv_br, pv_bx, ht, hc]) (h1 hc)
  · exact pv_e_bk hd (by simp only [pv_bk, pv_b1, pv_ld, pv_so, pv_al, pv_ax, pv_br, pv_bx, ht, hc]; simp) (h2 hc)
theorem pv_e_icmpge {x q : Int32} {off : Int} (hd : pv_dk y [(pc, .if_icmp .ge off, 3)] = true) (ht : pv_tg pc off = some b) (hp : pc + 3 = pc') (h1 : q ≤ x → pv_Ev xs L d y (k, n, b, lv, st, M) r) (h2 : ¬ q ≤ x → pv_Ev xs L d y (k, n, pc', lv, st, M) r) : pv_Ev xs L d y (k, n, pc, lv, .int q :: .int x :: st, M) r := by
  subst hp
  by_cases hc : q ≤ x
  · exact pv_e_bk hd (by simp [pv_bk, pv_b1, pv_ld, pv_so, pv_al, pv_ax, pv_br, pv_bx, ht, hc]) (h1 hc)
  · exact pv_e_bk hd (by simp only [pv_bk, pv_b1, pv_ld, pv_so, pv_al, pv_ax, pv_br, pv_bx, ht, hc]; simp) (h2 hc)
theorem pv_e_icmpgt {x q : Int32} {off : Int} (hd : pv_dk y [(pc, .if_icmp .gt off, 3)] = true) (ht : pv_tg pc off = some b) (hp : pc + 3 = pc') (h1 : q < x → pv_Ev xs L d y (k, n, b, lv, st, M) r) (h2 : ¬ q < x → pv_Ev xs L d y (k, n, pc', lv, st, M) r) : pv_Ev xs L d y (k, n, pc, lv, .int q :: .int x :: st, M) r := by
  subst hp
  by_cases hc : q < x
  · exact pv_e_bk hd (by simp [pv_bk, pv_b1, pv_ld, pv_so, pv_al, pv_ax, pv_br, pv_bx, ht, hc]) (h1 hc)
  · exact pv_e_bk hd (by simp only [pv_bk, pv_b1, pv_ld, pv_so, pv_al, pv_ax, pv_br, pv_bx, ht, hc]; simp) (h2 hc)
theorem pv_e_icmple {x q : Int32} {off : Int} (hd : pv_dk y [(pc, .if_icmp .le off, 3)] = true) (ht : pv_tg pc off = some b) (hp : pc + 3 = pc') (h1 : x ≤ q → pv_Ev xs L d y (k, n, b, lv, st, M) r) (h2 : ¬ x ≤ q → pv_Ev xs L d y (k, n, pc', lv, st, M) r) : pv_Ev xs L d y (k, n, pc, lv, .int q :: .int x :: st, M) r := by
  subst hp
  by_cases hc : x ≤ q
  · exact pv_e_bk hd (by simp [pv_bk, pv_b1, pv_ld, pv_so, pv_al, pv_ax, pv_br, pv_bx, ht, hc]) (h1 hc)
  · exact pv_e_bk hd (by simp only [pv_bk, pv_b1, pv_ld, pv_so, pv_al, pv_ax, pv_br, pv_bx, ht, hc]; simp) (h2 hc)
theorem pv_e_swin {x : Int32} {dflt lo hi off : Int} {offs : Array Int} (hd : pv_dk y [(pc, .tableswitch dflt lo hi offs, len)] = true) (hx : ¬ (x.toInt < lo ∨ hi < x.toInt)) (ho : offs[(x.toInt - lo).toNat]? = some off) (ht : pv_tg pc off = some b) (kk : pv_Ev xs L d y (k, n, b, lv, st, M) r) : pv_Ev xs L d y (k, n, pc, lv, .int x :: st, M) r :=
  pv_e_bk hd (by simp [pv_bk, pv_b1, pv_ld, pv_so, pv_al, pv_ax, pv_br, pv_bx, ht, hx, ho]) kk
theorem pv_e_swout {x : Int32} {dflt lo hi : Int} {offs : Array Int} (hd : pv_dk y [(pc, .tableswitch dflt lo hi offs, len)] = true) (hx : x.toInt < lo ∨ hi < x.toInt) (ht : pv_tg pc dflt = some b) (kk : pv_Ev xs L d y (k, n, b, lv, st, M) r) : pv_Ev xs L d y (k, n, pc, lv, .int x :: st, M) r :=
  pv_e_bk hd (by simp [pv_bk, pv_b1, pv_ld, pv_so, pv_al, pv_ax, pv_br, pv_bx, ht, hx]) kk
end EV
end
section
-- printed by wip/whole/gen/shape.py: the cells once both objects are made
abbrev pv_Sh : Type := Nat ⊕ ((Nat × Nat × (Nat → Option Nat)) ⊕ (Nat × List Value))
def pv_shp : List pv_Sh := [.inr (.inr (5, [.ref 1, .ref 2, .ref 3, .ref 36, .ref 40, .ref 73, .int 0, .int 0, .int 0, .int 0])),
  .inr (.inl (2, 6, (va_up (va_up (va_up (va_up (va_up (va_up (fun _ => none) 0 (some 74)) 1 (some 76)) 2 (some 78)) 3 (some 80)) 4 (some 82)) 5 (some 84)))),
  .inr (.inl (2, 4, (va_up (va_up (va_up (va_up (fun _ => none) 0 (some 86)) 1 (some 88)) 2 (some 90)) 3 (some 92)))),
  .inr (.inr (4, [.ref 4, .ref 8, .ref 12, .ref 13, .ref 14, .ref 15, .ref 20, .int 0])),
  .inr (.inr (1, [.ref 5, .ref 6, .ref 7, .int 0])),
  .inl 7,
  .inl 7,
  .inl 7,
  .inr (.inr (1, [.ref 9, .ref 10, .ref 11, .int 0])),
  .inl 7,
  .inl 7,
  .inl 7,
  .inl 7,
  .inl 7,
  .inl 7,
  .inr (.inr (0, [.ref 16, .ref 17, .ref 18, .ref 19, .int 0, .int 0])),
  .inl 60,
  .inl 60,
  .inl 60,
  .inl 60,
  .inr (.inl (0, 3, (va_up (va_up (va_up (fun _ => none) 0 (some 21)) 1 (some 26)) 2 (some 31)))),
  .inr (.inr (0, [.ref 22, .ref 23, .ref 24, .ref 25, .int 0, .int 0])),
  .inl 60,
  .inl 60,
  .inl 60,
  .inl 60,
  .inr (.inr (0, [.ref 27, .ref 28, .ref 29, .ref 30, .int 0, .int 0])),
  .inl 60,
  .inl 60,
  .inl 60,
  .inl 60,
  .inr (.inr (0, [.ref 32, .ref 33, .ref 34, .ref 35, .int 0, .int 0])),
  .inl 60,
  .inl 60,
  .inl 60,
  .inl 60,
  .inr (.inr (1, [.ref 37, .ref 38, .ref 39, .int 0])),
  .inl 7,
  .inl 7,
  .inl 7,
  .inr (.inr (3, [.ref 41, .ref 42, .ref 43, .ref 44, .int 0, .int 0, .int 0, .int 0, .int 0])),
  .inr (.inl (1, 7, (va_up (va_up (va_up (va_up (va_up (va_up (va_up (fun _ => none) 0 (some 45)) 1 (some 49)) 2 (some 53)) 3 (some 57)) 4 (some 61)) 5 (some 65)) 6 (some 69)))),
  .inl 6,
  .inl 6,
  .inl 4,
  .inr (.inr (1, [.ref 46, .ref 47, .ref 48, .int 0])),
  .inl 7,
  .inl 7,
  .inl 7,
  .inr (.inr (1, [.ref 50, .ref 51, .ref 52, .int 0])),
  .inl 7,
  .inl 7,
  .inl 7,
  .inr (.inr (1, [.ref 54, .ref 55, .ref 56, .int 0])),
  .inl 7,
  .inl 7,
  .inl 7,
  .inr (.inr (1, [.ref 58, .ref 59, .ref 60, .int 0])),
  .inl 7,
  .inl 7,
  .inl 7,
  .inr (.inr (1, [.ref 62, .ref 63, .ref 64, .int 0])),
  .inl 7,
  .inl 7,
  .inl 7,
  .inr (.inr (1, [.ref 66, .ref 67, .ref 68, .int 0])),
  .inl 7,
  .inl 7,
  .inl 7,
  .inr (.inr (1, [.ref 70, .ref 71, .ref 72, .int 0])),
  .inl 7,
  .inl 7,
  .inl 7,
  .inl 6,
  .inr (.inr (2, [.ref 75, .int 0, .int 0])),
  .inl 40,
  .inr (.inr (2, [.ref 77, .int 0, .int 0])),
  .inl 40,
  .inr (.inr (2, [.ref 79, .int 0, .int 0])),
  .inl 40,
  .inr (.inr (2, [.ref 81, .int 0, .int 0])),
  .inl 40,
  .inr (.inr (2, [.ref 83, .int 0, .int 0])),
  .inl 40,
  .inr (.inr (2, [.ref 85, .int 0, .int 0])),
  .inl 40,
  .inr (.inr (2, [.ref 87, .int 0, .int 0])),
  .inl 80,
  .inr (.inr (2, [.ref 89, .int 0, .int 0])),
  .inl 80,
  .inr (.inr (2, [.ref 91, .int 0, .int 0])),
  .inl 80,
  .inr (.inr (2, [.ref 93, .int 0, .int 0])),
  .inl 80,
  .inr (.inr (6, [.int 0, .ref 95, .int 0, .ref 96, .ref 97, .ref 98, .ref 99, .ref 100, .int 0, .int 0, .int 0, .ref 101, .int 0, .int 0, .ref 102, .ref 103, .ref 104, .ref 105, .int 0, .ref 106, .ref 107, .ref 108, .ref 109, .ref 110, .int 0, .ref 111, .int 0, .ref 112, .ref 113, .ref 114, .int 0, .int 0, .int 0, .int 0, .ref 115, .long 0])),
  .inl 6,
  .inl 6,
  .inl 240,
  .inl 40,
  .inl 4,
  .inl 320,
  .inl 7,
  .inl 7,
  .inl 7,
  .inl 42,
  .inl 78,
  .inl 4680,
  .inl 3,
  .inl 234,
  .inl 14040,
  .inl 78,
  .inl 6,
  .inl 468,
  .inl 6,
  .inl 6,
  .inl 4]
def pv_folks : List Nat := [4, 8, 36, 45, 49, 53, 57, 61, 65, 69]
def pv_rows : List Nat := [74, 76, 78, 80, 82, 84, 86, 88, 90, 92]
def pv_deeds : List Nat := [15, 21, 26, 31]
end
section
/-! the memory by its ints: s for the class's cells (below 94), T for the model's (from 94 on) and the model's one long -/
abbrev pv_F : Type := Nat → Nat → Int32
abbrev pv_T : Type := pv_F × Int64
def pv_up (s : pv_F) (a j : Nat) (x : Int32) : pv_F := fun c => if c = a then upd (s a) j x else s c
def pv_upf (s : pv_F) (a : Nat) (f : Nat → Int32) : pv_F := fun c => if c = a then f else s c
def pv_fl (f : Nat → Int32) (h : Int64) : Nat → List Value → List Value
  | _, [] => []
  | j, v :: r => (match v with
    | .int _ => .int (f j)
    | .long _ => .long h
    | w => w) :: pv_fl f h (j + 1) r
def pv_fill (f : Nat → Int32) (h : Int64) : pv_Sh → pv_C
  | .inl n => .inl (n, f)
  | .inr (.inl q) => .inr (.inl q)
  | .inr (.inr (ci, fs)) => .inr (.inr (ci, pv_fl f h 0 fs))
def pv_fn (s : pv_F) (T : pv_T) (a : Nat) : Nat → Int32 := if a < 94 then s a else T.1 a
def pv_mkl (s : pv_F) (T : pv_T) : Nat → List pv_Sh → pv_M
  | _, [] => []
  | k, sh :: r => pv_fill (pv_fn s T k) T.2 sh :: pv_mkl s T (k + 1) r
def pv_mm (s : pv_F) (T : pv_T) : pv_M := pv_mkl s T 0 pv_shp
section MEM
variable {s : pv_F} {T : pv_T}
theorem pv_mkl_get : ∀ (l : List pv_Sh) (k i : Nat), (pv_mkl s T k l)[i]? = (l[i]?).map (fun sh => pv_fill (pv_fn s T (k + i)) T.2 sh) := by
  intro l
  induction l with
  | nil => intro k i; simp [pv_mkl]
  | cons sh l ih =>
    intro k i
    cases i with
    | zero => simp [pv_mkl]
    | succ i =>
      simp only [pv_mkl, List.getElem?_cons_succ]
      rw [ih (k + 1) i, show k + 1 + i = k + (i + 1) by omega]
theorem pv_mm_get (a : Nat) : (pv_mm s T)[a]? = (pv_shp[a]?).map (fun sh => pv_fill (pv_fn s T a) T.2 sh) := by
  unfold pv_mm
  rw [pv_mkl_get, Nat.zero_add]
theorem pv_mm_at {a : Nat} {sh : pv_Sh} (h : pv_shp[a]? = some sh) : (pv_mm s T)[a]? = some (pv_fill (pv_fn s T a) T.2 sh) := by rw [pv_mm_get, h]; rfl
theorem pv_mkl_len : ∀ (l : List pv_Sh) (k : Nat), (pv_mkl s T k l).length = l.length := by
  intro l
  induction l with
  | nil => intro k; rfl
  | cons sh l ih => intro k; simp only [pv_mkl, List.length_cons, ih]
theorem pv_fl_get {f : Nat → Int32} {h : Int64} : ∀ (fs : List Value) (k j : Nat), (pv_fl f h k fs)[j]? = (fs[j]?).map (fun v => match v with
    | .int _ => .int (f (k + j))
    | .long _ => .long h
    | w => w) := by
  intro fs
  induction fs with
  | nil => intro k j; simp [pv_fl]
  | cons v fs ih =>
    intro k j
    cases j with
    | zero => simp [pv_fl]
    | succ j =>
      simp only [pv_fl, List.getElem?_cons_succ]
      rw [ih (k + 1) j, show k + 1 + j = k + (j + 1) by omega]
theorem pv_fl_len {f : Nat → Int32} {h : Int64} : ∀ (fs : List Value) (k : Nat), (pv_fl f h k fs).length = fs.length := by
  intro fs
  induction fs with
  | nil => intro k; rfl
  | cons v fs ih => intro k; simp only [pv_fl, List.length_cons, ih]
theorem pv_fl_int {f : Nat → Int32} {h : Int64} {fs : List Value} {j : Nat} {z : Int32} (hj : fs[j]? = some (.int z)) : (pv_fl f h 0 fs)[j]? = some (.int (f j)) := by rw [pv_fl_get, hj, Nat.zero_add]; rfl
theorem pv_fl_ref {f : Nat → Int32} {h : Int64} {fs : List Value} {j b : Nat} (hj : fs[j]? = some (.ref b)) : (pv_fl f h 0 fs)[j]? = some (.ref b) := by rw [pv_fl_get, hj]; rfl
theorem pv_fl_long {f : Nat → Int32} {h : Int64} {fs : List Value} {j : Nat} {z : Int64} (hj : fs[j]? = some (.long z)) : (pv_fl f h 0 fs)[j]? = some (.long h) := by rw [pv_fl_get, hj]; rfl
theorem pv_fl_set {f : Nat → Int32} {h : Int64} {fs : List Value} {j : Nat} {x z : Int32} (hj : fs[j]? = some (.int z)) : (pv_fl f h 0 fs).set j (.int x) = pv_fl (upd f j x) h 0 fs := by
  apply List.ext_getElem?
  intro i
  have hl := (List.getElem?_eq_some_iff.mp hj).1
  rw [List.getElem?_set, pv_fl_get, pv_fl_get, pv_fl_len]
  by_cases hi : j = i
  · subst hi
    rw [if_pos rfl, if_pos hl, hj]
    simp [upd]
  · rw [if_neg hi]
    cases hv : fs[i]? with
    | none => rfl
    | some v =>
      have h2 : ¬ i = j := fun e => hi e.symm
      cases v <;> simp [upd, h2]
/-- only one field is a long, so putting it puts the model's long -/
theorem pv_mm_ext {M : pv_M} {s' : pv_F} {T' : pv_T} (h : ∀ i : Nat, M[i]? = (pv_shp[i]?).map (fun sh => pv_fill (pv_fn s' T' i) T'.2 sh)) : M = pv_mm s' T' := by
  apply List.ext_getElem?
  intro i
  rw [h, pv_mm_get]
theorem pv_set_c {a : Nat} {sh : pv_Sh} {f : Nat → Int32} (ha : a < 94) (hs : pv_shp[a]? = some sh) : (pv_mm s T).set a (pv_fill f T.2 sh) = pv_mm (pv_upf s a f) T := by
  apply pv_mm_ext
  intro i
  have hl : (pv_mm s T).length = pv_shp.length := pv_mkl_len _ _
  rw [List.getElem?_set, pv_mm_get]
  by_cases hi : a = i
  · subst hi
    rw [if_pos rfl, if_pos (by rw [hl]; exact (List.getElem?_eq_some_iff.mp hs).1), hs]
    simp [pv_fn, ha, pv_upf]
  · rw [if_neg hi]
    have h2 : ¬ i = a := fun e => hi e.symm
    congr 1
    funext sh
    simp [pv_fn, pv_upf, h2]
theorem pv_set_m {a : Nat} {sh : pv_Sh} {f : Nat → Int32} (ha : 94 ≤ a) (hs : pv_shp[a]? = some sh) : (pv_mm s T).set a (pv_fill f T.2 sh) = pv_mm s (pv_upf T.1 a f, T.2) := by
  apply pv_mm_ext
  intro i
  have hl : (pv_mm s T).length = pv_shp.length := pv_mkl_len _ _
  have ha' : ¬ a < 94 := by omega
  rw [List.getElem?_set, pv_mm_get]
  by_cases hi : a = i
  · subst hi
    rw [if_pos rfl, if_pos (by rw [hl]; exact (List.getElem?_eq_some_iff.mp hs).1), hs]
    simp [pv_fn, ha', pv_upf]
  · rw [if_neg hi]
    have h2 : ¬ i = a := fun e => hi e.symm
    congr 1
    funext sh
    simp [pv_fn, pv_upf, h2]
theorem pv_fn_c {a : Nat} (ha : a < 94) : pv_fn s T a = s a := by simp [pv_fn, ha]
theorem pv_fn_m {a : Nat} (ha : 94 ≤ a) : pv_fn s T a = T.1 a := by
  have : ¬ a < 94 := by omega
  simp [pv_fn, this]
theorem pv_up_eq (s : pv_F) (a j : Nat) (x : Int32) : pv_upf s a (upd (s a) j x) = pv_up s a j x := rfl
end MEM
/-- a row's int, if there is such a place -/
def pv_rd (s : pv_F) (a z : Nat) (i : Int32) : Option Int32 := if pv_in i z = true then some (s a i.toNatClampNeg) else none
def pv_wr (s : pv_F) (a z : Nat) (i x : Int32) : Option pv_F := if pv_in i z = true then some (pv_up s a i.toNatClampNeg x) else none
def pv_wm (T : pv_T) (a z : Nat) (i x : Int32) : Option pv_T := if pv_in i z = true then some (pv_up T.1 a i.toNatClampNeg x, T.2) else none
def pv_pf (s : pv_F) (a j : Nat) (x : Int32) : Option pv_F := some (pv_up s a j x)
def pv_pm (T : pv_T) (a j : Nat) (x : Int32) : Option pv_T := some (pv_up T.1 a j x, T.2)
def pv_plg (T : pv_T) (x : Int64) : Option pv_T := some (T.1, x)
def pv_dv (x y : Int32) : Option Int32 := if y = 0 then none else some (x / y)
def pv_rmd (x y : Int32) : Option Int32 := if y = 0 then none else some (x - x / y * y)
def pv_ldv (x y : Int64) : Option Int64 := if y = 0 then none else some (x / y)
def pv_lrm (x y : Int64) : Option Int64 := if y = 0 then none else some (x - x / y * y)
/-- the cell that a row of references holds -/
def pv_ra (a z : Nat) (i : Int32) : Option Nat := if pv_in i z = true then (match pv_shp[a]? with
  | some (.inr (.inl (_, _, f))) => f i.toNatClampNeg
  | _ => none) else none
def pv_cy (s : pv_F) (a za b zb : Nat) (sp dp z : Int32) : Option pv_F := if ¬ sp < 0 ∧ ¬ dp < 0 ∧ ¬ z < 0 ∧ sp.toNatClampNeg + z.toNatClampNeg ≤ za ∧ dp.toNatClampNeg + z.toNatClampNeg ≤ zb then some (pv_upf s b (va_cpy (s a) (s b) sp.toNatClampNeg dp.toNatClampNeg z.toNatClampNeg)) else none
def pv_bl (v : Int32) : Option Int32 := if narrow .boolean (.int v) = .int v then some v else none
/-- a loop, and one out of which a method may return -/
def pv_lq {S : Type} (B : S → Option (S ⊕ S)) : Nat → S → Option S
  | 0, _ => none
  | n + 1, s => match B s with
    | some (.inl s') => pv_lq B n s'
    | some (.inr e) => some e
    | none => none
def pv_lp {S R : Type} (B : S → Option (S ⊕ (S ⊕ R))) : Nat → S → Option (S ⊕ R)
  | 0, _ => none
  | n + 1, s => match B s with
    | some (.inl s') => pv_lp B n s'
    | some (.inr o) => some o
    | none => none
theorem pv_lq_ok {S : Type} {B : S → Option (S ⊕ S)} {H X : S → Prop} (hB : ∀ s o, B s = some o → (match o with
    | .inl s' => H s'
    | .inr e => X e) → H s) : ∀ (n : Nat) (s e : S), pv_lq B n s = some e → X e → H s := by
  intro n
  induction n with
  | zero => intro s e h; cases h
  | succ n ih =>
    intro s e h hX
    unfold pv_lq at h
    split at h
    · next s' hs => exact hB s _ hs (ih s' e h hX)
    · next e' hs => cases h; exact hB s _ hs hX
    · cases h
theorem pv_lp_ok {S R : Type} {B : S → Option (S ⊕ (S ⊕ R))} {H X : S → Prop} {Z : R → Prop} (hB : ∀ s o, B s = some o → (match o with
    | .inl s' => H s'
    | .inr (.inl e) => X e
    | .inr (.inr q) => Z q) → H s) : ∀ (n : Nat) (s : S) (o : S ⊕ R), pv_lp B n s = some o → (match o with
    | .inl e => X e
    | .inr q => Z q) → H s := by
  intro n
  induction n with
  | zero => intro s o h; cases h
  | succ n ih =>
    intro s o h hX
    unfold pv_lp at h
    split at h
    · next s' hs => exact hB s _ hs (ih s' o h hX)
    · next e' hs =>
      obtain rfl : e' = o := Option.some.inj h
      refine hB s _ hs ?_
      cases e' <;> exact hX
    · cases h
section EM
variable {xs : Nat → Int32} {L d y k n pc pc' len i j ci a b z : Nat} {lv : pv_Lv} {st rs : List Value} {M M1 : pv_M} {t t' : pv_St} {r : Option Value × pv_M} {ins : Instr} {v : Option Value} {as : List Value} {s : pv_F} {T : pv_T} {fs : List Value} {x : Int32}
theorem pv_one_me (hd : decode (pv_by y) pc = .ok (ins, len)) (hln : pv_ln ins len = len) (h1 : pv_b1 ins (pv_oc y) k n pc lv st M = none) (h : pv_me xs L ins y k n pc lv st M = some t) : pv_one xs L d y k n pc lv st M = some (.inl t) := by
  unfold pv_one
  rw [hd]
  dsimp only
  rw [if_pos hln]
  unfold pv_b1 at h1
  split at h1
  · cases h1
  · next e1 =>
    rw [e1]
    split at h1
    · cases h1
    · next e2 =>
      rw [e2]
      split at h1
      · cases h1
      · next e3 => rw [e3, h1, h]
theorem pv_dk1 (h : pv_dk y [(pc, ins, len)] = true) : decode (pv_by y) pc = .ok (ins, len) ∧ pv_ln ins len = len := by
  unfold pv_dk at h
  simp only [List.all_cons, List.all_nil, Bool.and_true, Bool.and_eq_true, decide_eq_true_eq] at h
  exact h
def pv_okg (y pc i ci j : Nat) : Bool := pv_dk y [(pc, .getfield i, 3)] && decide (pv_look (pv_oc y) i = some (0, ci, j))
theorem pv_gf {w : Value} (ho : pv_okg y pc i ci j = true) (hM : M[a]? = some (.inr (.inr (ci, fs)))) (hj : fs[j]? = some w) (hp : pc + 3 = pc') (kk : pv_Ev xs L d y (k, n, pc', lv, w :: st, M) r) : pv_Ev xs L d y (k, n, pc, lv, .ref a :: st, M) r := by
  subst hp
  unfold pv_okg at ho
  rw [Bool.and_eq_true] at ho
  obtain ⟨h1, h2⟩ := pv_dk1 ho.1
  have h3 := of_decide_eq_true ho.2
  exact pv_Ev.next (pv_one_me h1 h2 rfl (by simp only [pv_me, hM, h3, if_true, hj]; rfl)) kk
/-- a field that is a cell -/
theorem pv_e_gr (ho : pv_okg y pc i ci j = true) (hs : pv_shp[a]? = some (.inr (.inr (ci, fs)))) (hj : fs[j]? = some (.ref b)) (hp : pc + 3 = pc') (kk : pv_Ev xs L d y (k, n, pc', lv, .ref b :: st, pv_mm s T) r) : pv_Ev xs L d y (k, n, pc, lv, .ref a :: st, pv_mm s T) r :=
  pv_gf ho (pv_mm_at hs) (pv_fl_ref hj) hp kk
/-- a field that is an int -/
theorem pv_e_gc {zz : Int32} (ho : pv_okg y pc i ci j = true) (ha : a < 94) (hs : pv_shp[a]? = some (.inr (.inr (ci, fs)))) (hj : fs[j]? = some (.int zz)) (hp : pc + 3 = pc') (kk : pv_Ev xs L d y (k, n, pc', lv, .int (s a j) :: st, pv_mm s T) r) : pv_Ev xs L d y (k, n, pc, lv, .ref a :: st, pv_mm s T) r := by
  refine pv_gf ho (pv_mm_at hs) (pv_fl_int hj) hp ?_
  rw [pv_fn_c ha]
  exact kk
theorem pv_e_gm {zz : Int32} (ho : pv_okg y pc i ci j = true) (ha : 94 ≤ a) (hs : pv_shp[a]? = some (.inr (.inr (ci, fs)))) (hj : fs[j]? = some (.int zz)) (hp : pc + 3 = pc') (kk : pv_Ev xs L d y (k, n, pc', lv, .int (T.1 a j) :: st, pv_mm s T) r) : pv_Ev xs L d y (k, n, pc, lv, .ref a :: st, pv_mm s T) r := by
  refine pv_gf ho (pv_mm_at hs) (pv_fl_int hj) hp ?_
  rw [pv_fn_m ha]
  exact kk
theorem pv_e_gl {zz : Int64} (ho : pv_okg y pc i ci j = true) (hs : pv_shp[a]? = some (.inr (.inr (ci, fs)))) (hj : fs[j]? = some (.long zz)) (hp : pc + 3 = pc') (kk : pv_Ev xs L d y (k, n, pc', lv, .long T.2 :: st, pv_mm s T) r) : pv_Ev xs L d y (k, n, pc, lv, .ref a :: st, pv_mm s T) r :=
  pv_gf ho (pv_mm_at hs) (pv_fl_long hj) hp kk
def pv_okp (y pc i ci j : Nat) : Bool := pv_dk y [(pc, .putfield i, 3)] && decide (pv_look (pv_oc y) i = some (0, ci, j)) && (match pv_cl[ci]? with
  | some r => decide (j < r.2.2) && !(r.2.1 j).2.2.2
  | none => false)
theorem pv_b1_put {u w : Value} : pv_b1 (.putfield i) (pv_oc y) k n pc lv (u :: w :: st) M = none := rfl
theorem pv_pfd {w : Value} {fs' : List Value} (ho : pv_okp y pc i ci j = true) (hn : narrow (pv_ft ci j) w = w) (hf : fits (pv_ft ci j) w = true) (hM : M[a]? = some (.inr (.inr (ci, fs)))) (hl : j < fs.length) (hp : pc + 3 = pc') (hM1 : M.set a (.inr (.inr (ci, fs.set j w))) = M1) (kk : pv_Ev xs L d y (k, n, pc', lv, st, M1) r) : pv_Ev xs L d y (k, n, pc, lv, w :: .ref a :: st, M) r := by
  subst hp
  subst hM1
  unfold pv_okp at ho
  rw [Bool.and_eq_true, Bool.and_eq_true] at ho
  obtain ⟨⟨ho1, ho2⟩, ho3⟩ := ho
  obtain ⟨h1, h2⟩ := pv_dk1 ho1
  have h3 := of_decide_eq_true ho2
  have h4 : pv_pt y ci j w = true := by
    unfold pv_pt
    split at ho3
    · next r hr =>
      rw [hr]
      rw [Bool.and_eq_true] at ho3
      simp only [hn, hf, ho3.1, ho3.2, decide_true, Bool.true_and, Bool.true_or]
    · cases ho3
  exact pv_Ev.next (pv_one_me h1 h2 pv_b1_put (by simp only [pv_me, hM, h3, h4, hl, and_self, if_true])) kk
theorem pv_e_pc {zz : Int32} (ho : pv_okp y pc i ci j = true) (hn : narrow (pv_ft ci j) (.int x) = .int x) (hf : fits (pv_ft ci j) (.int x) = true) (ha : a < 94) (hs : pv_shp[a]? = some (.inr (.inr (ci, fs)))) (hj : fs[j]? = some (.int zz)) (hp : pc + 3 = pc') (kk : pv_Ev xs L d y (k, n, pc', lv, st, pv_mm (pv_up s a j x) T) r) : pv_Ev xs L d y (k, n, pc, lv, .int x :: .ref a :: st, pv_mm s T) r := by
  refine pv_pfd (fs' := []) ho hn hf (pv_mm_at hs) (by rw [pv_fl_len]; exact (List.getElem?_eq_some_iff.mp hj).1) hp ?_ kk
  rw [pv_fl_set hj, ← pv_up_eq, ← pv_set_c ha hs, pv_fn_c ha]
  rfl
theorem pv_e_pm {zz : Int32} (ho : pv_okp y pc i ci j = true) (hn : narrow (pv_ft ci j) (.int x) = .int x) (hf : fits (pv_ft ci j) (.int x) = true) (ha : 94 ≤ a) (hs : pv_shp[a]? = some (.inr (.inr (ci, fs)))) (hj : fs[j]? = some (.int zz)) (hp : pc + 3 = pc') (kk : pv_Ev xs L d y (k, n, pc', lv, st, pv_mm s (pv_up T.1 a j x, T.2)) r) : pv_Ev xs L d y (k, n, pc, lv, .int x :: .ref a :: st, pv_mm s T) r := by
  refine pv_pfd (fs' := []) ho hn hf (pv_mm_at hs) (by rw [pv_fl_len]; exact (List.getElem?_eq_some_iff.mp hj).1) hp ?_ kk
  rw [pv_fl_set hj, ← pv_up_eq, ← pv_set_m ha hs, pv_fn_m ha]
  rfl
/-- rows of ints -/
theorem pv_e_rc {zz : Nat} {q : Int32} (hd : pv_dk y [(pc, .iaload, 1)] = true) (ha : a < 94) (hs : pv_shp[a]? = some (.inl zz)) (hr : pv_rd s a zz x = some q) (hp : pc + 1 = pc') (kk : pv_Ev xs L d y (k, n, pc', lv, .int q :: st, pv_mm s T) r) : pv_Ev xs L d y (k, n, pc, lv, .int x :: .ref a :: st, pv_mm s T) r := by
  subst hp
  obtain ⟨h1, h2⟩ := pv_dk1 hd
  have hM := pv_mm_at (s := s) (T := T) hs
  unfold pv_rd at hr
  split at hr
  · next hi =>
    cases hr
    refine pv_Ev.next (pv_one_me h1 h2 rfl (by simp only [pv_me, hM, pv_fill, hi, if_true]; rfl)) ?_
    rw [pv_fn_c ha]
    exact kk
  · cases hr
theorem pv_e_rm {zz : Nat} {q : Int32} (hd : pv_dk y [(pc, .iaload, 1)] = true) (ha : 94 ≤ a) (hs : pv_shp[a]? = some (.inl zz)) (hr : pv_rd T.1 a zz x = some q) (hp : pc + 1 = pc') (kk : pv_Ev xs L d y (k, n, pc', lv, .int q :: st, pv_mm s T) r) : pv_Ev xs L d y (k, n, pc, lv, .int x :: .ref a :: st, pv_mm s T) r := by
  subst hp
  obtain ⟨h1, h2⟩ := pv_dk1 hd
  have hM := pv_mm_at (s := s) (T := T) hs
  unfold pv_rd at hr
  split at hr
  · next hi =>
    cases hr
    refine pv_Ev.next (pv_one_me h1 h2 rfl (by simp only [pv_me, hM, pv_fill, hi, if_true]; rfl)) ?_
    rw [pv_fn_m ha]
    exact kk
  · cases hr
theorem pv_e_wc {zz : Nat} {q : Int32} {s' : pv_F} (hd : pv_dk y [(pc, .iastore, 1)] = true) (ha : a < 94) (hs : pv_shp[a]? = some (.inl zz)) (hr : pv_wr s a zz x q = some s') (hp : pc + 1 = pc') (kk : pv_Ev xs L d y (k, n, pc', lv, st, pv_mm s' T) r) : pv_Ev xs L d y (k, n, pc, lv, .int q :: .int x :: .ref a :: st, pv_mm s T) r := by
  subst hp
  obtain ⟨h1, h2⟩ := pv_dk1 hd
  have hM := pv_mm_at (s := s) (T := T) hs
  unfold pv_wr at hr
  split at hr
  · next hi =>
    cases hr
    refine pv_Ev.next (pv_one_me h1 h2 rfl (by simp only [pv_me, hM, pv_fill, hi, if_true]; rfl)) ?_
    rw [pv_fn_c ha, show (Sum.inl (zz, upd (s a) x.toNatClampNeg q) : pv_C) = pv_fill (upd (s a) x.toNatClampNeg q) T.2 (.inl zz) from rfl, pv_set_c ha hs]
    exact kk
  · cases hr
theorem pv_e_wm {zz : Nat} {q : Int32} {T' : pv_T} (hd : pv_dk y [(pc, .iastore, 1)] = true) (ha : 94 ≤ a) (hs : pv_shp[a]? = some (.inl zz)) (hr : pv_wm T a zz x q = some T') (hp : pc + 1 = pc') (kk : pv_Ev xs L d y (k, n, pc', lv, st, pv_mm s T') r) : pv_Ev xs L d y (k, n, pc, lv, .int q :: .int x :: .ref a :: st, pv_mm s T) r := by
  subst hp
  obtain ⟨h1, h2⟩ := pv_dk1 hd
  have hM := pv_mm_at (s := s) (T := T) hs
  unfold pv_wm at hr
  split at hr
  · next hi =>
    cases hr
    refine pv_Ev.next (pv_one_me h1 h2 rfl (by simp only [pv_me, hM, pv_fill, hi, if_true]; rfl)) ?_
    rw [pv_fn_m ha, show (Sum.inl (zz, upd (T.1 a) x.toNatClampNeg q) : pv_C) = pv_fill (upd (T.1 a) x.toNatClampNeg q) T.2 (.inl zz) from rfl, pv_set_m ha hs]
    exact kk
  · cases hr
/-- rows of cells -/
theorem pv_e_ra {zz : Nat} {f : Nat → Option Nat} {q : Nat} (hd : pv_dk y [(pc, .aaload, 1)] = true) (hs : pv_shp[a]? = some (.inr (.inl (ci, zz, f)))) (hc : ci < 3) (hr : pv_ra a zz x = some q) (hp : pc + 1 = pc') (kk : pv_Ev xs L d y (k, n, pc', lv, .ref q :: st, pv_mm s T) r) : pv_Ev xs L d y (k, n, pc, lv, .int x :: .ref a :: st, pv_mm s T) r := by
  subst hp
  obtain ⟨h1, h2⟩ := pv_dk1 hd
  have hM := pv_mm_at (s := s) (T := T) hs
  unfold pv_ra at hr
  split at hr
  · next hi =>
    rw [hs] at hr
    dsimp only at hr
    refine pv_Ev.next (pv_one_me h1 h2 rfl (by simp only [pv_me, hM, pv_fill, hc, hi, and_self, if_true, hr]; rfl)) kk
  · cases hr
end EM
end
section
/-! calls and returns of methods that make no cells; the long; arraycopy; Math.min -/
section EC
variable {xs : Nat → Int32} {L d y k n pc pc' len i j ci a b z ml np : Nat} {lv lv0 : pv_Lv} {st rs As : List Value} {M M1 : pv_M} {t t' : pv_St} {r : Option Value × pv_M} {ins : Instr} {v : Option Value} {as : List Value} {s s' : pv_F} {T T' : pv_T} {fs : List Value} {x : Int32}
theorem pv_one_cx (hd : decode (pv_by y) pc = .ok (ins, len)) (hln : pv_ln ins len = len) (h1 : pv_b1 ins (pv_oc y) k n pc lv st M = none) (h2 : pv_me xs L ins y k n pc lv st M = none) (h3 : pv_mk ins d y k n pc lv st M = none) {q : Nat × List Value × List Value} (h : pv_ca ins y k n st M = some q) : pv_one xs L d y k n pc lv st M = some (.inr (.inl q)) := by
  unfold pv_one
  rw [hd]
  dsimp only
  rw [if_pos hln]
  unfold pv_b1 at h1
  split at h1
  · cases h1
  · next e1 =>
    rw [e1]
    split at h1
    · cases h1
    · next e2 =>
      rw [e2]
      split at h1
      · cases h1
      · next e3 => rw [e3, h1, h2, h3, h]
theorem pv_one_rx (hd : decode (pv_by y) pc = .ok (ins, len)) (hln : pv_ln ins len = len) (h1 : pv_b1 ins (pv_oc y) k n pc lv st M = none) (h2 : pv_me xs L ins y k n pc lv st M = none) (h3 : pv_mk ins d y k n pc lv st M = none) (h4 : pv_ca ins y k n st M = none) (h : pv_re ins y k n st = some v) : pv_one xs L d y k n pc lv st M = some (.inr (.inr v)) := by
  unfold pv_one
  rw [hd]
  dsimp only
  rw [if_pos hln]
  unfold pv_b1 at h1
  split at h1
  · cases h1
  · next e1 =>
    rw [e1]
    split at h1
    · cases h1
    · next e2 =>
      rw [e2]
      split at h1
      · cases h1
      · next e3 => rw [e3, h1, h2, h3, h4, h]; rfl
theorem pv_one_mx (hd : decode (pv_by y) pc = .ok (ins, len)) (hln : pv_ln ins len = len) (h1 : pv_b1 ins (pv_oc y) k n pc lv st M = none) (h2 : pv_me xs L ins y k n pc lv st M = none) (h : pv_mk ins d y k n pc lv st M = some t) : pv_one xs L d y k n pc lv st M = some (.inl t) := by
  unfold pv_one
  rw [hd]
  dsimp only
  rw [if_pos hln]
  unfold pv_b1 at h1
  split at h1
  · cases h1
  · next e1 =>
    rw [e1]
    split at h1
    · cases h1
    · next e2 =>
      rw [e2]
      split at h1
      · cases h1
      · next e3 => rw [e3, h1, h2, h]
def pv_okz (z ml : Nat) : Bool := decide (pv_ml z = ml) && decide (pv_mc z = 0) && decide (pv_ms z = 0) && !(z == pv_law)
theorem pv_fit_i (h : pv_okz z ml = true) (h1 : (pv_pl as).length ≤ ml) (h2 : (rs.map fun v => v.category).sum ≤ 8) : pv_fit z y 0 0 as rs = true := by
  unfold pv_okz at h
  simp only [Bool.and_eq_true, decide_eq_true_eq] at h
  obtain ⟨⟨⟨a1, a2⟩, a3⟩, a4⟩ := h
  unfold pv_fit
  simp only [a1, a2, a3, h1, h2, a4, Nat.zero_add, Nat.zero_le, decide_true, Bool.and_self]
theorem pv_en_i (h : pv_okz z ml = true) : pv_en z as = pv_pl as ++ List.replicate (ml - (pv_pl as).length) none := by
  unfold pv_okz at h
  simp only [Bool.and_eq_true, decide_eq_true_eq] at h
  unfold pv_en
  rw [h.1.1.1]
def pv_okv (y pc i z np ml ci : Nat) : Bool := pv_dk y [(pc, .invokevirtual i, 3)] && (decide (pv_look (pv_oc y) i = some (1, z, np)) || decide (pv_look (pv_oc y) i = some (7, z, np))) && decide (pv_oc z = ci) && pv_okz z ml
theorem pv_take_rev {As : List Value} {w : List Value} : (As.reverse ++ w).take As.length = As.reverse ∧ (As.reverse ++ w).drop As.length = w := by
  have h : As.length = As.reverse.length := by simp
  exact ⟨by rw [h, List.take_left], by rw [h, List.drop_left]⟩
theorem pv_e_cv (ho : pv_okv y pc i z np ml ci = true) (hs : pv_shp[a]? = some (.inr (.inr (ci, fs)))) (hn : As.length = np) (hst : As.reverse ++ .ref a :: rs = st) (hlv : pv_pl (.ref a :: As) ++ List.replicate (ml - (pv_pl (.ref a :: As)).length) none = lv0) (hl : (pv_pl (.ref a :: As)).length ≤ ml) (hw : (rs.map fun v => v.category).sum ≤ 8) (hp : pc + 3 = pc') (hz : pv_Ev xs L d z (0, 0, 0, lv0, [], pv_mm s T) (v, pv_mm s' T')) (kk : pv_Ev xs L (d + 1) y (0, 0, pc', lv, v.toList ++ rs, pv_mm s' T') r) : pv_Ev xs L (d + 1) y (0, 0, pc, lv, st, pv_mm s T) r := by
  subst hp
  subst hst
  subst hn
  unfold pv_okv at ho
  rw [Bool.and_eq_true, Bool.and_eq_true, Bool.and_eq_true] at ho
  obtain ⟨⟨⟨o1, o2⟩, o3⟩, o4⟩ := ho
  obtain ⟨h1, h2⟩ := pv_dk1 o1
  have hci := of_decide_eq_true o3
  have hM := pv_mm_at (s := s) (T := T) hs
  have hfit := pv_fit_i (y := y) o4 hl hw
  obtain ⟨tk1, tk2⟩ := pv_take_rev (As := As) (w := .ref a :: rs)
  have hca : pv_ca (.invokevirtual i) y 0 0 (As.reverse ++ .ref a :: rs) (pv_mm s T) = some (z, .ref a :: As, rs) := by
    rcases (Bool.or_eq_true _ _).mp o2 with q | q
    · have hlk := of_decide_eq_true q
      simp only [pv_ca, hlk, tk1, tk2, hM, pv_fill, List.reverse_reverse, hfit, List.length_reverse, hci, true_or, if_true, and_self]
    · have hlk := of_decide_eq_true q
      simp only [pv_ca, hlk, tk1, tk2, hM, pv_fill, List.reverse_reverse, hfit, List.length_reverse, hci, or_true, if_true, and_self]
  have hone := pv_one_cx (xs := xs) (L := L) (d := d + 1) (lv := lv) h1 h2 (by rfl) (by rfl) (by rfl) hca
  have hmc : pv_mc z = 0 ∧ pv_ms z = 0 := by
    unfold pv_okz at o4
    simp only [Bool.and_eq_true, decide_eq_true_eq] at o4
    exact ⟨o4.1.1.2, o4.1.2⟩
  refine pv_Ev.call hone (by rw [pv_en_i o4, hlv]; exact hz) ?_
  rw [hmc.1, hmc.2]
  exact kk
def pv_oks (y pc i z np ml : Nat) : Bool := pv_dk y [(pc, .invokestatic i, 3)] && decide (pv_look (pv_oc y) i = some (2, z, np)) && pv_okz z ml
theorem pv_mk_st (hlk : pv_look (pv_oc y) i = some (2, z, np)) : pv_mk (.invokestatic i) d y k n pc lv st M = none := by
  unfold pv_mk
  split <;> simp_all
theorem pv_e_cs (ho : pv_oks y pc i z np ml = true) (hn : As.length = np) (hst : As.reverse ++ rs = st) (hlv : pv_pl As ++ List.replicate (ml - (pv_pl As).length) none = lv0) (hl : (pv_pl As).length ≤ ml) (hw : (rs.map fun v => v.category).sum ≤ 8) (hp : pc + 3 = pc') (hz : pv_Ev xs L d z (0, 0, 0, lv0, [], pv_mm s T) (v, pv_mm s' T')) (kk : pv_Ev xs L (d + 1) y (0, 0, pc', lv, v.toList ++ rs, pv_mm s' T') r) : pv_Ev xs L (d + 1) y (0, 0, pc, lv, st, pv_mm s T) r := by
  subst hp
  subst hst
  subst hn
  unfold pv_oks at ho
  rw [Bool.and_eq_true, Bool.and_eq_true] at ho
  obtain ⟨⟨o1, o2⟩, o4⟩ := ho
  obtain ⟨h1, h2⟩ := pv_dk1 o1
  have hlk := of_decide_eq_true o2
  have hfit := pv_fit_i (y := y) o4 hl hw
  obtain ⟨tk1, tk2⟩ := pv_take_rev (As := As) (w := rs)
  have hca : pv_ca (.invokestatic i) y 0 0 (As.reverse ++ rs) (pv_mm s T) = some (z, As, rs) := by
    simp only [pv_ca, hlk, tk1, tk2, List.reverse_reverse, hfit, List.length_reverse, if_true, and_self]
  have hone := pv_one_cx (xs := xs) (L := L) (d := d + 1) (lv := lv) h1 h2 (by rfl) (by rfl) (pv_mk_st hlk) hca
  have hmc : pv_mc z = 0 ∧ pv_ms z = 0 := by
    unfold pv_okz at o4
    simp only [Bool.and_eq_true, decide_eq_true_eq] at o4
    exact ⟨o4.1.1.2, o4.1.2⟩
  refine pv_Ev.call hone (by rw [pv_en_i o4, hlv]; exact hz) ?_
  rw [hmc.1, hmc.2]
  exact kk
/-- returns -/
def pv_okr (y pc : Nat) (ins : Instr) (rt : Option FieldType) : Bool := pv_dk y [(pc, ins, 1)] && decide (pv_rt y = rt) && decide (pv_mc y = 0) && decide (pv_ms y = 0)
theorem pv_okr_ok {rt : Option FieldType} (h : pv_okr y pc ins rt = true) : decode (pv_by y) pc = .ok (ins, 1) ∧ pv_ln ins 1 = 1 ∧ pv_rt y = rt ∧ pv_mc y = 0 ∧ pv_ms y = 0 := by
  unfold pv_okr at h
  simp only [Bool.and_eq_true, decide_eq_true_eq] at h
  exact ⟨(pv_dk1 h.1.1.1).1, (pv_dk1 h.1.1.1).2, h.1.1.2, h.1.2, h.2⟩
theorem pv_e_ri (ho : pv_okr y pc .ireturn (some .int) = true) : pv_Ev xs L d y (0, 0, pc, lv, [.int x], M) (some (.int x), M) := by
  obtain ⟨h1, h2, h3, h4, h5⟩ := pv_okr_ok ho
  refine pv_Ev.ret (pv_one_rx h1 h2 rfl rfl rfl rfl ?_)
  simp [pv_re, h3, h4, h5]
theorem pv_e_rz {q : Int32} (ho : pv_okr y pc .ireturn (some .boolean) = true) (hb : pv_bl x = some q) : pv_Ev xs L d y (0, 0, pc, lv, [.int x], M) (some (.int q), M) := by
  obtain ⟨h1, h2, h3, h4, h5⟩ := pv_okr_ok ho
  unfold pv_bl at hb
  split at hb
  · next hc =>
    cases hb
    refine pv_Ev.ret (pv_one_rx h1 h2 rfl rfl rfl rfl ?_)
    simp only [pv_re, h3, h4, h5, hc]
    simp
  · cases hb
theorem pv_e_rl {q : Int64} (ho : pv_okr y pc .lreturn (some .long) = true) : pv_Ev xs L d y (0, 0, pc, lv, [.long q], M) (some (.long q), M) := by
  obtain ⟨h1, h2, h3, h4, h5⟩ := pv_okr_ok ho
  refine pv_Ev.ret (pv_one_rx h1 h2 rfl rfl rfl rfl ?_)
  simp [pv_re, h3, h4, h5]
theorem pv_e_rf {C : String} (ho : pv_okr y pc .areturn (some (.object C)) = true) : pv_Ev xs L d y (0, 0, pc, lv, [.ref a], M) (some (.ref a), M) := by
  obtain ⟨h1, h2, h3, h4, h5⟩ := pv_okr_ok ho
  refine pv_Ev.ret (pv_one_rx h1 h2 rfl rfl rfl rfl ?_)
  simp [pv_re, h3, h4, h5]
theorem pv_e_rv (ho : pv_okr y pc .return_ none = true) : pv_Ev xs L d y (0, 0, pc, lv, [], M) (none, M) := by
  obtain ⟨h1, h2, h3, h4, h5⟩ := pv_okr_ok ho
  refine pv_Ev.ret (pv_one_rx h1 h2 rfl rfl rfl rfl ?_)
  simp [pv_re, h3, h4, h5]
/-- the model's long -/
theorem pv_e_pl {q : Int64} (ho : pv_okp y pc i 6 35 = true) (hp : pc + 3 = pc') (kk : pv_Ev xs L d y (k, n, pc', lv, st, pv_mm s (T.1, q)) r) : pv_Ev xs L d y (k, n, pc, lv, .long q :: .ref 94 :: st, pv_mm s T) r := by
  have hs : pv_shp[94]? = some (.inr (.inr (6, _))) := rfl
  refine pv_pfd (fs' := []) ho rfl rfl (pv_mm_at hs) (by rw [pv_fl_len]; decide) hp ?_ kk
  apply pv_mm_ext
  intro i
  have hl : (pv_mm s T).length = 116 := pv_mkl_len _ _
  rw [List.getElem?_set, pv_mm_get]
  by_cases hi : 94 = i
  · subst hi
    rw [if_pos rfl, if_pos (by rw [hl]; decide), hs]
    rfl
  · rw [if_neg hi]
    have hno : ∀ i : Nat, i ≠ 94 → ∀ sh, pv_shp[i]? = some sh → ∀ f h h', pv_fill f h sh = pv_fill f h' sh := by
      intro i hi sh hsh f h h'
      have hb : i < 116 := (List.getElem?_eq_some_iff.mp hsh).1
      have key : (List.range 116).all (fun i => decide (i = 94) || (match pv_shp[i]? with
        | some (.inr (.inr (_, fs))) => fs.all (fun v => match v with
          | .long _ => false
          | _ => true)
        | _ => true)) = true := by decide +kernel
      have h2 := List.all_eq_true.mp key i (List.mem_range.mpr hb)
      rw [hsh] at h2
      rcases (Bool.or_eq_true _ _).mp h2 with q | q
      · exact absurd (of_decide_eq_true q) hi
      · match sh, q with
        | .inl n, _ => rfl
        | .inr (.inl q), _ => rfl
        | .inr (.inr (ci, fs)), q =>
          have hf : ∀ (fs : List Value) (k : Nat), fs.all (fun v => match v with
              | .long _ => false
              | _ => true) = true → pv_fl f h k fs = pv_fl f h' k fs := by
            intro fs
            induction fs with
            | nil => intro k _; rfl
            | cons v fs ih =>
              intro k hv
              rw [List.all_cons, Bool.and_eq_true] at hv
              unfold pv_fl
              rw [ih (k + 1) hv.2]
              cases v <;> first | rfl | (simp at hv)
          show (Sum.inr (Sum.inr (ci, pv_fl f h 0 fs)) : pv_C) = _
          rw [hf fs 0 q]
          rfl
    cases hsh : pv_shp[i]? with
    | none => rfl
    | some sh =>
      simp only [Option.map_some]
      rw [hno i (fun e => hi e.symm) sh hsh _ T.2 q]
      rfl
/-- arraycopy between rows of the class -/
def pv_oky (y pc i : Nat) : Bool := pv_dk y [(pc, .invokestatic i, 3)] && decide (pv_look (pv_oc y) i = some (5, 0, 0))
theorem pv_e_cy {za zb : Nat} {sp dp q : Int32} (ho : pv_oky y pc i = true) (hd1 : 1 ≤ d) (ha : a < 94) (hb : b < 94) (hs1 : pv_shp[a]? = some (.inl za)) (hs2 : pv_shp[b]? = some (.inl zb)) (hw : (rs.map fun v => v.category).sum ≤ 8) (hc : pv_cy s a za b zb sp dp q = some s') (hp : pc + 3 = pc') (kk : pv_Ev xs L d y (k, n, pc', lv, rs, pv_mm s' T) r) : pv_Ev xs L d y (k, n, pc, lv, .int q :: .int dp :: .ref b :: .int sp :: .ref a :: rs, pv_mm s T) r := by
  subst hp
  unfold pv_oky at ho
  rw [Bool.and_eq_true] at ho
  obtain ⟨h1, h2⟩ := pv_dk1 ho.1
  have hlk := of_decide_eq_true ho.2
  have hM1 := pv_mm_at (s := s) (T := T) hs1
  have hM2 := pv_mm_at (s := s) (T := T) hs2
  unfold pv_cy at hc
  split at hc
  · next hcc =>
    cases hc
    have hone := pv_one_mx (xs := xs) (L := L) (d := d) (k := k) (n := n) (lv := lv) (M := pv_mm s T) (st := .int q :: .int dp :: .ref b :: .int sp :: .ref a :: rs) h1 h2 rfl rfl (t := (k, n, pc + 3, lv, rs, pv_mm (pv_upf s b (va_cpy (s a) (s b) sp.toNatClampNeg dp.toNatClampNeg q.toNatClampNeg)) T)) (by
      simp only [pv_mk, hlk, hM1, hM2, pv_fill, hd1, hw, hcc, and_self, if_true, not_false_eq_true]
      rw [pv_fn_c ha, pv_fn_c hb, show (Sum.inl (zb, va_cpy (s a) (s b) sp.toNatClampNeg dp.toNatClampNeg q.toNatClampNeg) : pv_C) = pv_fill (va_cpy (s a) (s b) sp.toNatClampNeg dp.toNatClampNeg q.toNatClampNeg) T.2 (.inl zb) from rfl, pv_set_c hb hs2])
    exact pv_Ev.next hone kk
  · cases hc
def pv_okm (y pc i : Nat) : Bool := pv_dk y [(pc, .invokestatic i, 3)] && decide (pv_look (pv_oc y) i = some (9, 0, 0))
theorem pv_e_mi {q : Int32} (ho : pv_okm y pc i = true) (hd1 : 1 ≤ d) (hw : (rs.map fun v => v.category).sum ≤ 8) (hp : pc + 3 = pc') (kk : pv_Ev xs L d y (0, 0, pc', lv, .int (if q < x then q else x) :: rs, M) r) (hrs : ∀ b r', rs ≠ .ref b :: r') : pv_Ev xs L d y (0, 0, pc, lv, .int q :: .int x :: rs, M) r := by
  subst hp
  unfold pv_okm at ho
  rw [Bool.and_eq_true] at ho
  obtain ⟨h1, h2⟩ := pv_dk1 ho.1
  have hlk := of_decide_eq_true ho.2
  have hone := pv_one_mx (xs := xs) (L := L) (d := d) (k := 0) (n := 0) (lv := lv) (M := M) (st := .int q :: .int x :: rs) h1 h2 rfl rfl (t := (0, 0, pc + 3, lv, .int (if q < x then q else x) :: rs, M)) (by
    unfold pv_mk
    split
    · next e => cases e
    · next e1 e2 => cases e1
    · next e1 e2 => cases e1
    · next e1 e2 => cases e1; cases e2; exact absurd rfl (hrs _ _)
    · next e1 e2 =>
      cases e1
      cases e2
      rw [hlk]
      simp [hd1, hw]
    · next e => cases e
    · next h5 _ => exact absurd rfl (h5 _ _ _ _ rfl))
  exact pv_Ev.next hone kk
end EC
end
section
/-- the pure machine's run of the law, for every script -/
theorem pv_pure_all (xs : Nat → Int32) (L : Nat) (hL : L ≤ 3072) : pv_Pure xs L := by
  sorry
-- ===== YOUR PART BEGINS =====
/-- YOUR PART: from the entry, for every script of at most 3072 ints, the law comes to its end with true -/
theorem whole_start {p : Program} {e : Env} {s : State} {m : MethodId} {below : List Frame} {meth : Method} {c : Code} (l : Launch) {b L : Nat} {xs : Nat → Int32} (hL : L ≤ 3072) (C0 : lw_At p s m meth c b L xs) : W p l e room_1 s m #[Value.ref b] below meth c s.heap [] 0 0 (lw_Z below #[Value.ref b] s) (entryFrame m ([Value.ref b] : List Value).toArray 4) := by
  exact pv_link l (pv_pure_all xs L hL) C0
-- ===== YOUR PART ENDS =====
set_option maxHeartbeats 4000000 in
theorem lw_walk (l : Launch) (b : Addr) (xs : List Int32) : MetFree l x (headSpec (Jvm.Cond.code x code maxLocals ret :: tables_1) room_1) (lw_P b xs) (fun _ _ _ _ _ => True) lw_Q := by
  refine MetFree.of_bodyS (code := code) (maxLocals := maxLocals) (ret := ret) (by decide) ?_ ?_
  · intro args s m h hn
    obtain ⟨meth, c, h1, h2, h3, h4, h5, h6, -, -⟩ := Cond.code_spec hn (atoms_spec (ws := Jvm.Cond.code x code maxLocals ret :: tables_1) h _ List.mem_cons_self)
    exact ⟨meth, c, h1, h2, h3, h4, h5, h6⟩
  · intro p e s m args below meth c s₁ B hml0 hP _
    obtain ⟨rfl, hx, hbd, hgv⟩ := hP
    obtain ⟨scr, harrAt, hlist, hof, hsmall⟩ := hx
    obtain ⟨hcb, hkn, -, -⟩ := State.arrayAt?_spec harrAt
    have hown : s.vm.findClass R_law = some m.cls := findClass_of_methodNamed B.named
    have hts0 : ∀ c ∈ (Jvm.Cond.code x code maxLocals ret :: tables_1), c.before #[Value.ref b] s = true := atoms_spec (ws := Jvm.Cond.code x code maxLocals ret :: tables_1) B.pre
    have hts : ∀ w ∈ lw_tbl, w.before #[Value.ref b] s = true := k2_hts_sels lw_privs (fun w hw => hts0 w (List.mem_cons_of_mem _ hw)) lw_privs_ok
    have hml : c.maxLocals = 4 := B.maxLocals_eq (hts0 _ List.mem_cons_self)
    have X₀ : Stand p l e room_1 s m #[Value.ref b] below meth c s₁ [] 0 0 := Stand.of_body B
    have hh0 : s₁.heap = s.heap := by rw [B.state]; rfl
    have hsz : scr.slots.size = xs.length := by rw [← Array.length_toList, hlist, List.length_map]
    have hval : ∀ j : Nat, j < xs.length → scr.slots[j]? = some (.int (xs.getD j 0)) := fun j hj => by
      rw [← Array.getElem?_toList, hlist]
      simp [hj]
    have hbl : b < s.heap.size := (Array.getElem?_eq_some_iff.mp hcb).1
    have hX : va_X b xs.length (fun j => xs.getD j 0) s s.heap := ⟨scr, hcb, hof, hkn, hsz, hval⟩
    have K : W p l e room_1 s m #[Value.ref b] below meth c s₁.heap [] 0 0 (lw_Z below #[Value.ref b] s) (entryFrame m ([Value.ref b] : List Value).toArray 4) := by
      rw [hh0]
      exact whole_start l hbd ⟨B.exec, B.bytes, B.returns, hml, hown, hts, hX, hbl, B.notSynchronized, hgv⟩
    obtain ⟨t, a1, o, b1, b2, b3⟩ := K s₁ rfl X₀
    exact ⟨t, o, a1, b1, b2, b3⟩
theorem lw_pre_spec {args : Array Value} {s : State} (h : (Jvm.Cond.and given_1 narrow_1).before args s = true) (hr : rest_1_c.before args s = true) : ∃ (b : Addr) (xs : List Int32), lw_P b xs args s := by
  have hs := flat_of_before _ h
  have hq := flat_of_before _ hr
  have hc : (Cond.count 1).before args s = true := hs _ (by decide +kernel)
  have harr : (Cond.arrayOf (.arg 0) .int).before args s = true := hs _ (by decide +kernel)
  have hle : (Cond.le (.length (.arg 0)) (.int 3072)).before args s = true := hs _ (by decide +kernel)
  have hlen : (Cond.isInt (.length (.arg 0))).before args s = true := hq _ (by decide +kernel)
  have hall : (Cond.all (.arg 0) (.isInt (.elem (.arg 0) (.index 0)))).before args s = true := hq _ (by decide +kernel)
  obtain ⟨b, xs, hb, hx⟩ := State.ints_of_pre rfl harr hlen hall
  have hsm : xs.length < 2 ^ 31 := hx.choose_spec.2.2.2
  have hev : (Term.length (.arg 0)).eval args s none [] s = some (.int xs.length.toInt32) := hx.length_eval hb
  have hv := Cond.le_ints hev (show (Term.int 3072).eval args s none [] s = some (.int 3072) from rfl)
  have hd : xs.length.toInt32 ≤ 3072 := by
    simpa [Cond.before, Cond.holds, hv] using hle
  have hN : xs.length ≤ 3072 := (Int32.ofNat_le_ofNat hsm (by decide)).mp (show Int32.ofNat xs.length ≤ Int32.ofNat 3072 from hd)
  exact ⟨b, xs, Cond.one_arg hc (show args[0]? = some (.ref b) from hb), hx, hN, h⟩
theorem lw_comes (l : Launch) : Comes l x (Jvm.Cond.code x code maxLocals ret :: tables_1) room_1 (fun tb e args s => Calls_1 tb e args s ∧ rest_1 tb e args s ∧ Pre_1 tb e args s)
    (fun _ _ args s o t => lw_Q args s o t) := by
  intro p e ha hc hk s m args below hf hfit hheap happ hpre
  obtain ⟨b, xs, hP⟩ := lw_pre_spec hpre.2.2 hpre.2.1
  obtain ⟨k, o, h1, h2, h3, hQ⟩ := lw_walk l b xs p e ha hc hk s m args below hf ((Spec.applies_iff_loose hf).mp happ).1 hP trivial
  exact ⟨k, o, h1, h2, h3, hQ⟩
theorem lw_frame {s t : State} {o : Outcome} {args : Array Value} (h : Framed s o t [] 600000 7302250) :
    Framed s o t (fieldLocs frame_1_writes args s ++ arrayLocs frame_1_arrays args s ++ staticLocs frame_1_statics s) 600000 7302250 := h
theorem lw_limb (L : Cond) (hL : ∀ (args : Array Value) (s t : State), L.after args s (.returned (some (.int 1))) t = true) :
    ArmFor flags0 classFile x code maxLocals ret World_1 tables_1 room_1 Calls_1 rest_1 Pre_1
      (fun tb e a s o t => postC L tb e a s o t ∧ Framed s o t (fieldLocs frame_1_writes a s ++ arrayLocs frame_1_arrays a s ++ staticLocs frame_1_statics s) 600000 7302250) := by
  intro l _ _ _ p e ha hc hk s m args below hf hfit hheap happ hpre
  obtain ⟨k, o, h1, h2, h3, rfl, hF⟩ := lw_comes l p e ha hc hk s m args below hf hfit hheap happ hpre
  exact ⟨k, _, h1, h2, h3, hL args s _, lw_frame hF⟩
theorem i_vc : Claimed_1_1 ∧ Claimed_1_2 := ⟨lw_limb limb_1_1 (fun args s t => by simp [limb_1_1, Cond.after, Cond.holds, Cond.value]), lw_limb limb_1_2 (fun args s t => Cond.after_iff.mpr (by
  first | (rw [show limb_1_2 = Cond.eq .result (.int 1) from rfl, Cond.eq_ints (x := 1) (y := 1) rfl rfl]; simp; done) | (simp [limb_1_2, Cond.value, Term.eval]; done)))⟩
end

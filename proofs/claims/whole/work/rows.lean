section
-- ===== PART A: goes FIRST, ahead of the names: the tables' words, and 'selects' of the private methods out of them =====
/-- a private method of a class that the tables say can be made, by its rows of tables_1 -/
def lw_okq (q : MethodName × Nat) : Prop := (q.1.cls ≠ "java/lang/invoke/MethodHandle" ∧ q.1.cls ≠ "java/lang/invoke/VarHandle") ∧ Cond.instantiable q.1.cls q.2 ∈ tables_1 ∧ Cond.privateMethod q.1 ∈ tables_1 ∧ Cond.instanceMethod q.1 ∈ tables_1
theorem lw_p0 : lw_okq (⟨"RowsAloud$DeskText", "takeLetter", "(I)I"⟩, 7) := ⟨⟨by decide +kernel, by decide +kernel⟩, List.mem_of_getElem? (i := 26) (by decide +kernel), List.mem_of_getElem? (i := 319) (by decide +kernel), List.mem_of_getElem? (i := 320) (by decide +kernel)⟩
theorem lw_p1 : lw_okq (⟨"RowsAloud$DeskText", "openClause", "(I)I"⟩, 7) := ⟨⟨by decide +kernel, by decide +kernel⟩, List.mem_of_getElem? (i := 26) (by decide +kernel), List.mem_of_getElem? (i := 323) (by decide +kernel), List.mem_of_getElem? (i := 324) (by decide +kernel)⟩
theorem lw_p2 : lw_okq (⟨"RowsAloud$DeskText", "goOn", "(ILRowsAloud$Figures;)I"⟩, 7) := ⟨⟨by decide +kernel, by decide +kernel⟩, List.mem_of_getElem? (i := 26) (by decide +kernel), List.mem_of_getElem? (i := 331) (by decide +kernel), List.mem_of_getElem? (i := 332) (by decide +kernel)⟩
theorem lw_p3 : lw_okq (⟨"RowsAloud$DeskText", "noteFault", "(II)V"⟩, 7) := ⟨⟨by decide +kernel, by decide +kernel⟩, List.mem_of_getElem? (i := 26) (by decide +kernel), List.mem_of_getElem? (i := 339) (by decide +kernel), List.mem_of_getElem? (i := 340) (by decide +kernel)⟩
theorem lw_p4 : lw_okq (⟨"RowsAloud", "layDesk", "()V"⟩, 12) := ⟨⟨by decide +kernel, by decide +kernel⟩, List.mem_of_getElem? (i := 18) (by decide +kernel), List.mem_of_getElem? (i := 343) (by decide +kernel), List.mem_of_getElem? (i := 344) (by decide +kernel)⟩
theorem lw_p5 : lw_okq (⟨"RowsAloud$WordList", "waysToEnd", "(LRowsAloud$Figures;I)I"⟩, 4) := ⟨⟨by decide +kernel, by decide +kernel⟩, List.mem_of_getElem? (i := 57) (by decide +kernel), List.mem_of_getElem? (i := 421) (by decide +kernel), List.mem_of_getElem? (i := 422) (by decide +kernel)⟩
theorem lw_p6 : lw_okq (⟨"RowsAloud$State", "logReading", "(I)V"⟩, 5) := ⟨⟨by decide +kernel, by decide +kernel⟩, List.mem_of_getElem? (i := 113) (by decide +kernel), List.mem_of_getElem? (i := 499) (by decide +kernel), List.mem_of_getElem? (i := 500) (by decide +kernel)⟩
theorem lw_p7 : lw_okq (⟨"RowsAloud", "driftOnce", "()V"⟩, 12) := ⟨⟨by decide +kernel, by decide +kernel⟩, List.mem_of_getElem? (i := 18) (by decide +kernel), List.mem_of_getElem? (i := 562) (by decide +kernel), List.mem_of_getElem? (i := 563) (by decide +kernel)⟩
theorem lw_p8 : lw_okq (⟨"RowsAloud", "draw", "(I)I"⟩, 12) := ⟨⟨by decide +kernel, by decide +kernel⟩, List.mem_of_getElem? (i := 18) (by decide +kernel), List.mem_of_getElem? (i := 566) (by decide +kernel), List.mem_of_getElem? (i := 567) (by decide +kernel)⟩
theorem lw_p9 : lw_okq (⟨"RowsAloud$Trials", "swap", "()V"⟩, 4) := ⟨⟨by decide +kernel, by decide +kernel⟩, List.mem_of_getElem? (i := 221) (by decide +kernel), List.mem_of_getElem? (i := 603) (by decide +kernel), List.mem_of_getElem? (i := 604) (by decide +kernel)⟩
theorem lw_p10 : lw_okq (⟨"RowsAloud$Trials", "firstLike", "(I)I"⟩, 4) := ⟨⟨by decide +kernel, by decide +kernel⟩, List.mem_of_getElem? (i := 221) (by decide +kernel), List.mem_of_getElem? (i := 633) (by decide +kernel), List.mem_of_getElem? (i := 634) (by decide +kernel)⟩
theorem lw_p11 : lw_okq (⟨"RowsAloud$Parting", "follow", "(LRowsAloud$Figures;)V"⟩, 3) := ⟨⟨by decide +kernel, by decide +kernel⟩, List.mem_of_getElem? (i := 245) (by decide +kernel), List.mem_of_getElem? (i := 651) (by decide +kernel), List.mem_of_getElem? (i := 652) (by decide +kernel)⟩
theorem lw_p12 : lw_okq (⟨"RowsAloud$WordList", "takeIn", "(ILRowsAloud$Figures;I)V"⟩, 4) := ⟨⟨by decide +kernel, by decide +kernel⟩, List.mem_of_getElem? (i := 57) (by decide +kernel), List.mem_of_getElem? (i := 693) (by decide +kernel), List.mem_of_getElem? (i := 694) (by decide +kernel)⟩
theorem lw_p13 : lw_okq (⟨"RowsAloud$Heard", "fits", "(ILRowsAloud$WordList;)Z"⟩, 5) := ⟨⟨by decide +kernel, by decide +kernel⟩, List.mem_of_getElem? (i := 179) (by decide +kernel), List.mem_of_getElem? (i := 719) (by decide +kernel), List.mem_of_getElem? (i := 720) (by decide +kernel)⟩
theorem lw_p14 : lw_okq (⟨"RowsAloud$Heard", "greatestPart", "(LRowsAloud$Figures;I)I"⟩, 5) := ⟨⟨by decide +kernel, by decide +kernel⟩, List.mem_of_getElem? (i := 179) (by decide +kernel), List.mem_of_getElem? (i := 740) (by decide +kernel), List.mem_of_getElem? (i := 741) (by decide +kernel)⟩
theorem lw_p15 : lw_okq (⟨"RowsAloud$Heard", "howManyLike", "(II)I"⟩, 5) := ⟨⟨by decide +kernel, by decide +kernel⟩, List.mem_of_getElem? (i := 179) (by decide +kernel), List.mem_of_getElem? (i := 744) (by decide +kernel), List.mem_of_getElem? (i := 745) (by decide +kernel)⟩
def lw_privs_1 : List (MethodName × Nat) := [(⟨"RowsAloud$DeskText", "takeLetter", "(I)I"⟩, 7), (⟨"RowsAloud$DeskText", "openClause", "(I)I"⟩, 7), (⟨"RowsAloud$DeskText", "goOn", "(ILRowsAloud$Figures;)I"⟩, 7), (⟨"RowsAloud$DeskText", "noteFault", "(II)V"⟩, 7), (⟨"RowsAloud", "layDesk", "()V"⟩, 12), (⟨"RowsAloud$WordList", "waysToEnd", "(LRowsAloud$Figures;I)I"⟩, 4), (⟨"RowsAloud$State", "logReading", "(I)V"⟩, 5), (⟨"RowsAloud", "driftOnce", "()V"⟩, 12), (⟨"RowsAloud", "draw", "(I)I"⟩, 12), (⟨"RowsAloud$Trials", "swap", "()V"⟩, 4), (⟨"RowsAloud$Trials", "firstLike", "(I)I"⟩, 4), (⟨"RowsAloud$Parting", "follow", "(LRowsAloud$Figures;)V"⟩, 3), (⟨"RowsAloud$WordList", "takeIn", "(ILRowsAloud$Figures;I)V"⟩, 4), (⟨"RowsAloud$Heard", "fits", "(ILRowsAloud$WordList;)Z"⟩, 5), (⟨"RowsAloud$Heard", "greatestPart", "(LRowsAloud$Figures;I)I"⟩, 5), (⟨"RowsAloud$Heard", "howManyLike", "(II)I"⟩, 5)]
theorem lw_r1 : ∀ q ∈ lw_privs_1, lw_okq q := List.forall_mem_cons.mpr ⟨lw_p0, List.forall_mem_cons.mpr ⟨lw_p1, List.forall_mem_cons.mpr ⟨lw_p2, List.forall_mem_cons.mpr ⟨lw_p3, List.forall_mem_cons.mpr ⟨lw_p4, List.forall_mem_cons.mpr ⟨lw_p5, List.forall_mem_cons.mpr ⟨lw_p6, List.forall_mem_cons.mpr ⟨lw_p7, List.forall_mem_cons.mpr ⟨lw_p8, List.forall_mem_cons.mpr ⟨lw_p9, List.forall_mem_cons.mpr ⟨lw_p10, List.forall_mem_cons.mpr ⟨lw_p11, List.forall_mem_cons.mpr ⟨lw_p12, List.forall_mem_cons.mpr ⟨lw_p13, List.forall_mem_cons.mpr ⟨lw_p14, List.forall_mem_cons.mpr ⟨lw_p15, fun _ h => absurd h List.not_mem_nil⟩⟩⟩⟩⟩⟩⟩⟩⟩⟩⟩⟩⟩⟩⟩⟩
theorem lw_p16 : lw_okq (⟨"RowsAloudModel", "isRead", "()Z"⟩, 40) := ⟨⟨by decide +kernel, by decide +kernel⟩, List.mem_of_getElem? (i := 804) (by decide +kernel), List.mem_of_getElem? (i := 944) (by decide +kernel), List.mem_of_getElem? (i := 945) (by decide +kernel)⟩
theorem lw_p17 : lw_okq (⟨"RowsAloudModel", "peek", "()I"⟩, 40) := ⟨⟨by decide +kernel, by decide +kernel⟩, List.mem_of_getElem? (i := 804) (by decide +kernel), List.mem_of_getElem? (i := 948) (by decide +kernel), List.mem_of_getElem? (i := 949) (by decide +kernel)⟩
theorem lw_p18 : lw_okq (⟨"RowsAloudModel", "isClause", "()Z"⟩, 40) := ⟨⟨by decide +kernel, by decide +kernel⟩, List.mem_of_getElem? (i := 804) (by decide +kernel), List.mem_of_getElem? (i := 952) (by decide +kernel), List.mem_of_getElem? (i := 953) (by decide +kernel)⟩
theorem lw_p19 : lw_okq (⟨"RowsAloudModel", "isBad", "(I)Z"⟩, 40) := ⟨⟨by decide +kernel, by decide +kernel⟩, List.mem_of_getElem? (i := 804) (by decide +kernel), List.mem_of_getElem? (i := 956) (by decide +kernel), List.mem_of_getElem? (i := 957) (by decide +kernel)⟩
theorem lw_p20 : lw_okq (⟨"RowsAloudModel", "isFigures", "([III)Z"⟩, 40) := ⟨⟨by decide +kernel, by decide +kernel⟩, List.mem_of_getElem? (i := 804) (by decide +kernel), List.mem_of_getElem? (i := 960) (by decide +kernel), List.mem_of_getElem? (i := 961) (by decide +kernel)⟩
theorem lw_p21 : lw_okq (⟨"RowsAloudModel", "runs", "()I"⟩, 40) := ⟨⟨by decide +kernel, by decide +kernel⟩, List.mem_of_getElem? (i := 804) (by decide +kernel), List.mem_of_getElem? (i := 975) (by decide +kernel), List.mem_of_getElem? (i := 976) (by decide +kernel)⟩
theorem lw_p22 : lw_okq (⟨"RowsAloudModel", "longest", "(I)I"⟩, 40) := ⟨⟨by decide +kernel, by decide +kernel⟩, List.mem_of_getElem? (i := 804) (by decide +kernel), List.mem_of_getElem? (i := 979) (by decide +kernel), List.mem_of_getElem? (i := 980) (by decide +kernel)⟩
theorem lw_p23 : lw_okq (⟨"RowsAloudModel", "unlikeOnes", "()I"⟩, 40) := ⟨⟨by decide +kernel, by decide +kernel⟩, List.mem_of_getElem? (i := 804) (by decide +kernel), List.mem_of_getElem? (i := 983) (by decide +kernel), List.mem_of_getElem? (i := 984) (by decide +kernel)⟩
theorem lw_p24 : lw_okq (⟨"RowsAloudModel", "waysToTell", "()I"⟩, 40) := ⟨⟨by decide +kernel, by decide +kernel⟩, List.mem_of_getElem? (i := 804) (by decide +kernel), List.mem_of_getElem? (i := 990) (by decide +kernel), List.mem_of_getElem? (i := 991) (by decide +kernel)⟩
theorem lw_p25 : lw_okq (⟨"RowsAloudModel", "stands", "(II)Z"⟩, 40) := ⟨⟨by decide +kernel, by decide +kernel⟩, List.mem_of_getElem? (i := 804) (by decide +kernel), List.mem_of_getElem? (i := 994) (by decide +kernel), List.mem_of_getElem? (i := 995) (by decide +kernel)⟩
theorem lw_p26 : lw_okq (⟨"RowsAloudModel", "figureAt", "(I)I"⟩, 40) := ⟨⟨by decide +kernel, by decide +kernel⟩, List.mem_of_getElem? (i := 804) (by decide +kernel), List.mem_of_getElem? (i := 1004) (by decide +kernel), List.mem_of_getElem? (i := 1005) (by decide +kernel)⟩
theorem lw_p27 : lw_okq (⟨"RowsAloudModel", "isWord", "(I)Z"⟩, 40) := ⟨⟨by decide +kernel, by decide +kernel⟩, List.mem_of_getElem? (i := 804) (by decide +kernel), List.mem_of_getElem? (i := 1012) (by decide +kernel), List.mem_of_getElem? (i := 1013) (by decide +kernel)⟩
theorem lw_p28 : lw_okq (⟨"RowsAloudModel", "begin", "()V"⟩, 40) := ⟨⟨by decide +kernel, by decide +kernel⟩, List.mem_of_getElem? (i := 804) (by decide +kernel), List.mem_of_getElem? (i := 1025) (by decide +kernel), List.mem_of_getElem? (i := 1026) (by decide +kernel)⟩
theorem lw_p29 : lw_okq (⟨"RowsAloudModel", "reads", "(I)V"⟩, 40) := ⟨⟨by decide +kernel, by decide +kernel⟩, List.mem_of_getElem? (i := 804) (by decide +kernel), List.mem_of_getElem? (i := 1029) (by decide +kernel), List.mem_of_getElem? (i := 1030) (by decide +kernel)⟩
theorem lw_p30 : lw_okq (⟨"RowsAloudModel", "sayBackward", "()V"⟩, 40) := ⟨⟨by decide +kernel, by decide +kernel⟩, List.mem_of_getElem? (i := 804) (by decide +kernel), List.mem_of_getElem? (i := 1033) (by decide +kernel), List.mem_of_getElem? (i := 1034) (by decide +kernel)⟩
theorem lw_p31 : lw_okq (⟨"RowsAloudModel", "sayRun", "(III)V"⟩, 40) := ⟨⟨by decide +kernel, by decide +kernel⟩, List.mem_of_getElem? (i := 804) (by decide +kernel), List.mem_of_getElem? (i := 1037) (by decide +kernel), List.mem_of_getElem? (i := 1038) (by decide +kernel)⟩
def lw_privs_2 : List (MethodName × Nat) := [(⟨"RowsAloudModel", "isRead", "()Z"⟩, 40), (⟨"RowsAloudModel", "peek", "()I"⟩, 40), (⟨"RowsAloudModel", "isClause", "()Z"⟩, 40), (⟨"RowsAloudModel", "isBad", "(I)Z"⟩, 40), (⟨"RowsAloudModel", "isFigures", "([III)Z"⟩, 40), (⟨"RowsAloudModel", "runs", "()I"⟩, 40), (⟨"RowsAloudModel", "longest", "(I)I"⟩, 40), (⟨"RowsAloudModel", "unlikeOnes", "()I"⟩, 40), (⟨"RowsAloudModel", "waysToTell", "()I"⟩, 40), (⟨"RowsAloudModel", "stands", "(II)Z"⟩, 40), (⟨"RowsAloudModel", "figureAt", "(I)I"⟩, 40), (⟨"RowsAloudModel", "isWord", "(I)Z"⟩, 40), (⟨"RowsAloudModel", "begin", "()V"⟩, 40), (⟨"RowsAloudModel", "reads", "(I)V"⟩, 40), (⟨"RowsAloudModel", "sayBackward", "()V"⟩, 40), (⟨"RowsAloudModel", "sayRun", "(III)V"⟩, 40)]
theorem lw_r2 : ∀ q ∈ lw_privs_2, lw_okq q := List.forall_mem_cons.mpr ⟨lw_p16, List.forall_mem_cons.mpr ⟨lw_p17, List.forall_mem_cons.mpr ⟨lw_p18, List.forall_mem_cons.mpr ⟨lw_p19, List.forall_mem_cons.mpr ⟨lw_p20, List.forall_mem_cons.mpr ⟨lw_p21, List.forall_mem_cons.mpr ⟨lw_p22, List.forall_mem_cons.mpr ⟨lw_p23, List.forall_mem_cons.mpr ⟨lw_p24, List.forall_mem_cons.mpr ⟨lw_p25, List.forall_mem_cons.mpr ⟨lw_p26, List.forall_mem_cons.mpr ⟨lw_p27, List.forall_mem_cons.mpr ⟨lw_p28, List.forall_mem_cons.mpr ⟨lw_p29, List.forall_mem_cons.mpr ⟨lw_p30, List.forall_mem_cons.mpr ⟨lw_p31, fun _ h => absurd h List.not_mem_nil⟩⟩⟩⟩⟩⟩⟩⟩⟩⟩⟩⟩⟩⟩⟩⟩
theorem lw_p32 : lw_okq (⟨"RowsAloudModel", "say", "(I)V"⟩, 40) := ⟨⟨by decide +kernel, by decide +kernel⟩, List.mem_of_getElem? (i := 804) (by decide +kernel), List.mem_of_getElem? (i := 1041) (by decide +kernel), List.mem_of_getElem? (i := 1042) (by decide +kernel)⟩
theorem lw_p33 : lw_okq (⟨"RowsAloudModel", "sayAll", "()V"⟩, 40) := ⟨⟨by decide +kernel, by decide +kernel⟩, List.mem_of_getElem? (i := 804) (by decide +kernel), List.mem_of_getElem? (i := 1045) (by decide +kernel), List.mem_of_getElem? (i := 1046) (by decide +kernel)⟩
theorem lw_p34 : lw_okq (⟨"RowsAloudModel", "sayRuns", "(I)V"⟩, 40) := ⟨⟨by decide +kernel, by decide +kernel⟩, List.mem_of_getElem? (i := 804) (by decide +kernel), List.mem_of_getElem? (i := 1049) (by decide +kernel), List.mem_of_getElem? (i := 1050) (by decide +kernel)⟩
theorem lw_p35 : lw_okq (⟨"RowsAloudModel", "note", "()V"⟩, 40) := ⟨⟨by decide +kernel, by decide +kernel⟩, List.mem_of_getElem? (i := 804) (by decide +kernel), List.mem_of_getElem? (i := 1054) (by decide +kernel), List.mem_of_getElem? (i := 1055) (by decide +kernel)⟩
theorem lw_p36 : lw_okq (⟨"RowsAloudModel", "logs", "(I)V"⟩, 40) := ⟨⟨by decide +kernel, by decide +kernel⟩, List.mem_of_getElem? (i := 804) (by decide +kernel), List.mem_of_getElem? (i := 1058) (by decide +kernel), List.mem_of_getElem? (i := 1059) (by decide +kernel)⟩
theorem lw_p37 : lw_okq (⟨"RowsAloudModel", "become", "()V"⟩, 40) := ⟨⟨by decide +kernel, by decide +kernel⟩, List.mem_of_getElem? (i := 804) (by decide +kernel), List.mem_of_getElem? (i := 1062) (by decide +kernel), List.mem_of_getElem? (i := 1063) (by decide +kernel)⟩
theorem lw_p38 : lw_okq (⟨"RowsAloudModel", "isUnread", "()Z"⟩, 40) := ⟨⟨by decide +kernel, by decide +kernel⟩, List.mem_of_getElem? (i := 804) (by decide +kernel), List.mem_of_getElem? (i := 1070) (by decide +kernel), List.mem_of_getElem? (i := 1071) (by decide +kernel)⟩
theorem lw_p39 : lw_okq (⟨"RowsAloudModel", "drifts", "()V"⟩, 40) := ⟨⟨by decide +kernel, by decide +kernel⟩, List.mem_of_getElem? (i := 804) (by decide +kernel), List.mem_of_getElem? (i := 1099) (by decide +kernel), List.mem_of_getElem? (i := 1100) (by decide +kernel)⟩
theorem lw_p40 : lw_okq (⟨"RowsAloudModel", "draw", "(I)I"⟩, 40) := ⟨⟨by decide +kernel, by decide +kernel⟩, List.mem_of_getElem? (i := 804) (by decide +kernel), List.mem_of_getElem? (i := 1103) (by decide +kernel), List.mem_of_getElem? (i := 1104) (by decide +kernel)⟩
theorem lw_p41 : lw_okq (⟨"RowsAloudModel", "readOn", "(II)V"⟩, 40) := ⟨⟨by decide +kernel, by decide +kernel⟩, List.mem_of_getElem? (i := 804) (by decide +kernel), List.mem_of_getElem? (i := 1122) (by decide +kernel), List.mem_of_getElem? (i := 1123) (by decide +kernel)⟩
theorem lw_p42 : lw_okq (⟨"RowsAloudModel", "oftenThere", "(I)I"⟩, 40) := ⟨⟨by decide +kernel, by decide +kernel⟩, List.mem_of_getElem? (i := 804) (by decide +kernel), List.mem_of_getElem? (i := 1134) (by decide +kernel), List.mem_of_getElem? (i := 1135) (by decide +kernel)⟩
theorem lw_p43 : lw_okq (⟨"RowsAloudModel", "earlier", "(I)I"⟩, 40) := ⟨⟨by decide +kernel, by decide +kernel⟩, List.mem_of_getElem? (i := 804) (by decide +kernel), List.mem_of_getElem? (i := 1146) (by decide +kernel), List.mem_of_getElem? (i := 1147) (by decide +kernel)⟩
theorem lw_p44 : lw_okq (⟨"RowsAloudModel", "isPast", "(I)Z"⟩, 40) := ⟨⟨by decide +kernel, by decide +kernel⟩, List.mem_of_getElem? (i := 804) (by decide +kernel), List.mem_of_getElem? (i := 1150) (by decide +kernel), List.mem_of_getElem? (i := 1151) (by decide +kernel)⟩
theorem lw_p45 : lw_okq (⟨"RowsAloudModel", "isApart", "(I)Z"⟩, 40) := ⟨⟨by decide +kernel, by decide +kernel⟩, List.mem_of_getElem? (i := 804) (by decide +kernel), List.mem_of_getElem? (i := 1158) (by decide +kernel), List.mem_of_getElem? (i := 1159) (by decide +kernel)⟩
theorem lw_p46 : lw_okq (⟨"RowsAloudModel", "addPart", "(III)V"⟩, 40) := ⟨⟨by decide +kernel, by decide +kernel⟩, List.mem_of_getElem? (i := 804) (by decide +kernel), List.mem_of_getElem? (i := 1162) (by decide +kernel), List.mem_of_getElem? (i := 1163) (by decide +kernel)⟩
theorem lw_p47 : lw_okq (⟨"RowsAloudModel", "isItself", "()Z"⟩, 40) := ⟨⟨by decide +kernel, by decide +kernel⟩, List.mem_of_getElem? (i := 804) (by decide +kernel), List.mem_of_getElem? (i := 1170) (by decide +kernel), List.mem_of_getElem? (i := 1171) (by decide +kernel)⟩
def lw_privs_3 : List (MethodName × Nat) := [(⟨"RowsAloudModel", "say", "(I)V"⟩, 40), (⟨"RowsAloudModel", "sayAll", "()V"⟩, 40), (⟨"RowsAloudModel", "sayRuns", "(I)V"⟩, 40), (⟨"RowsAloudModel", "note", "()V"⟩, 40), (⟨"RowsAloudModel", "logs", "(I)V"⟩, 40), (⟨"RowsAloudModel", "become", "()V"⟩, 40), (⟨"RowsAloudModel", "isUnread", "()Z"⟩, 40), (⟨"RowsAloudModel", "drifts", "()V"⟩, 40), (⟨"RowsAloudModel", "draw", "(I)I"⟩, 40), (⟨"RowsAloudModel", "readOn", "(II)V"⟩, 40), (⟨"RowsAloudModel", "oftenThere", "(I)I"⟩, 40), (⟨"RowsAloudModel", "earlier", "(I)I"⟩, 40), (⟨"RowsAloudModel", "isPast", "(I)Z"⟩, 40), (⟨"RowsAloudModel", "isApart", "(I)Z"⟩, 40), (⟨"RowsAloudModel", "addPart", "(III)V"⟩, 40), (⟨"RowsAloudModel", "isItself", "()Z"⟩, 40)]
theorem lw_r3 : ∀ q ∈ lw_privs_3, lw_okq q := List.forall_mem_cons.mpr ⟨lw_p32, List.forall_mem_cons.mpr ⟨lw_p33, List.forall_mem_cons.mpr ⟨lw_p34, List.forall_mem_cons.mpr ⟨lw_p35, List.forall_mem_cons.mpr ⟨lw_p36, List.forall_mem_cons.mpr ⟨lw_p37, List.forall_mem_cons.mpr ⟨lw_p38, List.forall_mem_cons.mpr ⟨lw_p39, List.forall_mem_cons.mpr ⟨lw_p40, List.forall_mem_cons.mpr ⟨lw_p41, List.forall_mem_cons.mpr ⟨lw_p42, List.forall_mem_cons.mpr ⟨lw_p43, List.forall_mem_cons.mpr ⟨lw_p44, List.forall_mem_cons.mpr ⟨lw_p45, List.forall_mem_cons.mpr ⟨lw_p46, List.forall_mem_cons.mpr ⟨lw_p47, fun _ h => absurd h List.not_mem_nil⟩⟩⟩⟩⟩⟩⟩⟩⟩⟩⟩⟩⟩⟩⟩⟩
theorem lw_p48 : lw_okq (⟨"RowsAloudModel", "readWord", "(II)V"⟩, 40) := ⟨⟨by decide +kernel, by decide +kernel⟩, List.mem_of_getElem? (i := 804) (by decide +kernel), List.mem_of_getElem? (i := 1195) (by decide +kernel), List.mem_of_getElem? (i := 1196) (by decide +kernel)⟩
theorem lw_p49 : lw_okq (⟨"RowsAloudModel", "isSaid", "(I)Z"⟩, 40) := ⟨⟨by decide +kernel, by decide +kernel⟩, List.mem_of_getElem? (i := 804) (by decide +kernel), List.mem_of_getElem? (i := 1199) (by decide +kernel), List.mem_of_getElem? (i := 1200) (by decide +kernel)⟩
theorem lw_p50 : lw_okq (⟨"RowsAloudModel", "alikeOnes", "(II)I"⟩, 40) := ⟨⟨by decide +kernel, by decide +kernel⟩, List.mem_of_getElem? (i := 804) (by decide +kernel), List.mem_of_getElem? (i := 1208) (by decide +kernel), List.mem_of_getElem? (i := 1209) (by decide +kernel)⟩
def lw_privs_4 : List (MethodName × Nat) := [(⟨"RowsAloudModel", "readWord", "(II)V"⟩, 40), (⟨"RowsAloudModel", "isSaid", "(I)Z"⟩, 40), (⟨"RowsAloudModel", "alikeOnes", "(II)I"⟩, 40)]
theorem lw_r4 : ∀ q ∈ lw_privs_4, lw_okq q := List.forall_mem_cons.mpr ⟨lw_p48, List.forall_mem_cons.mpr ⟨lw_p49, List.forall_mem_cons.mpr ⟨lw_p50, fun _ h => absurd h List.not_mem_nil⟩⟩⟩
def lw_privs : List (MethodName × Nat) := lw_privs_1 ++ (lw_privs_2 ++ (lw_privs_3 ++ (lw_privs_4)))
def lw_tbl : List Cond := k2_sels lw_privs ++ tables_1
theorem lw_privs_ok : ∀ q ∈ lw_privs, lw_okq q := by
  show ∀ q ∈ lw_privs_1 ++ (lw_privs_2 ++ (lw_privs_3 ++ (lw_privs_4))), lw_okq q
  exact List.forall_mem_append.mpr ⟨lw_r1, List.forall_mem_append.mpr ⟨lw_r2, List.forall_mem_append.mpr ⟨lw_r3, lw_r4⟩⟩⟩
end
section
def RX0 : String := "RowsAloud$Book"
def TX0 : u_T := fun k => match k with
  | 0 => ("RowsAloud$Book", "places", "[B", true)
  | 1 => ("RowsAloud$Book", "figures", "[B", true)
  | _ => ("RowsAloud$Book", "count", "I", false)
def tyX0 : Nat → FieldType := fun k => match k with
  | 0 => .array .byte
  | 1 => .array .byte
  | _ => .int
theorem nmX0 : ∀ a, a < 3 → ∀ b, b < 3 → a ≠ b → (TX0 a).2.1 ≠ (TX0 b).2.1 := by decide +kernel
theorem tyX0_ok : ∀ k, k < 3 → parseFieldDescriptor (TX0 k).2.2.1 = some (tyX0 k) := by decide +kernel
abbrev cX0_init : ByteArray := prog_2_method_1_code
def yX0_init : MethodName := ⟨RX0, "<init>", "()V"⟩
abbrev cX0_append : ByteArray := prog_2_method_2_code
def yX0_append : MethodName := ⟨RX0, "append", "(II)Z"⟩
abbrev cX0_firstWrong : ByteArray := prog_2_method_3_code
def yX0_firstWrong : MethodName := ⟨RX0, "firstWrong", "(LRowsAloud$Figures;)I"⟩
def RX1 : String := "RowsAloud$DeskText"
def TX1 : u_T := fun k => match k with
  | 0 => ("RowsAloud$DeskText", "letters", "[C", true)
  | 1 => ("RowsAloud$DeskText", "row", "LRowsAloud$Figures;", true)
  | 2 => ("RowsAloud$DeskText", "words", "LRowsAloud$WordList;", true)
  | 3 => ("RowsAloud$DeskText", "count", "I", false)
  | 4 => ("RowsAloud$DeskText", "fault", "I", false)
  | 5 => ("RowsAloud$DeskText", "faultAt", "I", false)
  | _ => ("RowsAloud$DeskText", "open", "LRowsAloud$Figures;", false)
def tyX1 : Nat → FieldType := fun k => match k with
  | 0 => .array .char
  | 1 => .object "RowsAloud$Figures"
  | 2 => .object "RowsAloud$WordList"
  | 3 => .int
  | 4 => .int
  | 5 => .int
  | _ => .object "RowsAloud$Figures"
theorem nmX1 : ∀ a, a < 7 → ∀ b, b < 7 → a ≠ b → (TX1 a).2.1 ≠ (TX1 b).2.1 := by decide +kernel
theorem tyX1_ok : ∀ k, k < 7 → parseFieldDescriptor (TX1 k).2.2.1 = some (tyX1 k) := by decide +kernel
abbrev cX1_init : ByteArray := prog_3_method_1_code
def yX1_init : MethodName := ⟨RX1, "<init>", "()V"⟩
abbrev cX1_append : ByteArray := prog_3_method_2_code
def yX1_append : MethodName := ⟨RX1, "append", "(I)Z"⟩
abbrev cX1_parse : ByteArray := prog_3_method_3_code
def yX1_parse : MethodName := ⟨RX1, "parse", "()V"⟩
abbrev cX1_noteFault : ByteArray := prog_3_method_4_code
def yX1_noteFault : MethodName := ⟨RX1, "noteFault", "(II)V"⟩
abbrev cX1_takeLetter : ByteArray := prog_3_method_5_code
def yX1_takeLetter : MethodName := ⟨RX1, "takeLetter", "(I)I"⟩
abbrev cX1_openClause : ByteArray := prog_3_method_6_code
def yX1_openClause : MethodName := ⟨RX1, "openClause", "(I)I"⟩
abbrev cX1_goOn : ByteArray := prog_3_method_7_code
def yX1_goOn : MethodName := ⟨RX1, "goOn", "(ILRowsAloud$Figures;)I"⟩
def RX2 : String := "RowsAloud$Figures"
def TX2 : u_T := fun k => match k with
  | 0 => ("RowsAloud$Figures", "cells", "[B", false)
  | _ => ("RowsAloud$Figures", "count", "I", false)
def tyX2 : Nat → FieldType := fun k => match k with
  | 0 => .array .byte
  | _ => .int
theorem nmX2 : ∀ a, a < 2 → ∀ b, b < 2 → a ≠ b → (TX2 a).2.1 ≠ (TX2 b).2.1 := by decide +kernel
theorem tyX2_ok : ∀ k, k < 2 → parseFieldDescriptor (TX2 k).2.2.1 = some (tyX2 k) := by decide +kernel
abbrev cX2_init : ByteArray := prog_4_method_1_code
def yX2_init : MethodName := ⟨RX2, "<init>", "(I)V"⟩
abbrev cX2_startOver : ByteArray := prog_4_method_2_code
def yX2_startOver : MethodName := ⟨RX2, "startOver", "(I)V"⟩
abbrev cX2_get : ByteArray := prog_4_method_3_code
def yX2_get : MethodName := ⟨RX2, "get", "(I)I"⟩
abbrev cX2_set : ByteArray := prog_4_method_4_code
def yX2_set : MethodName := ⟨RX2, "set", "(II)V"⟩
abbrev cX2_add : ByteArray := prog_4_method_5_code
def yX2_add : MethodName := ⟨RX2, "add", "(I)Z"⟩
abbrev cX2_addAll : ByteArray := prog_4_method_6_code
def yX2_addAll : MethodName := ⟨RX2, "addAll", "(LRowsAloud$Figures;)V"⟩
abbrev cX2_cut : ByteArray := prog_4_method_7_code
def yX2_cut : MethodName := ⟨RX2, "cut", "(I)V"⟩
abbrev cX2_reverse : ByteArray := prog_4_method_8_code
def yX2_reverse : MethodName := ⟨RX2, "reverse", "()V"⟩
abbrev cX2_copyFrom : ByteArray := prog_4_method_9_code
def yX2_copyFrom : MethodName := ⟨RX2, "copyFrom", "(LRowsAloud$Figures;)V"⟩
abbrev cX2_same : ByteArray := prog_4_method_10_code
def yX2_same : MethodName := ⟨RX2, "same", "(LRowsAloud$Figures;)Z"⟩
abbrev cX2_standsAt : ByteArray := prog_4_method_11_code
def yX2_standsAt : MethodName := ⟨RX2, "standsAt", "(ILRowsAloud$Figures;)Z"⟩
abbrev cX2_placeOf : ByteArray := prog_4_method_12_code
def yX2_placeOf : MethodName := ⟨RX2, "placeOf", "(LRowsAloud$Figures;)I"⟩
abbrev cX2_countOf : ByteArray := prog_4_method_13_code
def yX2_countOf : MethodName := ⟨RX2, "countOf", "(I)I"⟩
abbrev cX2_has : ByteArray := prog_4_method_14_code
def yX2_has : MethodName := ⟨RX2, "has", "(I)Z"⟩
abbrev cX2_unlike : ByteArray := prog_4_method_15_code
def yX2_unlike : MethodName := ⟨RX2, "unlike", "()I"⟩
abbrev cX2_runs : ByteArray := prog_4_method_16_code
def yX2_runs : MethodName := ⟨RX2, "runs", "()I"⟩
abbrev cX2_runFrom : ByteArray := prog_4_method_17_code
def yX2_runFrom : MethodName := ⟨RX2, "runFrom", "(I)I"⟩
abbrev cX2_longestRun : ByteArray := prog_4_method_18_code
def yX2_longestRun : MethodName := ⟨RX2, "longestRun", "()I"⟩
abbrev cX2_longestRunStart : ByteArray := prog_4_method_19_code
def yX2_longestRunStart : MethodName := ⟨RX2, "longestRunStart", "()I"⟩
def RX3 : String := "RowsAloud$Heard"
def TX3 : u_T := fun k => match k with
  | 0 => ("RowsAloud$Heard", "readWords", "[I", true)
  | 1 => ("RowsAloud$Heard", "saidWords", "[I", true)
  | 2 => ("RowsAloud$Heard", "wasSaid", "[Z", true)
  | 3 => ("RowsAloud$Heard", "readings", "[LRowsAloud$Figures;", true)
  | _ => ("RowsAloud$Heard", "count", "I", false)
def tyX3 : Nat → FieldType := fun k => match k with
  | 0 => .array .int
  | 1 => .array .int
  | 2 => .array .boolean
  | 3 => .array (.object "RowsAloud$Figures")
  | _ => .int
theorem nmX3 : ∀ a, a < 5 → ∀ b, b < 5 → a ≠ b → (TX3 a).2.1 ≠ (TX3 b).2.1 := by decide +kernel
theorem tyX3_ok : ∀ k, k < 5 → parseFieldDescriptor (TX3 k).2.2.1 = some (tyX3 k) := by decide +kernel
abbrev cX3_init : ByteArray := prog_5_method_1_code
def yX3_init : MethodName := ⟨RX3, "<init>", "()V"⟩
abbrev cX3_append : ByteArray := prog_5_method_2_code
def yX3_append : MethodName := ⟨RX3, "append", "(IIZ)Z"⟩
abbrev cX3_kindsThatFit : ByteArray := prog_5_method_3_code
def yX3_kindsThatFit : MethodName := ⟨RX3, "kindsThatFit", "(LRowsAloud$WordList;)I"⟩
abbrev cX3_fits : ByteArray := prog_5_method_4_code
def yX3_fits : MethodName := ⟨RX3, "fits", "(ILRowsAloud$WordList;)Z"⟩
abbrev cX3_bestToAsk : ByteArray := prog_5_method_5_code
def yX3_bestToAsk : MethodName := ⟨RX3, "bestToAsk", "(LRowsAloud$WordList;I)I"⟩
abbrev cX3_greatestPart : ByteArray := prog_5_method_6_code
def yX3_greatestPart : MethodName := ⟨RX3, "greatestPart", "(LRowsAloud$Figures;I)I"⟩
abbrev cX3_howManyLike : ByteArray := prog_5_method_7_code
def yX3_howManyLike : MethodName := ⟨RX3, "howManyLike", "(II)I"⟩
def RX4 : String := "RowsAloud$Images"
def TX4 : u_T := fun k => match k with
  | 0 => ("RowsAloud$Images", "states", "[LRowsAloud$State;", true)
  | 1 => ("RowsAloud$Images", "seeds", "[I", true)
  | _ => ("RowsAloud$Images", "kept", "[Z", true)
def tyX4 : Nat → FieldType := fun k => match k with
  | 0 => .array (.object "RowsAloud$State")
  | 1 => .array .int
  | _ => .array .boolean
theorem nmX4 : ∀ a, a < 3 → ∀ b, b < 3 → a ≠ b → (TX4 a).2.1 ≠ (TX4 b).2.1 := by decide +kernel
theorem tyX4_ok : ∀ k, k < 3 → parseFieldDescriptor (TX4 k).2.2.1 = some (tyX4 k) := by decide +kernel
abbrev cX4_init : ByteArray := prog_6_method_1_code
def yX4_init : MethodName := ⟨RX4, "<init>", "()V"⟩
abbrev cX4_clear : ByteArray := prog_6_method_2_code
def yX4_clear : MethodName := ⟨RX4, "clear", "()V"⟩
abbrev cX4_has : ByteArray := prog_6_method_3_code
def yX4_has : MethodName := ⟨RX4, "has", "(I)Z"⟩
abbrev cX4_isKept : ByteArray := prog_6_method_4_code
def yX4_isKept : MethodName := ⟨RX4, "isKept", "(I)Z"⟩
abbrev cX4_take : ByteArray := prog_6_method_5_code
def yX4_take : MethodName := ⟨RX4, "take", "(ILRowsAloud$State;I)V"⟩
abbrev cX4_give : ByteArray := prog_6_method_6_code
def yX4_give : MethodName := ⟨RX4, "give", "(ILRowsAloud$State;)V"⟩
abbrev cX4_seedOf : ByteArray := prog_6_method_7_code
def yX4_seedOf : MethodName := ⟨RX4, "seedOf", "(I)I"⟩
def RX5 : String := "RowsAloud$Parting"
def TX5 : u_T := fun k => match k with
  | 0 => ("RowsAloud$Parting", "places", "[I", true)
  | 1 => ("RowsAloud$Parting", "standing", "[I", true)
  | _ => ("RowsAloud$Parting", "count", "I", false)
def tyX5 : Nat → FieldType := fun k => match k with
  | 0 => .array .int
  | 1 => .array .int
  | _ => .int
theorem nmX5 : ∀ a, a < 3 → ∀ b, b < 3 → a ≠ b → (TX5 a).2.1 ≠ (TX5 b).2.1 := by decide +kernel
theorem tyX5_ok : ∀ k, k < 3 → parseFieldDescriptor (TX5 k).2.2.1 = some (tyX5 k) := by decide +kernel
abbrev cX5_init : ByteArray := prog_7_method_1_code
def yX5_init : MethodName := ⟨RX5, "<init>", "()V"⟩
abbrev cX5_find : ByteArray := prog_7_method_2_code
def yX5_find : MethodName := ⟨RX5, "find", "(LRowsAloud$Figures;LRowsAloud$Trials;)V"⟩
abbrev cX5_follow : ByteArray := prog_7_method_3_code
def yX5_follow : MethodName := ⟨RX5, "follow", "(LRowsAloud$Figures;)V"⟩
abbrev cX5_firstPlace : ByteArray := prog_7_method_4_code
def yX5_firstPlace : MethodName := ⟨RX5, "firstPlace", "()I"⟩
abbrev cX5_longestPart : ByteArray := prog_7_method_5_code
def yX5_longestPart : MethodName := ⟨RX5, "longestPart", "(I)I"⟩
def RX6 : String := "RowsAloud$Past"
def TX6 : u_T := fun k => match k with
  | 0 => ("RowsAloud$Past", "states", "[LRowsAloud$State;", true)
  | 1 => ("RowsAloud$Past", "next", "I", false)
  | _ => ("RowsAloud$Past", "count", "I", false)
def tyX6 : Nat → FieldType := fun k => match k with
  | 0 => .array (.object "RowsAloud$State")
  | 1 => .int
  | _ => .int
theorem nmX6 : ∀ a, a < 3 → ∀ b, b < 3 → a ≠ b → (TX6 a).2.1 ≠ (TX6 b).2.1 := by decide +kernel
theorem tyX6_ok : ∀ k, k < 3 → parseFieldDescriptor (TX6 k).2.2.1 = some (tyX6 k) := by decide +kernel
abbrev cX6_init : ByteArray := prog_8_method_1_code
def yX6_init : MethodName := ⟨RX6, "<init>", "()V"⟩
abbrev cX6_clear : ByteArray := prog_8_method_2_code
def yX6_clear : MethodName := ⟨RX6, "clear", "()V"⟩
abbrev cX6_remember : ByteArray := prog_8_method_3_code
def yX6_remember : MethodName := ⟨RX6, "remember", "(LRowsAloud$State;)V"⟩
abbrev cX6_restore : ByteArray := prog_8_method_4_code
def yX6_restore : MethodName := ⟨RX6, "restore", "(ILRowsAloud$State;)V"⟩
def RX7 : String := "RowsAloud$Readers"
def TX7 : u_T := fun k => match k with
  | _ => ("", "", "", false)
def tyX7 : Nat → FieldType := fun k => match k with
  | _ => .int
theorem nmX7 : ∀ a, a < 0 → ∀ b, b < 0 → a ≠ b → (TX7 a).2.1 ≠ (TX7 b).2.1 := by decide +kernel
theorem tyX7_ok : ∀ k, k < 0 → parseFieldDescriptor (TX7 k).2.2.1 = some (tyX7 k) := by decide +kernel
abbrev cX7_say : ByteArray := prog_9_method_2_code
def yX7_say : MethodName := ⟨RX7, "say", "(ILRowsAloud$Figures;LRowsAloud$Figures;)V"⟩
abbrev cX7_sayCounts : ByteArray := prog_9_method_3_code
def yX7_sayCounts : MethodName := ⟨RX7, "sayCounts", "(LRowsAloud$Figures;LRowsAloud$Figures;)V"⟩
abbrev cX7_sayRuns : ByteArray := prog_9_method_4_code
def yX7_sayRuns : MethodName := ⟨RX7, "sayRuns", "(ILRowsAloud$Figures;LRowsAloud$Figures;)V"⟩
abbrev cX7_sayMany : ByteArray := prog_9_method_5_code
def yX7_sayMany : MethodName := ⟨RX7, "sayMany", "(IIILRowsAloud$Figures;)V"⟩
abbrev cX7_sizeUnsaid : ByteArray := prog_9_method_6_code
def yX7_sizeUnsaid : MethodName := ⟨RX7, "sizeUnsaid", "(LRowsAloud$Figures;)I"⟩
abbrev cX7_unsay : ByteArray := prog_9_method_7_code
def yX7_unsay : MethodName := ⟨RX7, "unsay", "(LRowsAloud$Figures;LRowsAloud$Figures;)V"⟩
def RX8 : String := "RowsAloud$State"
def TX8 : u_T := fun k => match k with
  | 0 => ("RowsAloud$State", "row", "LRowsAloud$Figures;", true)
  | 1 => ("RowsAloud$State", "logKinds", "[B", true)
  | 2 => ("RowsAloud$State", "logSizes", "[B", true)
  | 3 => ("RowsAloud$State", "logCount", "I", false)
  | _ => ("RowsAloud$State", "readings", "I", false)
def tyX8 : Nat → FieldType := fun k => match k with
  | 0 => .object "RowsAloud$Figures"
  | 1 => .array .byte
  | 2 => .array .byte
  | 3 => .int
  | _ => .int
theorem nmX8 : ∀ a, a < 5 → ∀ b, b < 5 → a ≠ b → (TX8 a).2.1 ≠ (TX8 b).2.1 := by decide +kernel
theorem tyX8_ok : ∀ k, k < 5 → parseFieldDescriptor (TX8 k).2.2.1 = some (tyX8 k) := by decide +kernel
abbrev cX8_init : ByteArray := prog_10_method_1_code
def yX8_init : MethodName := ⟨RX8, "<init>", "()V"⟩
abbrev cX8_begin : ByteArray := prog_10_method_2_code
def yX8_begin : MethodName := ⟨RX8, "begin", "(LRowsAloud$Figures;)V"⟩
abbrev cX8_copyFrom : ByteArray := prog_10_method_3_code
def yX8_copyFrom : MethodName := ⟨RX8, "copyFrom", "(LRowsAloud$State;)V"⟩
abbrev cX8_becomeReading : ByteArray := prog_10_method_4_code
def yX8_becomeReading : MethodName := ⟨RX8, "becomeReading", "(ILRowsAloud$Figures;)V"⟩
abbrev cX8_logReading : ByteArray := prog_10_method_5_code
def yX8_logReading : MethodName := ⟨RX8, "logReading", "(I)V"⟩
abbrev cX8_loggedKind : ByteArray := prog_10_method_6_code
def yX8_loggedKind : MethodName := ⟨RX8, "loggedKind", "(I)I"⟩
abbrev cX8_loggedSize : ByteArray := prog_10_method_7_code
def yX8_loggedSize : MethodName := ⟨RX8, "loggedSize", "(I)I"⟩
def RX9 : String := "RowsAloud$Trials"
def TX9 : u_T := fun k => match k with
  | 0 => ("RowsAloud$Trials", "row", "LRowsAloud$Figures;", false)
  | 1 => ("RowsAloud$Trials", "other", "LRowsAloud$Figures;", false)
  | 2 => ("RowsAloud$Trials", "rounds", "[LRowsAloud$Figures;", true)
  | _ => ("RowsAloud$Trials", "likeWhich", "I", false)
def tyX9 : Nat → FieldType := fun k => match k with
  | 0 => .object "RowsAloud$Figures"
  | 1 => .object "RowsAloud$Figures"
  | 2 => .array (.object "RowsAloud$Figures")
  | _ => .int
theorem nmX9 : ∀ a, a < 4 → ∀ b, b < 4 → a ≠ b → (TX9 a).2.1 ≠ (TX9 b).2.1 := by decide +kernel
theorem tyX9_ok : ∀ k, k < 4 → parseFieldDescriptor (TX9 k).2.2.1 = some (tyX9 k) := by decide +kernel
abbrev cX9_init : ByteArray := prog_11_method_1_code
def yX9_init : MethodName := ⟨RX9, "<init>", "()V"⟩
abbrev cX9_begin : ByteArray := prog_11_method_2_code
def yX9_begin : MethodName := ⟨RX9, "begin", "(LRowsAloud$Figures;)V"⟩
abbrev cX9_readOn : ByteArray := prog_11_method_3_code
def yX9_readOn : MethodName := ⟨RX9, "readOn", "(IILRowsAloud$Figures;)LRowsAloud$Figures;"⟩
abbrev cX9_step : ByteArray := prog_11_method_4_code
def yX9_step : MethodName := ⟨RX9, "step", "(I)V"⟩
abbrev cX9_swap : ByteArray := prog_11_method_5_code
def yX9_swap : MethodName := ⟨RX9, "swap", "()V"⟩
abbrev cX9_firstWith : ByteArray := prog_11_method_6_code
def yX9_firstWith : MethodName := ⟨RX9, "firstWith", "(IILRowsAloud$Figures;)I"⟩
abbrev cX9_comesAgain : ByteArray := prog_11_method_7_code
def yX9_comesAgain : MethodName := ⟨RX9, "comesAgain", "(LRowsAloud$Figures;)I"⟩
abbrev cX9_firstLike : ByteArray := prog_11_method_8_code
def yX9_firstLike : MethodName := ⟨RX9, "firstLike", "(I)I"⟩
abbrev cX9_goOld : ByteArray := prog_11_method_9_code
def yX9_goOld : MethodName := ⟨RX9, "goOld", "(LRowsAloud$Figures;)I"⟩
def RX10 : String := "RowsAloud$WordList"
def TX10 : u_T := fun k => match k with
  | 0 => ("RowsAloud$WordList", "list", "[LRowsAloud$Figures;", true)
  | 1 => ("RowsAloud$WordList", "ways", "[I", true)
  | 2 => ("RowsAloud$WordList", "costs", "[I", true)
  | _ => ("RowsAloud$WordList", "count", "I", false)
def tyX10 : Nat → FieldType := fun k => match k with
  | 0 => .array (.object "RowsAloud$Figures")
  | 1 => .array .int
  | 2 => .array .int
  | _ => .int
theorem nmX10 : ∀ a, a < 4 → ∀ b, b < 4 → a ≠ b → (TX10 a).2.1 ≠ (TX10 b).2.1 := by decide +kernel
theorem tyX10_ok : ∀ k, k < 4 → parseFieldDescriptor (TX10 k).2.2.1 = some (tyX10 k) := by decide +kernel
abbrev cX10_init : ByteArray := prog_12_method_1_code
def yX10_init : MethodName := ⟨RX10, "<init>", "()V"⟩
abbrev cX10_get : ByteArray := prog_12_method_2_code
def yX10_get : MethodName := ⟨RX10, "get", "(I)LRowsAloud$Figures;"⟩
abbrev cX10_open : ByteArray := prog_12_method_3_code
def yX10_open : MethodName := ⟨RX10, "open", "()LRowsAloud$Figures;"⟩
abbrev cX10_copyFrom : ByteArray := prog_12_method_4_code
def yX10_copyFrom : MethodName := ⟨RX10, "copyFrom", "(LRowsAloud$WordList;)V"⟩
abbrev cX10_waysToTell : ByteArray := prog_12_method_5_code
def yX10_waysToTell : MethodName := ⟨RX10, "waysToTell", "(LRowsAloud$Figures;)I"⟩
abbrev cX10_waysToEnd : ByteArray := prog_12_method_6_code
def yX10_waysToEnd : MethodName := ⟨RX10, "waysToEnd", "(LRowsAloud$Figures;I)I"⟩
abbrev cX10_fewestChanges : ByteArray := prog_12_method_7_code
def yX10_fewestChanges : MethodName := ⟨RX10, "fewestChanges", "(LRowsAloud$Figures;LRowsAloud$Figures;)I"⟩
abbrev cX10_takeIn : ByteArray := prog_12_method_8_code
def yX10_takeIn : MethodName := ⟨RX10, "takeIn", "(ILRowsAloud$Figures;I)V"⟩
def RX11 : String := "RowsAloud"
def TX11 : u_T := fun k => match k with
  | 0 => ("RowsAloud", "text", "LRowsAloud$DeskText;", true)
  | 1 => ("RowsAloud", "words", "LRowsAloud$WordList;", true)
  | 2 => ("RowsAloud", "now", "LRowsAloud$State;", true)
  | 3 => ("RowsAloud", "past", "LRowsAloud$Past;", true)
  | 4 => ("RowsAloud", "images", "LRowsAloud$Images;", true)
  | 5 => ("RowsAloud", "heard", "LRowsAloud$Heard;", true)
  | 6 => ("RowsAloud", "book", "LRowsAloud$Book;", true)
  | 7 => ("RowsAloud", "trials", "LRowsAloud$Trials;", true)
  | 8 => ("RowsAloud", "parting", "LRowsAloud$Parting;", true)
  | 9 => ("RowsAloud", "spoken", "LRowsAloud$Figures;", true)
  | 10 => ("RowsAloud", "hasDesk", "Z", false)
  | _ => ("RowsAloud", "seedNow", "I", false)
def tyX11 : Nat → FieldType := fun k => match k with
  | 0 => .object "RowsAloud$DeskText"
  | 1 => .object "RowsAloud$WordList"
  | 2 => .object "RowsAloud$State"
  | 3 => .object "RowsAloud$Past"
  | 4 => .object "RowsAloud$Images"
  | 5 => .object "RowsAloud$Heard"
  | 6 => .object "RowsAloud$Book"
  | 7 => .object "RowsAloud$Trials"
  | 8 => .object "RowsAloud$Parting"
  | 9 => .object "RowsAloud$Figures"
  | 10 => .boolean
  | _ => .int
theorem nmX11 : ∀ a, a < 12 → ∀ b, b < 12 → a ≠ b → (TX11 a).2.1 ≠ (TX11 b).2.1 := by decide +kernel
theorem tyX11_ok : ∀ k, k < 12 → parseFieldDescriptor (TX11 k).2.2.1 = some (tyX11 k) := by decide +kernel
abbrev cX11_init : ByteArray := prog_1_method_1_code
def yX11_init : MethodName := ⟨RX11, "<init>", "()V"⟩
abbrev cX11_feed : ByteArray := prog_1_method_2_code
def yX11_feed : MethodName := ⟨RX11, "feed", "(I)I"⟩
abbrev cX11_desk : ByteArray := prog_1_method_3_code
def yX11_desk : MethodName := ⟨RX11, "desk", "()I"⟩
abbrev cX11_layDesk : ByteArray := prog_1_method_4_code
def yX11_layDesk : MethodName := ⟨RX11, "layDesk", "()V"⟩
abbrev cX11_fault : ByteArray := prog_1_method_5_code
def yX11_fault : MethodName := ⟨RX11, "fault", "()I"⟩
abbrev cX11_told : ByteArray := prog_1_method_6_code
def yX11_told : MethodName := ⟨RX11, "told", "(I)I"⟩
abbrev cX11_at : ByteArray := prog_1_method_7_code
def yX11_at : MethodName := ⟨RX11, "at", "(I)I"⟩
abbrev cX11_spelt : ByteArray := prog_1_method_8_code
def yX11_spelt : MethodName := ⟨RX11, "spelt", "(II)I"⟩
abbrev cX11_logged : ByteArray := prog_1_method_9_code
def yX11_logged : MethodName := ⟨RX11, "logged", "(II)I"⟩
abbrev cX11_read : ByteArray := prog_1_method_10_code
def yX11_read : MethodName := ⟨RX11, "read", "(I)I"⟩
abbrev cX11_unread : ByteArray := prog_1_method_11_code
def yX11_unread : MethodName := ⟨RX11, "unread", "()I"⟩
abbrev cX11_put : ByteArray := prog_1_method_12_code
def yX11_put : MethodName := ⟨RX11, "put", "(I)I"⟩
abbrev cX11_word : ByteArray := prog_1_method_13_code
def yX11_word : MethodName := ⟨RX11, "word", "(I)I"⟩
abbrev cX11_change : ByteArray := prog_1_method_14_code
def yX11_change : MethodName := ⟨RX11, "change", "(II)I"⟩
abbrev cX11_drop : ByteArray := prog_1_method_15_code
def yX11_drop : MethodName := ⟨RX11, "drop", "(I)I"⟩
abbrev cX11_turn : ByteArray := prog_1_method_16_code
def yX11_turn : MethodName := ⟨RX11, "turn", "()I"⟩
abbrev cX11_drift : ByteArray := prog_1_method_17_code
def yX11_drift : MethodName := ⟨RX11, "drift", "(I)I"⟩
abbrev cX11_driftOnce : ByteArray := prog_1_method_18_code
def yX11_driftOnce : MethodName := ⟨RX11, "driftOnce", "()V"⟩
abbrev cX11_draw : ByteArray := prog_1_method_19_code
def yX11_draw : MethodName := ⟨RX11, "draw", "(I)I"⟩
abbrev cX11_undo : ByteArray := prog_1_method_20_code
def yX11_undo : MethodName := ⟨RX11, "undo", "(I)I"⟩
abbrev cX11_length : ByteArray := prog_1_method_21_code
def yX11_length : MethodName := ⟨RX11, "length", "(II)I"⟩
abbrev cX11_figure : ByteArray := prog_1_method_22_code
def yX11_figure : MethodName := ⟨RX11, "figure", "(III)I"⟩
abbrev cX11_often : ByteArray := prog_1_method_23_code
def yX11_often : MethodName := ⟨RX11, "often", "(III)I"⟩
abbrev cX11_first : ByteArray := prog_1_method_24_code
def yX11_first : MethodName := ⟨RX11, "first", "(II)I"⟩
abbrev cX11_again : ByteArray := prog_1_method_25_code
def yX11_again : MethodName := ⟨RX11, "again", "(I)I"⟩
abbrev cX11_apart : ByteArray := prog_1_method_26_code
def yX11_apart : MethodName := ⟨RX11, "apart", "(I)I"⟩
abbrev cX11_back : ByteArray := prog_1_method_27_code
def yX11_back : MethodName := ⟨RX11, "back", "(I)I"⟩
abbrev cX11_in : ByteArray := prog_1_method_28_code
def yX11_in : MethodName := ⟨RX11, "in", "(I)I"⟩
abbrev cX11_changes : ByteArray := prog_1_method_29_code
def yX11_changes : MethodName := ⟨RX11, "changes", "(I)I"⟩
abbrev cX11_noSlip : ByteArray := prog_1_method_30_code
def yX11_noSlip : MethodName := ⟨RX11, "noSlip", "(II)I"⟩
abbrev cX11_hear : ByteArray := prog_1_method_31_code
def yX11_hear : MethodName := ⟨RX11, "hear", "(IIZ)I"⟩
abbrev cX11_couldBe : ByteArray := prog_1_method_32_code
def yX11_couldBe : MethodName := ⟨RX11, "couldBe", "()I"⟩
abbrev cX11_ask : ByteArray := prog_1_method_33_code
def yX11_ask : MethodName := ⟨RX11, "ask", "()I"⟩
abbrev cX11_write : ByteArray := prog_1_method_34_code
def yX11_write : MethodName := ⟨RX11, "write", "(II)I"⟩
abbrev cX11_judge : ByteArray := prog_1_method_35_code
def yX11_judge : MethodName := ⟨RX11, "judge", "()I"⟩
abbrev cX11_tear : ByteArray := prog_1_method_36_code
def yX11_tear : MethodName := ⟨RX11, "tear", "()I"⟩
abbrev cX11_seed : ByteArray := prog_1_method_37_code
def yX11_seed : MethodName := ⟨RX11, "seed", "(I)I"⟩
abbrev cX11_keep : ByteArray := prog_1_method_38_code
def yX11_keep : MethodName := ⟨RX11, "keep", "(I)I"⟩
abbrev cX11_goBack : ByteArray := prog_1_method_39_code
def yX11_goBack : MethodName := ⟨RX11, "goBack", "(I)I"⟩
abbrev cX11_isKind : ByteArray := prog_1_method_40_code
def yX11_isKind : MethodName := ⟨RX11, "isKind", "(I)Z"⟩
abbrev cX11_isFigure : ByteArray := prog_1_method_41_code
def yX11_isFigure : MethodName := ⟨RX11, "isFigure", "(I)Z"⟩
abbrev cX11_isPlace : ByteArray := prog_1_method_42_code
def yX11_isPlace : MethodName := ⟨RX11, "isPlace", "(I)Z"⟩
abbrev cX11_isTried : ByteArray := prog_1_method_43_code
def yX11_isTried : MethodName := ⟨RX11, "isTried", "(II)Z"⟩
def RX12 : String := "RowsAloudModel"
def TX12 : u_T := fun k => match k with
  | 0 => ("RowsAloudModel", "letters", "I", false)
  | 1 => ("RowsAloudModel", "text", "[I", true)
  | 2 => ("RowsAloudModel", "position", "I", false)
  | 3 => ("RowsAloudModel", "faultNow", "I", false)
  | 4 => ("RowsAloudModel", "faultOf", "I", false)
  | 5 => ("RowsAloudModel", "readSize", "I", false)
  | 6 => ("RowsAloudModel", "readWords", "I", false)
  | 7 => ("RowsAloudModel", "readRow", "[I", true)
  | 8 => ("RowsAloudModel", "readWordSize", "[I", true)
  | 9 => ("RowsAloudModel", "readWord", "[I", true)
  | 10 => ("RowsAloudModel", "isDesk", "I", false)
  | 11 => ("RowsAloudModel", "words", "I", false)
  | 12 => ("RowsAloudModel", "wordSize", "[I", true)
  | 13 => ("RowsAloudModel", "wordOf", "[I", true)
  | 14 => ("RowsAloudModel", "now", "[I", true)
  | 15 => ("RowsAloudModel", "deed", "[I", true)
  | 16 => ("RowsAloudModel", "deeds", "I", false)
  | 17 => ("RowsAloudModel", "image", "[I", true)
  | 18 => ("RowsAloudModel", "imageSeed", "[I", true)
  | 19 => ("RowsAloudModel", "isKept", "[Z", true)
  | 20 => ("RowsAloudModel", "seedNow", "I", false)
  | 21 => ("RowsAloudModel", "hearings", "I", false)
  | 22 => ("RowsAloudModel", "heardWord", "[I", true)
  | 23 => ("RowsAloudModel", "heardSaid", "[I", true)
  | 24 => ("RowsAloudModel", "heardIs", "[Z", true)
  | 25 => ("RowsAloudModel", "entries", "I", false)
  | 26 => ("RowsAloudModel", "entryPlace", "[I", true)
  | 27 => ("RowsAloudModel", "entryFigure", "[I", true)
  | 28 => ("RowsAloudModel", "row", "[I", true)
  | 29 => ("RowsAloudModel", "size", "I", false)
  | 30 => ("RowsAloudModel", "said", "[I", true)
  | 31 => ("RowsAloudModel", "saidSize", "I", false)
  | 32 => ("RowsAloudModel", "part", "[I", true)
  | 33 => ("RowsAloudModel", "partSize", "I", false)
  | 34 => ("RowsAloudModel", "past", "[I", true)
  | 35 => ("RowsAloudModel", "pastSize", "[I", true)
  | 36 => ("RowsAloudModel", "ways", "[I", true)
  | 37 => ("RowsAloudModel", "near", "[I", true)
  | 38 => ("RowsAloudModel", "spoken", "[I", true)
  | _ => ("RowsAloudModel", "spokenSize", "[I", true)
def tyX12 : Nat → FieldType := fun k => match k with
  | 0 => .int
  | 1 => .array .int
  | 2 => .int
  | 3 => .int
  | 4 => .int
  | 5 => .int
  | 6 => .int
  | 7 => .array .int
  | 8 => .array .int
  | 9 => .array .int
  | 10 => .int
  | 11 => .int
  | 12 => .array .int
  | 13 => .array .int
  | 14 => .array .int
  | 15 => .array .int
  | 16 => .int
  | 17 => .array .int
  | 18 => .array .int
  | 19 => .array .boolean
  | 20 => .int
  | 21 => .int
  | 22 => .array .int
  | 23 => .array .int
  | 24 => .array .boolean
  | 25 => .int
  | 26 => .array .int
  | 27 => .array .int
  | 28 => .array .int
  | 29 => .int
  | 30 => .array .int
  | 31 => .int
  | 32 => .array .int
  | 33 => .int
  | 34 => .array .int
  | 35 => .array .int
  | 36 => .array .int
  | 37 => .array .int
  | 38 => .array .int
  | _ => .array .int
theorem nmX12 : ∀ a, a < 40 → ∀ b, b < 40 → a ≠ b → (TX12 a).2.1 ≠ (TX12 b).2.1 := by decide +kernel
theorem tyX12_ok : ∀ k, k < 40 → parseFieldDescriptor (TX12 k).2.2.1 = some (tyX12 k) := by decide +kernel
abbrev cX12_init : ByteArray := prog_14_method_1_code
def yX12_init : MethodName := ⟨RX12, "<init>", "()V"⟩
abbrev cX12_is : ByteArray := prog_14_method_2_code
def yX12_is : MethodName := ⟨RX12, "is", "(III)Z"⟩
abbrev cX12_has : ByteArray := prog_14_method_3_code
def yX12_has : MethodName := ⟨RX12, "has", "(II)Z"⟩
abbrev cX12_bring : ByteArray := prog_14_method_4_code
def yX12_bring : MethodName := ⟨RX12, "bring", "([II[III)V"⟩
abbrev cX12_feed : ByteArray := prog_14_method_5_code
def yX12_feed : MethodName := ⟨RX12, "feed", "(I)I"⟩
abbrev cX12_peek : ByteArray := prog_14_method_6_code
def yX12_peek : MethodName := ⟨RX12, "peek", "()I"⟩
abbrev cX12_isBad : ByteArray := prog_14_method_7_code
def yX12_isBad : MethodName := ⟨RX12, "isBad", "(I)Z"⟩
abbrev cX12_isFigures : ByteArray := prog_14_method_8_code
def yX12_isFigures : MethodName := ⟨RX12, "isFigures", "([III)Z"⟩
abbrev cX12_isClause : ByteArray := prog_14_method_9_code
def yX12_isClause : MethodName := ⟨RX12, "isClause", "()Z"⟩
abbrev cX12_isRead : ByteArray := prog_14_method_10_code
def yX12_isRead : MethodName := ⟨RX12, "isRead", "()Z"⟩
abbrev cX12_desk : ByteArray := prog_14_method_11_code
def yX12_desk : MethodName := ⟨RX12, "desk", "()I"⟩
abbrev cX12_fault : ByteArray := prog_14_method_12_code
def yX12_fault : MethodName := ⟨RX12, "fault", "()I"⟩
abbrev cX12_runs : ByteArray := prog_14_method_13_code
def yX12_runs : MethodName := ⟨RX12, "runs", "()I"⟩
abbrev cX12_longest : ByteArray := prog_14_method_14_code
def yX12_longest : MethodName := ⟨RX12, "longest", "(I)I"⟩
abbrev cX12_unlikeOnes : ByteArray := prog_14_method_15_code
def yX12_unlikeOnes : MethodName := ⟨RX12, "unlikeOnes", "()I"⟩
abbrev cX12_stands : ByteArray := prog_14_method_16_code
def yX12_stands : MethodName := ⟨RX12, "stands", "(II)Z"⟩
abbrev cX12_waysToTell : ByteArray := prog_14_method_17_code
def yX12_waysToTell : MethodName := ⟨RX12, "waysToTell", "()I"⟩
abbrev cX12_told : ByteArray := prog_14_method_18_code
def yX12_told : MethodName := ⟨RX12, "told", "(I)I"⟩
abbrev cX12_figureAt : ByteArray := prog_14_method_19_code
def yX12_figureAt : MethodName := ⟨RX12, "figureAt", "(I)I"⟩
abbrev cX12_at : ByteArray := prog_14_method_20_code
def yX12_at : MethodName := ⟨RX12, "at", "(I)I"⟩
abbrev cX12_isWord : ByteArray := prog_14_method_21_code
def yX12_isWord : MethodName := ⟨RX12, "isWord", "(I)Z"⟩
abbrev cX12_spelt : ByteArray := prog_14_method_22_code
def yX12_spelt : MethodName := ⟨RX12, "spelt", "(II)I"⟩
abbrev cX12_logged : ByteArray := prog_14_method_23_code
def yX12_logged : MethodName := ⟨RX12, "logged", "(II)I"⟩
abbrev cX12_say : ByteArray := prog_14_method_24_code
def yX12_say : MethodName := ⟨RX12, "say", "(I)V"⟩
abbrev cX12_sayRun : ByteArray := prog_14_method_25_code
def yX12_sayRun : MethodName := ⟨RX12, "sayRun", "(III)V"⟩
abbrev cX12_sayRuns : ByteArray := prog_14_method_26_code
def yX12_sayRuns : MethodName := ⟨RX12, "sayRuns", "(I)V"⟩
abbrev cX12_sayBackward : ByteArray := prog_14_method_27_code
def yX12_sayBackward : MethodName := ⟨RX12, "sayBackward", "()V"⟩
abbrev cX12_sayAll : ByteArray := prog_14_method_28_code
def yX12_sayAll : MethodName := ⟨RX12, "sayAll", "()V"⟩
abbrev cX12_reads : ByteArray := prog_14_method_29_code
def yX12_reads : MethodName := ⟨RX12, "reads", "(I)V"⟩
abbrev cX12_begin : ByteArray := prog_14_method_30_code
def yX12_begin : MethodName := ⟨RX12, "begin", "()V"⟩
abbrev cX12_note : ByteArray := prog_14_method_31_code
def yX12_note : MethodName := ⟨RX12, "note", "()V"⟩
abbrev cX12_become : ByteArray := prog_14_method_32_code
def yX12_become : MethodName := ⟨RX12, "become", "()V"⟩
abbrev cX12_logs : ByteArray := prog_14_method_33_code
def yX12_logs : MethodName := ⟨RX12, "logs", "(I)V"⟩
abbrev cX12_read : ByteArray := prog_14_method_34_code
def yX12_read : MethodName := ⟨RX12, "read", "(I)I"⟩
abbrev cX12_isUnread : ByteArray := prog_14_method_35_code
def yX12_isUnread : MethodName := ⟨RX12, "isUnread", "()Z"⟩
abbrev cX12_unread : ByteArray := prog_14_method_36_code
def yX12_unread : MethodName := ⟨RX12, "unread", "()I"⟩
abbrev cX12_put : ByteArray := prog_14_method_37_code
def yX12_put : MethodName := ⟨RX12, "put", "(I)I"⟩
abbrev cX12_word : ByteArray := prog_14_method_38_code
def yX12_word : MethodName := ⟨RX12, "word", "(I)I"⟩
abbrev cX12_change : ByteArray := prog_14_method_39_code
def yX12_change : MethodName := ⟨RX12, "change", "(II)I"⟩
abbrev cX12_drop : ByteArray := prog_14_method_40_code
def yX12_drop : MethodName := ⟨RX12, "drop", "(I)I"⟩
abbrev cX12_turn : ByteArray := prog_14_method_41_code
def yX12_turn : MethodName := ⟨RX12, "turn", "()I"⟩
abbrev cX12_draw : ByteArray := prog_14_method_42_code
def yX12_draw : MethodName := ⟨RX12, "draw", "(I)I"⟩
abbrev cX12_drifts : ByteArray := prog_14_method_43_code
def yX12_drifts : MethodName := ⟨RX12, "drifts", "()V"⟩
abbrev cX12_drift : ByteArray := prog_14_method_44_code
def yX12_drift : MethodName := ⟨RX12, "drift", "(I)I"⟩
abbrev cX12_undo : ByteArray := prog_14_method_45_code
def yX12_undo : MethodName := ⟨RX12, "undo", "(I)I"⟩
abbrev cX12_readOn : ByteArray := prog_14_method_46_code
def yX12_readOn : MethodName := ⟨RX12, "readOn", "(II)V"⟩
abbrev cX12_isTried : ByteArray := prog_14_method_47_code
def yX12_isTried : MethodName := ⟨RX12, "isTried", "(II)Z"⟩
abbrev cX12_length : ByteArray := prog_14_method_48_code
def yX12_length : MethodName := ⟨RX12, "length", "(II)I"⟩
abbrev cX12_figure : ByteArray := prog_14_method_49_code
def yX12_figure : MethodName := ⟨RX12, "figure", "(III)I"⟩
abbrev cX12_oftenThere : ByteArray := prog_14_method_50_code
def yX12_oftenThere : MethodName := ⟨RX12, "oftenThere", "(I)I"⟩
abbrev cX12_often : ByteArray := prog_14_method_51_code
def yX12_often : MethodName := ⟨RX12, "often", "(III)I"⟩
abbrev cX12_first : ByteArray := prog_14_method_52_code
def yX12_first : MethodName := ⟨RX12, "first", "(II)I"⟩
abbrev cX12_isPast : ByteArray := prog_14_method_53_code
def yX12_isPast : MethodName := ⟨RX12, "isPast", "(I)Z"⟩
abbrev cX12_earlier : ByteArray := prog_14_method_54_code
def yX12_earlier : MethodName := ⟨RX12, "earlier", "(I)I"⟩
abbrev cX12_again : ByteArray := prog_14_method_55_code
def yX12_again : MethodName := ⟨RX12, "again", "(I)I"⟩
abbrev cX12_addPart : ByteArray := prog_14_method_56_code
def yX12_addPart : MethodName := ⟨RX12, "addPart", "(III)V"⟩
abbrev cX12_isApart : ByteArray := prog_14_method_57_code
def yX12_isApart : MethodName := ⟨RX12, "isApart", "(I)Z"⟩
abbrev cX12_apart : ByteArray := prog_14_method_58_code
def yX12_apart : MethodName := ⟨RX12, "apart", "(I)I"⟩
abbrev cX12_isItself : ByteArray := prog_14_method_59_code
def yX12_isItself : MethodName := ⟨RX12, "isItself", "()Z"⟩
abbrev cX12_back : ByteArray := prog_14_method_60_code
def yX12_back : MethodName := ⟨RX12, "back", "(I)I"⟩
abbrev cX12_in : ByteArray := prog_14_method_61_code
def yX12_in : MethodName := ⟨RX12, "in", "(I)I"⟩
abbrev cX12_changes : ByteArray := prog_14_method_62_code
def yX12_changes : MethodName := ⟨RX12, "changes", "(I)I"⟩
abbrev cX12_noSlip : ByteArray := prog_14_method_63_code
def yX12_noSlip : MethodName := ⟨RX12, "noSlip", "(II)I"⟩
abbrev cX12_hear : ByteArray := prog_14_method_64_code
def yX12_hear : MethodName := ⟨RX12, "hear", "(IIZ)I"⟩
abbrev cX12_readWord : ByteArray := prog_14_method_65_code
def yX12_readWord : MethodName := ⟨RX12, "readWord", "(II)V"⟩
abbrev cX12_isSaid : ByteArray := prog_14_method_66_code
def yX12_isSaid : MethodName := ⟨RX12, "isSaid", "(I)Z"⟩
abbrev cX12_couldBe : ByteArray := prog_14_method_67_code
def yX12_couldBe : MethodName := ⟨RX12, "couldBe", "()I"⟩
abbrev cX12_alikeOnes : ByteArray := prog_14_method_68_code
def yX12_alikeOnes : MethodName := ⟨RX12, "alikeOnes", "(II)I"⟩
abbrev cX12_ask : ByteArray := prog_14_method_69_code
def yX12_ask : MethodName := ⟨RX12, "ask", "()I"⟩
abbrev cX12_write : ByteArray := prog_14_method_70_code
def yX12_write : MethodName := ⟨RX12, "write", "(II)I"⟩
abbrev cX12_judge : ByteArray := prog_14_method_71_code
def yX12_judge : MethodName := ⟨RX12, "judge", "()I"⟩
abbrev cX12_tear : ByteArray := prog_14_method_72_code
def yX12_tear : MethodName := ⟨RX12, "tear", "()I"⟩
abbrev cX12_seed : ByteArray := prog_14_method_73_code
def yX12_seed : MethodName := ⟨RX12, "seed", "(I)I"⟩
abbrev cX12_keep : ByteArray := prog_14_method_74_code
def yX12_keep : MethodName := ⟨RX12, "keep", "(I)I"⟩
abbrev cX12_goBack : ByteArray := prog_14_method_75_code
def yX12_goBack : MethodName := ⟨RX12, "goBack", "(I)I"⟩
def RJ6 : String := "java/lang/Integer"
abbrev cJ6_bitCount_0f7a4 : ByteArray := prog_15_method_49_code
def yJ6_bitCount_0f7a4 : MethodName := ⟨RJ6, "bitCount", "(I)I"⟩
def RJ9 : String := "java/lang/Math"
abbrev cJ9_max_7cf53 : ByteArray := prog_16_method_65_code
def yJ9_max_7cf53 : MethodName := ⟨RJ9, "max", "(II)I"⟩
abbrev cJ9_min_7cf53 : ByteArray := prog_16_method_69_code
def yJ9_min_7cf53 : MethodName := ⟨RJ9, "min", "(II)I"⟩
def RJ10 : String := "java/lang/System"
def RL : String := "RowsAloudLaw"
abbrev vwCl : List vw_C := [(RX0, TX0, 3), (RX1, TX1, 7), (RX2, TX2, 2), (RX3, TX3, 5), (RX4, TX4, 3), (RX5, TX5, 3), (RX6, TX6, 3), (RX8, TX8, 5), (RX9, TX9, 4), (RX10, TX10, 4), (RX11, TX11, 12), (RX12, TX12, 40)]
end
section
/-! ENGINE, part 1: a flat memory (numbers and references by object and place), what it says of the machine's heap, and the judgement Go -/
abbrev AV : Type := Int ⊕ (Int ⊕ Nat)
abbrev Hp : Type := (Nat → Int → Int) × (Nat → Int → Nat) × (Nat → Nat) × (Nat → Int) × Nat × Nat
def hI (h : Hp) (a : Nat) (k : Int) : Int := h.1 a k
def hR (h : Hp) (a : Nat) (k : Int) : Nat := h.2.1 a k
def hK (h : Hp) (a : Nat) : Nat := h.2.2.1 a
def hL (h : Hp) (a : Nat) : Int := h.2.2.2.1 a
def hN (h : Hp) : Nat := h.2.2.2.2.1
def hS (h : Hp) : Nat := h.2.2.2.2.2
def wI (h : Hp) (a : Nat) (k v : Int) : Hp := (fun b j => if b = a ∧ j = k then v else hI h b j, h.2)
def wR (h : Hp) (a : Nat) (k : Int) (v : Nat) : Hp := (h.1, fun b j => if b = a ∧ j = k then v else hR h b j, h.2.2)
def al (h : Hp) (kd : Nat) (n : Int) (sl : Nat) : Hp := (fun b j => if b = hN h then 0 else hI h b j, fun b j => if b = hN h then 0 else hR h b j, fun b => if b = hN h then kd else hK h b, fun b => if b = hN h then n else hL h b, hN h + 1, hS h + sl)
def cpI (h : Hp) (a : Nat) (i : Int) (b : Nat) (j n : Int) : Hp := (fun c k => if c = b ∧ j ≤ k ∧ k < j + n then hI h a (i + (k - j)) else hI h c k, h.2)
abbrev MI : Type := MethodName × ByteArray × Nat × Option FieldType × String × Nat
/-- addresses: 1 is the script, from 2 on what was made, one behind the other -/
def ga (base b k : Nat) : Nat := if k = 1 then b else base + k
def rr (g : Nat → Nat) (k : Nat) : Value := if k = 0 then .null else .ref (g k)
def rv (g : Nat → Nat) : AV → Value
  | .inl z => .int (Int32.ofInt z)
  | .inr (.inl z) => .long (Int64.ofInt z)
  | .inr (.inr k) => rr g k
def okv : AV → Prop
  | .inl z => -2147483648 ≤ z ∧ z ≤ 2147483647
  | .inr (.inl z) => -9223372036854775808 ≤ z ∧ z ≤ 9223372036854775807
  | .inr (.inr _) => True
def tyOf (ci : Nat) : Nat → FieldType := match ci with
  | 0 => tyX0
  | 1 => tyX1
  | 2 => tyX2
  | 3 => tyX3
  | 4 => tyX4
  | 5 => tyX5
  | 6 => tyX6
  | 7 => tyX8
  | 8 => tyX9
  | 9 => tyX10
  | 10 => tyX11
  | _ => tyX12
def isRT : FieldType → Bool
  | .object _ => true
  | .array _ => true
  | _ => false
def isRf (ci j : Nat) : Bool := isRT (tyOf ci j)
def fv (g : Nat → Nat) (h : Hp) (k j : Nat) : Value := if isRf (hK h k) j = true then rr g (hR h k j) else .int (Int32.ofInt (hI h k j))
def cellR (D : va_G) (cA : Nat → ClassId) (g : Nat → Nat) (h : Hp) (k : Nat) (H : Heap) : Prop :=
  (∀ r : vw_C, vwCl[hK h k]? = some r → t_OB (g k) (D.1 (hK h k)) r.2.2 (D.2 (hK h k)) H (fv g h k)) ∧
  (12 ≤ hK h k → hK h k < 16 → H[g k]? = some (arrV (cA (hK h k)) (hL h k).toNat (fun j => .int (Int32.ofInt (hI h k j))))) ∧
  (16 ≤ hK h k → hK h k < 18 → H[g k]? = some (arrV (cA (hK h k)) (hL h k).toNat (fun j => rr g (hR h k j))))
def Rel (base b : Nat) (D : va_G) (cA : Nat → ClassId) (s : State) (h : Hp) (H : Heap) : Prop :=
  H.size = base + hN h ∧ (∀ k, 2 ≤ k → k < hN h → cellR D cA (ga base b) h k H) ∧ va_X b (hL h 1).toNat (fun j => Int32.ofInt (hI h 1 j)) s H
/-- what holds of every flat memory that is met -/
def okH (h : Hp) : Prop := 2 ≤ hN h ∧ (∀ a, hN h ≤ a → hK h a = 99) ∧ hK h 0 = 99 ∧ hK h 1 = 18 ∧ (∀ a k, -2147483648 ≤ hI h a k ∧ hI h a k ≤ 2147483647) ∧ (∀ a, 0 ≤ hL h a ∧ hL h a ≤ 2147483647) ∧ (∀ a k, hK h a = 13 → -128 ≤ hI h a k ∧ hI h a k ≤ 127)
def gtbl : List Cond := lw_tbl.filter goodWord
abbrev tysOf (cA : Nat → ClassId) : List (ClassId × FieldType) := [(cA 12, .int), (cA 13, .byte), (cA 14, .char), (cA 15, .boolean), (cA 16, .object RX2), (cA 17, .object RX8)]
def nestW : List (String × Nat × MethodName) := [(RX11, 9, yX1_init), (RX11, 25, yX8_init), (RX6, 17, yX8_init), (RX4, 25, yX8_init), (RX11, 53, yX0_init), (RX11, 67, yX5_init)]
def Kn (D : va_G) (cA : Nat → ClassId) (U : State) : Prop := va_K D vwCl (tysOf cA) U ∧ va_AO RX2 U ∧ va_AO RX8 U ∧ ∀ q ∈ nestW, va_Nw (.methodLinkNest q.1 q.2.1 q.2.2 RX11) U
def Cx (M : MI) (base b : Nat) (D : va_G) (cA : Nat → ClassId) (p : Program) (s : State) (m : MethodId) (args : Array Value) (meth : Method) (c : Code) : Prop :=
  p.tables.exec = Jvm.exec ∧ c.code = M.2.1 ∧ c.maxLocals = M.2.2.1 ∧ s.vm.findClass M.2.2.2.2.1 = some m.cls ∧ (∀ w ∈ gtbl, w.before args s = true) ∧ meth.sig.returnType = M.2.2.2.1 ∧ meth.locks = false ∧ (M.1.name = "<init>" → meth.name = "<init>") ∧ Kn D cA s ∧ b < base + 2
def RetOk (M : MI) (pc : Nat) (r : Option AV) : Prop := match r with
  | none => M.2.2.2.1 = none ∧ decode M.2.1 pc = .ok (.return_, 1)
  | some (.inl z) => ∃ ty, M.2.2.2.1 = some ty ∧ narrow ty (.int (Int32.ofInt z)) = .int (Int32.ofInt z) ∧ decode M.2.1 pc = .ok (.ireturn, 1)
  | some (.inr (.inl _)) => False
  | some (.inr (.inr _)) => (∃ rt, M.2.2.2.1 = some rt ∧ ((∃ n, rt = .object n) ∨ ∃ t, rt = .array t)) ∧ decode M.2.1 pc = .ok (.areturn, 1)
def RoomOk (M : MI) (R : Room) (nc ns : Nat) : Prop := M.2.2.2.2.2 ≤ R.frames ∧ 36 * M.2.2.2.2.2 ≤ R.locals ∧ nc ≤ R.cells ∧ ns ≤ R.slots
def lvR (g : Nat → Nat) (lv : List (Nat × AV)) : List (Nat × Value) := lv.map (fun q => (q.1, rv g q.2))
def Fin_ (M : MI) (base b : Nat) (D : va_G) (cA : Nat → ClassId) (p : Program) (l : Launch) (e : Env) (R : Room) (s : State) (m : MethodId) (args : Array Value) (below : List Frame) (meth : Method) (c : Code) (r : Option AV) (h' : Hp) (N0 S0 : Nat) (Qf : State → Prop) : Prop :=
  ∀ (pc : Nat) (H : Heap) (locs : List Loc) (ls : Array Slot), RetOk M pc r → okH h' → Rel base b D cA s h' H → (∀ v, r = some v → okv v) → (∀ q ∈ locs, base + 2 ≤ q.base) → W p l e R s m args below meth c H locs (hN h' - N0) (hS h' - S0) Qf (F0 m pc ls (r.toList.map (rv (ga base b))))
def Sim (M : MI) (pc : Nat) (lv : List (Nat × AV)) (st : List AV) (h : Hp) (r : Option AV) (h' : Hp) : Prop :=
  ∀ (base b : Nat) (D : va_G) (cA : Nat → ClassId) (p : Program) (l : Launch) (e : Env) (R : Room) (s : State) (m : MethodId) (args : Array Value) (below : List Frame) (meth : Method) (c : Code) (H : Heap) (locs : List Loc) (N0 S0 : Nat) (ls : Array Slot) (Qf : State → Prop),
    Cx M base b D cA p s m args meth c → okH h → Rel base b D cA s h H → N0 ≤ hN h → S0 ≤ hS h → RoomOk M R (hN h' - N0) (hS h' - S0) → lv_has ls M.2.2.1 (lvR (ga base b) lv) → (∀ q ∈ lv, okv q.2) → (∀ v ∈ st, okv v) → (∀ q ∈ locs, base + 2 ≤ q.base) →
    Fin_ M base b D cA p l e R s m args below meth c r h' N0 S0 Qf → W p l e R s m args below meth c H locs (hN h - N0) (hS h - S0) Qf (F0 m pc ls (st.map (rv (ga base b))))
/-- from this place of method M, with these locals, this stack, this memory, it comes to its end with Q -/
def Go (M : MI) (pc : Nat) (lv : List (Nat × AV)) (st : List AV) (h : Hp) (Q : Option AV → Hp → Prop) : Prop :=
  ∃ (r : Option AV) (h' : Hp), Q r h' ∧ hN h ≤ hN h' ∧ hS h ≤ hS h' ∧ Sim M pc lv st h r h'
theorem Go.of {M : MI} {pc pc' : Nat} {lv lv' : List (Nat × AV)} {st st' : List AV} {h : Hp} {Q : Option AV → Hp → Prop} (k : Go M pc' lv' st' h Q) (f : ∀ r h', Sim M pc' lv' st' h r h' → Sim M pc lv st h r h') : Go M pc lv st h Q := by
  obtain ⟨r, h', q, a, b, s⟩ := k
  exact ⟨r, h', q, a, b, f r h' s⟩
theorem Go.mono {M : MI} {pc : Nat} {lv : List (Nat × AV)} {st : List AV} {h : Hp} {Q Q' : Option AV → Hp → Prop} (k : Go M pc lv st h Q) (f : ∀ r h', Q r h' → Q' r h') : Go M pc lv st h Q' := by
  obtain ⟨r, h', q, a, b, s⟩ := k
  exact ⟨r, h', f r h' q, a, b, s⟩
def qI (Q : Int → Hp → Prop) : Option AV → Hp → Prop := fun r h => ∃ z, r = some (.inl z) ∧ Q z h
def qR (Q : Nat → Hp → Prop) : Option AV → Hp → Prop := fun r h => ∃ z, r = some (.inr (.inr z)) ∧ Q z h
def qV (Q : Hp → Prop) : Option AV → Hp → Prop := fun r h => r = none ∧ Q h
-- locals
theorem lvR_mem {g : Nat → Nat} {lv : List (Nat × AV)} {i : Nat} {v : AV} (h : (i, v) ∈ lv) : (i, rv g v) ∈ lvR g lv := List.mem_map.mpr ⟨(i, v), h, rfl⟩
theorem lv_of {g : Nat → Nat} {lv : List (Nat × AV)} {ls : Array Slot} {n i : Nat} {v : AV} (hl : lv_has ls n (lvR g lv)) (h : (i, v) ∈ lv) : ls[i]? = some (.val (rv g v)) := hl.2.2 _ (lvR_mem h)
theorem s_ls {M : MI} {pc : Nat} {lv lv' : List (Nat × AV)} {st : List AV} {h : Hp} {Q : Option AV → Hp → Prop} (hs : ∀ q ∈ lv', q ∈ lv) (k : Go M pc lv' st h Q) : Go M pc lv st h Q := by
  refine Go.of k fun r h' S => ?_
  intro base b D cA p l e R s m args below meth c H locs N0 S0 ls Qf C oh rl hn hss hR hl ol os hlo hf
  refine S base b D cA p l e R s m args below meth c H locs N0 S0 ls Qf C oh rl hn hss hR ⟨hl.1, hl.2.1, fun q hq => ?_⟩ (fun q hq => ol q (hs q hq)) os hlo hf
  obtain ⟨x, hx, rfl⟩ := List.mem_map.mp hq
  exact hl.2.2 _ (lvR_mem (hs x hx))
-- numbers
theorem i32_toInt {z : Int} (h : -2147483648 ≤ z ∧ z ≤ 2147483647) : (Int32.ofInt z).toInt = z := by
  exact Int32.toInt_ofInt_of_le (by omega) (by omega)
theorem i64_toInt {z : Int} (h : -9223372036854775808 ≤ z ∧ z ≤ 9223372036854775807) : (Int64.ofInt z).toInt = z := by
  exact Int64.toInt_ofInt_of_le (by omega) (by omega)
theorem i32_of (x : Int32) : Int32.ofInt x.toInt = x := Int32.ofInt_toInt x
theorem i32_lt {x y : Int} (hx : okv (.inl x)) (hy : okv (.inl y)) : Int32.ofInt x < Int32.ofInt y ↔ x < y := by
  rw [Int32.lt_iff_toInt_lt, i32_toInt hx, i32_toInt hy]
theorem i32_le {x y : Int} (hx : okv (.inl x)) (hy : okv (.inl y)) : Int32.ofInt x ≤ Int32.ofInt y ↔ x ≤ y := by
  rw [Int32.le_iff_toInt_le, i32_toInt hx, i32_toInt hy]
theorem i32_eq {x y : Int} (hx : okv (.inl x)) (hy : okv (.inl y)) : Int32.ofInt x = Int32.ofInt y ↔ x = y := by
  constructor
  · intro h
    rw [← i32_toInt hx, ← i32_toInt hy, h]
  · intro h; rw [h]
theorem i32_range (x : Int32) : okv (.inl x.toInt) := by
  have h1 := Int32.le_toInt x
  have h2 := Int32.toInt_lt x
  exact ⟨by omega, by omega⟩
theorem i32_clamp {z : Int} (h0 : 0 ≤ z) (h : z ≤ 2147483647) : (Int32.ofInt z).toNatClampNeg = z.toNat := by
  show (Int32.ofInt z).toInt.toNat = z.toNat
  rw [i32_toInt ⟨by omega, h⟩]
end
section
/-! ENGINE, part 2: a row an instruction, over Go (heap unchanged) -/
def cat : AV → Nat
  | .inr (.inl _) => 2
  | _ => 1
theorem cat_rv (g : Nat → Nat) (v : AV) : (rv g v).category = cat v := by
  rcases v with z | z | k
  · rfl
  · rfl
  · show (rr g k).category = 1
    unfold rr
    split <;> rfl
def lset (i : Nat) (v : AV) (lv : List (Nat × AV)) : List (Nat × AV) := (i, v) :: lv.filter (fun q => !(q.1 == i) && !(q.1 + 1 == i && cat q.2 == 2))
def lsetL (i : Nat) (v : AV) (lv : List (Nat × AV)) : List (Nat × AV) := (i, v) :: lv.filter (fun q => !(q.1 == i) && (!(q.1 == i + 1) && !(q.1 + 1 == i && cat q.2 == 2)))
theorem lset_R (g : Nat → Nat) (i : Nat) (v : AV) (lv : List (Nat × AV)) : (i, rv g v) :: (lvR g lv).filter (fun q => !(q.1 == i) && !(q.1 + 1 == i && q.2.category == 2)) = lvR g (lset i v lv) := by
  unfold lvR lset
  rw [List.map_cons, List.filter_map]
  congr 3
  funext q
  simp only [Function.comp, cat_rv]
theorem lsetL_R (g : Nat → Nat) (i : Nat) (v : AV) (lv : List (Nat × AV)) : (i, rv g v) :: (lvR g lv).filter (fun q => !(q.1 == i) && (!(q.1 == i + 1) && !(q.1 + 1 == i && q.2.category == 2))) = lvR g (lsetL i v lv) := by
  unfold lvR lsetL
  rw [List.map_cons, List.filter_map]
  congr 3
  funext q
  simp only [Function.comp, cat_rv]
theorem lset_ok {i : Nat} {v : AV} {lv : List (Nat × AV)} (hv : okv v) (ho : ∀ q ∈ lv, okv q.2) : ∀ q ∈ lset i v lv, okv q.2 := by
  intro q hq
  rcases List.mem_cons.mp hq with rfl | hq
  · exact hv
  · exact ho q (List.mem_filter.mp hq).1
theorem lsetL_ok {i : Nat} {v : AV} {lv : List (Nat × AV)} (hv : okv v) (ho : ∀ q ∈ lv, okv q.2) : ∀ q ∈ lsetL i v lv, okv q.2 := by
  intro q hq
  rcases List.mem_cons.mp hq with rfl | hq
  · exact hv
  · exact ho q (List.mem_filter.mp hq).1
theorem ok_cons {v : AV} {st : List AV} (hv : okv v) (hs : ∀ v ∈ st, okv v) : ∀ w ∈ v :: st, okv w := fun w hw => by
  rcases List.mem_cons.mp hw with rfl | hw
  · exact hv
  · exact hs w hw
theorem ok_hd {v : AV} {st : List AV} (h : ∀ w ∈ v :: st, okv w) : okv v := h v List.mem_cons_self
theorem ok_tl {v : AV} {st : List AV} (h : ∀ w ∈ v :: st, okv w) : ∀ w ∈ st, okv w := fun w hw => h w (List.mem_cons_of_mem _ hw)

theorem s_iconst {M : MI} {pc : Nat} {lv : List (Nat × AV)} {st : List AV} {h : Hp} {Q : Option AV → Hp → Prop} {n : Int} (hd : decode M.2.1 pc = .ok (.iconst n, 1)) (ho : okv (.inl n)) (k : Go M (pc + 1) lv (.inl n :: st) h Q) : Go M pc lv (st) h Q := by
  refine Go.of k fun r h' S => ?_
  intro base b D cA p l e R s m args below meth c H locs N0 S0 ls Qf C oh rl hn hss hR hl ol os hlo hf
  exact lv_iconst C.1 C.2.1 hd rfl (S base b D cA p l e R s m args below meth c H locs N0 S0 ls Qf C oh rl hn hss hR hl ol (ok_cons ho os) hlo hf)
theorem s_bipush {M : MI} {pc : Nat} {lv : List (Nat × AV)} {st : List AV} {h : Hp} {Q : Option AV → Hp → Prop} {n : Int} (hd : decode M.2.1 pc = .ok (.bipush n, 2)) (hv : (Int8.ofInt n).toInt32 = Int32.ofInt n) (ho : okv (.inl n)) (k : Go M (pc + 2) lv (.inl n :: st) h Q) : Go M pc lv (st) h Q := by
  refine Go.of k fun r h' S => ?_
  intro base b D cA p l e R s m args below meth c H locs N0 S0 ls Qf C oh rl hn hss hR hl ol os hlo hf
  exact lv_bipush C.1 C.2.1 hd hv (S base b D cA p l e R s m args below meth c H locs N0 S0 ls Qf C oh rl hn hss hR hl ol (ok_cons ho os) hlo hf)
theorem s_sipush {M : MI} {pc : Nat} {lv : List (Nat × AV)} {st : List AV} {h : Hp} {Q : Option AV → Hp → Prop} {n : Int} (hd : decode M.2.1 pc = .ok (.sipush n, 3)) (hv : (Int16.ofInt n).toInt32 = Int32.ofInt n) (ho : okv (.inl n)) (k : Go M (pc + 3) lv (.inl n :: st) h Q) : Go M pc lv (st) h Q := by
  refine Go.of k fun r h' S => ?_
  intro base b D cA p l e R s m args below meth c H locs N0 S0 ls Qf C oh rl hn hss hR hl ol os hlo hf
  exact lv_sipush C.1 C.2.1 hd hv (S base b D cA p l e R s m args below meth c H locs N0 S0 ls Qf C oh rl hn hss hR hl ol (ok_cons ho os) hlo hf)
theorem s_ldc {M : MI} {pc : Nat} {lv : List (Nat × AV)} {st : List AV} {h : Hp} {Q : Option AV → Hp → Prop} {n : Int} {v : Int32} {idx : Nat} (hd : decode M.2.1 pc = .ok (.ldc idx, 2)) (hc : Cond.constant M.2.2.2.2.1 idx v ∈ gtbl) (hv : v = Int32.ofInt n) (ho : okv (.inl n)) (k : Go M (pc + 2) lv (.inl n :: st) h Q) : Go M pc lv (st) h Q := by
  refine Go.of k fun r h' S => ?_
  intro base b D cA p l e R s m args below meth c H locs N0 S0 ls Qf C oh rl hn hss hR hl ol os hlo hf
  exact lv_ldc C.1 C.2.1 C.2.2.2.1 (C.2.2.2.2.1 _ (hv ▸ hc)) hd (S base b D cA p l e R s m args below meth c H locs N0 S0 ls Qf C oh rl hn hss hR hl ol (ok_cons ho os) hlo hf)
theorem s_ldcw {M : MI} {pc : Nat} {lv : List (Nat × AV)} {st : List AV} {h : Hp} {Q : Option AV → Hp → Prop} {n : Int} {v : Int32} {idx : Nat} (hd : decode M.2.1 pc = .ok (.ldc_w idx, 3)) (hc : Cond.constant M.2.2.2.2.1 idx v ∈ gtbl) (hv : v = Int32.ofInt n) (ho : okv (.inl n)) (k : Go M (pc + 3) lv (.inl n :: st) h Q) : Go M pc lv (st) h Q := by
  refine Go.of k fun r h' S => ?_
  intro base b D cA p l e R s m args below meth c H locs N0 S0 ls Qf C oh rl hn hss hR hl ol os hlo hf
  exact lv_ldcw C.1 C.2.1 C.2.2.2.1 (C.2.2.2.2.1 _ (hv ▸ hc)) hd (S base b D cA p l e R s m args below meth c H locs N0 S0 ls Qf C oh rl hn hss hR hl ol (ok_cons ho os) hlo hf)
theorem s_ldc2 {M : MI} {pc : Nat} {lv : List (Nat × AV)} {st : List AV} {h : Hp} {Q : Option AV → Hp → Prop} {n : Int} {v : Int64} {idx : Nat} (hd : decode M.2.1 pc = .ok (.ldc2_w idx, 3)) (hc : Cond.constantLong M.2.2.2.2.1 idx v ∈ gtbl) (hv : v = Int64.ofInt n) (ho : okv (.inr (.inl n))) (k : Go M (pc + 3) lv (.inr (.inl n) :: st) h Q) : Go M pc lv (st) h Q := by
  refine Go.of k fun r h' S => ?_
  intro base b D cA p l e R s m args below meth c H locs N0 S0 ls Qf C oh rl hn hss hR hl ol os hlo hf
  exact lv_ldc2 C.1 C.2.1 C.2.2.2.1 (C.2.2.2.2.1 _ (hv ▸ hc)) hd (S base b D cA p l e R s m args below meth c H locs N0 S0 ls Qf C oh rl hn hss hR hl ol (ok_cons ho os) hlo hf)
theorem s_lconst {M : MI} {pc : Nat} {lv : List (Nat × AV)} {st : List AV} {h : Hp} {Q : Option AV → Hp → Prop} {k : Fin 2} {n : Int} (hd : decode M.2.1 pc = .ok (.lconst k, 1)) (hv : Int64.ofNat (k : Nat) = Int64.ofInt n) (ho : okv (.inr (.inl n))) (k : Go M (pc + 1) lv (.inr (.inl n) :: st) h Q) : Go M pc lv (st) h Q := by
  refine Go.of k fun r h' S => ?_
  intro base b D cA p l e R s m args below meth c H locs N0 S0 ls Qf C oh rl hn hss hR hl ol os hlo hf
  exact lv_lconst C.1 C.2.1 hd hv (S base b D cA p l e R s m args below meth c H locs N0 S0 ls Qf C oh rl hn hss hR hl ol (ok_cons ho os) hlo hf)
theorem s_null {M : MI} {pc : Nat} {lv : List (Nat × AV)} {st : List AV} {h : Hp} {Q : Option AV → Hp → Prop} (hd : decode M.2.1 pc = .ok (.aconst_null, 1)) (k : Go M (pc + 1) lv (.inr (.inr 0) :: st) h Q) : Go M pc lv (st) h Q := by
  refine Go.of k fun r h' S => ?_
  intro base b D cA p l e R s m args below meth c H locs N0 S0 ls Qf C oh rl hn hss hR hl ol os hlo hf
  exact lv_null C.1 C.2.1 hd (S base b D cA p l e R s m args below meth c H locs N0 S0 ls Qf C oh rl hn hss hR hl ol (ok_cons trivial os) hlo hf)
theorem s_iload_n {M : MI} {pc : Nat} {lv : List (Nat × AV)} {st : List AV} {h : Hp} {Q : Option AV → Hp → Prop} {k : Fin 4} {i : Nat} {x : Int} (hd : decode M.2.1 pc = .ok (.iload_n k, 1)) (hi : (k : Nat) = i) (hm : (i, .inl x) ∈ lv) (k : Go M (pc + 1) lv (.inl x :: st) h Q) : Go M pc lv (st) h Q := by
  refine Go.of k fun r h' S => ?_
  intro base b D cA p l e R s m args below meth c H locs N0 S0 ls Qf C oh rl hn hss hR hl ol os hlo hf
  exact lv_iload_n C.1 C.2.1 hd hi (lv_of hl hm) (S base b D cA p l e R s m args below meth c H locs N0 S0 ls Qf C oh rl hn hss hR hl ol (ok_cons (ol _ hm) os) hlo hf)
theorem s_iload {M : MI} {pc : Nat} {lv : List (Nat × AV)} {st : List AV} {h : Hp} {Q : Option AV → Hp → Prop} {i : Nat} {x : Int} (hd : decode M.2.1 pc = .ok (.iload i, 2)) (hm : (i, .inl x) ∈ lv) (k : Go M (pc + 2) lv (.inl x :: st) h Q) : Go M pc lv (st) h Q := by
  refine Go.of k fun r h' S => ?_
  intro base b D cA p l e R s m args below meth c H locs N0 S0 ls Qf C oh rl hn hss hR hl ol os hlo hf
  exact lv_iload C.1 C.2.1 hd (lv_of hl hm) (S base b D cA p l e R s m args below meth c H locs N0 S0 ls Qf C oh rl hn hss hR hl ol (ok_cons (ol _ hm) os) hlo hf)
theorem s_lload_n {M : MI} {pc : Nat} {lv : List (Nat × AV)} {st : List AV} {h : Hp} {Q : Option AV → Hp → Prop} {k : Fin 4} {i : Nat} {x : Int} (hd : decode M.2.1 pc = .ok (.lload_n k, 1)) (hi : (k : Nat) = i) (hm : (i, .inr (.inl x)) ∈ lv) (k : Go M (pc + 1) lv (.inr (.inl x) :: st) h Q) : Go M pc lv (st) h Q := by
  refine Go.of k fun r h' S => ?_
  intro base b D cA p l e R s m args below meth c H locs N0 S0 ls Qf C oh rl hn hss hR hl ol os hlo hf
  exact lv_lload_n C.1 C.2.1 hd hi (lv_of hl hm) (S base b D cA p l e R s m args below meth c H locs N0 S0 ls Qf C oh rl hn hss hR hl ol (ok_cons (ol _ hm) os) hlo hf)
theorem s_aload_n {M : MI} {pc : Nat} {lv : List (Nat × AV)} {st : List AV} {h : Hp} {Q : Option AV → Hp → Prop} {k : Fin 4} {i x : Nat} (hd : decode M.2.1 pc = .ok (.aload_n k, 1)) (hi : (k : Nat) = i) (hm : (i, .inr (.inr x)) ∈ lv) (k : Go M (pc + 1) lv (.inr (.inr x) :: st) h Q) : Go M pc lv st h Q := by
  refine Go.of k fun r h' S => ?_
  intro base b D cA p l e R s m args below meth c H locs N0 S0 ls Qf C oh rl hn hss hR hl ol os hlo hf
  have hv := lv_of hl hm
  have K := S base b D cA p l e R s m args below meth c H locs N0 S0 ls Qf C oh rl hn hss hR hl ol (ok_cons trivial os) hlo hf
  by_cases hx : x = 0
  · subst hx
    exact lv_aload_nN C.1 C.2.1 hd hi hv K
  · have e : rv (ga base b) (.inr (.inr x)) = .ref (ga base b x) := by show rr _ _ = _; unfold rr; rw [if_neg hx]
    rw [List.map_cons, e] at K
    rw [e] at hv
    exact lv_aload_n C.1 C.2.1 hd hi hv K
theorem s_aload {M : MI} {pc : Nat} {lv : List (Nat × AV)} {st : List AV} {h : Hp} {Q : Option AV → Hp → Prop} {i x : Nat} (hd : decode M.2.1 pc = .ok (.aload i, 2)) (hm : (i, .inr (.inr x)) ∈ lv) (k : Go M (pc + 2) lv (.inr (.inr x) :: st) h Q) : Go M pc lv st h Q := by
  refine Go.of k fun r h' S => ?_
  intro base b D cA p l e R s m args below meth c H locs N0 S0 ls Qf C oh rl hn hss hR hl ol os hlo hf
  have hv := lv_of hl hm
  have K := S base b D cA p l e R s m args below meth c H locs N0 S0 ls Qf C oh rl hn hss hR hl ol (ok_cons trivial os) hlo hf
  by_cases hx : x = 0
  · subst hx
    exact lv_aloadN C.1 C.2.1 hd hv K
  · have e : rv (ga base b) (.inr (.inr x)) = .ref (ga base b x) := by show rr _ _ = _; unfold rr; rw [if_neg hx]
    rw [List.map_cons, e] at K
    rw [e] at hv
    exact lv_aload C.1 C.2.1 hd hv K
theorem s_istore_n {M : MI} {pc : Nat} {lv : List (Nat × AV)} {st : List AV} {h : Hp} {Q : Option AV → Hp → Prop} {k : Fin 4} {i : Nat} {x : Int} {lv' : List (Nat × AV)} (hd : decode M.2.1 pc = .ok (.istore_n k, 1)) (hi : (k : Nat) = i) (hb : i < M.2.2.1) (he : lset i (.inl x) lv = lv') (k : Go M (pc + 1) lv' (st) h Q) : Go M pc lv (.inl x :: st) h Q := by
  refine Go.of k fun r h' S => ?_
  intro base b D cA p l e R s m args below meth c H locs N0 S0 ls Qf C oh rl hn hss hR hl ol os hlo hf
  subst he
  exact lv_istore_n C.1 C.2.1 hd hi hl hb (lset_R _ _ (.inl x) _) (fun ls' hl' => S base b D cA p l e R s m args below meth c H locs N0 S0 ls' Qf C oh rl hn hss hR hl' (lset_ok (ok_hd os) ol) (ok_tl os) hlo hf)
theorem s_istore {M : MI} {pc : Nat} {lv : List (Nat × AV)} {st : List AV} {h : Hp} {Q : Option AV → Hp → Prop} {i : Nat} {x : Int} {lv' : List (Nat × AV)} (hd : decode M.2.1 pc = .ok (.istore i, 2)) (hb : i < M.2.2.1) (he : lset i (.inl x) lv = lv') (k : Go M (pc + 2) lv' (st) h Q) : Go M pc lv (.inl x :: st) h Q := by
  refine Go.of k fun r h' S => ?_
  intro base b D cA p l e R s m args below meth c H locs N0 S0 ls Qf C oh rl hn hss hR hl ol os hlo hf
  subst he
  exact lv_istore C.1 C.2.1 hd hl hb (lset_R _ _ (.inl x) _) (fun ls' hl' => S base b D cA p l e R s m args below meth c H locs N0 S0 ls' Qf C oh rl hn hss hR hl' (lset_ok (ok_hd os) ol) (ok_tl os) hlo hf)
theorem s_lstore_n {M : MI} {pc : Nat} {lv : List (Nat × AV)} {st : List AV} {h : Hp} {Q : Option AV → Hp → Prop} {k : Fin 4} {i : Nat} {x : Int} {lv' : List (Nat × AV)} (hd : decode M.2.1 pc = .ok (.lstore_n k, 1)) (hi : (k : Nat) = i) (hb : i + 1 < M.2.2.1) (he : lsetL i (.inr (.inl x)) lv = lv') (k : Go M (pc + 1) lv' (st) h Q) : Go M pc lv (.inr (.inl x) :: st) h Q := by
  refine Go.of k fun r h' S => ?_
  intro base b D cA p l e R s m args below meth c H locs N0 S0 ls Qf C oh rl hn hss hR hl ol os hlo hf
  subst he
  exact lv_lstore_n C.1 C.2.1 hd hi hl hb (lsetL_R _ _ (.inr (.inl x)) _) (fun ls' hl' => S base b D cA p l e R s m args below meth c H locs N0 S0 ls' Qf C oh rl hn hss hR hl' (lsetL_ok (ok_hd os) ol) (ok_tl os) hlo hf)
theorem s_astore_n {M : MI} {pc : Nat} {lv : List (Nat × AV)} {st : List AV} {h : Hp} {Q : Option AV → Hp → Prop} {k : Fin 4} {i x : Nat} {lv' : List (Nat × AV)} (hd : decode M.2.1 pc = .ok (.astore_n k, 1)) (hi : (k : Nat) = i) (hb : i < M.2.2.1) (he : lset i (.inr (.inr x)) lv = lv') (k : Go M (pc + 1) lv' st h Q) : Go M pc lv (.inr (.inr x) :: st) h Q := by
  refine Go.of k fun r h' S => ?_
  intro base b D cA p l e R s m args below meth c H locs N0 S0 ls Qf C oh rl hn hss hR hl ol os hlo hf
  subst he
  have e2 := lset_R (ga base b) i (.inr (.inr x)) lv
  have K := fun ls' hl' => S base b D cA p l e R s m args below meth c H locs N0 S0 ls' Qf C oh rl hn hss hR hl' (lset_ok (ok_hd os) ol) (ok_tl os) hlo hf
  by_cases hx : x = 0
  · subst hx
    exact lv_astore_nN C.1 C.2.1 hd hi hl hb e2 K
  · have e : rv (ga base b) (.inr (.inr x)) = .ref (ga base b x) := by show rr _ _ = _; unfold rr; rw [if_neg hx]
    rw [List.map_cons, e]
    rw [e] at e2
    exact lv_astore_n C.1 C.2.1 hd hi hl hb e2 K
theorem s_astore {M : MI} {pc : Nat} {lv : List (Nat × AV)} {st : List AV} {h : Hp} {Q : Option AV → Hp → Prop} {i x : Nat} {lv' : List (Nat × AV)} (hd : decode M.2.1 pc = .ok (.astore i, 2)) (hb : i < M.2.2.1) (he : lset i (.inr (.inr x)) lv = lv') (k : Go M (pc + 2) lv' st h Q) : Go M pc lv (.inr (.inr x) :: st) h Q := by
  refine Go.of k fun r h' S => ?_
  intro base b D cA p l e R s m args below meth c H locs N0 S0 ls Qf C oh rl hn hss hR hl ol os hlo hf
  subst he
  have e2 := lset_R (ga base b) i (.inr (.inr x)) lv
  have K := fun ls' hl' => S base b D cA p l e R s m args below meth c H locs N0 S0 ls' Qf C oh rl hn hss hR hl' (lset_ok (ok_hd os) ol) (ok_tl os) hlo hf
  by_cases hx : x = 0
  · subst hx
    exact lv_astoreN C.1 C.2.1 hd hl hb e2 K
  · have e : rv (ga base b) (.inr (.inr x)) = .ref (ga base b x) := by show rr _ _ = _; unfold rr; rw [if_neg hx]
    rw [List.map_cons, e]
    rw [e] at e2
    exact lv_astore C.1 C.2.1 hd hl hb e2 K
theorem s_iinc {M : MI} {pc : Nat} {lv : List (Nat × AV)} {st : List AV} {h : Hp} {Q : Option AV → Hp → Prop} {i : Nat} {n x : Int} {lv' : List (Nat × AV)} (hd : decode M.2.1 pc = .ok (.iinc i n, 3)) (hm : (i, .inl x) ∈ lv) (ho : okv (.inl (x + n))) (hb : i < M.2.2.1) (he : lset i (.inl (x + n)) lv = lv') (k : Go M (pc + 3) lv' (st) h Q) : Go M pc lv (st) h Q := by
  refine Go.of k fun r h' S => ?_
  intro base b D cA p l e R s m args below meth c H locs N0 S0 ls Qf C oh rl hn hss hR hl ol os hlo hf
  subst he
  obtain ⟨k0, hk⟩ := List.getElem?_of_mem (lvR_mem (g := ga base b) hm)
  exact lv_iinc C.1 C.2.1 hd hl hk (Int32.ofInt_add x n).symm hb (lset_R _ _ (.inl (x + n)) _) (fun ls' hl' => S base b D cA p l e R s m args below meth c H locs N0 S0 ls' Qf C oh rl hn hss hR hl' (lset_ok ho ol) os hlo hf)
theorem s_iadd {M : MI} {pc : Nat} {lv : List (Nat × AV)} {st : List AV} {h : Hp} {Q : Option AV → Hp → Prop} {x y : Int} (hd : decode M.2.1 pc = .ok (.iadd, 1)) (ho : okv (.inl (x + y))) (k : Go M (pc + 1) lv (.inl (x + y) :: st) h Q) : Go M pc lv (.inl y :: .inl x :: st) h Q := by
  refine Go.of k fun r h' S => ?_
  intro base b D cA p l e R s m args below meth c H locs N0 S0 ls Qf C oh rl hn hss hR hl ol os hlo hf
  have K := S base b D cA p l e R s m args below meth c H locs N0 S0 ls Qf C oh rl hn hss hR hl ol (ok_cons ho (ok_tl (ok_tl os))) hlo hf
  rw [List.map_cons, show rv (ga base b) (.inl (x + y)) = .int (Int32.ofInt x + Int32.ofInt y) from congrArg Value.int (Int32.ofInt_add x y)] at K
  exact lv_iadd C.1 C.2.1 hd K
theorem s_isub {M : MI} {pc : Nat} {lv : List (Nat × AV)} {st : List AV} {h : Hp} {Q : Option AV → Hp → Prop} {x y : Int} (hd : decode M.2.1 pc = .ok (.isub, 1)) (ho : okv (.inl (x - y))) (k : Go M (pc + 1) lv (.inl (x - y) :: st) h Q) : Go M pc lv (.inl y :: .inl x :: st) h Q := by
  refine Go.of k fun r h' S => ?_
  intro base b D cA p l e R s m args below meth c H locs N0 S0 ls Qf C oh rl hn hss hR hl ol os hlo hf
  have K := S base b D cA p l e R s m args below meth c H locs N0 S0 ls Qf C oh rl hn hss hR hl ol (ok_cons ho (ok_tl (ok_tl os))) hlo hf
  rw [List.map_cons, show rv (ga base b) (.inl (x - y)) = .int (Int32.ofInt x - Int32.ofInt y) from congrArg Value.int (Int32.ofInt_sub x y)] at K
  exact lv_isub C.1 C.2.1 hd K
theorem s_imul {M : MI} {pc : Nat} {lv : List (Nat × AV)} {st : List AV} {h : Hp} {Q : Option AV → Hp → Prop} {x y : Int} (hd : decode M.2.1 pc = .ok (.imul, 1)) (ho : okv (.inl (x * y))) (k : Go M (pc + 1) lv (.inl (x * y) :: st) h Q) : Go M pc lv (.inl y :: .inl x :: st) h Q := by
  refine Go.of k fun r h' S => ?_
  intro base b D cA p l e R s m args below meth c H locs N0 S0 ls Qf C oh rl hn hss hR hl ol os hlo hf
  have K := S base b D cA p l e R s m args below meth c H locs N0 S0 ls Qf C oh rl hn hss hR hl ol (ok_cons ho (ok_tl (ok_tl os))) hlo hf
  rw [List.map_cons, show rv (ga base b) (.inl (x * y)) = .int (Int32.ofInt x * Int32.ofInt y) from congrArg Value.int (Int32.ofInt_mul x y)] at K
  exact lv_imul C.1 C.2.1 hd K
theorem s_ladd {M : MI} {pc : Nat} {lv : List (Nat × AV)} {st : List AV} {h : Hp} {Q : Option AV → Hp → Prop} {x y : Int} (hd : decode M.2.1 pc = .ok (.ladd, 1)) (ho : okv (.inr (.inl (x + y)))) (k : Go M (pc + 1) lv (.inr (.inl (x + y)) :: st) h Q) : Go M pc lv (.inr (.inl y) :: .inr (.inl x) :: st) h Q := by
  refine Go.of k fun r h' S => ?_
  intro base b D cA p l e R s m args below meth c H locs N0 S0 ls Qf C oh rl hn hss hR hl ol os hlo hf
  have K := S base b D cA p l e R s m args below meth c H locs N0 S0 ls Qf C oh rl hn hss hR hl ol (ok_cons ho (ok_tl (ok_tl os))) hlo hf
  rw [List.map_cons, show rv (ga base b) (.inr (.inl (x + y))) = .long (Int64.ofInt x + Int64.ofInt y) from congrArg Value.long (Int64.ofInt_add x y)] at K
  exact lv_ladd C.1 C.2.1 hd K
theorem s_lmul {M : MI} {pc : Nat} {lv : List (Nat × AV)} {st : List AV} {h : Hp} {Q : Option AV → Hp → Prop} {x y : Int} (hd : decode M.2.1 pc = .ok (.lmul, 1)) (ho : okv (.inr (.inl (x * y)))) (k : Go M (pc + 1) lv (.inr (.inl (x * y)) :: st) h Q) : Go M pc lv (.inr (.inl y) :: .inr (.inl x) :: st) h Q := by
  refine Go.of k fun r h' S => ?_
  intro base b D cA p l e R s m args below meth c H locs N0 S0 ls Qf C oh rl hn hss hR hl ol os hlo hf
  have K := S base b D cA p l e R s m args below meth c H locs N0 S0 ls Qf C oh rl hn hss hR hl ol (ok_cons ho (ok_tl (ok_tl os))) hlo hf
  rw [List.map_cons, show rv (ga base b) (.inr (.inl (x * y))) = .long (Int64.ofInt x * Int64.ofInt y) from congrArg Value.long (Int64.ofInt_mul x y)] at K
  exact lv_lmul C.1 C.2.1 hd K
theorem i32_div {x y : Int} (hx : okv (.inl x)) (hy : okv (.inl y)) (h0 : 0 ≤ x) (h1 : 0 < y) : Int32.ofInt x / Int32.ofInt y = Int32.ofInt (x / y) := by
  have h2 : 0 ≤ x / y := Int.ediv_nonneg h0 (by omega)
  have h3 : x / y ≤ x := Int.ediv_le_self y h0
  have hz : okv (.inl (x / y)) := ⟨by have := hx.1; omega, by have := hx.2; omega⟩
  apply Int32.toInt_inj.mp
  rw [Int32.toInt_div, i32_toInt hx, i32_toInt hy, i32_toInt hz, Int.tdiv_eq_ediv_of_nonneg h0, ← Int32.toInt_ofInt]
  exact i32_toInt hz
theorem i64_div {x y : Int} (hx : okv (.inr (.inl x))) (hy : okv (.inr (.inl y))) (h0 : 0 ≤ x) (h1 : 0 < y) : Int64.ofInt x / Int64.ofInt y = Int64.ofInt (x / y) := by
  have h2 : 0 ≤ x / y := Int.ediv_nonneg h0 (by omega)
  have h3 : x / y ≤ x := Int.ediv_le_self y h0
  have hz : okv (.inr (.inl (x / y))) := ⟨by have := hx.1; omega, by have := hx.2; omega⟩
  apply Int64.toInt_inj.mp
  rw [Int64.toInt_div, i64_toInt hx, i64_toInt hy, i64_toInt hz, Int.tdiv_eq_ediv_of_nonneg h0, ← Int64.toInt_ofInt]
  exact i64_toInt hz
theorem i32_rem {x y : Int} (hx : okv (.inl x)) (hy : okv (.inl y)) (h0 : 0 ≤ x) (h1 : 0 < y) : Int32.ofInt x - Int32.ofInt x / Int32.ofInt y * Int32.ofInt y = Int32.ofInt (x % y) := by
  rw [i32_div hx hy h0 h1, ← Int32.ofInt_mul, ← Int32.ofInt_sub, Int.emod_def, Int.mul_comm y]
theorem i64_rem {x y : Int} (hx : okv (.inr (.inl x))) (hy : okv (.inr (.inl y))) (h0 : 0 ≤ x) (h1 : 0 < y) : Int64.ofInt x - Int64.ofInt x / Int64.ofInt y * Int64.ofInt y = Int64.ofInt (x % y) := by
  rw [i64_div hx hy h0 h1, ← Int64.ofInt_mul, ← Int64.ofInt_sub, Int.emod_def, Int.mul_comm y]
theorem ok_div {x y : Int} (hx : okv (.inl x)) (h0 : 0 ≤ x) (h1 : 0 < y) : okv (.inl (x / y)) := by
  have h2 : 0 ≤ x / y := Int.ediv_nonneg h0 (by omega)
  have h3 : x / y ≤ x := Int.ediv_le_self y h0
  exact ⟨by have := hx.1; omega, by have := hx.2; omega⟩
theorem okl_div {x y : Int} (hx : okv (.inr (.inl x))) (h0 : 0 ≤ x) (h1 : 0 < y) : okv (.inr (.inl (x / y))) := by
  have h2 : 0 ≤ x / y := Int.ediv_nonneg h0 (by omega)
  have h3 : x / y ≤ x := Int.ediv_le_self y h0
  exact ⟨by have := hx.1; omega, by have := hx.2; omega⟩
theorem ok_rem {x y : Int} (hy : okv (.inl y)) (h1 : 0 < y) : okv (.inl (x % y)) := by
  have h2 : 0 ≤ x % y := Int.emod_nonneg x (by omega)
  have h3 : x % y < y := Int.emod_lt_of_pos x h1
  exact ⟨by omega, by have := hy.2; omega⟩
theorem okl_rem {x y : Int} (hy : okv (.inr (.inl y))) (h1 : 0 < y) : okv (.inr (.inl (x % y))) := by
  have h2 : 0 ≤ x % y := Int.emod_nonneg x (by omega)
  have h3 : x % y < y := Int.emod_lt_of_pos x h1
  exact ⟨by omega, by have := hy.2; omega⟩
theorem i32_ne0 {y : Int} (hy : okv (.inl y)) (h1 : 0 < y) : ¬ Int32.ofInt y = 0 := fun e => by
  have h2 := (i32_eq hy (show okv (.inl 0) from ⟨by omega, by omega⟩)).mp (by rw [e]; rfl)
  omega
theorem i64_ne0 {y : Int} (hy : okv (.inr (.inl y))) (h1 : 0 < y) : ¬ Int64.ofInt y = 0 := fun e => by
  have h2 : (Int64.ofInt y).toInt = 0 := by rw [e]; rfl
  rw [i64_toInt hy] at h2
  omega

theorem s_idiv {M : MI} {pc : Nat} {lv : List (Nat × AV)} {st : List AV} {h : Hp} {Q : Option AV → Hp → Prop} {x y : Int} (hd : decode M.2.1 pc = .ok (.idiv, 1)) (h0 : 0 ≤ x) (h1 : 0 < y) (k : Go M (pc + 1) lv (.inl (x / y) :: st) h Q) : Go M pc lv (.inl y :: .inl x :: st) h Q := by
  refine Go.of k fun r h' S => ?_
  intro base b D cA p l e R s m args below meth c H locs N0 S0 ls Qf C oh rl hn hss hR hl ol os hlo hf
  have K := S base b D cA p l e R s m args below meth c H locs N0 S0 ls Qf C oh rl hn hss hR hl ol (ok_cons (ok_div (ok_hd (ok_tl os)) h0 h1) (ok_tl (ok_tl os))) hlo hf
  rw [List.map_cons, show rv (ga base b) (.inl (x / y)) = .int (Int32.ofInt x / Int32.ofInt y) from congrArg Value.int (i32_div (ok_hd (ok_tl os)) (ok_hd os) h0 h1).symm] at K
  exact lv_idiv C.1 C.2.1 hd (i32_ne0 (ok_hd os) h1) K
theorem s_irem {M : MI} {pc : Nat} {lv : List (Nat × AV)} {st : List AV} {h : Hp} {Q : Option AV → Hp → Prop} {x y : Int} (hd : decode M.2.1 pc = .ok (.irem, 1)) (h0 : 0 ≤ x) (h1 : 0 < y) (k : Go M (pc + 1) lv (.inl (x % y) :: st) h Q) : Go M pc lv (.inl y :: .inl x :: st) h Q := by
  refine Go.of k fun r h' S => ?_
  intro base b D cA p l e R s m args below meth c H locs N0 S0 ls Qf C oh rl hn hss hR hl ol os hlo hf
  have K := S base b D cA p l e R s m args below meth c H locs N0 S0 ls Qf C oh rl hn hss hR hl ol (ok_cons (ok_rem (ok_hd os) h1) (ok_tl (ok_tl os))) hlo hf
  rw [List.map_cons, show rv (ga base b) (.inl (x % y)) = .int (Int32.ofInt x - Int32.ofInt x / Int32.ofInt y * Int32.ofInt y) from congrArg Value.int (i32_rem (ok_hd (ok_tl os)) (ok_hd os) h0 h1).symm] at K
  exact lv_irem C.1 C.2.1 hd (i32_ne0 (ok_hd os) h1) K
theorem s_ldiv {M : MI} {pc : Nat} {lv : List (Nat × AV)} {st : List AV} {h : Hp} {Q : Option AV → Hp → Prop} {x y : Int} (hd : decode M.2.1 pc = .ok (.ldiv, 1)) (h0 : 0 ≤ x) (h1 : 0 < y) (k : Go M (pc + 1) lv (.inr (.inl (x / y)) :: st) h Q) : Go M pc lv (.inr (.inl y) :: .inr (.inl x) :: st) h Q := by
  refine Go.of k fun r h' S => ?_
  intro base b D cA p l e R s m args below meth c H locs N0 S0 ls Qf C oh rl hn hss hR hl ol os hlo hf
  have K := S base b D cA p l e R s m args below meth c H locs N0 S0 ls Qf C oh rl hn hss hR hl ol (ok_cons (okl_div (ok_hd (ok_tl os)) h0 h1) (ok_tl (ok_tl os))) hlo hf
  rw [List.map_cons, show rv (ga base b) (.inr (.inl (x / y))) = .long (Int64.ofInt x / Int64.ofInt y) from congrArg Value.long (i64_div (ok_hd (ok_tl os)) (ok_hd os) h0 h1).symm] at K
  exact lv_ldiv C.1 C.2.1 hd (i64_ne0 (ok_hd os) h1) K
theorem s_lrem {M : MI} {pc : Nat} {lv : List (Nat × AV)} {st : List AV} {h : Hp} {Q : Option AV → Hp → Prop} {x y : Int} (hd : decode M.2.1 pc = .ok (.lrem, 1)) (h0 : 0 ≤ x) (h1 : 0 < y) (k : Go M (pc + 1) lv (.inr (.inl (x % y)) :: st) h Q) : Go M pc lv (.inr (.inl y) :: .inr (.inl x) :: st) h Q := by
  refine Go.of k fun r h' S => ?_
  intro base b D cA p l e R s m args below meth c H locs N0 S0 ls Qf C oh rl hn hss hR hl ol os hlo hf
  have K := S base b D cA p l e R s m args below meth c H locs N0 S0 ls Qf C oh rl hn hss hR hl ol (ok_cons (okl_rem (ok_hd os) h1) (ok_tl (ok_tl os))) hlo hf
  rw [List.map_cons, show rv (ga base b) (.inr (.inl (x % y))) = .long (Int64.ofInt x - Int64.ofInt x / Int64.ofInt y * Int64.ofInt y) from congrArg Value.long (i64_rem (ok_hd (ok_tl os)) (ok_hd os) h0 h1).symm] at K
  exact lv_lrem C.1 C.2.1 hd (i64_ne0 (ok_hd os) h1) K
def zAnd (x y : Int) : Int := (Int32.ofInt x &&& Int32.ofInt y).toInt
def zOr (x y : Int) : Int := (Int32.ofInt x ||| Int32.ofInt y).toInt
def zShl (x y : Int) : Int := (Int32.ofInt x <<< (Int32.ofInt y &&& 31)).toInt
def zShr (x y : Int) : Int := (Int32.ofInt x >>> (Int32.ofInt y &&& 31)).toInt
def zUshr (x y : Int) : Int := (((Int32.ofInt x).toUInt32 >>> ((Int32.ofInt y).toUInt32 &&& Int32.toUInt32 31)).toInt32).toInt
def zLand (x y : Int) : Int := (Int64.ofInt x &&& Int64.ofInt y).toInt
def zCmp (x y : Int) : Int := if y < x then 1 else if x = y then 0 else -1
theorem i64_range (x : Int64) : okv (.inr (.inl x.toInt)) := by
  have h1 := Int64.le_toInt x
  have h2 := Int64.toInt_lt x
  exact ⟨by omega, by omega⟩

theorem s_iand {M : MI} {pc : Nat} {lv : List (Nat × AV)} {st : List AV} {h : Hp} {Q : Option AV → Hp → Prop} {x y : Int} (hd : decode M.2.1 pc = .ok (.iand, 1)) (k : Go M (pc + 1) lv (.inl (zAnd x y) :: st) h Q) : Go M pc lv (.inl y :: .inl x :: st) h Q := by
  refine Go.of k fun r h' S => ?_
  intro base b D cA p l e R s m args below meth c H locs N0 S0 ls Qf C oh rl hn hss hR hl ol os hlo hf
  have K := S base b D cA p l e R s m args below meth c H locs N0 S0 ls Qf C oh rl hn hss hR hl ol (ok_cons (i32_range _) (ok_tl (ok_tl os))) hlo hf
  rw [List.map_cons, show rv (ga base b) (.inl (zAnd x y)) = .int (Int32.ofInt x &&& Int32.ofInt y) from congrArg Value.int (i32_of _)] at K
  exact lv_iand C.1 C.2.1 hd K
theorem s_ior {M : MI} {pc : Nat} {lv : List (Nat × AV)} {st : List AV} {h : Hp} {Q : Option AV → Hp → Prop} {x y : Int} (hd : decode M.2.1 pc = .ok (.ior, 1)) (k : Go M (pc + 1) lv (.inl (zOr x y) :: st) h Q) : Go M pc lv (.inl y :: .inl x :: st) h Q := by
  refine Go.of k fun r h' S => ?_
  intro base b D cA p l e R s m args below meth c H locs N0 S0 ls Qf C oh rl hn hss hR hl ol os hlo hf
  have K := S base b D cA p l e R s m args below meth c H locs N0 S0 ls Qf C oh rl hn hss hR hl ol (ok_cons (i32_range _) (ok_tl (ok_tl os))) hlo hf
  rw [List.map_cons, show rv (ga base b) (.inl (zOr x y)) = .int (Int32.ofInt x ||| Int32.ofInt y) from congrArg Value.int (i32_of _)] at K
  exact lv_ior C.1 C.2.1 hd K
theorem s_ishl {M : MI} {pc : Nat} {lv : List (Nat × AV)} {st : List AV} {h : Hp} {Q : Option AV → Hp → Prop} {x y : Int} (hd : decode M.2.1 pc = .ok (.ishl, 1)) (k : Go M (pc + 1) lv (.inl (zShl x y) :: st) h Q) : Go M pc lv (.inl y :: .inl x :: st) h Q := by
  refine Go.of k fun r h' S => ?_
  intro base b D cA p l e R s m args below meth c H locs N0 S0 ls Qf C oh rl hn hss hR hl ol os hlo hf
  have K := S base b D cA p l e R s m args below meth c H locs N0 S0 ls Qf C oh rl hn hss hR hl ol (ok_cons (i32_range _) (ok_tl (ok_tl os))) hlo hf
  rw [List.map_cons, show rv (ga base b) (.inl (zShl x y)) = .int (Int32.ofInt x <<< (Int32.ofInt y &&& 31)) from congrArg Value.int (i32_of _)] at K
  exact lv_ishl C.1 C.2.1 hd K
theorem s_ishr {M : MI} {pc : Nat} {lv : List (Nat × AV)} {st : List AV} {h : Hp} {Q : Option AV → Hp → Prop} {x y : Int} (hd : decode M.2.1 pc = .ok (.ishr, 1)) (k : Go M (pc + 1) lv (.inl (zShr x y) :: st) h Q) : Go M pc lv (.inl y :: .inl x :: st) h Q := by
  refine Go.of k fun r h' S => ?_
  intro base b D cA p l e R s m args below meth c H locs N0 S0 ls Qf C oh rl hn hss hR hl ol os hlo hf
  have K := S base b D cA p l e R s m args below meth c H locs N0 S0 ls Qf C oh rl hn hss hR hl ol (ok_cons (i32_range _) (ok_tl (ok_tl os))) hlo hf
  rw [List.map_cons, show rv (ga base b) (.inl (zShr x y)) = .int (Int32.ofInt x >>> (Int32.ofInt y &&& 31)) from congrArg Value.int (i32_of _)] at K
  exact lv_ishr C.1 C.2.1 hd K
theorem s_iushr {M : MI} {pc : Nat} {lv : List (Nat × AV)} {st : List AV} {h : Hp} {Q : Option AV → Hp → Prop} {x y : Int} (hd : decode M.2.1 pc = .ok (.iushr, 1)) (k : Go M (pc + 1) lv (.inl (zUshr x y) :: st) h Q) : Go M pc lv (.inl y :: .inl x :: st) h Q := by
  refine Go.of k fun r h' S => ?_
  intro base b D cA p l e R s m args below meth c H locs N0 S0 ls Qf C oh rl hn hss hR hl ol os hlo hf
  have K := S base b D cA p l e R s m args below meth c H locs N0 S0 ls Qf C oh rl hn hss hR hl ol (ok_cons (i32_range _) (ok_tl (ok_tl os))) hlo hf
  rw [List.map_cons, show rv (ga base b) (.inl (zUshr x y)) = .int (((Int32.ofInt x).toUInt32 >>> ((Int32.ofInt y).toUInt32 &&& Int32.toUInt32 31)).toInt32) from congrArg Value.int (i32_of _)] at K
  exact lv_iushr C.1 C.2.1 hd rfl K
theorem s_land {M : MI} {pc : Nat} {lv : List (Nat × AV)} {st : List AV} {h : Hp} {Q : Option AV → Hp → Prop} {x y : Int} (hd : decode M.2.1 pc = .ok (.land, 1)) (k : Go M (pc + 1) lv (.inr (.inl (zLand x y)) :: st) h Q) : Go M pc lv (.inr (.inl y) :: .inr (.inl x) :: st) h Q := by
  refine Go.of k fun r h' S => ?_
  intro base b D cA p l e R s m args below meth c H locs N0 S0 ls Qf C oh rl hn hss hR hl ol os hlo hf
  have K := S base b D cA p l e R s m args below meth c H locs N0 S0 ls Qf C oh rl hn hss hR hl ol (ok_cons (i64_range _) (ok_tl (ok_tl os))) hlo hf
  rw [List.map_cons, show rv (ga base b) (.inr (.inl (zLand x y))) = .long (Int64.ofInt x &&& Int64.ofInt y) from congrArg Value.long (Int64.ofInt_toInt _)] at K
  exact lv_land C.1 C.2.1 hd K
theorem zCmp_ok (x y : Int) : okv (.inl (zCmp x y)) := by
  unfold zCmp
  split
  · exact ⟨by omega, by omega⟩
  · split <;> exact ⟨by omega, by omega⟩
theorem lg_zCmp {x y : Int} (hx : okv (.inr (.inl x))) (hy : okv (.inr (.inl y))) : lg_cmp (Int64.ofInt x) (Int64.ofInt y) = Int32.ofInt (zCmp x y) := by
  unfold lg_cmp zCmp
  have e1 : Int64.ofInt x > Int64.ofInt y ↔ y < x := by
    show Int64.ofInt y < Int64.ofInt x ↔ _
    rw [Int64.lt_iff_toInt_lt, i64_toInt hx, i64_toInt hy]
  have e2 : Int64.ofInt x = Int64.ofInt y ↔ x = y := by
    constructor
    · intro e; rw [← i64_toInt hx, ← i64_toInt hy, e]
    · intro e; rw [e]
  by_cases h1 : y < x
  · rw [if_pos (e1.mpr h1), if_pos h1]; rfl
  · rw [if_neg (fun z => h1 (e1.mp z)), if_neg h1]
    by_cases h2 : x = y
    · rw [if_pos (e2.mpr h2), if_pos h2]; rfl
    · rw [if_neg (fun z => h2 (e2.mp z)), if_neg h2]; rfl

theorem s_lcmp {M : MI} {pc : Nat} {lv : List (Nat × AV)} {st : List AV} {h : Hp} {Q : Option AV → Hp → Prop} {x y : Int} (hd : decode M.2.1 pc = .ok (.lcmp, 1)) (k : Go M (pc + 1) lv (.inl (zCmp x y) :: st) h Q) : Go M pc lv (.inr (.inl y) :: .inr (.inl x) :: st) h Q := by
  refine Go.of k fun r h' S => ?_
  intro base b D cA p l e R s m args below meth c H locs N0 S0 ls Qf C oh rl hn hss hR hl ol os hlo hf
  have K := S base b D cA p l e R s m args below meth c H locs N0 S0 ls Qf C oh rl hn hss hR hl ol (ok_cons (zCmp_ok x y) (ok_tl (ok_tl os))) hlo hf
  rw [List.map_cons, show rv (ga base b) (.inl (zCmp x y)) = .int (lg_cmp (Int64.ofInt x) (Int64.ofInt y)) from congrArg Value.int (lg_zCmp (ok_hd (ok_tl os)) (ok_hd os)).symm] at K
  exact W.lcmp C.1 C.2.1 hd K
theorem i2l_eq {x : Int} (hx : okv (.inl x)) : (Int32.ofInt x).toInt64 = Int64.ofInt x := by
  apply Int64.toInt_inj.mp
  rw [Int32.toInt_toInt64, i32_toInt hx, i64_toInt ⟨by have := hx.1; omega, by have := hx.2; omega⟩]
theorem l2i_eq {x : Int} (hx : okv (.inl x)) : (Int64.ofInt x).toInt32 = Int32.ofInt x := by
  have hy : okv (.inr (.inl x)) := ⟨by have := hx.1; omega, by have := hx.2; omega⟩
  apply Int32.toInt_inj.mp
  rw [Int64.toInt_toInt32, i64_toInt hy, ← Int32.toInt_ofInt]
theorem i2b_eq {x : Int} (hx : -128 ≤ x ∧ x ≤ 127) : (Int32.ofInt x).toInt8.toInt32 = Int32.ofInt x := by
  have hy : okv (.inl x) := ⟨by omega, by omega⟩
  apply Int32.toInt_inj.mp
  rw [Int8.toInt_toInt32, Int32.toInt_toInt8, i32_toInt hy]
  exact Int.bmod_eq_of_le (by omega) (by omega)
theorem i2c_eq {x : Int} (hx : 0 ≤ x ∧ x ≤ 65535) : ((Int32.ofInt x).toUInt32 % 65536).toInt32 = Int32.ofInt x := by
  obtain ⟨n, rfl⟩ := Int.eq_ofNat_of_zero_le hx.1
  have h1 : Int32.ofInt (n : Int) = nI n := by
    show Int32.ofInt (n : Int) = Int32.ofNat n
    exact Int32.ofInt_eq_ofNat
  rw [h1, pk_char, pk_tn (by omega)]
  congr 1
  omega

theorem s_i2l {M : MI} {pc : Nat} {lv : List (Nat × AV)} {st : List AV} {h : Hp} {Q : Option AV → Hp → Prop} {x : Int} (hd : decode M.2.1 pc = .ok (.i2l, 1)) (k : Go M (pc + 1) lv (.inr (.inl x) :: st) h Q) : Go M pc lv (.inl x :: st) h Q := by
  refine Go.of k fun r h' S => ?_
  intro base b D cA p l e R s m args below meth c H locs N0 S0 ls Qf C oh rl hn hss hR hl ol os hlo hf
  exact lv_i2l C.1 C.2.1 hd (i2l_eq (ok_hd os)) (S base b D cA p l e R s m args below meth c H locs N0 S0 ls Qf C oh rl hn hss hR hl ol (ok_cons ⟨by have := (ok_hd os).1; omega, by have := (ok_hd os).2; omega⟩ (ok_tl os)) hlo hf)
theorem s_l2i {M : MI} {pc : Nat} {lv : List (Nat × AV)} {st : List AV} {h : Hp} {Q : Option AV → Hp → Prop} {x : Int} (hd : decode M.2.1 pc = .ok (.l2i, 1)) (ho : okv (.inl x)) (k : Go M (pc + 1) lv (.inl x :: st) h Q) : Go M pc lv (.inr (.inl x) :: st) h Q := by
  refine Go.of k fun r h' S => ?_
  intro base b D cA p l e R s m args below meth c H locs N0 S0 ls Qf C oh rl hn hss hR hl ol os hlo hf
  exact lv_l2i C.1 C.2.1 hd (l2i_eq ho) (S base b D cA p l e R s m args below meth c H locs N0 S0 ls Qf C oh rl hn hss hR hl ol (ok_cons ho (ok_tl os)) hlo hf)
theorem s_i2b {M : MI} {pc : Nat} {lv : List (Nat × AV)} {st : List AV} {h : Hp} {Q : Option AV → Hp → Prop} {x : Int} (hd : decode M.2.1 pc = .ok (.i2b, 1)) (ho : -128 ≤ x ∧ x ≤ 127) (k : Go M (pc + 1) lv (.inl x :: st) h Q) : Go M pc lv (.inl x :: st) h Q := by
  refine Go.of k fun r h' S => ?_
  intro base b D cA p l e R s m args below meth c H locs N0 S0 ls Qf C oh rl hn hss hR hl ol os hlo hf
  exact lv_i2b C.1 C.2.1 hd (i2b_eq ho) (S base b D cA p l e R s m args below meth c H locs N0 S0 ls Qf C oh rl hn hss hR hl ol (ok_cons (ok_hd os) (ok_tl os)) hlo hf)
theorem s_i2c {M : MI} {pc : Nat} {lv : List (Nat × AV)} {st : List AV} {h : Hp} {Q : Option AV → Hp → Prop} {x : Int} (hd : decode M.2.1 pc = .ok (.i2c, 1)) (ho : 0 ≤ x ∧ x ≤ 65535) (k : Go M (pc + 1) lv (.inl x :: st) h Q) : Go M pc lv (.inl x :: st) h Q := by
  refine Go.of k fun r h' S => ?_
  intro base b D cA p l e R s m args below meth c H locs N0 S0 ls Qf C oh rl hn hss hR hl ol os hlo hf
  exact lv_i2c C.1 C.2.1 hd (i2c_eq ho) (S base b D cA p l e R s m args below meth c H locs N0 S0 ls Qf C oh rl hn hss hR hl ol (ok_cons (ok_hd os) (ok_tl os)) hlo hf)
theorem s_dup {M : MI} {pc : Nat} {lv : List (Nat × AV)} {st : List AV} {h : Hp} {Q : Option AV → Hp → Prop} {v : AV} (hd : decode M.2.1 pc = .ok (.dup, 1)) (hc : cat v = 1) (k : Go M (pc + 1) lv (v :: v :: st) h Q) : Go M pc lv (v :: st) h Q := by
  refine Go.of k fun r h' S => ?_
  intro base b D cA p l e R s m args below meth c H locs N0 S0 ls Qf C oh rl hn hss hR hl ol os hlo hf
  exact lv_dup C.1 C.2.1 hd ((cat_rv _ v).trans hc) (S base b D cA p l e R s m args below meth c H locs N0 S0 ls Qf C oh rl hn hss hR hl ol (ok_cons (ok_hd os) os) hlo hf)
theorem s_pop {M : MI} {pc : Nat} {lv : List (Nat × AV)} {st : List AV} {h : Hp} {Q : Option AV → Hp → Prop} {v : AV} (hd : decode M.2.1 pc = .ok (.pop, 1)) (hc : cat v = 1) (k : Go M (pc + 1) lv (st) h Q) : Go M pc lv (v :: st) h Q := by
  refine Go.of k fun r h' S => ?_
  intro base b D cA p l e R s m args below meth c H locs N0 S0 ls Qf C oh rl hn hss hR hl ol os hlo hf
  exact lv_pop C.1 C.2.1 hd ((cat_rv _ v).trans hc) (S base b D cA p l e R s m args below meth c H locs N0 S0 ls Qf C oh rl hn hss hR hl ol (ok_tl os) hlo hf)
theorem s_dup2 {M : MI} {pc : Nat} {lv : List (Nat × AV)} {st : List AV} {h : Hp} {Q : Option AV → Hp → Prop} {v w : AV} (hd : decode M.2.1 pc = .ok (.dup2, 1)) (hc : cat v = 1) (hc2 : cat w = 1) (k : Go M (pc + 1) lv (v :: w :: v :: w :: st) h Q) : Go M pc lv (v :: w :: st) h Q := by
  refine Go.of k fun r h' S => ?_
  intro base b D cA p l e R s m args below meth c H locs N0 S0 ls Qf C oh rl hn hss hR hl ol os hlo hf
  exact lv_dup2_11 C.1 C.2.1 hd ((cat_rv _ v).trans hc) ((cat_rv _ w).trans hc2) (S base b D cA p l e R s m args below meth c H locs N0 S0 ls Qf C oh rl hn hss hR hl ol (ok_cons (ok_hd os) (ok_cons (ok_hd (ok_tl os)) os)) hlo hf)
theorem s_goto {M : MI} {pc : Nat} {lv : List (Nat × AV)} {st : List AV} {h : Hp} {Q : Option AV → Hp → Prop} {off : Int} {tgt : Nat} (hd : decode M.2.1 pc = .ok (.goto off, 3)) (ht : (pc : Int) + off = (tgt : Int)) (k : Go M tgt lv (st) h Q) : Go M pc lv (st) h Q := by
  refine Go.of k fun r h' S => ?_
  intro base b D cA p l e R s m args below meth c H locs N0 S0 ls Qf C oh rl hn hss hR hl ol os hlo hf
  exact lv_goto C.1 C.2.1 hd ht (S base b D cA p l e R s m args below meth c H locs N0 S0 ls Qf C oh rl hn hss hR hl ol os hlo hf)
theorem s_icmp_eq {M : MI} {pc : Nat} {lv : List (Nat × AV)} {st : List AV} {h : Hp} {Q : Option AV → Hp → Prop} {x y : Int} {off : Int} {tgt : Nat} (hd : decode M.2.1 pc = .ok (.if_icmp .eq off, 3)) (ht : (pc : Int) + off = (tgt : Int)) (kt : x = y → Go M tgt lv st h Q) (kf : ¬ x = y → Go M (pc + 3) lv st h Q) : Go M pc lv (.inl y :: .inl x :: st) h Q := by
  by_cases hz : x = y
  · refine Go.of (kt hz) fun r h' S => ?_
    intro base b D cA p l e R s m args below meth c H locs N0 S0 ls Qf C oh rl hn hss hR hl ol os hlo hf
    have hi : Int32.ofInt x = Int32.ofInt y ↔ x = y := i32_eq (ok_hd (ok_tl os)) (ok_hd os)
    exact lv_icmp_eq C.1 C.2.1 hd ht (fun _ => (S base b D cA p l e R s m args below meth c H locs N0 S0 ls Qf C oh rl hn hss hR hl ol (ok_tl (ok_tl os)) hlo hf)) (fun n => absurd (hi.mpr hz) n)
  · refine Go.of (kf hz) fun r h' S => ?_
    intro base b D cA p l e R s m args below meth c H locs N0 S0 ls Qf C oh rl hn hss hR hl ol os hlo hf
    have hi : Int32.ofInt x = Int32.ofInt y ↔ x = y := i32_eq (ok_hd (ok_tl os)) (ok_hd os)
    exact lv_icmp_eq C.1 C.2.1 hd ht (fun n => absurd (hi.mp n) hz) (fun _ => (S base b D cA p l e R s m args below meth c H locs N0 S0 ls Qf C oh rl hn hss hR hl ol (ok_tl (ok_tl os)) hlo hf))
theorem s_icmp_ne {M : MI} {pc : Nat} {lv : List (Nat × AV)} {st : List AV} {h : Hp} {Q : Option AV → Hp → Prop} {x y : Int} {off : Int} {tgt : Nat} (hd : decode M.2.1 pc = .ok (.if_icmp .ne off, 3)) (ht : (pc : Int) + off = (tgt : Int)) (kt : x ≠ y → Go M tgt lv st h Q) (kf : x = y → Go M (pc + 3) lv st h Q) : Go M pc lv (.inl y :: .inl x :: st) h Q := by
  by_cases hz : x ≠ y
  · refine Go.of (kt hz) fun r h' S => ?_
    intro base b D cA p l e R s m args below meth c H locs N0 S0 ls Qf C oh rl hn hss hR hl ol os hlo hf
    have hi : Int32.ofInt x ≠ Int32.ofInt y ↔ x ≠ y := not_congr (i32_eq (ok_hd (ok_tl os)) (ok_hd os))
    exact lv_icmp_ne C.1 C.2.1 hd ht (fun _ => (S base b D cA p l e R s m args below meth c H locs N0 S0 ls Qf C oh rl hn hss hR hl ol (ok_tl (ok_tl os)) hlo hf)) (fun n => absurd n (hi.mpr hz))
  · refine Go.of (kf (Decidable.of_not_not hz)) fun r h' S => ?_
    intro base b D cA p l e R s m args below meth c H locs N0 S0 ls Qf C oh rl hn hss hR hl ol os hlo hf
    have hi : Int32.ofInt x ≠ Int32.ofInt y ↔ x ≠ y := not_congr (i32_eq (ok_hd (ok_tl os)) (ok_hd os))
    exact lv_icmp_ne C.1 C.2.1 hd ht (fun n => absurd (hi.mp n) hz) (fun _ => (S base b D cA p l e R s m args below meth c H locs N0 S0 ls Qf C oh rl hn hss hR hl ol (ok_tl (ok_tl os)) hlo hf))
theorem s_icmp_lt {M : MI} {pc : Nat} {lv : List (Nat × AV)} {st : List AV} {h : Hp} {Q : Option AV → Hp → Prop} {x y : Int} {off : Int} {tgt : Nat} (hd : decode M.2.1 pc = .ok (.if_icmp .lt off, 3)) (ht : (pc : Int) + off = (tgt : Int)) (kt : x < y → Go M tgt lv st h Q) (kf : ¬ x < y → Go M (pc + 3) lv st h Q) : Go M pc lv (.inl y :: .inl x :: st) h Q := by
  by_cases hz : x < y
  · refine Go.of (kt hz) fun r h' S => ?_
    intro base b D cA p l e R s m args below meth c H locs N0 S0 ls Qf C oh rl hn hss hR hl ol os hlo hf
    have hi : Int32.ofInt x < Int32.ofInt y ↔ x < y := i32_lt (ok_hd (ok_tl os)) (ok_hd os)
    exact lv_icmp_lt C.1 C.2.1 hd ht (fun _ => (S base b D cA p l e R s m args below meth c H locs N0 S0 ls Qf C oh rl hn hss hR hl ol (ok_tl (ok_tl os)) hlo hf)) (fun n => absurd (hi.mpr hz) n)
  · refine Go.of (kf hz) fun r h' S => ?_
    intro base b D cA p l e R s m args below meth c H locs N0 S0 ls Qf C oh rl hn hss hR hl ol os hlo hf
    have hi : Int32.ofInt x < Int32.ofInt y ↔ x < y := i32_lt (ok_hd (ok_tl os)) (ok_hd os)
    exact lv_icmp_lt C.1 C.2.1 hd ht (fun n => absurd (hi.mp n) hz) (fun _ => (S base b D cA p l e R s m args below meth c H locs N0 S0 ls Qf C oh rl hn hss hR hl ol (ok_tl (ok_tl os)) hlo hf))
theorem s_icmp_ge {M : MI} {pc : Nat} {lv : List (Nat × AV)} {st : List AV} {h : Hp} {Q : Option AV → Hp → Prop} {x y : Int} {off : Int} {tgt : Nat} (hd : decode M.2.1 pc = .ok (.if_icmp .ge off, 3)) (ht : (pc : Int) + off = (tgt : Int)) (kt : y ≤ x → Go M tgt lv st h Q) (kf : ¬ y ≤ x → Go M (pc + 3) lv st h Q) : Go M pc lv (.inl y :: .inl x :: st) h Q := by
  by_cases hz : y ≤ x
  · refine Go.of (kt hz) fun r h' S => ?_
    intro base b D cA p l e R s m args below meth c H locs N0 S0 ls Qf C oh rl hn hss hR hl ol os hlo hf
    have hi : Int32.ofInt y ≤ Int32.ofInt x ↔ y ≤ x := i32_le (ok_hd os) (ok_hd (ok_tl os))
    exact lv_icmp_ge C.1 C.2.1 hd ht (fun _ => (S base b D cA p l e R s m args below meth c H locs N0 S0 ls Qf C oh rl hn hss hR hl ol (ok_tl (ok_tl os)) hlo hf)) (fun n => absurd (hi.mpr hz) n)
  · refine Go.of (kf hz) fun r h' S => ?_
    intro base b D cA p l e R s m args below meth c H locs N0 S0 ls Qf C oh rl hn hss hR hl ol os hlo hf
    have hi : Int32.ofInt y ≤ Int32.ofInt x ↔ y ≤ x := i32_le (ok_hd os) (ok_hd (ok_tl os))
    exact lv_icmp_ge C.1 C.2.1 hd ht (fun n => absurd (hi.mp n) hz) (fun _ => (S base b D cA p l e R s m args below meth c H locs N0 S0 ls Qf C oh rl hn hss hR hl ol (ok_tl (ok_tl os)) hlo hf))
theorem s_icmp_gt {M : MI} {pc : Nat} {lv : List (Nat × AV)} {st : List AV} {h : Hp} {Q : Option AV → Hp → Prop} {x y : Int} {off : Int} {tgt : Nat} (hd : decode M.2.1 pc = .ok (.if_icmp .gt off, 3)) (ht : (pc : Int) + off = (tgt : Int)) (kt : y < x → Go M tgt lv st h Q) (kf : ¬ y < x → Go M (pc + 3) lv st h Q) : Go M pc lv (.inl y :: .inl x :: st) h Q := by
  by_cases hz : y < x
  · refine Go.of (kt hz) fun r h' S => ?_
    intro base b D cA p l e R s m args below meth c H locs N0 S0 ls Qf C oh rl hn hss hR hl ol os hlo hf
    have hi : Int32.ofInt y < Int32.ofInt x ↔ y < x := i32_lt (ok_hd os) (ok_hd (ok_tl os))
    exact lv_icmp_gt C.1 C.2.1 hd ht (fun _ => (S base b D cA p l e R s m args below meth c H locs N0 S0 ls Qf C oh rl hn hss hR hl ol (ok_tl (ok_tl os)) hlo hf)) (fun n => absurd (hi.mpr hz) n)
  · refine Go.of (kf hz) fun r h' S => ?_
    intro base b D cA p l e R s m args below meth c H locs N0 S0 ls Qf C oh rl hn hss hR hl ol os hlo hf
    have hi : Int32.ofInt y < Int32.ofInt x ↔ y < x := i32_lt (ok_hd os) (ok_hd (ok_tl os))
    exact lv_icmp_gt C.1 C.2.1 hd ht (fun n => absurd (hi.mp n) hz) (fun _ => (S base b D cA p l e R s m args below meth c H locs N0 S0 ls Qf C oh rl hn hss hR hl ol (ok_tl (ok_tl os)) hlo hf))
theorem s_icmp_le {M : MI} {pc : Nat} {lv : List (Nat × AV)} {st : List AV} {h : Hp} {Q : Option AV → Hp → Prop} {x y : Int} {off : Int} {tgt : Nat} (hd : decode M.2.1 pc = .ok (.if_icmp .le off, 3)) (ht : (pc : Int) + off = (tgt : Int)) (kt : x ≤ y → Go M tgt lv st h Q) (kf : ¬ x ≤ y → Go M (pc + 3) lv st h Q) : Go M pc lv (.inl y :: .inl x :: st) h Q := by
  by_cases hz : x ≤ y
  · refine Go.of (kt hz) fun r h' S => ?_
    intro base b D cA p l e R s m args below meth c H locs N0 S0 ls Qf C oh rl hn hss hR hl ol os hlo hf
    have hi : Int32.ofInt x ≤ Int32.ofInt y ↔ x ≤ y := i32_le (ok_hd (ok_tl os)) (ok_hd os)
    exact lv_icmp_le C.1 C.2.1 hd ht (fun _ => (S base b D cA p l e R s m args below meth c H locs N0 S0 ls Qf C oh rl hn hss hR hl ol (ok_tl (ok_tl os)) hlo hf)) (fun n => absurd (hi.mpr hz) n)
  · refine Go.of (kf hz) fun r h' S => ?_
    intro base b D cA p l e R s m args below meth c H locs N0 S0 ls Qf C oh rl hn hss hR hl ol os hlo hf
    have hi : Int32.ofInt x ≤ Int32.ofInt y ↔ x ≤ y := i32_le (ok_hd (ok_tl os)) (ok_hd os)
    exact lv_icmp_le C.1 C.2.1 hd ht (fun n => absurd (hi.mp n) hz) (fun _ => (S base b D cA p l e R s m args below meth c H locs N0 S0 ls Qf C oh rl hn hss hR hl ol (ok_tl (ok_tl os)) hlo hf))
theorem s_if_eq {M : MI} {pc : Nat} {lv : List (Nat × AV)} {st : List AV} {h : Hp} {Q : Option AV → Hp → Prop} {x : Int} {off : Int} {tgt : Nat} (hd : decode M.2.1 pc = .ok (.ifCond .eq off, 3)) (ht : (pc : Int) + off = (tgt : Int)) (kt : x = 0 → Go M tgt lv st h Q) (kf : ¬ x = 0 → Go M (pc + 3) lv st h Q) : Go M pc lv (.inl x :: st) h Q := by
  by_cases hz : x = 0
  · refine Go.of (kt hz) fun r h' S => ?_
    intro base b D cA p l e R s m args below meth c H locs N0 S0 ls Qf C oh rl hn hss hR hl ol os hlo hf
    have hi : Int32.ofInt x = 0 ↔ x = 0 := i32_eq (ok_hd os) (show okv (.inl 0) from ⟨by omega, by omega⟩)
    exact lv_if_eq C.1 C.2.1 hd ht (fun _ => (S base b D cA p l e R s m args below meth c H locs N0 S0 ls Qf C oh rl hn hss hR hl ol (ok_tl os) hlo hf)) (fun n => absurd (hi.mpr hz) n)
  · refine Go.of (kf hz) fun r h' S => ?_
    intro base b D cA p l e R s m args below meth c H locs N0 S0 ls Qf C oh rl hn hss hR hl ol os hlo hf
    have hi : Int32.ofInt x = 0 ↔ x = 0 := i32_eq (ok_hd os) (show okv (.inl 0) from ⟨by omega, by omega⟩)
    exact lv_if_eq C.1 C.2.1 hd ht (fun n => absurd (hi.mp n) hz) (fun _ => (S base b D cA p l e R s m args below meth c H locs N0 S0 ls Qf C oh rl hn hss hR hl ol (ok_tl os) hlo hf))
theorem s_if_ne {M : MI} {pc : Nat} {lv : List (Nat × AV)} {st : List AV} {h : Hp} {Q : Option AV → Hp → Prop} {x : Int} {off : Int} {tgt : Nat} (hd : decode M.2.1 pc = .ok (.ifCond .ne off, 3)) (ht : (pc : Int) + off = (tgt : Int)) (kt : x ≠ 0 → Go M tgt lv st h Q) (kf : x = 0 → Go M (pc + 3) lv st h Q) : Go M pc lv (.inl x :: st) h Q := by
  by_cases hz : x ≠ 0
  · refine Go.of (kt hz) fun r h' S => ?_
    intro base b D cA p l e R s m args below meth c H locs N0 S0 ls Qf C oh rl hn hss hR hl ol os hlo hf
    have hi : Int32.ofInt x ≠ 0 ↔ x ≠ 0 := not_congr (i32_eq (ok_hd os) (show okv (.inl 0) from ⟨by omega, by omega⟩))
    exact lv_if_ne C.1 C.2.1 hd ht (fun _ => (S base b D cA p l e R s m args below meth c H locs N0 S0 ls Qf C oh rl hn hss hR hl ol (ok_tl os) hlo hf)) (fun n => absurd n (hi.mpr hz))
  · refine Go.of (kf (Decidable.of_not_not hz)) fun r h' S => ?_
    intro base b D cA p l e R s m args below meth c H locs N0 S0 ls Qf C oh rl hn hss hR hl ol os hlo hf
    have hi : Int32.ofInt x ≠ 0 ↔ x ≠ 0 := not_congr (i32_eq (ok_hd os) (show okv (.inl 0) from ⟨by omega, by omega⟩))
    exact lv_if_ne C.1 C.2.1 hd ht (fun n => absurd (hi.mp n) hz) (fun _ => (S base b D cA p l e R s m args below meth c H locs N0 S0 ls Qf C oh rl hn hss hR hl ol (ok_tl os) hlo hf))
theorem s_if_lt {M : MI} {pc : Nat} {lv : List (Nat × AV)} {st : List AV} {h : Hp} {Q : Option AV → Hp → Prop} {x : Int} {off : Int} {tgt : Nat} (hd : decode M.2.1 pc = .ok (.ifCond .lt off, 3)) (ht : (pc : Int) + off = (tgt : Int)) (kt : x < 0 → Go M tgt lv st h Q) (kf : ¬ x < 0 → Go M (pc + 3) lv st h Q) : Go M pc lv (.inl x :: st) h Q := by
  by_cases hz : x < 0
  · refine Go.of (kt hz) fun r h' S => ?_
    intro base b D cA p l e R s m args below meth c H locs N0 S0 ls Qf C oh rl hn hss hR hl ol os hlo hf
    have hi : Int32.ofInt x < 0 ↔ x < 0 := i32_lt (ok_hd os) (show okv (.inl 0) from ⟨by omega, by omega⟩)
    exact lv_if_lt C.1 C.2.1 hd ht (fun _ => (S base b D cA p l e R s m args below meth c H locs N0 S0 ls Qf C oh rl hn hss hR hl ol (ok_tl os) hlo hf)) (fun n => absurd (hi.mpr hz) n)
  · refine Go.of (kf hz) fun r h' S => ?_
    intro base b D cA p l e R s m args below meth c H locs N0 S0 ls Qf C oh rl hn hss hR hl ol os hlo hf
    have hi : Int32.ofInt x < 0 ↔ x < 0 := i32_lt (ok_hd os) (show okv (.inl 0) from ⟨by omega, by omega⟩)
    exact lv_if_lt C.1 C.2.1 hd ht (fun n => absurd (hi.mp n) hz) (fun _ => (S base b D cA p l e R s m args below meth c H locs N0 S0 ls Qf C oh rl hn hss hR hl ol (ok_tl os) hlo hf))
theorem s_if_ge {M : MI} {pc : Nat} {lv : List (Nat × AV)} {st : List AV} {h : Hp} {Q : Option AV → Hp → Prop} {x : Int} {off : Int} {tgt : Nat} (hd : decode M.2.1 pc = .ok (.ifCond .ge off, 3)) (ht : (pc : Int) + off = (tgt : Int)) (kt : 0 ≤ x → Go M tgt lv st h Q) (kf : ¬ 0 ≤ x → Go M (pc + 3) lv st h Q) : Go M pc lv (.inl x :: st) h Q := by
  by_cases hz : 0 ≤ x
  · refine Go.of (kt hz) fun r h' S => ?_
    intro base b D cA p l e R s m args below meth c H locs N0 S0 ls Qf C oh rl hn hss hR hl ol os hlo hf
    have hi : 0 ≤ Int32.ofInt x ↔ 0 ≤ x := i32_le (show okv (.inl 0) from ⟨by omega, by omega⟩) (ok_hd os)
    exact lv_if_ge C.1 C.2.1 hd ht (fun _ => (S base b D cA p l e R s m args below meth c H locs N0 S0 ls Qf C oh rl hn hss hR hl ol (ok_tl os) hlo hf)) (fun n => absurd (hi.mpr hz) n)
  · refine Go.of (kf hz) fun r h' S => ?_
    intro base b D cA p l e R s m args below meth c H locs N0 S0 ls Qf C oh rl hn hss hR hl ol os hlo hf
    have hi : 0 ≤ Int32.ofInt x ↔ 0 ≤ x := i32_le (show okv (.inl 0) from ⟨by omega, by omega⟩) (ok_hd os)
    exact lv_if_ge C.1 C.2.1 hd ht (fun n => absurd (hi.mp n) hz) (fun _ => (S base b D cA p l e R s m args below meth c H locs N0 S0 ls Qf C oh rl hn hss hR hl ol (ok_tl os) hlo hf))
theorem s_if_gt {M : MI} {pc : Nat} {lv : List (Nat × AV)} {st : List AV} {h : Hp} {Q : Option AV → Hp → Prop} {x : Int} {off : Int} {tgt : Nat} (hd : decode M.2.1 pc = .ok (.ifCond .gt off, 3)) (ht : (pc : Int) + off = (tgt : Int)) (kt : 0 < x → Go M tgt lv st h Q) (kf : ¬ 0 < x → Go M (pc + 3) lv st h Q) : Go M pc lv (.inl x :: st) h Q := by
  by_cases hz : 0 < x
  · refine Go.of (kt hz) fun r h' S => ?_
    intro base b D cA p l e R s m args below meth c H locs N0 S0 ls Qf C oh rl hn hss hR hl ol os hlo hf
    have hi : 0 < Int32.ofInt x ↔ 0 < x := i32_lt (show okv (.inl 0) from ⟨by omega, by omega⟩) (ok_hd os)
    exact lv_if_gt C.1 C.2.1 hd ht (fun _ => (S base b D cA p l e R s m args below meth c H locs N0 S0 ls Qf C oh rl hn hss hR hl ol (ok_tl os) hlo hf)) (fun n => absurd (hi.mpr hz) n)
  · refine Go.of (kf hz) fun r h' S => ?_
    intro base b D cA p l e R s m args below meth c H locs N0 S0 ls Qf C oh rl hn hss hR hl ol os hlo hf
    have hi : 0 < Int32.ofInt x ↔ 0 < x := i32_lt (show okv (.inl 0) from ⟨by omega, by omega⟩) (ok_hd os)
    exact lv_if_gt C.1 C.2.1 hd ht (fun n => absurd (hi.mp n) hz) (fun _ => (S base b D cA p l e R s m args below meth c H locs N0 S0 ls Qf C oh rl hn hss hR hl ol (ok_tl os) hlo hf))
theorem s_if_le {M : MI} {pc : Nat} {lv : List (Nat × AV)} {st : List AV} {h : Hp} {Q : Option AV → Hp → Prop} {x : Int} {off : Int} {tgt : Nat} (hd : decode M.2.1 pc = .ok (.ifCond .le off, 3)) (ht : (pc : Int) + off = (tgt : Int)) (kt : x ≤ 0 → Go M tgt lv st h Q) (kf : ¬ x ≤ 0 → Go M (pc + 3) lv st h Q) : Go M pc lv (.inl x :: st) h Q := by
  by_cases hz : x ≤ 0
  · refine Go.of (kt hz) fun r h' S => ?_
    intro base b D cA p l e R s m args below meth c H locs N0 S0 ls Qf C oh rl hn hss hR hl ol os hlo hf
    have hi : Int32.ofInt x ≤ 0 ↔ x ≤ 0 := i32_le (ok_hd os) (show okv (.inl 0) from ⟨by omega, by omega⟩)
    exact lv_if_le C.1 C.2.1 hd ht (fun _ => (S base b D cA p l e R s m args below meth c H locs N0 S0 ls Qf C oh rl hn hss hR hl ol (ok_tl os) hlo hf)) (fun n => absurd (hi.mpr hz) n)
  · refine Go.of (kf hz) fun r h' S => ?_
    intro base b D cA p l e R s m args below meth c H locs N0 S0 ls Qf C oh rl hn hss hR hl ol os hlo hf
    have hi : Int32.ofInt x ≤ 0 ↔ x ≤ 0 := i32_le (ok_hd os) (show okv (.inl 0) from ⟨by omega, by omega⟩)
    exact lv_if_le C.1 C.2.1 hd ht (fun n => absurd (hi.mp n) hz) (fun _ => (S base b D cA p l e R s m args below meth c H locs N0 S0 ls Qf C oh rl hn hss hR hl ol (ok_tl os) hlo hf))
theorem s_ifnull {M : MI} {pc : Nat} {lv : List (Nat × AV)} {st : List AV} {h : Hp} {Q : Option AV → Hp → Prop} {x : Nat} {off : Int} {tgt : Nat} (hd : decode M.2.1 pc = .ok (.ifnull off, 3)) (ht : (pc : Int) + off = (tgt : Int)) (kt : x = 0 → Go M tgt lv st h Q) (kf : ¬ x = 0 → Go M (pc + 3) lv st h Q) : Go M pc lv (.inr (.inr x) :: st) h Q := by
  by_cases hz : x = 0
  · refine Go.of (kt hz) fun r h' S => ?_
    intro base b D cA p l e R s m args below meth c H locs N0 S0 ls Qf C oh rl hn hss hR hl ol os hlo hf
    subst hz
    exact lv_ifnullN C.1 C.2.1 hd ht (S base b D cA p l e R s m args below meth c H locs N0 S0 ls Qf C oh rl hn hss hR hl ol (ok_tl os) hlo hf)
  · refine Go.of (kf hz) fun r h' S => ?_
    intro base b D cA p l e R s m args below meth c H locs N0 S0 ls Qf C oh rl hn hss hR hl ol os hlo hf
    rw [List.map_cons, show rv (ga base b) (.inr (.inr x)) = .ref (ga base b x) by show rr _ _ = _; unfold rr; rw [if_neg hz]]
    exact lv_ifnull C.1 C.2.1 hd (S base b D cA p l e R s m args below meth c H locs N0 S0 ls Qf C oh rl hn hss hR hl ol (ok_tl os) hlo hf)
theorem s_ifnonnull {M : MI} {pc : Nat} {lv : List (Nat × AV)} {st : List AV} {h : Hp} {Q : Option AV → Hp → Prop} {x : Nat} {off : Int} {tgt : Nat} (hd : decode M.2.1 pc = .ok (.ifnonnull off, 3)) (ht : (pc : Int) + off = (tgt : Int)) (kt : x ≠ 0 → Go M tgt lv st h Q) (kf : ¬ x ≠ 0 → Go M (pc + 3) lv st h Q) : Go M pc lv (.inr (.inr x) :: st) h Q := by
  by_cases hz : x = 0
  · refine Go.of (kf (fun n => n hz)) fun r h' S => ?_
    intro base b D cA p l e R s m args below meth c H locs N0 S0 ls Qf C oh rl hn hss hR hl ol os hlo hf
    subst hz
    exact lv_ifnonnullN C.1 C.2.1 hd (S base b D cA p l e R s m args below meth c H locs N0 S0 ls Qf C oh rl hn hss hR hl ol (ok_tl os) hlo hf)
  · refine Go.of (kt hz) fun r h' S => ?_
    intro base b D cA p l e R s m args below meth c H locs N0 S0 ls Qf C oh rl hn hss hR hl ol os hlo hf
    rw [List.map_cons, show rv (ga base b) (.inr (.inr x)) = .ref (ga base b x) by show rr _ _ = _; unfold rr; rw [if_neg hz]]
    exact lv_ifnonnull C.1 C.2.1 hd ht (S base b D cA p l e R s m args below meth c H locs N0 S0 ls Qf C oh rl hn hss hR hl ol (ok_tl os) hlo hf)
theorem s_tswOut {M : MI} {pc : Nat} {lv : List (Nat × AV)} {st : List AV} {h : Hp} {Q : Option AV → Hp → Prop} {dflt lo hi : Int} {offs : Array Int} {len tgt : Nat} {x : Int} (hd : decode M.2.1 pc = .ok (.tableswitch dflt lo hi offs, len)) (hx : x < lo ∨ hi < x) (ht : (pc : Int) + dflt = (tgt : Int)) (k : Go M tgt lv (st) h Q) : Go M pc lv (.inl x :: st) h Q := by
  refine Go.of k fun r h' S => ?_
  intro base b D cA p l e R s m args below meth c H locs N0 S0 ls Qf C oh rl hn hss hR hl ol os hlo hf
  exact lv_tableOut C.1 C.2.1 hd (by rw [i32_toInt (ok_hd os)]; exact hx) ht (S base b D cA p l e R s m args below meth c H locs N0 S0 ls Qf C oh rl hn hss hR hl ol (ok_tl os) hlo hf)
theorem s_tswIn {M : MI} {pc : Nat} {lv : List (Nat × AV)} {st : List AV} {h : Hp} {Q : Option AV → Hp → Prop} {dflt lo hi off : Int} {offs : Array Int} {len tgt : Nat} {x : Int} (hd : decode M.2.1 pc = .ok (.tableswitch dflt lo hi offs, len)) (h1 : ¬ x < lo) (h2 : ¬ hi < x) (ho : offs[(x - lo).toNat]? = some off) (ht : (pc : Int) + off = (tgt : Int)) (k : Go M tgt lv (st) h Q) : Go M pc lv (.inl x :: st) h Q := by
  refine Go.of k fun r h' S => ?_
  intro base b D cA p l e R s m args below meth c H locs N0 S0 ls Qf C oh rl hn hss hR hl ol os hlo hf
  exact lv_tableIn C.1 C.2.1 hd (by rw [i32_toInt (ok_hd os)]; exact h1) (by rw [i32_toInt (ok_hd os)]; exact h2) (by rw [i32_toInt (ok_hd os)]; exact ho) ht (S base b D cA p l e R s m args below meth c H locs N0 S0 ls Qf C oh rl hn hss hR hl ol (ok_tl os) hlo hf)
theorem s_lsw {M : MI} {pc : Nat} {lv : List (Nat × AV)} {st : List AV} {h : Hp} {Q : Option AV → Hp → Prop} {dflt off : Int} {ps : Array (Int × Int)} {len tgt : Nat} {x : Int} (hd : decode M.2.1 pc = .ok (.lookupswitch dflt ps, len)) (hp : (ps.toList.zip (ps.toList.drop 1)).all (fun (a, next) => a.1 < next.1) = true) (ho : Op.lookupswitch.offset ps.toList dflt x = off) (ht : (pc : Int) + off = (tgt : Int)) (k : Go M tgt lv (st) h Q) : Go M pc lv (.inl x :: st) h Q := by
  refine Go.of k fun r h' S => ?_
  intro base b D cA p l e R s m args below meth c H locs N0 S0 ls Qf C oh rl hn hss hR hl ol os hlo hf
  exact lv_lookup C.1 C.2.1 hd hp (by rw [i32_toInt (ok_hd os)]; exact ho) ht (S base b D cA p l e R s m args below meth c H locs N0 S0 ls Qf C oh rl hn hss hR hl ol (ok_tl os) hlo hf)
end

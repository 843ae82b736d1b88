section
-- ===== PART A: goes FIRST, ahead of the names: the tables' words, and 'selects' of the private methods out of them =====
/-- a private method of a class that the tables say can be made, by its rows of tables_1 -/
def lw_okq (q : MethodName × Nat) : Prop := (q.1.cls ≠ "java/lang/invoke/MethodHandle" ∧ q.1.cls ≠ "java/lang/invoke/VarHandle") ∧ Cond.instantiable q.1.cls q.2 ∈ tables_1 ∧ Cond.privateMethod q.1 ∈ tables_1 ∧ Cond.instanceMethod q.1 ∈ tables_1
theorem lw_p0 : lw_okq (⟨"RowsAloud$DeskText", "takeLetter", "(I)I"⟩, 7) := ⟨⟨by decide +kernel, by decide +kernel⟩, List.mem_of_getElem? (i := 26) (by decide +kernel), List.mem_of_getElem? (i := 319) (by decide +kernel), List.mem_of_getElem? (i := 320) (by decide +kernel)⟩
theorem lw_p1 : lw_okq (⟨"RowsAloud$DeskText", "openClause", "(I)I"⟩, 7) := ⟨⟨by decide +kernel, by decide +kernel⟩, List.mem_of_getElem? (i := 26) (by decide +kernel), List.mem_of_getElem? (i := 323) (by decide +kernel), List.mem_of_getElem? (i := 324) (by decide +kernel)⟩
theorem lw_p2 : lw_okq (⟨"RowsAloud$DeskText", "goOn", "(ILRowsAloud$Figures;)I"⟩, 7) := ⟨⟨by decide +kernel, by decide +kernel⟩, List.mem_of_getElem? (i := 26) (by decide +kernel), List.mem_of_getElem? (i := 331) (by decide +kernel), List.mem_of_getElem? (i := 332) (by decide +kernel)⟩
theorem lw_p3 : lw_okq (⟨"RowsAloud$DeskText", "noteFault", "(II)V"⟩, 7) := ⟨⟨by decide +kernel, by decide +kernel⟩, List.mem_of_getElem? (i := 26) (by decide +kernel), List.mem_of_getElem? (i := 339) (by decide +kernel), List.mem_of_getElem? (i := 340) (by decide +kernel)⟩
theorem lw_p4 : lw_okq (⟨"RowsAloud", "layDesk", "()V"⟩, 12) := ⟨⟨by decide +kernel, by decide +kernel⟩, List.mem_of_getElem? (i := 18) (by decide +kernel), List.mem_of_getElem? (i := 343) (by decide +kernel), List.mem_of_getElem? (i := 344) (by decide +kernel)⟩
theorem lw_p5 : lw_okq (⟨"RowsAloud$WordList", "waysToEnd", "(LRowsAloud$Figures;I)I"⟩, 4) := ⟨⟨by decide +kernel, by decide +kernel⟩, List.mem_of_getElem? (i := 57) (by decide +kernel), List.mem_of_getElem? (i := 421) (by decide +kernel), List.mem_of_getElem? (i := 422) (by decide +kernel)⟩
theorem lw_p6 : lw_okq (⟨"RowsAloud$State", "logReading", "(I)V"⟩, 5) := ⟨⟨by decide +kernel, by decide +kernel⟩, List.mem_of_getElem? (i := 113) (by decide +kernel), List.mem_of_getElem? (i := 499) (by decide +kernel), List.mem_of_getElem? (i := 500) (by decide +kernel)⟩
theorem lw_p7 : lw_okq (⟨"RowsAloud", "driftOnce", "()V"⟩, 12) := ⟨⟨by decide +kernel, by decide +kernel⟩, List.mem_of_getElem? (i := 18) (by decide +kernel), List.mem_of_getElem? (i := 562) (by decide +kernel), List.mem_of_getElem? (i := 563) (by decide +kernel)⟩
theorem lw_p8 : lw_okq (⟨"RowsAloud", "draw", "(I)I"⟩, 12) := ⟨⟨by decide +kernel, by decide +kernel⟩, List.mem_of_getElem? (i := 18) (by decide +kernel), List.mem_of_getElem? (i := 566) (by decide +kernel), List.mem_of_getElem? (i := 567) (by decide +kernel)⟩
theorem lw_p9 : lw_okq (⟨"RowsAloud$Trials", "swap", "()V"⟩, 4) := ⟨⟨by decide +kernel, by decide +kernel⟩, List.mem_of_getElem? (i := 221) (by decide +kernel), List.mem_of_getElem? (i := 603) (by decide +kernel), List.mem_of_getElem? (i := 604) (by decide +kernel)⟩
theorem lw_p10 : lw_okq (⟨"RowsAloud$Trials", "firstLike", "(I)I"⟩, 4) := ⟨⟨by decide +kernel, by decide +kernel⟩, List.mem_of_getElem? (i := 221) (by decide +kernel), List.mem_of_getElem? (i := 633) (by decide +kernel), List.mem_of_getElem? (i := 634) (by decide +kernel)⟩
theorem lw_p11 : lw_okq (⟨"RowsAloud$Parting", "follow", "(LRowsAloud$Figures;)V"⟩, 3) := ⟨⟨by decide +kernel, by decide +kernel⟩, List.mem_of_getElem? (i := 245) (by decide +kernel), List.mem_of_getElem? (i := 651) (by decide +kernel), List.mem_of_getElem? (i := 652) (by decide +kernel)⟩
theorem lw_p12 : lw_okq (⟨"RowsAloud$WordList", "takeIn", "(ILRowsAloud$Figures;I)V"⟩, 4) := ⟨⟨by decide +kernel, by decide +kernel⟩, List.mem_of_getElem? (i := 57) (by decide +kernel), List.mem_of_getElem? (i := 693) (by decide +kernel), List.mem_of_getElem? (i := 694) (by decide +kernel)⟩
theorem lw_p13 : lw_okq (⟨"RowsAloud$Heard", "fits", "(ILRowsAloud$WordList;)Z"⟩, 5) := ⟨⟨by decide +kernel, by decide +kernel⟩, List.mem_of_getElem? (i := 179) (by decide +kernel), List.mem_of_getElem? (i := 719) (by decide +kernel), List.mem_of_getElem? (i := 720) (by decide +kernel)⟩
theorem lw_p14 : lw_okq (⟨"RowsAloud$Heard", "greatestPart", "(LRowsAloud$Figures;I)I"⟩, 5) := ⟨⟨by decide +kernel, by decide +kernel⟩, List.mem_of_getElem? (i := 179) (by decide +kernel), List.mem_of_getElem? (i := 740) (by decide +kernel), List.mem_of_getElem? (i := 741) (by decide +kernel)⟩
theorem lw_p15 : lw_okq (⟨"RowsAloud$Heard", "howManyLike", "(II)I"⟩, 5) := ⟨⟨by decide +kernel, by decide +kernel⟩, List.mem_of_getElem? (i := 179) (by decide +kernel), List.mem_of_getElem? (i := 744) (by decide +kernel), List.mem_of_getElem? (i := 745) (by decide +kernel)⟩
def lw_privs_1 : List (MethodName × Nat) := [(⟨"RowsAloud$DeskText", "takeLetter", "(I)I"⟩, 7), (⟨"RowsAloud$DeskText", "openClause", "(I)I"⟩, 7), (⟨"RowsAloud$DeskText", "goOn", "(ILRowsAloud$Figures;)I"⟩, 7), (⟨"RowsAloud$DeskText", "noteFault", "(II)V"⟩, 7), (⟨"RowsAloud", "layDesk", "()V"⟩, 12), (⟨"RowsAloud$WordList", "waysToEnd", "(LRowsAloud$Figures;I)I"⟩, 4), (⟨"RowsAloud$State", "logReading", "(I)V"⟩, 5), (⟨"RowsAloud", "driftOnce", "()V"⟩, 12), (⟨"RowsAloud", "draw", "(I)I"⟩, 12), (⟨"RowsAloud$Trials", "swap", "()V"⟩, 4), (⟨"RowsAloud$Trials", "firstLike", "(I)I"⟩, 4), (⟨"RowsAloud$Parting", "follow", "(LRowsAloud$Figures;)V"⟩, 3), (⟨"RowsAloud$WordList", "takeIn", "(ILRowsAloud$Figures;I)V"⟩, 4), (⟨"RowsAloud$Heard", "fits", "(ILRowsAloud$WordList;)Z"⟩, 5), (⟨"RowsAloud$Heard", "greatestPart", "(LRowsAloud$Figures;I)I"⟩, 5), (⟨"RowsAloud$Heard", "howManyLike", "(II)I"⟩, 5)]
theorem lw_r1 : ∀ q ∈ lw_privs_1, lw_okq q := List.forall_mem_cons.mpr ⟨lw_p0, List.forall_mem_cons.mpr ⟨lw_p1, List.forall_mem_cons.mpr ⟨lw_p2, List.forall_mem_cons.mpr ⟨lw_p3, List.forall_mem_cons.mpr ⟨lw_p4, List.forall_mem_cons.mpr ⟨lw_p5, List.forall_mem_cons.mpr ⟨lw_p6, List.forall_mem_cons.mpr ⟨lw_p7, List.forall_mem_cons.mpr ⟨lw_p8, List.forall_mem_cons.mpr ⟨lw_p9, List.forall_mem_cons.mpr ⟨lw_p10, List.forall_mem_cons.mpr ⟨lw_p11, List.forall_mem_cons.mpr ⟨lw_p12, List.forall_mem_cons.mpr ⟨lw_p13, List.forall_mem_cons.mpr ⟨lw_p14, List.forall_mem_cons.mpr ⟨lw_p15, fun _ h => absurd h List.not_mem_nil⟩⟩⟩⟩⟩⟩⟩⟩⟩⟩⟩⟩⟩⟩⟩⟩
theorem lw_p16 : lw_okq (⟨"RowsAloudModel", "isRead", "()Z"⟩, 40) := ⟨⟨by decide +kernel, by decide +kernel⟩, List.mem_of_getElem? (i := 804) (by decide +kernel), List.mem_of_getElem? (i := 944) (by decide +kernel), List.mem_of_getElem? (i := 945) (by decide +kernel)⟩
theorem lw_p17 : lw_okq (⟨"RowsAloudModel", "peek", "()I"⟩, 40) := ⟨⟨by decide +kernel, by decide +kernel⟩, List.mem_of_getElem? (i := 804) (by decide +kernel), List.mem_of_getElem? (i := 948) (by decide +kernel), List.mem_of_getElem? (i := 949) (by decide +kernel)⟩
theorem lw_p18 : lw_okq (⟨"RowsAloudModel", "isClause", "()Z"⟩, 40) := ⟨⟨by decide +kernel, by decide +kernel⟩, List.mem_of_getElem? (i := 804) (by decide +kernel), List.mem_of_getElem? (i := 952) (by decide +kernel), List.mem_of_getElem? (i := 953) (by decide +kernel)⟩
theorem lw_p19 : lw_okq (⟨"RowsAloudModel", "isBad", "(I)Z"⟩, 40) := ⟨⟨by decide +kernel, by decide +kernel⟩, List.mem_of_getElem? (i := 804) (by decide +kernel), List.mem_of_getElem? (i := 956) (by decide +kernel), List.mem_of_getElem? (i := 957) (by decide +kernel)⟩
theorem lw_p20 : lw_okq (⟨"RowsAloudModel", "isFigures", "([III)Z"⟩, 40) := ⟨⟨by decide +kernel, by decide +kernel⟩, List.mem_of_getElem? (i := 804) (by decide +kernel), List.mem_of_getElem? (i := 960) (by decide +kernel), List.mem_of_getElem? (i := 961) (by decide +kernel)⟩
theorem lw_p21 : lw_okq (⟨"RowsAloudModel", "runs", "()I"⟩, 40) := ⟨⟨by decide +kernel, by decide +kernel⟩, List.mem_of_getElem? (i := 804) (by decide +kernel), List.mem_of_getElem? (i := 975) (by decide +kernel), List.mem_of_getElem? (i := 976) (by decide +kernel)⟩
theorem lw_p22 : lw_okq (⟨"RowsAloudModel", "longest", "(I)I"⟩, 40) := ⟨⟨by decide +kernel, by decide +kernel⟩, List.mem_of_getElem? (i := 804) (by decide +kernel), List.mem_of_getElem? (i := 979) (by decide +kernel), List.mem_of_getElem? (i := 980) (by decide +kernel)⟩
theorem lw_p23 : lw_okq (⟨"RowsAloudModel", "unlikeOnes", "()I"⟩, 40) := ⟨⟨by decide +kernel, by decide +kernel⟩, List.mem_of_getElem? (i := 804) (by decide +kernel), List.mem_of_getElem? (i := 983) (by decide +kernel), List.mem_of_getElem? (i := 984) (by decide +kernel)⟩
theorem lw_p24 : lw_okq (⟨"RowsAloudModel", "waysToTell", "()I"⟩, 40) := ⟨⟨by decide +kernel, by decide +kernel⟩, List.mem_of_getElem? (i := 804) (by decide +kernel), List.mem_of_getElem? (i := 990) (by decide +kernel), List.mem_of_getElem? (i := 991) (by decide +kernel)⟩
theorem lw_p25 : lw_okq (⟨"RowsAloudModel", "stands", "(II)Z"⟩, 40) := ⟨⟨by decide +kernel, by decide +kernel⟩, List.mem_of_getElem? (i := 804) (by decide +kernel), List.mem_of_getElem? (i := 994) (by decide +kernel), List.mem_of_getElem? (i := 995) (by decide +kernel)⟩
theorem lw_p26 : lw_okq (⟨"RowsAloudModel", "figureAt", "(I)I"⟩, 40) := ⟨⟨by decide +kernel, by decide +kernel⟩, List.mem_of_getElem? (i := 804) (by decide +kernel), List.mem_of_getElem? (i := 1004) (by decide +kernel), List.mem_of_getElem? (i := 1005) (by decide +kernel)⟩
theorem lw_p27 : lw_okq (⟨"RowsAloudModel", "isWord", "(I)Z"⟩, 40) := ⟨⟨by decide +kernel, by decide +kernel⟩, List.mem_of_getElem? (i := 804) (by decide +kernel), List.mem_of_getElem? (i := 1012) (by decide +kernel), List.mem_of_getElem? (i := 1013) (by decide +kernel)⟩
theorem lw_p28 : lw_okq (⟨"RowsAloudModel", "begin", "()V"⟩, 40) := ⟨⟨by decide +kernel, by decide +kernel⟩, List.mem_of_getElem? (i := 804) (by decide +kernel), List.mem_of_getElem? (i := 1025) (by decide +kernel), List.mem_of_getElem? (i := 1026) (by decide +kernel)⟩
theorem lw_p29 : lw_okq (⟨"RowsAloudModel", "reads", "(I)V"⟩, 40) := ⟨⟨by decide +kernel, by decide +kernel⟩, List.mem_of_getElem? (i := 804) (by decide +kernel), List.mem_of_getElem? (i := 1029) (by decide +kernel), List.mem_of_getElem? (i := 1030) (by decide +kernel)⟩
theorem lw_p30 : lw_okq (⟨"RowsAloudModel", "sayBackward", "()V"⟩, 40) := ⟨⟨by decide +kernel, by decide +kernel⟩, List.mem_of_getElem? (i := 804) (by decide +kernel), List.mem_of_getElem? (i := 1033) (by decide +kernel), List.mem_of_getElem? (i := 1034) (by decide +kernel)⟩
theorem lw_p31 : lw_okq (⟨"RowsAloudModel", "sayRun", "(III)V"⟩, 40) := ⟨⟨by decide +kernel, by decide +kernel⟩, List.mem_of_getElem? (i := 804) (by decide +kernel), List.mem_of_getElem? (i := 1037) (by decide +kernel), List.mem_of_getElem? (i := 1038) (by decide +kernel)⟩
def lw_privs_2 : List (MethodName × Nat) := [(⟨"RowsAloudModel", "isRead", "()Z"⟩, 40), (⟨"RowsAloudModel", "peek", "()I"⟩, 40), (⟨"RowsAloudModel", "isClause", "()Z"⟩, 40), (⟨"RowsAloudModel", "isBad", "(I)Z"⟩, 40), (⟨"RowsAloudModel", "isFigures", "([III)Z"⟩, 40), (⟨"RowsAloudModel", "runs", "()I"⟩, 40), (⟨"RowsAloudModel", "longest", "(I)I"⟩, 40), (⟨"RowsAloudModel", "unlikeOnes", "()I"⟩, 40), (⟨"RowsAloudModel", "waysToTell", "()I"⟩, 40), (⟨"RowsAloudModel", "stands", "(II)Z"⟩, 40), (⟨"RowsAloudModel", "figureAt", "(I)I"⟩, 40), (⟨"RowsAloudModel", "isWord", "(I)Z"⟩, 40), (⟨"RowsAloudModel", "begin", "()V"⟩, 40), (⟨"RowsAloudModel", "reads", "(I)V"⟩, 40), (⟨"RowsAloudModel", "sayBackward", "()V"⟩, 40), (⟨"RowsAloudModel", "sayRun", "(III)V"⟩, 40)]
theorem lw_r2 : ∀ q ∈ lw_privs_2, lw_okq q := List.forall_mem_cons.mpr ⟨lw_p16, List.forall_mem_cons.mpr ⟨lw_p17, List.forall_mem_cons.mpr ⟨lw_p18, List.forall_mem_cons.mpr ⟨lw_p19, List.forall_mem_cons.mpr ⟨lw_p20, List.forall_mem_cons.mpr ⟨lw_p21, List.forall_mem_cons.mpr ⟨lw_p22, List.forall_mem_cons.mpr ⟨lw_p23, List.forall_mem_cons.mpr ⟨lw_p24, List.forall_mem_cons.mpr ⟨lw_p25, List.forall_mem_cons.mpr ⟨lw_p26, List.forall_mem_cons.mpr ⟨lw_p27, List.forall_mem_cons.mpr ⟨lw_p28, List.forall_mem_cons.mpr ⟨lw_p29, List.forall_mem_cons.mpr ⟨lw_p30, List.forall_mem_cons.mpr ⟨lw_p31, fun _ h => absurd h List.not_mem_nil⟩⟩⟩⟩⟩⟩⟩⟩⟩⟩⟩⟩⟩⟩⟩⟩
theorem lw_p32 : lw_okq (⟨"RowsAloudModel", "say", "(I)V"⟩, 40) := ⟨⟨by decide +kernel, by decide +kernel⟩, List.mem_of_getElem? (i := 804) (by decide +kernel), List.mem_of_getElem? (i := 1041) (by decide +kernel), List.mem_of_getElem? (i := 1042) (by decide +kernel)⟩
theorem lw_p33 : lw_okq (⟨"RowsAloudModel", "sayAll", "()V"⟩, 40) := ⟨⟨by decide +kernel, by decide +kernel⟩, List.mem_of_getElem? (i := 804) (by decide +kernel), List.mem_of_getElem? (i := 1045) (by decide +kernel), List.mem_of_getElem? (i := 1046) (by decide +kernel)⟩
theorem lw_p34 : lw_okq (⟨"RowsAloudModel", "sayRuns", "(I)V"⟩, 40) := ⟨⟨by decide +kernel, by decide +kernel⟩, List.mem_of_getElem? (i := 804) (by decide +kernel), List.mem_of_getElem? (i := 1049) (by decide +kernel), List.mem_of_getElem? (i := 1050) (by decide +kernel)⟩
theorem lw_p35 : lw_okq (⟨"RowsAloudModel", "note", "()V"⟩, 40) := ⟨⟨by decide +kernel, by decide +kernel⟩, List.mem_of_getElem? (i := 804) (by decide +kernel), List.mem_of_getElem? (i := 1054) (by decide +kernel), List.mem_of_getElem? (i := 1055) (by decide +kernel)⟩
theorem lw_p36 : lw_okq (⟨"RowsAloudModel", "logs", "(I)V"⟩, 40) := ⟨⟨by decide +kernel, by decide +kernel⟩, List.mem_of_getElem? (i := 804) (by decide +kernel), List.mem_of_getElem? (i := 1058) (by decide +kernel), List.mem_of_getElem? (i := 1059) (by decide +kernel)⟩
theorem lw_p37 : lw_okq (⟨"RowsAloudModel", "become", "()V"⟩, 40) := ⟨⟨by decide +kernel, by decide +kernel⟩, List.mem_of_getElem? (i := 804) (by decide +kernel), List.mem_of_getElem? (i := 1062) (by decide +kernel), List.mem_of_getElem? (i := 1063) (by decide +kernel)⟩
theorem lw_p38 : lw_okq (⟨"RowsAloudModel", "isUnread", "()Z"⟩, 40) := ⟨⟨by decide +kernel, by decide +kernel⟩, List.mem_of_getElem? (i := 804) (by decide +kernel), List.mem_of_getElem? (i := 1070) (by decide +kernel), List.mem_of_getElem? (i := 1071) (by decide +kernel)⟩
theorem lw_p39 : lw_okq (⟨"RowsAloudModel", "drifts", "()V"⟩, 40) := ⟨⟨by decide +kernel, by decide +kernel⟩, List.mem_of_getElem? (i := 804) (by decide +kernel), List.mem_of_getElem? (i := 1099) (by decide +kernel), List.mem_of_getElem? (i := 1100) (by decide +kernel)⟩
theorem lw_p40 : lw_okq (⟨"RowsAloudModel", "draw", "(I)I"⟩, 40) := ⟨⟨by decide +kernel, by decide +kernel⟩, List.mem_of_getElem? (i := 804) (by decide +kernel), List.mem_of_getElem? (i := 1103) (by decide +kernel), List.mem_of_getElem? (i := 1104) (by decide +kernel)⟩
theorem lw_p41 : lw_okq (⟨"RowsAloudModel", "readOn", "(II)V"⟩, 40) := ⟨⟨by decide +kernel, by decide +kernel⟩, List.mem_of_getElem? (i := 804) (by decide +kernel), List.mem_of_getElem? (i := 1122) (by decide +kernel), List.mem_of_getElem? (i := 1123) (by decide +kernel)⟩
theorem lw_p42 : lw_okq (⟨"RowsAloudModel", "oftenThere", "(I)I"⟩, 40) := ⟨⟨by decide +kernel, by decide +kernel⟩, List.mem_of_getElem? (i := 804) (by decide +kernel), List.mem_of_getElem? (i := 1134) (by decide +kernel), List.mem_of_getElem? (i := 1135) (by decide +kernel)⟩
theorem lw_p43 : lw_okq (⟨"RowsAloudModel", "earlier", "(I)I"⟩, 40) := ⟨⟨by decide +kernel, by decide +kernel⟩, List.mem_of_getElem? (i := 804) (by decide +kernel), List.mem_of_getElem? (i := 1146) (by decide +kernel), List.mem_of_getElem? (i := 1147) (by decide +kernel)⟩
theorem lw_p44 : lw_okq (⟨"RowsAloudModel", "isPast", "(I)Z"⟩, 40) := ⟨⟨by decide +kernel, by decide +kernel⟩, List.mem_of_getElem? (i := 804) (by decide +kernel), List.mem_of_getElem? (i := 1150) (by decide +kernel), List.mem_of_getElem? (i := 1151) (by decide +kernel)⟩
theorem lw_p45 : lw_okq (⟨"RowsAloudModel", "isApart", "(I)Z"⟩, 40) := ⟨⟨by decide +kernel, by decide +kernel⟩, List.mem_of_getElem? (i := 804) (by decide +kernel), List.mem_of_getElem? (i := 1158) (by decide +kernel), List.mem_of_getElem? (i := 1159) (by decide +kernel)⟩
theorem lw_p46 : lw_okq (⟨"RowsAloudModel", "addPart", "(III)V"⟩, 40) := ⟨⟨by decide +kernel, by decide +kernel⟩, List.mem_of_getElem? (i := 804) (by decide +kernel), List.mem_of_getElem? (i := 1162) (by decide +kernel), List.mem_of_getElem? (i := 1163) (by decide +kernel)⟩
theorem lw_p47 : lw_okq (⟨"RowsAloudModel", "isItself", "()Z"⟩, 40) := ⟨⟨by decide +kernel, by decide +kernel⟩, List.mem_of_getElem? (i := 804) (by decide +kernel), List.mem_of_getElem? (i := 1170) (by decide +kernel), List.mem_of_getElem? (i := 1171) (by decide +kernel)⟩
def lw_privs_3 : List (MethodName × Nat) := [(⟨"RowsAloudModel", "say", "(I)V"⟩, 40), (⟨"RowsAloudModel", "sayAll", "()V"⟩, 40), (⟨"RowsAloudModel", "sayRuns", "(I)V"⟩, 40), (⟨"RowsAloudModel", "note", "()V"⟩, 40), (⟨"RowsAloudModel", "logs", "(I)V"⟩, 40), (⟨"RowsAloudModel", "become", "()V"⟩, 40), (⟨"RowsAloudModel", "isUnread", "()Z"⟩, 40), (⟨"RowsAloudModel", "drifts", "()V"⟩, 40), (⟨"RowsAloudModel", "draw", "(I)I"⟩, 40), (⟨"RowsAloudModel", "readOn", "(II)V"⟩, 40), (⟨"RowsAloudModel", "oftenThere", "(I)I"⟩, 40), (⟨"RowsAloudModel", "earlier", "(I)I"⟩, 40), (⟨"RowsAloudModel", "isPast", "(I)Z"⟩, 40), (⟨"RowsAloudModel", "isApart", "(I)Z"⟩, 40), (⟨"RowsAloudModel", "addPart", "(III)V"⟩, 40), (⟨"RowsAloudModel", "isItself", "()Z"⟩, 40)]
theorem lw_r3 : ∀ q ∈ lw_privs_3, lw_okq q := List.forall_mem_cons.mpr ⟨lw_p32, List.forall_mem_cons.mpr ⟨lw_p33, List.forall_mem_cons.mpr ⟨lw_p34, List.forall_mem_cons.mpr ⟨lw_p35, List.forall_mem_cons.mpr ⟨lw_p36, List.forall_mem_cons.mpr ⟨lw_p37, List.forall_mem_cons.mpr ⟨lw_p38, List.forall_mem_cons.mpr ⟨lw_p39, List.forall_mem_cons.mpr ⟨lw_p40, List.forall_mem_cons.mpr ⟨lw_p41, List.forall_mem_cons.mpr ⟨lw_p42, List.forall_mem_cons.mpr ⟨lw_p43, List.forall_mem_cons.mpr ⟨lw_p44, List.forall_mem_cons.mpr ⟨lw_p45, List.forall_mem_cons.mpr ⟨lw_p46, List.forall_mem_cons.mpr ⟨lw_p47, fun _ h => absurd h List.not_mem_nil⟩⟩⟩⟩⟩⟩⟩⟩⟩⟩⟩⟩⟩⟩⟩⟩
theorem lw_p48 : lw_okq (⟨"RowsAloudModel", "readWord", "(II)V"⟩, 40) := ⟨⟨by decide +kernel, by decide +kernel⟩, List.mem_of_getElem? (i := 804) (by decide +kernel), List.mem_of_getElem? (i := 1195) (by decide +kernel), List.mem_of_getElem? (i := 1196) (by decide +kernel)⟩
theorem lw_p49 : lw_okq (⟨"RowsAloudModel", "isSaid", "(I)Z"⟩, 40) := ⟨⟨by decide +kernel, by decide +kernel⟩, List.mem_of_getElem? (i := 804) (by decide +kernel), List.mem_of_getElem? (i := 1199) (by decide +kernel), List.mem_of_getElem? (i := 1200) (by decide +kernel)⟩
theorem lw_p50 : lw_okq (⟨"RowsAloudModel", "alikeOnes", "(II)I"⟩, 40) := ⟨⟨by decide +kernel, by decide +kernel⟩, List.mem_of_getElem? (i := 804) (by decide +kernel), List.mem_of_getElem? (i := 1208) (by decide +kernel), List.mem_of_getElem? (i := 1209) (by decide +kernel)⟩
def lw_privs_4 : List (MethodName × Nat) := [(⟨"RowsAloudModel", "readWord", "(II)V"⟩, 40), (⟨"RowsAloudModel", "isSaid", "(I)Z"⟩, 40), (⟨"RowsAloudModel", "alikeOnes", "(II)I"⟩, 40)]
theorem lw_r4 : ∀ q ∈ lw_privs_4, lw_okq q := List.forall_mem_cons.mpr ⟨lw_p48, List.forall_mem_cons.mpr ⟨lw_p49, List.forall_mem_cons.mpr ⟨lw_p50, fun _ h => absurd h List.not_mem_nil⟩⟩⟩
def lw_privs : List (MethodName × Nat) := lw_privs_1 ++ (lw_privs_2 ++ (lw_privs_3 ++ (lw_privs_4)))
def lw_tbl : List Cond := k2_sels lw_privs ++ tables_1
theorem lw_privs_ok : ∀ q ∈ lw_privs, lw_okq q := by
  show ∀ q ∈ lw_privs_1 ++ (lw_privs_2 ++ (lw_privs_3 ++ (lw_privs_4))), lw_okq q
  exact List.forall_mem_append.mpr ⟨lw_r1, List.forall_mem_append.mpr ⟨lw_r2, List.forall_mem_append.mpr ⟨lw_r3, lw_r4⟩⟩⟩
end
section
def RX0 : String := "RowsAloud$Book"
def TX0 : u_T := fun k => match k with
  | 0 => ("RowsAloud$Book", "places", "[B", true)
  | 1 => ("RowsAloud$Book", "figures", "[B", true)
  | _ => ("RowsAloud$Book", "count", "I", false)
def tyX0 : Nat → FieldType := fun k => match k with
  | 0 => .array .byte
  | 1 => .array .byte
  | _ => .int
theorem nmX0 : ∀ a, a < 3 → ∀ b, b < 3 → a ≠ b → (TX0 a).2.1 ≠ (TX0 b).2.1 := by decide +kernel
theorem tyX0_ok : ∀ k, k < 3 → parseFieldDescriptor (TX0 k).2.2.1 = some (tyX0 k) := by decide +kernel
abbrev cX0_init : ByteArray := prog_2_method_1_code
def yX0_init : MethodName := ⟨RX0, "<init>", "()V"⟩
abbrev cX0_append : ByteArray := prog_2_method_2_code
def yX0_append : MethodName := ⟨RX0, "append", "(II)Z"⟩
abbrev cX0_firstWrong : ByteArray := prog_2_method_3_code
def yX0_firstWrong : MethodName := ⟨RX0, "firstWrong", "(LRowsAloud$Figures;)I"⟩
def RX1 : String := "RowsAloud$DeskText"
def TX1 : u_T := fun k => match k with
  | 0 => ("RowsAloud$DeskText", "letters", "[C", true)
  | 1 => ("RowsAloud$DeskText", "row", "LRowsAloud$Figures;", true)
  | 2 => ("RowsAloud$DeskText", "words", "LRowsAloud$WordList;", true)
  | 3 => ("RowsAloud$DeskText", "count", "I", false)
  | 4 => ("RowsAloud$DeskText", "fault", "I", false)
  | 5 => ("RowsAloud$DeskText", "faultAt", "I", false)
  | _ => ("RowsAloud$DeskText", "open", "LRowsAloud$Figures;", false)
def tyX1 : Nat → FieldType := fun k => match k with
  | 0 => .array .char
  | 1 => .object "RowsAloud$Figures"
  | 2 => .object "RowsAloud$WordList"
  | 3 => .int
  | 4 => .int
  | 5 => .int
  | _ => .object "RowsAloud$Figures"
theorem nmX1 : ∀ a, a < 7 → ∀ b, b < 7 → a ≠ b → (TX1 a).2.1 ≠ (TX1 b).2.1 := by decide +kernel
theorem tyX1_ok : ∀ k, k < 7 → parseFieldDescriptor (TX1 k).2.2.1 = some (tyX1 k) := by decide +kernel
abbrev cX1_init : ByteArray := prog_3_method_1_code
def yX1_init : MethodName := ⟨RX1, "<init>", "()V"⟩
abbrev cX1_append : ByteArray := prog_3_method_2_code
def yX1_append : MethodName := ⟨RX1, "append", "(I)Z"⟩
abbrev cX1_parse : ByteArray := prog_3_method_3_code
def yX1_parse : MethodName := ⟨RX1, "parse", "()V"⟩
abbrev cX1_noteFault : ByteArray := prog_3_method_4_code
def yX1_noteFault : MethodName := ⟨RX1, "noteFault", "(II)V"⟩
abbrev cX1_takeLetter : ByteArray := prog_3_method_5_code
def yX1_takeLetter : MethodName := ⟨RX1, "takeLetter", "(I)I"⟩
abbrev cX1_openClause : ByteArray := prog_3_method_6_code
def yX1_openClause : MethodName := ⟨RX1, "openClause", "(I)I"⟩
abbrev cX1_goOn : ByteArray := prog_3_method_7_code
def yX1_goOn : MethodName := ⟨RX1, "goOn", "(ILRowsAloud$Figures;)I"⟩
def RX2 : String := "RowsAloud$Figures"
def TX2 : u_T := fun k => match k with
  | 0 => ("RowsAloud$Figures", "cells", "[B", false)
  | _ => ("RowsAloud$Figures", "count", "I", false)
def tyX2 : Nat → FieldType := fun k => match k with
  | 0 => .array .byte
  | _ => .int
theorem nmX2 : ∀ a, a < 2 → ∀ b, b < 2 → a ≠ b → (TX2 a).2.1 ≠ (TX2 b).2.1 := by decide +kernel
theorem tyX2_ok : ∀ k, k < 2 → parseFieldDescriptor (TX2 k).2.2.1 = some (tyX2 k) := by decide +kernel
abbrev cX2_init : ByteArray := prog_4_method_1_code
def yX2_init : MethodName := ⟨RX2, "<init>", "(I)V"⟩
abbrev cX2_startOver : ByteArray := prog_4_method_2_code
def yX2_startOver : MethodName := ⟨RX2, "startOver", "(I)V"⟩
abbrev cX2_get : ByteArray := prog_4_method_3_code
def yX2_get : MethodName := ⟨RX2, "get", "(I)I"⟩
abbrev cX2_set : ByteArray := prog_4_method_4_code
def yX2_set : MethodName := ⟨RX2, "set", "(II)V"⟩
abbrev cX2_add : ByteArray := prog_4_method_5_code
def yX2_add : MethodName := ⟨RX2, "add", "(I)Z"⟩
abbrev cX2_addAll : ByteArray := prog_4_method_6_code
def yX2_addAll : MethodName := ⟨RX2, "addAll", "(LRowsAloud$Figures;)V"⟩
abbrev cX2_cut : ByteArray := prog_4_method_7_code
def yX2_cut : MethodName := ⟨RX2, "cut", "(I)V"⟩
abbrev cX2_reverse : ByteArray := prog_4_method_8_code
def yX2_reverse : MethodName := ⟨RX2, "reverse", "()V"⟩
abbrev cX2_copyFrom : ByteArray := prog_4_method_9_code
def yX2_copyFrom : MethodName := ⟨RX2, "copyFrom", "(LRowsAloud$Figures;)V"⟩
abbrev cX2_same : ByteArray := prog_4_method_10_code
def yX2_same : MethodName := ⟨RX2, "same", "(LRowsAloud$Figures;)Z"⟩
abbrev cX2_standsAt : ByteArray := prog_4_method_11_code
def yX2_standsAt : MethodName := ⟨RX2, "standsAt", "(ILRowsAloud$Figures;)Z"⟩
abbrev cX2_placeOf : ByteArray := prog_4_method_12_code
def yX2_placeOf : MethodName := ⟨RX2, "placeOf", "(LRowsAloud$Figures;)I"⟩
abbrev cX2_countOf : ByteArray := prog_4_method_13_code
def yX2_countOf : MethodName := ⟨RX2, "countOf", "(I)I"⟩
abbrev cX2_has : ByteArray := prog_4_method_14_code
def yX2_has : MethodName := ⟨RX2, "has", "(I)Z"⟩
abbrev cX2_unlike : ByteArray := prog_4_method_15_code
def yX2_unlike : MethodName := ⟨RX2, "unlike", "()I"⟩
abbrev cX2_runs : ByteArray := prog_4_method_16_code
def yX2_runs : MethodName := ⟨RX2, "runs", "()I"⟩
abbrev cX2_runFrom : ByteArray := prog_4_method_17_code
def yX2_runFrom : MethodName := ⟨RX2, "runFrom", "(I)I"⟩
abbrev cX2_longestRun : ByteArray := prog_4_method_18_code
def yX2_longestRun : MethodName := ⟨RX2, "longestRun", "()I"⟩
abbrev cX2_longestRunStart : ByteArray := prog_4_method_19_code
def yX2_longestRunStart : MethodName := ⟨RX2, "longestRunStart", "()I"⟩
def RX3 : String := "RowsAloud$Heard"
def TX3 : u_T := fun k => match k with
  | 0 => ("RowsAloud$Heard", "readWords", "[I", true)
  | 1 => ("RowsAloud$Heard", "saidWords", "[I", true)
  | 2 => ("RowsAloud$Heard", "wasSaid", "[Z", true)
  | 3 => ("RowsAloud$Heard", "readings", "[LRowsAloud$Figures;", true)
  | _ => ("RowsAloud$Heard", "count", "I", false)
def tyX3 : Nat → FieldType := fun k => match k with
  | 0 => .array .int
  | 1 => .array .int
  | 2 => .array .boolean
  | 3 => .array (.object "RowsAloud$Figures")
  | _ => .int
theorem nmX3 : ∀ a, a < 5 → ∀ b, b < 5 → a ≠ b → (TX3 a).2.1 ≠ (TX3 b).2.1 := by decide +kernel
theorem tyX3_ok : ∀ k, k < 5 → parseFieldDescriptor (TX3 k).2.2.1 = some (tyX3 k) := by decide +kernel
abbrev cX3_init : ByteArray := prog_5_method_1_code
def yX3_init : MethodName := ⟨RX3, "<init>", "()V"⟩
abbrev cX3_append : ByteArray := prog_5_method_2_code
def yX3_append : MethodName := ⟨RX3, "append", "(IIZ)Z"⟩
abbrev cX3_kindsThatFit : ByteArray := prog_5_method_3_code
def yX3_kindsThatFit : MethodName := ⟨RX3, "kindsThatFit", "(LRowsAloud$WordList;)I"⟩
abbrev cX3_fits : ByteArray := prog_5_method_4_code
def yX3_fits : MethodName := ⟨RX3, "fits", "(ILRowsAloud$WordList;)Z"⟩
abbrev cX3_bestToAsk : ByteArray := prog_5_method_5_code
def yX3_bestToAsk : MethodName := ⟨RX3, "bestToAsk", "(LRowsAloud$WordList;I)I"⟩
abbrev cX3_greatestPart : ByteArray := prog_5_method_6_code
def yX3_greatestPart : MethodName := ⟨RX3, "greatestPart", "(LRowsAloud$Figures;I)I"⟩
abbrev cX3_howManyLike : ByteArray := prog_5_method_7_code
def yX3_howManyLike : MethodName := ⟨RX3, "howManyLike", "(II)I"⟩
def RX4 : String := "RowsAloud$Images"
def TX4 : u_T := fun k => match k with
  | 0 => ("RowsAloud$Images", "states", "[LRowsAloud$State;", true)
  | 1 => ("RowsAloud$Images", "seeds", "[I", true)
  | _ => ("RowsAloud$Images", "kept", "[Z", true)
def tyX4 : Nat → FieldType := fun k => match k with
  | 0 => .array (.object "RowsAloud$State")
  | 1 => .array .int
  | _ => .array .boolean
theorem nmX4 : ∀ a, a < 3 → ∀ b, b < 3 → a ≠ b → (TX4 a).2.1 ≠ (TX4 b).2.1 := by decide +kernel
theorem tyX4_ok : ∀ k, k < 3 → parseFieldDescriptor (TX4 k).2.2.1 = some (tyX4 k) := by decide +kernel
abbrev cX4_init : ByteArray := prog_6_method_1_code
def yX4_init : MethodName := ⟨RX4, "<init>", "()V"⟩
abbrev cX4_clear : ByteArray := prog_6_method_2_code
def yX4_clear : MethodName := ⟨RX4, "clear", "()V"⟩
abbrev cX4_has : ByteArray := prog_6_method_3_code
def yX4_has : MethodName := ⟨RX4, "has", "(I)Z"⟩
abbrev cX4_isKept : ByteArray := prog_6_method_4_code
def yX4_isKept : MethodName := ⟨RX4, "isKept", "(I)Z"⟩
abbrev cX4_take : ByteArray := prog_6_method_5_code
def yX4_take : MethodName := ⟨RX4, "take", "(ILRowsAloud$State;I)V"⟩
abbrev cX4_give : ByteArray := prog_6_method_6_code
def yX4_give : MethodName := ⟨RX4, "give", "(ILRowsAloud$State;)V"⟩
abbrev cX4_seedOf : ByteArray := prog_6_method_7_code
def yX4_seedOf : MethodName := ⟨RX4, "seedOf", "(I)I"⟩
def RX5 : String := "RowsAloud$Parting"
def TX5 : u_T := fun k => match k with
  | 0 => ("RowsAloud$Parting", "places", "[I", true)
  | 1 => ("RowsAloud$Parting", "standing", "[I", true)
  | _ => ("RowsAloud$Parting", "count", "I", false)
def tyX5 : Nat → FieldType := fun k => match k with
  | 0 => .array .int
  | 1 => .array .int
  | _ => .int
theorem nmX5 : ∀ a, a < 3 → ∀ b, b < 3 → a ≠ b → (TX5 a).2.1 ≠ (TX5 b).2.1 := by decide +kernel
theorem tyX5_ok : ∀ k, k < 3 → parseFieldDescriptor (TX5 k).2.2.1 = some (tyX5 k) := by decide +kernel
abbrev cX5_init : ByteArray := prog_7_method_1_code
def yX5_init : MethodName := ⟨RX5, "<init>", "()V"⟩
abbrev cX5_find : ByteArray := prog_7_method_2_code
def yX5_find : MethodName := ⟨RX5, "find", "(LRowsAloud$Figures;LRowsAloud$Trials;)V"⟩
abbrev cX5_follow : ByteArray := prog_7_method_3_code
def yX5_follow : MethodName := ⟨RX5, "follow", "(LRowsAloud$Figures;)V"⟩
abbrev cX5_firstPlace : ByteArray := prog_7_method_4_code
def yX5_firstPlace : MethodName := ⟨RX5, "firstPlace", "()I"⟩
abbrev cX5_longestPart : ByteArray := prog_7_method_5_code
def yX5_longestPart : MethodName := ⟨RX5, "longestPart", "(I)I"⟩
def RX6 : String := "RowsAloud$Past"
def TX6 : u_T := fun k => match k with
  | 0 => ("RowsAloud$Past", "states", "[LRowsAloud$State;", true)
  | 1 => ("RowsAloud$Past", "next", "I", false)
  | _ => ("RowsAloud$Past", "count", "I", false)
def tyX6 : Nat → FieldType := fun k => match k with
  | 0 => .array (.object "RowsAloud$State")
  | 1 => .int
  | _ => .int
theorem nmX6 : ∀ a, a < 3 → ∀ b, b < 3 → a ≠ b → (TX6 a).2.1 ≠ (TX6 b).2.1 := by decide +kernel
theorem tyX6_ok : ∀ k, k < 3 → parseFieldDescriptor (TX6 k).2.2.1 = some (tyX6 k) := by decide +kernel
abbrev cX6_init : ByteArray := prog_8_method_1_code
def yX6_init : MethodName := ⟨RX6, "<init>", "()V"⟩
abbrev cX6_clear : ByteArray := prog_8_method_2_code
def yX6_clear : MethodName := ⟨RX6, "clear", "()V"⟩
abbrev cX6_remember : ByteArray := prog_8_method_3_code
def yX6_remember : MethodName := ⟨RX6, "remember", "(LRowsAloud$State;)V"⟩
abbrev cX6_restore : ByteArray := prog_8_method_4_code
def yX6_restore : MethodName := ⟨RX6, "restore", "(ILRowsAloud$State;)V"⟩
def RX7 : String := "RowsAloud$Readers"
def TX7 : u_T := fun k => match k with
  | _ => ("", "", "", false)
def tyX7 : Nat → FieldType := fun k => match k with
  | _ => .int
theorem nmX7 : ∀ a, a < 0 → ∀ b, b < 0 → a ≠ b → (TX7 a).2.1 ≠ (TX7 b).2.1 := by decide +kernel
theorem tyX7_ok : ∀ k, k < 0 → parseFieldDescriptor (TX7 k).2.2.1 = some (tyX7 k) := by decide +kernel
abbrev cX7_say : ByteArray := prog_9_method_2_code
def yX7_say : MethodName := ⟨RX7, "say", "(ILRowsAloud$Figures;LRowsAloud$Figures;)V"⟩
abbrev cX7_sayCounts : ByteArray := prog_9_method_3_code
def yX7_sayCounts : MethodName := ⟨RX7, "sayCounts", "(LRowsAloud$Figures;LRowsAloud$Figures;)V"⟩
abbrev cX7_sayRuns : ByteArray := prog_9_method_4_code
def yX7_sayRuns : MethodName := ⟨RX7, "sayRuns", "(ILRowsAloud$Figures;LRowsAloud$Figures;)V"⟩
abbrev cX7_sayMany : ByteArray := prog_9_method_5_code
def yX7_sayMany : MethodName := ⟨RX7, "sayMany", "(IIILRowsAloud$Figures;)V"⟩
abbrev cX7_sizeUnsaid : ByteArray := prog_9_method_6_code
def yX7_sizeUnsaid : MethodName := ⟨RX7, "sizeUnsaid", "(LRowsAloud$Figures;)I"⟩
abbrev cX7_unsay : ByteArray := prog_9_method_7_code
def yX7_unsay : MethodName := ⟨RX7, "unsay", "(LRowsAloud$Figures;LRowsAloud$Figures;)V"⟩
def RX8 : String := "RowsAloud$State"
def TX8 : u_T := fun k => match k with
  | 0 => ("RowsAloud$State", "row", "LRowsAloud$Figures;", true)
  | 1 => ("RowsAloud$State", "logKinds", "[B", true)
  | 2 => ("RowsAloud$State", "logSizes", "[B", true)
  | 3 => ("RowsAloud$State", "logCount", "I", false)
  | _ => ("RowsAloud$State", "readings", "I", false)
def tyX8 : Nat → FieldType := fun k => match k with
  | 0 => .object "RowsAloud$Figures"
  | 1 => .array .byte
  | 2 => .array .byte
  | 3 => .int
  | _ => .int
theorem nmX8 : ∀ a, a < 5 → ∀ b, b < 5 → a ≠ b → (TX8 a).2.1 ≠ (TX8 b).2.1 := by decide +kernel
theorem tyX8_ok : ∀ k, k < 5 → parseFieldDescriptor (TX8 k).2.2.1 = some (tyX8 k) := by decide +kernel
abbrev cX8_init : ByteArray := prog_10_method_1_code
def yX8_init : MethodName := ⟨RX8, "<init>", "()V"⟩
abbrev cX8_begin : ByteArray := prog_10_method_2_code
def yX8_begin : MethodName := ⟨RX8, "begin", "(LRowsAloud$Figures;)V"⟩
abbrev cX8_copyFrom : ByteArray := prog_10_method_3_code
def yX8_copyFrom : MethodName := ⟨RX8, "copyFrom", "(LRowsAloud$State;)V"⟩
abbrev cX8_becomeReading : ByteArray := prog_10_method_4_code
def yX8_becomeReading : MethodName := ⟨RX8, "becomeReading", "(ILRowsAloud$Figures;)V"⟩
abbrev cX8_logReading : ByteArray := prog_10_method_5_code
def yX8_logReading : MethodName := ⟨RX8, "logReading", "(I)V"⟩
abbrev cX8_loggedKind : ByteArray := prog_10_method_6_code
def yX8_loggedKind : MethodName := ⟨RX8, "loggedKind", "(I)I"⟩
abbrev cX8_loggedSize : ByteArray := prog_10_method_7_code
def yX8_loggedSize : MethodName := ⟨RX8, "loggedSize", "(I)I"⟩
def RX9 : String := "RowsAloud$Trials"
def TX9 : u_T := fun k => match k with
  | 0 => ("RowsAloud$Trials", "row", "LRowsAloud$Figures;", false)
  | 1 => ("RowsAloud$Trials", "other", "LRowsAloud$Figures;", false)
  | 2 => ("RowsAloud$Trials", "rounds", "[LRowsAloud$Figures;", true)
  | _ => ("RowsAloud$Trials", "likeWhich", "I", false)
def tyX9 : Nat → FieldType := fun k => match k with
  | 0 => .object "RowsAloud$Figures"
  | 1 => .object "RowsAloud$Figures"
  | 2 => .array (.object "RowsAloud$Figures")
  | _ => .int
theorem nmX9 : ∀ a, a < 4 → ∀ b, b < 4 → a ≠ b → (TX9 a).2.1 ≠ (TX9 b).2.1 := by decide +kernel
theorem tyX9_ok : ∀ k, k < 4 → parseFieldDescriptor (TX9 k).2.2.1 = some (tyX9 k) := by decide +kernel
abbrev cX9_init : ByteArray := prog_11_method_1_code
def yX9_init : MethodName := ⟨RX9, "<init>", "()V"⟩
abbrev cX9_begin : ByteArray := prog_11_method_2_code
def yX9_begin : MethodName := ⟨RX9, "begin", "(LRowsAloud$Figures;)V"⟩
abbrev cX9_readOn : ByteArray := prog_11_method_3_code
def yX9_readOn : MethodName := ⟨RX9, "readOn", "(IILRowsAloud$Figures;)LRowsAloud$Figures;"⟩
abbrev cX9_step : ByteArray := prog_11_method_4_code
def yX9_step : MethodName := ⟨RX9, "step", "(I)V"⟩
abbrev cX9_swap : ByteArray := prog_11_method_5_code
def yX9_swap : MethodName := ⟨RX9, "swap", "()V"⟩
abbrev cX9_firstWith : ByteArray := prog_11_method_6_code
def yX9_firstWith : MethodName := ⟨RX9, "firstWith", "(IILRowsAloud$Figures;)I"⟩
abbrev cX9_comesAgain : ByteArray := prog_11_method_7_code
def yX9_comesAgain : MethodName := ⟨RX9, "comesAgain", "(LRowsAloud$Figures;)I"⟩
abbrev cX9_firstLike : ByteArray := prog_11_method_8_code
def yX9_firstLike : MethodName := ⟨RX9, "firstLike", "(I)I"⟩
abbrev cX9_goOld : ByteArray := prog_11_method_9_code
def yX9_goOld : MethodName := ⟨RX9, "goOld", "(LRowsAloud$Figures;)I"⟩
def RX10 : String := "RowsAloud$WordList"
def TX10 : u_T := fun k => match k with
  | 0 => ("RowsAloud$WordList", "list", "[LRowsAloud$Figures;", true)
  | 1 => ("RowsAloud$WordList", "ways", "[I", true)
  | 2 => ("RowsAloud$WordList", "costs", "[I", true)
  | _ => ("RowsAloud$WordList", "count", "I", false)
def tyX10 : Nat → FieldType := fun k => match k with
  | 0 => .array (.object "RowsAloud$Figures")
  | 1 => .array .int
  | 2 => .array .int
  | _ => .int
theorem nmX10 : ∀ a, a < 4 → ∀ b, b < 4 → a ≠ b → (TX10 a).2.1 ≠ (TX10 b).2.1 := by decide +kernel
theorem tyX10_ok : ∀ k, k < 4 → parseFieldDescriptor (TX10 k).2.2.1 = some (tyX10 k) := by decide +kernel
abbrev cX10_init : ByteArray := prog_12_method_1_code
def yX10_init : MethodName := ⟨RX10, "<init>", "()V"⟩
abbrev cX10_get : ByteArray := prog_12_method_2_code
def yX10_get : MethodName := ⟨RX10, "get", "(I)LRowsAloud$Figures;"⟩
abbrev cX10_open : ByteArray := prog_12_method_3_code
def yX10_open : MethodName := ⟨RX10, "open", "()LRowsAloud$Figures;"⟩
abbrev cX10_copyFrom : ByteArray := prog_12_method_4_code
def yX10_copyFrom : MethodName := ⟨RX10, "copyFrom", "(LRowsAloud$WordList;)V"⟩
abbrev cX10_waysToTell : ByteArray := prog_12_method_5_code
def yX10_waysToTell : MethodName := ⟨RX10, "waysToTell", "(LRowsAloud$Figures;)I"⟩
abbrev cX10_waysToEnd : ByteArray := prog_12_method_6_code
def yX10_waysToEnd : MethodName := ⟨RX10, "waysToEnd", "(LRowsAloud$Figures;I)I"⟩
abbrev cX10_fewestChanges : ByteArray := prog_12_method_7_code
def yX10_fewestChanges : MethodName := ⟨RX10, "fewestChanges", "(LRowsAloud$Figures;LRowsAloud$Figures;)I"⟩
abbrev cX10_takeIn : ByteArray := prog_12_method_8_code
def yX10_takeIn : MethodName := ⟨RX10, "takeIn", "(ILRowsAloud$Figures;I)V"⟩
def RX11 : String := "RowsAloud"
def TX11 : u_T := fun k => match k with
  | 0 => ("RowsAloud", "text", "LRowsAloud$DeskText;", true)
  | 1 => ("RowsAloud", "words", "LRowsAloud$WordList;", true)
  | 2 => ("RowsAloud", "now", "LRowsAloud$State;", true)
  | 3 => ("RowsAloud", "past", "LRowsAloud$Past;", true)
  | 4 => ("RowsAloud", "images", "LRowsAloud$Images;", true)
  | 5 => ("RowsAloud", "heard", "LRowsAloud$Heard;", true)
  | 6 => ("RowsAloud", "book", "LRowsAloud$Book;", true)
  | 7 => ("RowsAloud", "trials", "LRowsAloud$Trials;", true)
  | 8 => ("RowsAloud", "parting", "LRowsAloud$Parting;", true)
  | 9 => ("RowsAloud", "spoken", "LRowsAloud$Figures;", true)
  | 10 => ("RowsAloud", "hasDesk", "Z", false)
  | _ => ("RowsAloud", "seedNow", "I", false)
def tyX11 : Nat → FieldType := fun k => match k with
  | 0 => .object "RowsAloud$DeskText"
  | 1 => .object "RowsAloud$WordList"
  | 2 => .object "RowsAloud$State"
  | 3 => .object "RowsAloud$Past"
  | 4 => .object "RowsAloud$Images"
  | 5 => .object "RowsAloud$Heard"
  | 6 => .object "RowsAloud$Book"
  | 7 => .object "RowsAloud$Trials"
  | 8 => .object "RowsAloud$Parting"
  | 9 => .object "RowsAloud$Figures"
  | 10 => .boolean
  | _ => .int
theorem nmX11 : ∀ a, a < 12 → ∀ b, b < 12 → a ≠ b → (TX11 a).2.1 ≠ (TX11 b).2.1 := by decide +kernel
theorem tyX11_ok : ∀ k, k < 12 → parseFieldDescriptor (TX11 k).2.2.1 = some (tyX11 k) := by decide +kernel
abbrev cX11_init : ByteArray := prog_1_method_1_code
def yX11_init : MethodName := ⟨RX11, "<init>", "()V"⟩
abbrev cX11_feed : ByteArray := prog_1_method_2_code
def yX11_feed : MethodName := ⟨RX11, "feed", "(I)I"⟩
abbrev cX11_desk : ByteArray := prog_1_method_3_code
def yX11_desk : MethodName := ⟨RX11, "desk", "()I"⟩
abbrev cX11_layDesk : ByteArray := prog_1_method_4_code
def yX11_layDesk : MethodName := ⟨RX11, "layDesk", "()V"⟩
abbrev cX11_fault : ByteArray := prog_1_method_5_code
def yX11_fault : MethodName := ⟨RX11, "fault", "()I"⟩
abbrev cX11_told : ByteArray := prog_1_method_6_code
def yX11_told : MethodName := ⟨RX11, "told", "(I)I"⟩
abbrev cX11_at : ByteArray := prog_1_method_7_code
def yX11_at : MethodName := ⟨RX11, "at", "(I)I"⟩
abbrev cX11_spelt : ByteArray := prog_1_method_8_code
def yX11_spelt : MethodName := ⟨RX11, "spelt", "(II)I"⟩
abbrev cX11_logged : ByteArray := prog_1_method_9_code
def yX11_logged : MethodName := ⟨RX11, "logged", "(II)I"⟩
abbrev cX11_read : ByteArray := prog_1_method_10_code
def yX11_read : MethodName := ⟨RX11, "read", "(I)I"⟩
abbrev cX11_unread : ByteArray := prog_1_method_11_code
def yX11_unread : MethodName := ⟨RX11, "unread", "()I"⟩
abbrev cX11_put : ByteArray := prog_1_method_12_code
def yX11_put : MethodName := ⟨RX11, "put", "(I)I"⟩
abbrev cX11_word : ByteArray := prog_1_method_13_code
def yX11_word : MethodName := ⟨RX11, "word", "(I)I"⟩
abbrev cX11_change : ByteArray := prog_1_method_14_code
def yX11_change : MethodName := ⟨RX11, "change", "(II)I"⟩
abbrev cX11_drop : ByteArray := prog_1_method_15_code
def yX11_drop : MethodName := ⟨RX11, "drop", "(I)I"⟩
abbrev cX11_turn : ByteArray := prog_1_method_16_code
def yX11_turn : MethodName := ⟨RX11, "turn", "()I"⟩
abbrev cX11_drift : ByteArray := prog_1_method_17_code
def yX11_drift : MethodName := ⟨RX11, "drift", "(I)I"⟩
abbrev cX11_driftOnce : ByteArray := prog_1_method_18_code
def yX11_driftOnce : MethodName := ⟨RX11, "driftOnce", "()V"⟩
abbrev cX11_draw : ByteArray := prog_1_method_19_code
def yX11_draw : MethodName := ⟨RX11, "draw", "(I)I"⟩
abbrev cX11_undo : ByteArray := prog_1_method_20_code
def yX11_undo : MethodName := ⟨RX11, "undo", "(I)I"⟩
abbrev cX11_length : ByteArray := prog_1_method_21_code
def yX11_length : MethodName := ⟨RX11, "length", "(II)I"⟩
abbrev cX11_figure : ByteArray := prog_1_method_22_code
def yX11_figure : MethodName := ⟨RX11, "figure", "(III)I"⟩
abbrev cX11_often : ByteArray := prog_1_method_23_code
def yX11_often : MethodName := ⟨RX11, "often", "(III)I"⟩
abbrev cX11_first : ByteArray := prog_1_method_24_code
def yX11_first : MethodName := ⟨RX11, "first", "(II)I"⟩
abbrev cX11_again : ByteArray := prog_1_method_25_code
def yX11_again : MethodName := ⟨RX11, "again", "(I)I"⟩
abbrev cX11_apart : ByteArray := prog_1_method_26_code
def yX11_apart : MethodName := ⟨RX11, "apart", "(I)I"⟩
abbrev cX11_back : ByteArray := prog_1_method_27_code
def yX11_back : MethodName := ⟨RX11, "back", "(I)I"⟩
abbrev cX11_in : ByteArray := prog_1_method_28_code
def yX11_in : MethodName := ⟨RX11, "in", "(I)I"⟩
abbrev cX11_changes : ByteArray := prog_1_method_29_code
def yX11_changes : MethodName := ⟨RX11, "changes", "(I)I"⟩
abbrev cX11_noSlip : ByteArray := prog_1_method_30_code
def yX11_noSlip : MethodName := ⟨RX11, "noSlip", "(II)I"⟩
abbrev cX11_hear : ByteArray := prog_1_method_31_code
def yX11_hear : MethodName := ⟨RX11, "hear", "(IIZ)I"⟩
abbrev cX11_couldBe : ByteArray := prog_1_method_32_code
def yX11_couldBe : MethodName := ⟨RX11, "couldBe", "()I"⟩
abbrev cX11_ask : ByteArray := prog_1_method_33_code
def yX11_ask : MethodName := ⟨RX11, "ask", "()I"⟩
abbrev cX11_write : ByteArray := prog_1_method_34_code
def yX11_write : MethodName := ⟨RX11, "write", "(II)I"⟩
abbrev cX11_judge : ByteArray := prog_1_method_35_code
def yX11_judge : MethodName := ⟨RX11, "judge", "()I"⟩
abbrev cX11_tear : ByteArray := prog_1_method_36_code
def yX11_tear : MethodName := ⟨RX11, "tear", "()I"⟩
abbrev cX11_seed : ByteArray := prog_1_method_37_code
def yX11_seed : MethodName := ⟨RX11, "seed", "(I)I"⟩
abbrev cX11_keep : ByteArray := prog_1_method_38_code
def yX11_keep : MethodName := ⟨RX11, "keep", "(I)I"⟩
abbrev cX11_goBack : ByteArray := prog_1_method_39_code
def yX11_goBack : MethodName := ⟨RX11, "goBack", "(I)I"⟩
abbrev cX11_isKind : ByteArray := prog_1_method_40_code
def yX11_isKind : MethodName := ⟨RX11, "isKind", "(I)Z"⟩
abbrev cX11_isFigure : ByteArray := prog_1_method_41_code
def yX11_isFigure : MethodName := ⟨RX11, "isFigure", "(I)Z"⟩
abbrev cX11_isPlace : ByteArray := prog_1_method_42_code
def yX11_isPlace : MethodName := ⟨RX11, "isPlace", "(I)Z"⟩
abbrev cX11_isTried : ByteArray := prog_1_method_43_code
def yX11_isTried : MethodName := ⟨RX11, "isTried", "(II)Z"⟩
def RX12 : String := "RowsAloudModel"
def TX12 : u_T := fun k => match k with
  | 0 => ("RowsAloudModel", "letters", "I", false)
  | 1 => ("RowsAloudModel", "text", "[I", true)
  | 2 => ("RowsAloudModel", "position", "I", false)
  | 3 => ("RowsAloudModel", "faultNow", "I", false)
  | 4 => ("RowsAloudModel", "faultOf", "I", false)
  | 5 => ("RowsAloudModel", "readSize", "I", false)
  | 6 => ("RowsAloudModel", "readWords", "I", false)
  | 7 => ("RowsAloudModel", "readRow", "[I", true)
  | 8 => ("RowsAloudModel", "readWordSize", "[I", true)
  | 9 => ("RowsAloudModel", "readWord", "[I", true)
  | 10 => ("RowsAloudModel", "isDesk", "I", false)
  | 11 => ("RowsAloudModel", "words", "I", false)
  | 12 => ("RowsAloudModel", "wordSize", "[I", true)
  | 13 => ("RowsAloudModel", "wordOf", "[I", true)
  | 14 => ("RowsAloudModel", "now", "[I", true)
  | 15 => ("RowsAloudModel", "deed", "[I", true)
  | 16 => ("RowsAloudModel", "deeds", "I", false)
  | 17 => ("RowsAloudModel", "image", "[I", true)
  | 18 => ("RowsAloudModel", "imageSeed", "[I", true)
  | 19 => ("RowsAloudModel", "isKept", "[Z", true)
  | 20 => ("RowsAloudModel", "seedNow", "I", false)
  | 21 => ("RowsAloudModel", "hearings", "I", false)
  | 22 => ("RowsAloudModel", "heardWord", "[I", true)
  | 23 => ("RowsAloudModel", "heardSaid", "[I", true)
  | 24 => ("RowsAloudModel", "heardIs", "[Z", true)
  | 25 => ("RowsAloudModel", "entries", "I", false)
  | 26 => ("RowsAloudModel", "entryPlace", "[I", true)
  | 27 => ("RowsAloudModel", "entryFigure", "[I", true)
  | 28 => ("RowsAloudModel", "row", "[I", true)
  | 29 => ("RowsAloudModel", "size", "I", false)
  | 30 => ("RowsAloudModel", "said", "[I", true)
  | 31 => ("RowsAloudModel", "saidSize", "I", false)
  | 32 => ("RowsAloudModel", "part", "[I", true)
  | 33 => ("RowsAloudModel", "partSize", "I", false)
  | 34 => ("RowsAloudModel", "past", "[I", true)
  | 35 => ("RowsAloudModel", "pastSize", "[I", true)
  | 36 => ("RowsAloudModel", "ways", "[I", true)
  | 37 => ("RowsAloudModel", "near", "[I", true)
  | 38 => ("RowsAloudModel", "spoken", "[I", true)
  | _ => ("RowsAloudModel", "spokenSize", "[I", true)
def tyX12 : Nat → FieldType := fun k => match k with
  | 0 => .int
  | 1 => .array .int
  | 2 => .int
  | 3 => .int
  | 4 => .int
  | 5 => .int
  | 6 => .int
  | 7 => .array .int
  | 8 => .array .int
  | 9 => .array .int
  | 10 => .int
  | 11 => .int
  | 12 => .array .int
  | 13 => .array .int
  | 14 => .array .int
  | 15 => .array .int
  | 16 => .int
  | 17 => .array .int
  | 18 => .array .int
  | 19 => .array .boolean
  | 20 => .int
  | 21 => .int
  | 22 => .array .int
  | 23 => .array .int
  | 24 => .array .boolean
  | 25 => .int
  | 26 => .array .int
  | 27 => .array .int
  | 28 => .array .int
  | 29 => .int
  | 30 => .array .int
  | 31 => .int
  | 32 => .array .int
  | 33 => .int
  | 34 => .array .int
  | 35 => .array .int
  | 36 => .array .int
  | 37 => .array .int
  | 38 => .array .int
  | _ => .array .int
theorem nmX12 : ∀ a, a < 40 → ∀ b, b < 40 → a ≠ b → (TX12 a).2.1 ≠ (TX12 b).2.1 := by decide +kernel
theorem tyX12_ok : ∀ k, k < 40 → parseFieldDescriptor (TX12 k).2.2.1 = some (tyX12 k) := by decide +kernel
abbrev cX12_init : ByteArray := prog_14_method_1_code
def yX12_init : MethodName := ⟨RX12, "<init>", "()V"⟩
abbrev cX12_is : ByteArray := prog_14_method_2_code
def yX12_is : MethodName := ⟨RX12, "is", "(III)Z"⟩
abbrev cX12_has : ByteArray := prog_14_method_3_code
def yX12_has : MethodName := ⟨RX12, "has", "(II)Z"⟩
abbrev cX12_bring : ByteArray := prog_14_method_4_code
def yX12_bring : MethodName := ⟨RX12, "bring", "([II[III)V"⟩
abbrev cX12_feed : ByteArray := prog_14_method_5_code
def yX12_feed : MethodName := ⟨RX12, "feed", "(I)I"⟩
abbrev cX12_peek : ByteArray := prog_14_method_6_code
def yX12_peek : MethodName := ⟨RX12, "peek", "()I"⟩
abbrev cX12_isBad : ByteArray := prog_14_method_7_code
def yX12_isBad : MethodName := ⟨RX12, "isBad", "(I)Z"⟩
abbrev cX12_isFigures : ByteArray := prog_14_method_8_code
def yX12_isFigures : MethodName := ⟨RX12, "isFigures", "([III)Z"⟩
abbrev cX12_isClause : ByteArray := prog_14_method_9_code
def yX12_isClause : MethodName := ⟨RX12, "isClause", "()Z"⟩
abbrev cX12_isRead : ByteArray := prog_14_method_10_code
def yX12_isRead : MethodName := ⟨RX12, "isRead", "()Z"⟩
abbrev cX12_desk : ByteArray := prog_14_method_11_code
def yX12_desk : MethodName := ⟨RX12, "desk", "()I"⟩
abbrev cX12_fault : ByteArray := prog_14_method_12_code
def yX12_fault : MethodName := ⟨RX12, "fault", "()I"⟩
abbrev cX12_runs : ByteArray := prog_14_method_13_code
def yX12_runs : MethodName := ⟨RX12, "runs", "()I"⟩
abbrev cX12_longest : ByteArray := prog_14_method_14_code
def yX12_longest : MethodName := ⟨RX12, "longest", "(I)I"⟩
abbrev cX12_unlikeOnes : ByteArray := prog_14_method_15_code
def yX12_unlikeOnes : MethodName := ⟨RX12, "unlikeOnes", "()I"⟩
abbrev cX12_stands : ByteArray := prog_14_method_16_code
def yX12_stands : MethodName := ⟨RX12, "stands", "(II)Z"⟩
abbrev cX12_waysToTell : ByteArray := prog_14_method_17_code
def yX12_waysToTell : MethodName := ⟨RX12, "waysToTell", "()I"⟩
abbrev cX12_told : ByteArray := prog_14_method_18_code
def yX12_told : MethodName := ⟨RX12, "told", "(I)I"⟩
abbrev cX12_figureAt : ByteArray := prog_14_method_19_code
def yX12_figureAt : MethodName := ⟨RX12, "figureAt", "(I)I"⟩
abbrev cX12_at : ByteArray := prog_14_method_20_code
def yX12_at : MethodName := ⟨RX12, "at", "(I)I"⟩
abbrev cX12_isWord : ByteArray := prog_14_method_21_code
def yX12_isWord : MethodName := ⟨RX12, "isWord", "(I)Z"⟩
abbrev cX12_spelt : ByteArray := prog_14_method_22_code
def yX12_spelt : MethodName := ⟨RX12, "spelt", "(II)I"⟩
abbrev cX12_logged : ByteArray := prog_14_method_23_code
def yX12_logged : MethodName := ⟨RX12, "logged", "(II)I"⟩
abbrev cX12_say : ByteArray := prog_14_method_24_code
def yX12_say : MethodName := ⟨RX12, "say", "(I)V"⟩
abbrev cX12_sayRun : ByteArray := prog_14_method_25_code
def yX12_sayRun : MethodName := ⟨RX12, "sayRun", "(III)V"⟩
abbrev cX12_sayRuns : ByteArray := prog_14_method_26_code
def yX12_sayRuns : MethodName := ⟨RX12, "sayRuns", "(I)V"⟩
abbrev cX12_sayBackward : ByteArray := prog_14_method_27_code
def yX12_sayBackward : MethodName := ⟨RX12, "sayBackward", "()V"⟩
abbrev cX12_sayAll : ByteArray := prog_14_method_28_code
def yX12_sayAll : MethodName := ⟨RX12, "sayAll", "()V"⟩
abbrev cX12_reads : ByteArray := prog_14_method_29_code
def yX12_reads : MethodName := ⟨RX12, "reads", "(I)V"⟩
abbrev cX12_begin : ByteArray := prog_14_method_30_code
def yX12_begin : MethodName := ⟨RX12, "begin", "()V"⟩
abbrev cX12_note : ByteArray := prog_14_method_31_code
def yX12_note : MethodName := ⟨RX12, "note", "()V"⟩
abbrev cX12_become : ByteArray := prog_14_method_32_code
def yX12_become : MethodName := ⟨RX12, "become", "()V"⟩
abbrev cX12_logs : ByteArray := prog_14_method_33_code
def yX12_logs : MethodName := ⟨RX12, "logs", "(I)V"⟩
abbrev cX12_read : ByteArray := prog_14_method_34_code
def yX12_read : MethodName := ⟨RX12, "read", "(I)I"⟩
abbrev cX12_isUnread : ByteArray := prog_14_method_35_code
def yX12_isUnread : MethodName := ⟨RX12, "isUnread", "()Z"⟩
abbrev cX12_unread : ByteArray := prog_14_method_36_code
def yX12_unread : MethodName := ⟨RX12, "unread", "()I"⟩
abbrev cX12_put : ByteArray := prog_14_method_37_code
def yX12_put : MethodName := ⟨RX12, "put", "(I)I"⟩
abbrev cX12_word : ByteArray := prog_14_method_38_code
def yX12_word : MethodName := ⟨RX12, "word", "(I)I"⟩
abbrev cX12_change : ByteArray := prog_14_method_39_code
def yX12_change : MethodName := ⟨RX12, "change", "(II)I"⟩
abbrev cX12_drop : ByteArray := prog_14_method_40_code
def yX12_drop : MethodName := ⟨RX12, "drop", "(I)I"⟩
abbrev cX12_turn : ByteArray := prog_14_method_41_code
def yX12_turn : MethodName := ⟨RX12, "turn", "()I"⟩
abbrev cX12_draw : ByteArray := prog_14_method_42_code
def yX12_draw : MethodName := ⟨RX12, "draw", "(I)I"⟩
abbrev cX12_drifts : ByteArray := prog_14_method_43_code
def yX12_drifts : MethodName := ⟨RX12, "drifts", "()V"⟩
abbrev cX12_drift : ByteArray := prog_14_method_44_code
def yX12_drift : MethodName := ⟨RX12, "drift", "(I)I"⟩
abbrev cX12_undo : ByteArray := prog_14_method_45_code
def yX12_undo : MethodName := ⟨RX12, "undo", "(I)I"⟩
abbrev cX12_readOn : ByteArray := prog_14_method_46_code
def yX12_readOn : MethodName := ⟨RX12, "readOn", "(II)V"⟩
abbrev cX12_isTried : ByteArray := prog_14_method_47_code
def yX12_isTried : MethodName := ⟨RX12, "isTried", "(II)Z"⟩
abbrev cX12_length : ByteArray := prog_14_method_48_code
def yX12_length : MethodName := ⟨RX12, "length", "(II)I"⟩
abbrev cX12_figure : ByteArray := prog_14_method_49_code
def yX12_figure : MethodName := ⟨RX12, "figure", "(III)I"⟩
abbrev cX12_oftenThere : ByteArray := prog_14_method_50_code
def yX12_oftenThere : MethodName := ⟨RX12, "oftenThere", "(I)I"⟩
abbrev cX12_often : ByteArray := prog_14_method_51_code
def yX12_often : MethodName := ⟨RX12, "often", "(III)I"⟩
abbrev cX12_first : ByteArray := prog_14_method_52_code
def yX12_first : MethodName := ⟨RX12, "first", "(II)I"⟩
abbrev cX12_isPast : ByteArray := prog_14_method_53_code
def yX12_isPast : MethodName := ⟨RX12, "isPast", "(I)Z"⟩
abbrev cX12_earlier : ByteArray := prog_14_method_54_code
def yX12_earlier : MethodName := ⟨RX12, "earlier", "(I)I"⟩
abbrev cX12_again : ByteArray := prog_14_method_55_code
def yX12_again : MethodName := ⟨RX12, "again", "(I)I"⟩
abbrev cX12_addPart : ByteArray := prog_14_method_56_code
def yX12_addPart : MethodName := ⟨RX12, "addPart", "(III)V"⟩
abbrev cX12_isApart : ByteArray := prog_14_method_57_code
def yX12_isApart : MethodName := ⟨RX12, "isApart", "(I)Z"⟩
abbrev cX12_apart : ByteArray := prog_14_method_58_code
def yX12_apart : MethodName := ⟨RX12, "apart", "(I)I"⟩
abbrev cX12_isItself : ByteArray := prog_14_method_59_code
def yX12_isItself : MethodName := ⟨RX12, "isItself", "()Z"⟩
abbrev cX12_back : ByteArray := prog_14_method_60_code
def yX12_back : MethodName := ⟨RX12, "back", "(I)I"⟩
abbrev cX12_in : ByteArray := prog_14_method_61_code
def yX12_in : MethodName := ⟨RX12, "in", "(I)I"⟩
abbrev cX12_changes : ByteArray := prog_14_method_62_code
def yX12_changes : MethodName := ⟨RX12, "changes", "(I)I"⟩
abbrev cX12_noSlip : ByteArray := prog_14_method_63_code
def yX12_noSlip : MethodName := ⟨RX12, "noSlip", "(II)I"⟩
abbrev cX12_hear : ByteArray := prog_14_method_64_code
def yX12_hear : MethodName := ⟨RX12, "hear", "(IIZ)I"⟩
abbrev cX12_readWord : ByteArray := prog_14_method_65_code
def yX12_readWord : MethodName := ⟨RX12, "readWord", "(II)V"⟩
abbrev cX12_isSaid : ByteArray := prog_14_method_66_code
def yX12_isSaid : MethodName := ⟨RX12, "isSaid", "(I)Z"⟩
abbrev cX12_couldBe : ByteArray := prog_14_method_67_code
def yX12_couldBe : MethodName := ⟨RX12, "couldBe", "()I"⟩
abbrev cX12_alikeOnes : ByteArray := prog_14_method_68_code
def yX12_alikeOnes : MethodName := ⟨RX12, "alikeOnes", "(II)I"⟩
abbrev cX12_ask : ByteArray := prog_14_method_69_code
def yX12_ask : MethodName := ⟨RX12, "ask", "()I"⟩
abbrev cX12_write : ByteArray := prog_14_method_70_code
def yX12_write : MethodName := ⟨RX12, "write", "(II)I"⟩
abbrev cX12_judge : ByteArray := prog_14_method_71_code
def yX12_judge : MethodName := ⟨RX12, "judge", "()I"⟩
abbrev cX12_tear : ByteArray := prog_14_method_72_code
def yX12_tear : MethodName := ⟨RX12, "tear", "()I"⟩
abbrev cX12_seed : ByteArray := prog_14_method_73_code
def yX12_seed : MethodName := ⟨RX12, "seed", "(I)I"⟩
abbrev cX12_keep : ByteArray := prog_14_method_74_code
def yX12_keep : MethodName := ⟨RX12, "keep", "(I)I"⟩
abbrev cX12_goBack : ByteArray := prog_14_method_75_code
def yX12_goBack : MethodName := ⟨RX12, "goBack", "(I)I"⟩
def RJ6 : String := "java/lang/Integer"
abbrev cJ6_bitCount_0f7a4 : ByteArray := prog_15_method_49_code
def yJ6_bitCount_0f7a4 : MethodName := ⟨RJ6, "bitCount", "(I)I"⟩
def RJ9 : String := "java/lang/Math"
abbrev cJ9_max_7cf53 : ByteArray := prog_16_method_65_code
def yJ9_max_7cf53 : MethodName := ⟨RJ9, "max", "(II)I"⟩
abbrev cJ9_min_7cf53 : ByteArray := prog_16_method_69_code
def yJ9_min_7cf53 : MethodName := ⟨RJ9, "min", "(II)I"⟩
def RJ10 : String := "java/lang/System"
def RL : String := "RowsAloudLaw"
abbrev vwCl : List vw_C := [(RX0, TX0, 3), (RX1, TX1, 7), (RX2, TX2, 2), (RX3, TX3, 5), (RX4, TX4, 3), (RX5, TX5, 3), (RX6, TX6, 3), (RX8, TX8, 5), (RX9, TX9, 4), (RX10, TX10, 4), (RX11, TX11, 12), (RX12, TX12, 40)]
end
section
/-! ENGINE, part 1: a flat memory (numbers and references by object and place), what it says of the machine's heap, and the judgement Go -/
abbrev AV : Type := Int ⊕ (Int ⊕ Nat)
abbrev Hp : Type := (Nat → Int → Int) × (Nat → Int → Nat) × (Nat → Nat) × (Nat → Int) × Nat × Nat
def hI (h : Hp) (a : Nat) (k : Int) : Int := h.1 a k
def hR (h : Hp) (a : Nat) (k : Int) : Nat := h.2.1 a k
def hK (h : Hp) (a : Nat) : Nat := h.2.2.1 a
def hL (h : Hp) (a : Nat) : Int := h.2.2.2.1 a
def hN (h : Hp) : Nat := h.2.2.2.2.1
def hS (h : Hp) : Nat := h.2.2.2.2.2
def wI (h : Hp) (a : Nat) (k v : Int) : Hp := (fun b j => if b = a ∧ j = k then v else hI h b j, h.2)
def wR (h : Hp) (a : Nat) (k : Int) (v : Nat) : Hp := (h.1, fun b j => if b = a ∧ j = k then v else hR h b j, h.2.2)
def al (h : Hp) (kd : Nat) (n : Int) (sl : Nat) : Hp := (fun b j => if b = hN h then 0 else hI h b j, fun b j => if b = hN h then 0 else hR h b j, fun b => if b = hN h then kd else hK h b, fun b => if b = hN h then n else hL h b, hN h + 1, hS h + sl)
def cpI (h : Hp) (a : Nat) (i : Int) (b : Nat) (j n : Int) : Hp := (fun c k => if c = b ∧ j ≤ k ∧ k < j + n then hI h a (i + (k - j)) else hI h c k, h.2)
abbrev MI : Type := MethodName × ByteArray × Nat × Option FieldType × String × Nat
/-- addresses: 1 is the script, from 2 on what was made, one behind the other -/
def ga (base b k : Nat) : Nat := if k = 1 then b else base + k
def rr (g : Nat → Nat) (k : Nat) : Value := if k = 0 then .null else .ref (g k)
def rv (g : Nat → Nat) : AV → Value
  | .inl z => .int (Int32.ofInt z)
  | .inr (.inl z) => .long (Int64.ofInt z)
  | .inr (.inr k) => rr g k
def okv : AV → Prop
  | .inl z => -2147483648 ≤ z ∧ z ≤ 2147483647
  | .inr (.inl z) => -9223372036854775808 ≤ z ∧ z ≤ 9223372036854775807
  | .inr (.inr _) => True
def tyOf (ci : Nat) : Nat → FieldType := match ci with
  | 0 => tyX0
  | 1 => tyX1
  | 2 => tyX2
  | 3 => tyX3
  | 4 => tyX4
  | 5 => tyX5
  | 6 => tyX6
  | 7 => tyX8
  | 8 => tyX9
  | 9 => tyX10
  | 10 => tyX11
  | _ => tyX12
def isRT : FieldType → Bool
  | .object _ => true
  | .array _ => true
  | _ => false
def isRf (ci j : Nat) : Bool := isRT (tyOf ci j)
def fv (g : Nat → Nat) (h : Hp) (k j : Nat) : Value := if isRf (hK h k) j = true then rr g (hR h k j) else .int (Int32.ofInt (hI h k j))
def cellR (D : va_G) (cA : Nat → ClassId) (g : Nat → Nat) (h : Hp) (k : Nat) (H : Heap) : Prop :=
  (∀ r : vw_C, vwCl[hK h k]? = some r → t_OB (g k) (D.1 (hK h k)) r.2.2 (D.2 (hK h k)) H (fv g h k)) ∧
  (12 ≤ hK h k → hK h k < 16 → H[g k]? = some (arrV (cA (hK h k)) (hL h k).toNat (fun j => .int (Int32.ofInt (hI h k j))))) ∧
  (16 ≤ hK h k → hK h k < 18 → H[g k]? = some (arrV (cA (hK h k)) (hL h k).toNat (fun j => rr g (hR h k j))))
def Rel (base b : Nat) (D : va_G) (cA : Nat → ClassId) (s : State) (h : Hp) (H : Heap) : Prop :=
  H.size = base + hN h ∧ (∀ k, 2 ≤ k → k < hN h → cellR D cA (ga base b) h k H) ∧ va_X b (hL h 1).toNat (fun j => Int32.ofInt (hI h 1 j)) s H
/-- what holds of every flat memory that is met -/
def okH (h : Hp) : Prop := 2 ≤ hN h ∧ (∀ a, hN h ≤ a → hK h a = 99) ∧ hK h 0 = 99 ∧ hK h 1 = 18 ∧ (∀ a k, -2147483648 ≤ hI h a k ∧ hI h a k ≤ 2147483647) ∧ (∀ a, 0 ≤ hL h a ∧ hL h a ≤ 2147483647) ∧ (∀ a k, hK h a = 13 → -128 ≤ hI h a k ∧ hI h a k ≤ 127)
def gtbl : List Cond := lw_tbl.filter goodWord
abbrev tysOf (cA : Nat → ClassId) : List (ClassId × FieldType) := [(cA 12, .int), (cA 13, .byte), (cA 14, .char), (cA 15, .boolean), (cA 16, .object RX2), (cA 17, .object RX8)]
def nestW : List (String × Nat × MethodName) := [(RX11, 9, yX1_init), (RX11, 25, yX8_init), (RX6, 17, yX8_init), (RX4, 25, yX8_init), (RX11, 53, yX0_init), (RX11, 67, yX5_init)]
def Kn (D : va_G) (cA : Nat → ClassId) (U : State) : Prop := va_K D vwCl (tysOf cA) U ∧ va_AO RX2 U ∧ va_AO RX8 U ∧ ∀ q ∈ nestW, va_Nw (.methodLinkNest q.1 q.2.1 q.2.2 RX11) U
def Cx (M : MI) (base b : Nat) (D : va_G) (cA : Nat → ClassId) (p : Program) (s : State) (m : MethodId) (args : Array Value) (meth : Method) (c : Code) : Prop :=
  p.tables.exec = Jvm.exec ∧ c.code = M.2.1 ∧ c.maxLocals = M.2.2.1 ∧ s.vm.findClass M.2.2.2.2.1 = some m.cls ∧ (∀ w ∈ gtbl, w.before args s = true) ∧ meth.sig.returnType = M.2.2.2.1 ∧ meth.locks = false ∧ (M.1.name = "<init>" → meth.name = "<init>") ∧ Kn D cA s ∧ b < base + 2
def RetOk (M : MI) (pc : Nat) (r : Option AV) : Prop := match r with
  | none => M.2.2.2.1 = none ∧ decode M.2.1 pc = .ok (.return_, 1)
  | some (.inl z) => ∃ ty, M.2.2.2.1 = some ty ∧ narrow ty (.int (Int32.ofInt z)) = .int (Int32.ofInt z) ∧ decode M.2.1 pc = .ok (.ireturn, 1)
  | some (.inr (.inl _)) => False
  | some (.inr (.inr _)) => (∃ rt, M.2.2.2.1 = some rt ∧ ((∃ n, rt = .object n) ∨ ∃ t, rt = .array t)) ∧ decode M.2.1 pc = .ok (.areturn, 1)
def RoomOk (M : MI) (R : Room) (nc ns : Nat) : Prop := M.2.2.2.2.2 ≤ R.frames ∧ 36 * M.2.2.2.2.2 ≤ R.locals ∧ nc ≤ R.cells ∧ ns ≤ R.slots
def lvR (g : Nat → Nat) (lv : List (Nat × AV)) : List (Nat × Value) := lv.map (fun q => (q.1, rv g q.2))
def Fin_ (M : MI) (base b : Nat) (D : va_G) (cA : Nat → ClassId) (p : Program) (l : Launch) (e : Env) (R : Room) (s : State) (m : MethodId) (args : Array Value) (below : List Frame) (meth : Method) (c : Code) (r : Option AV) (h' : Hp) (N0 S0 : Nat) (Qf : State → Prop) : Prop :=
  ∀ (pc : Nat) (H : Heap) (locs : List Loc) (ls : Array Slot), RetOk M pc r → okH h' → Rel base b D cA s h' H → (∀ v, r = some v → okv v) → (∀ q ∈ locs, base + 2 ≤ q.base) → W p l e R s m args below meth c H locs (hN h' - N0) (hS h' - S0) Qf (F0 m pc ls (r.toList.map (rv (ga base b))))
def Sim (M : MI) (pc : Nat) (lv : List (Nat × AV)) (st : List AV) (h : Hp) (r : Option AV) (h' : Hp) : Prop :=
  ∀ (base b : Nat) (D : va_G) (cA : Nat → ClassId) (p : Program) (l : Launch) (e : Env) (R : Room) (s : State) (m : MethodId) (args : Array Value) (below : List Frame) (meth : Method) (c : Code) (H : Heap) (locs : List Loc) (N0 S0 : Nat) (ls : Array Slot) (Qf : State → Prop),
    Cx M base b D cA p s m args meth c → okH h → Rel base b D cA s h H → N0 ≤ hN h → S0 ≤ hS h → RoomOk M R (hN h' - N0) (hS h' - S0) → lv_has ls M.2.2.1 (lvR (ga base b) lv) → (∀ q ∈ lv, okv q.2) → (∀ v ∈ st, okv v) → (∀ q ∈ locs, base + 2 ≤ q.base) →
    Fin_ M base b D cA p l e R s m args below meth c r h' N0 S0 Qf → W p l e R s m args below meth c H locs (hN h - N0) (hS h - S0) Qf (F0 m pc ls (st.map (rv (ga base b))))
/-- from this place of method M, with these locals, this stack, this memory, it comes to its end with Q -/
def Go (M : MI) (pc : Nat) (lv : List (Nat × AV)) (st : List AV) (h : Hp) (Q : Option AV → Hp → Prop) : Prop :=
  ∃ (r : Option AV) (h' : Hp), Q r h' ∧ hN h ≤ hN h' ∧ hS h ≤ hS h' ∧ Sim M pc lv st h r h'
theorem Go.of {M : MI} {pc pc' : Nat} {lv lv' : List (Nat × AV)} {st st' : List AV} {h : Hp} {Q : Option AV → Hp → Prop} (k : Go M pc' lv' st' h Q) (f : ∀ r h', Sim M pc' lv' st' h r h' → Sim M pc lv st h r h') : Go M pc lv st h Q := by
  obtain ⟨r, h', q, a, b, s⟩ := k
  exact ⟨r, h', q, a, b, f r h' s⟩
theorem Go.mono {M : MI} {pc : Nat} {lv : List (Nat × AV)} {st : List AV} {h : Hp} {Q Q' : Option AV → Hp → Prop} (k : Go M pc lv st h Q) (f : ∀ r h', Q r h' → Q' r h') : Go M pc lv st h Q' := by
  obtain ⟨r, h', q, a, b, s⟩ := k
  exact ⟨r, h', f r h' q, a, b, s⟩
def qI (Q : Int → Hp → Prop) : Option AV → Hp → Prop := fun r h => ∃ z, r = some (.inl z) ∧ Q z h
def qR (Q : Nat → Hp → Prop) : Option AV → Hp → Prop := fun r h => ∃ z, r = some (.inr (.inr z)) ∧ Q z h
def qV (Q : Hp → Prop) : Option AV → Hp → Prop := fun r h => r = none ∧ Q h
-- locals
theorem lvR_mem {g : Nat → Nat} {lv : List (Nat × AV)} {i : Nat} {v : AV} (h : (i, v) ∈ lv) : (i, rv g v) ∈ lvR g lv := List.mem_map.mpr ⟨(i, v), h, rfl⟩
theorem lv_of {g : Nat → Nat} {lv : List (Nat × AV)} {ls : Array Slot} {n i : Nat} {v : AV} (hl : lv_has ls n (lvR g lv)) (h : (i, v) ∈ lv) : ls[i]? = some (.val (rv g v)) := hl.2.2 _ (lvR_mem h)
theorem s_ls {M : MI} {pc : Nat} {lv lv' : List (Nat × AV)} {st : List AV} {h : Hp} {Q : Option AV → Hp → Prop} (hs : ∀ q ∈ lv', q ∈ lv) (k : Go M pc lv' st h Q) : Go M pc lv st h Q := by
  refine Go.of k fun r h' S => ?_
  intro base b D cA p l e R s m args below meth c H locs N0 S0 ls Qf C oh rl hn hss hR hl ol os hlo hf
  refine S base b D cA p l e R s m args below meth c H locs N0 S0 ls Qf C oh rl hn hss hR ⟨hl.1, hl.2.1, fun q hq => ?_⟩ (fun q hq => ol q (hs q hq)) os hlo hf
  obtain ⟨x, hx, rfl⟩ := List.mem_map.mp hq
  exact hl.2.2 _ (lvR_mem (hs x hx))
-- numbers
theorem i32_toInt {z : Int} (h : -2147483648 ≤ z ∧ z ≤ 2147483647) : (Int32.ofInt z).toInt = z := by
  exact Int32.toInt_ofInt_of_le (by omega) (by omega)
theorem i64_toInt {z : Int} (h : -9223372036854775808 ≤ z ∧ z ≤ 9223372036854775807) : (Int64.ofInt z).toInt = z := by
  exact Int64.toInt_ofInt_of_le (by omega) (by omega)
theorem i32_of (x : Int32) : Int32.ofInt x.toInt = x := Int32.ofInt_toInt x
theorem i32_lt {x y : Int} (hx : okv (.inl x)) (hy : okv (.inl y)) : Int32.ofInt x < Int32.ofInt y ↔ x < y := by
  rw [Int32.lt_iff_toInt_lt, i32_toInt hx, i32_toInt hy]
theorem i32_le {x y : Int} (hx : okv (.inl x)) (hy : okv (.inl y)) : Int32.ofInt x ≤ Int32.ofInt y ↔ x ≤ y := by
  rw [Int32.le_iff_toInt_le, i32_toInt hx, i32_toInt hy]
theorem i32_eq {x y : Int} (hx : okv (.inl x)) (hy : okv (.inl y)) : Int32.ofInt x = Int32.ofInt y ↔ x = y := by
  constructor
  · intro h
    rw [← i32_toInt hx, ← i32_toInt hy, h]
  · intro h; rw [h]
theorem i32_range (x : Int32) : okv (.inl x.toInt) := by
  have h1 := Int32.le_toInt x
  have h2 := Int32.toInt_lt x
  exact ⟨by omega, by omega⟩
theorem i32_clamp {z : Int} (h0 : 0 ≤ z) (h : z ≤ 2147483647) : (Int32.ofInt z).toNatClampNeg = z.toNat := by
  show (Int32.ofInt z).toInt.toNat = z.toNat
  rw [i32_toInt ⟨by omega, h⟩]
end
section
/-! ENGINE, part 2: a row an instruction, over Go (heap unchanged) -/
def cat : AV → Nat
  | .inr (.inl _) => 2
  | _ => 1
theorem cat_rv (g : Nat → Nat) (v : AV) : (rv g v).category = cat v := by
  rcases v with z | z | k
  · rfl
  · rfl
  · show (rr g k).category = 1
    unfold rr
    split <;> rfl
def lset (i : Nat) (v : AV) (lv : List (Nat × AV)) : List (Nat × AV) := (i, v) :: lv.filter (fun q => !(q.1 == i) && !(q.1 + 1 == i && cat q.2 == 2))
def lsetL (i : Nat) (v : AV) (lv : List (Nat × AV)) : List (Nat × AV) := (i, v) :: lv.filter (fun q => !(q.1 == i) && (!(q.1 == i + 1) && !(q.1 + 1 == i && cat q.2 == 2)))
theorem lset_R (g : Nat → Nat) (i : Nat) (v : AV) (lv : List (Nat × AV)) : (i, rv g v) :: (lvR g lv).filter (fun q => !(q.1 == i) && !(q.1 + 1 == i && q.2.category == 2)) = lvR g (lset i v lv) := by
  unfold lvR lset
  rw [List.map_cons, List.filter_map]
  congr 3
  funext q
  simp only [Function.comp, cat_rv]
theorem lsetL_R (g : Nat → Nat) (i : Nat) (v : AV) (lv : List (Nat × AV)) : (i, rv g v) :: (lvR g lv).filter (fun q => !(q.1 == i) && (!(q.1 == i + 1) && !(q.1 + 1 == i && q.2.category == 2))) = lvR g (lsetL i v lv) := by
  unfold lvR lsetL
  rw [List.map_cons, List.filter_map]
  congr 3
  funext q
  simp only [Function.comp, cat_rv]
theorem lset_ok {i : Nat} {v : AV} {lv : List (Nat × AV)} (hv : okv v) (ho : ∀ q ∈ lv, okv q.2) : ∀ q ∈ lset i v lv, okv q.2 := by
  intro q hq
  rcases List.mem_cons.mp hq with rfl | hq
  · exact hv
  · exact ho q (List.mem_filter.mp hq).1
theorem lsetL_ok {i : Nat} {v : AV} {lv : List (Nat × AV)} (hv : okv v) (ho : ∀ q ∈ lv, okv q.2) : ∀ q ∈ lsetL i v lv, okv q.2 := by
  intro q hq
  rcases List.mem_cons.mp hq with rfl | hq
  · exact hv
  · exact ho q (List.mem_filter.mp hq).1
theorem ok_cons {v : AV} {st : List AV} (hv : okv v) (hs : ∀ v ∈ st, okv v) : ∀ w ∈ v :: st, okv w := fun w hw => by
  rcases List.mem_cons.mp hw with rfl | hw
  · exact hv
  · exact hs w hw
theorem ok_hd {v : AV} {st : List AV} (h : ∀ w ∈ v :: st, okv w) : okv v := h v List.mem_cons_self
theorem ok_tl {v : AV} {st : List AV} (h : ∀ w ∈ v :: st, okv w) : ∀ w ∈ st, okv w := fun w hw => h w (List.mem_cons_of_mem _ hw)

theorem s_iconst {M : MI} {pc : Nat} {lv : List (Nat × AV)} {st : List AV} {h : Hp} {Q : Option AV → Hp → Prop} {n : Int} (hd : decode M.2.1 pc = .ok (.iconst n, 1)) (ho : okv (.inl n)) (k : Go M (pc + 1) lv (.inl n :: st) h Q) : Go M pc lv (st) h Q := by
  refine Go.of k fun r h' S => ?_
  intro base b D cA p l e R s m args below meth c H locs N0 S0 ls Qf C oh rl hn hss hR hl ol os hlo hf
  exact lv_iconst C.1 C.2.1 hd rfl (S base b D cA p l e R s m args below meth c H locs N0 S0 ls Qf C oh rl hn hss hR hl ol (ok_cons ho os) hlo hf)
theorem s_bipush {M : MI} {pc : Nat} {lv : List (Nat × AV)} {st : List AV} {h : Hp} {Q : Option AV → Hp → Prop} {n : Int} (hd : decode M.2.1 pc = .ok (.bipush n, 2)) (hv : (Int8.ofInt n).toInt32 = Int32.ofInt n) (ho : okv (.inl n)) (k : Go M (pc + 2) lv (.inl n :: st) h Q) : Go M pc lv (st) h Q := by
  refine Go.of k fun r h' S => ?_
  intro base b D cA p l e R s m args below meth c H locs N0 S0 ls Qf C oh rl hn hss hR hl ol os hlo hf
  exact lv_bipush C.1 C.2.1 hd hv (S base b D cA p l e R s m args below meth c H locs N0 S0 ls Qf C oh rl hn hss hR hl ol (ok_cons ho os) hlo hf)
theorem s_sipush {M : MI} {pc : Nat} {lv : List (Nat × AV)} {st : List AV} {h : Hp} {Q : Option AV → Hp → Prop} {n : Int} (hd : decode M.2.1 pc = .ok (.sipush n, 3)) (hv : (Int16.ofInt n).toInt32 = Int32.ofInt n) (ho : okv (.inl n)) (k : Go M (pc + 3) lv (.inl n :: st) h Q) : Go M pc lv (st) h Q := by
  refine Go.of k fun r h' S => ?_
  intro base b D cA p l e R s m args below meth c H locs N0 S0 ls Qf C oh rl hn hss hR hl ol os hlo hf
  exact lv_sipush C.1 C.2.1 hd hv (S base b D cA p l e R s m args below meth c H locs N0 S0 ls Qf C oh rl hn hss hR hl ol (ok_cons ho os) hlo hf)
theorem s_ldc {M : MI} {pc : Nat} {lv : List (Nat × AV)} {st : List AV} {h : Hp} {Q : Option AV → Hp → Prop} {n : Int} {v : Int32} {idx : Nat} (hd : decode M.2.1 pc = .ok (.ldc idx, 2)) (hc : Cond.constant M.2.2.2.2.1 idx v ∈ gtbl) (hv : v = Int32.ofInt n) (ho : okv (.inl n)) (k : Go M (pc + 2) lv (.inl n :: st) h Q) : Go M pc lv (st) h Q := by
  refine Go.of k fun r h' S => ?_
  intro base b D cA p l e R s m args below meth c H locs N0 S0 ls Qf C oh rl hn hss hR hl ol os hlo hf
  exact lv_ldc C.1 C.2.1 C.2.2.2.1 (C.2.2.2.2.1 _ (hv ▸ hc)) hd (S base b D cA p l e R s m args below meth c H locs N0 S0 ls Qf C oh rl hn hss hR hl ol (ok_cons ho os) hlo hf)
theorem s_ldcw {M : MI} {pc : Nat} {lv : List (Nat × AV)} {st : List AV} {h : Hp} {Q : Option AV → Hp → Prop} {n : Int} {v : Int32} {idx : Nat} (hd : decode M.2.1 pc = .ok (.ldc_w idx, 3)) (hc : Cond.constant M.2.2.2.2.1 idx v ∈ gtbl) (hv : v = Int32.ofInt n) (ho : okv (.inl n)) (k : Go M (pc + 3) lv (.inl n :: st) h Q) : Go M pc lv (st) h Q := by
  refine Go.of k fun r h' S => ?_
  intro base b D cA p l e R s m args below meth c H locs N0 S0 ls Qf C oh rl hn hss hR hl ol os hlo hf
  exact lv_ldcw C.1 C.2.1 C.2.2.2.1 (C.2.2.2.2.1 _ (hv ▸ hc)) hd (S base b D cA p l e R s m args below meth c H locs N0 S0 ls Qf C oh rl hn hss hR hl ol (ok_cons ho os) hlo hf)
theorem s_ldc2 {M : MI} {pc : Nat} {lv : List (Nat × AV)} {st : List AV} {h : Hp} {Q : Option AV → Hp → Prop} {n : Int} {v : Int64} {idx : Nat} (hd : decode M.2.1 pc = .ok (.ldc2_w idx, 3)) (hc : Cond.constantLong M.2.2.2.2.1 idx v ∈ gtbl) (hv : v = Int64.ofInt n) (ho : okv (.inr (.inl n))) (k : Go M (pc + 3) lv (.inr (.inl n) :: st) h Q) : Go M pc lv (st) h Q := by
  refine Go.of k fun r h' S => ?_
  intro base b D cA p l e R s m args below meth c H locs N0 S0 ls Qf C oh rl hn hss hR hl ol os hlo hf
  exact lv_ldc2 C.1 C.2.1 C.2.2.2.1 (C.2.2.2.2.1 _ (hv ▸ hc)) hd (S base b D cA p l e R s m args below meth c H locs N0 S0 ls Qf C oh rl hn hss hR hl ol (ok_cons ho os) hlo hf)
theorem s_lconst {M : MI} {pc : Nat} {lv : List (Nat × AV)} {st : List AV} {h : Hp} {Q : Option AV → Hp → Prop} {k : Fin 2} {n : Int} (hd : decode M.2.1 pc = .ok (.lconst k, 1)) (hv : Int64.ofNat (k : Nat) = Int64.ofInt n) (ho : okv (.inr (.inl n))) (k : Go M (pc + 1) lv (.inr (.inl n) :: st) h Q) : Go M pc lv (st) h Q := by
  refine Go.of k fun r h' S => ?_
  intro base b D cA p l e R s m args below meth c H locs N0 S0 ls Qf C oh rl hn hss hR hl ol os hlo hf
  exact lv_lconst C.1 C.2.1 hd hv (S base b D cA p l e R s m args below meth c H locs N0 S0 ls Qf C oh rl hn hss hR hl ol (ok_cons ho os) hlo hf)
theorem s_null {M : MI} {pc : Nat} {lv : List (Nat × AV)} {st : List AV} {h : Hp} {Q : Option AV → Hp → Prop} (hd : decode M.2.1 pc = .ok (.aconst_null, 1)) (k : Go M (pc + 1) lv (.inr (.inr 0) :: st) h Q) : Go M pc lv (st) h Q := by
  refine Go.of k fun r h' S => ?_
  intro base b D cA p l e R s m args below meth c H locs N0 S0 ls Qf C oh rl hn hss hR hl ol os hlo hf
  exact lv_null C.1 C.2.1 hd (S base b D cA p l e R s m args below meth c H locs N0 S0 ls Qf C oh rl hn hss hR hl ol (ok_cons trivial os) hlo hf)
theorem s_iload_n {M : MI} {pc : Nat} {lv : List (Nat × AV)} {st : List AV} {h : Hp} {Q : Option AV → Hp → Prop} {k : Fin 4} {i : Nat} {x : Int} (hd : decode M.2.1 pc = .ok (.iload_n k, 1)) (hi : (k : Nat) = i) (hm : (i, .inl x) ∈ lv) (k : Go M (pc + 1) lv (.inl x :: st) h Q) : Go M pc lv (st) h Q := by
  refine Go.of k fun r h' S => ?_
  intro base b D cA p l e R s m args below meth c H locs N0 S0 ls Qf C oh rl hn hss hR hl ol os hlo hf
  exact lv_iload_n C.1 C.2.1 hd hi (lv_of hl hm) (S base b D cA p l e R s m args below meth c H locs N0 S0 ls Qf C oh rl hn hss hR hl ol (ok_cons (ol _ hm) os) hlo hf)
theorem s_iload {M : MI} {pc : Nat} {lv : List (Nat × AV)} {st : List AV} {h : Hp} {Q : Option AV → Hp → Prop} {i : Nat} {x : Int} (hd : decode M.2.1 pc = .ok (.iload i, 2)) (hm : (i, .inl x) ∈ lv) (k : Go M (pc + 2) lv (.inl x :: st) h Q) : Go M pc lv (st) h Q := by
  refine Go.of k fun r h' S => ?_
  intro base b D cA p l e R s m args below meth c H locs N0 S0 ls Qf C oh rl hn hss hR hl ol os hlo hf
  exact lv_iload C.1 C.2.1 hd (lv_of hl hm) (S base b D cA p l e R s m args below meth c H locs N0 S0 ls Qf C oh rl hn hss hR hl ol (ok_cons (ol _ hm) os) hlo hf)
theorem s_lload_n {M : MI} {pc : Nat} {lv : List (Nat × AV)} {st : List AV} {h : Hp} {Q : Option AV → Hp → Prop} {k : Fin 4} {i : Nat} {x : Int} (hd : decode M.2.1 pc = .ok (.lload_n k, 1)) (hi : (k : Nat) = i) (hm : (i, .inr (.inl x)) ∈ lv) (k : Go M (pc + 1) lv (.inr (.inl x) :: st) h Q) : Go M pc lv (st) h Q := by
  refine Go.of k fun r h' S => ?_
  intro base b D cA p l e R s m args below meth c H locs N0 S0 ls Qf C oh rl hn hss hR hl ol os hlo hf
  exact lv_lload_n C.1 C.2.1 hd hi (lv_of hl hm) (S base b D cA p l e R s m args below meth c H locs N0 S0 ls Qf C oh rl hn hss hR hl ol (ok_cons (ol _ hm) os) hlo hf)
theorem s_aload_n {M : MI} {pc : Nat} {lv : List (Nat × AV)} {st : List AV} {h : Hp} {Q : Option AV → Hp → Prop} {k : Fin 4} {i x : Nat} (hd : decode M.2.1 pc = .ok (.aload_n k, 1)) (hi : (k : Nat) = i) (hm : (i, .inr (.inr x)) ∈ lv) (k : Go M (pc + 1) lv (.inr (.inr x) :: st) h Q) : Go M pc lv st h Q := by
  refine Go.of k fun r h' S => ?_
  intro base b D cA p l e R s m args below meth c H locs N0 S0 ls Qf C oh rl hn hss hR hl ol os hlo hf
  have hv := lv_of hl hm
  have K := S base b D cA p l e R s m args below meth c H locs N0 S0 ls Qf C oh rl hn hss hR hl ol (ok_cons trivial os) hlo hf
  by_cases hx : x = 0
  · subst hx
    exact lv_aload_nN C.1 C.2.1 hd hi hv K
  · have e : rv (ga base b) (.inr (.inr x)) = .ref (ga base b x) := by show rr _ _ = _; unfold rr; rw [if_neg hx]
    rw [List.map_cons, e] at K
    rw [e] at hv
    exact lv_aload_n C.1 C.2.1 hd hi hv K
theorem s_aload {M : MI} {pc : Nat} {lv : List (Nat × AV)} {st : List AV} {h : Hp} {Q : Option AV → Hp → Prop} {i x : Nat} (hd : decode M.2.1 pc = .ok (.aload i, 2)) (hm : (i, .inr (.inr x)) ∈ lv) (k : Go M (pc + 2) lv (.inr (.inr x) :: st) h Q) : Go M pc lv st h Q := by
  refine Go.of k fun r h' S => ?_
  intro base b D cA p l e R s m args below meth c H locs N0 S0 ls Qf C oh rl hn hss hR hl ol os hlo hf
  have hv := lv_of hl hm
  have K := S base b D cA p l e R s m args below meth c H locs N0 S0 ls Qf C oh rl hn hss hR hl ol (ok_cons trivial os) hlo hf
  by_cases hx : x = 0
  · subst hx
    exact lv_aloadN C.1 C.2.1 hd hv K
  · have e : rv (ga base b) (.inr (.inr x)) = .ref (ga base b x) := by show rr _ _ = _; unfold rr; rw [if_neg hx]
    rw [List.map_cons, e] at K
    rw [e] at hv
    exact lv_aload C.1 C.2.1 hd hv K
theorem s_istore_n {M : MI} {pc : Nat} {lv : List (Nat × AV)} {st : List AV} {h : Hp} {Q : Option AV → Hp → Prop} {k : Fin 4} {i : Nat} {x : Int} {lv' : List (Nat × AV)} (hd : decode M.2.1 pc = .ok (.istore_n k, 1)) (hi : (k : Nat) = i) (hb : i < M.2.2.1) (he : lset i (.inl x) lv = lv') (k : Go M (pc + 1) lv' (st) h Q) : Go M pc lv (.inl x :: st) h Q := by
  refine Go.of k fun r h' S => ?_
  intro base b D cA p l e R s m args below meth c H locs N0 S0 ls Qf C oh rl hn hss hR hl ol os hlo hf
  subst he
  exact lv_istore_n C.1 C.2.1 hd hi hl hb (lset_R _ _ (.inl x) _) (fun ls' hl' => S base b D cA p l e R s m args below meth c H locs N0 S0 ls' Qf C oh rl hn hss hR hl' (lset_ok (ok_hd os) ol) (ok_tl os) hlo hf)
theorem s_istore {M : MI} {pc : Nat} {lv : List (Nat × AV)} {st : List AV} {h : Hp} {Q : Option AV → Hp → Prop} {i : Nat} {x : Int} {lv' : List (Nat × AV)} (hd : decode M.2.1 pc = .ok (.istore i, 2)) (hb : i < M.2.2.1) (he : lset i (.inl x) lv = lv') (k : Go M (pc + 2) lv' (st) h Q) : Go M pc lv (.inl x :: st) h Q := by
  refine Go.of k fun r h' S => ?_
  intro base b D cA p l e R s m args below meth c H locs N0 S0 ls Qf C oh rl hn hss hR hl ol os hlo hf
  subst he
  exact lv_istore C.1 C.2.1 hd hl hb (lset_R _ _ (.inl x) _) (fun ls' hl' => S base b D cA p l e R s m args below meth c H locs N0 S0 ls' Qf C oh rl hn hss hR hl' (lset_ok (ok_hd os) ol) (ok_tl os) hlo hf)
theorem s_lstore_n {M : MI} {pc : Nat} {lv : List (Nat × AV)} {st : List AV} {h : Hp} {Q : Option AV → Hp → Prop} {k : Fin 4} {i : Nat} {x : Int} {lv' : List (Nat × AV)} (hd : decode M.2.1 pc = .ok (.lstore_n k, 1)) (hi : (k : Nat) = i) (hb : i + 1 < M.2.2.1) (he : lsetL i (.inr (.inl x)) lv = lv') (k : Go M (pc + 1) lv' (st) h Q) : Go M pc lv (.inr (.inl x) :: st) h Q := by
  refine Go.of k fun r h' S => ?_
  intro base b D cA p l e R s m args below meth c H locs N0 S0 ls Qf C oh rl hn hss hR hl ol os hlo hf
  subst he
  exact lv_lstore_n C.1 C.2.1 hd hi hl hb (lsetL_R _ _ (.inr (.inl x)) _) (fun ls' hl' => S base b D cA p l e R s m args below meth c H locs N0 S0 ls' Qf C oh rl hn hss hR hl' (lsetL_ok (ok_hd os) ol) (ok_tl os) hlo hf)
theorem s_astore_n {M : MI} {pc : Nat} {lv : List (Nat × AV)} {st : List AV} {h : Hp} {Q : Option AV → Hp → Prop} {k : Fin 4} {i x : Nat} {lv' : List (Nat × AV)} (hd : decode M.2.1 pc = .ok (.astore_n k, 1)) (hi : (k : Nat) = i) (hb : i < M.2.2.1) (he : lset i (.inr (.inr x)) lv = lv') (k : Go M (pc + 1) lv' st h Q) : Go M pc lv (.inr (.inr x) :: st) h Q := by
  refine Go.of k fun r h' S => ?_
  intro base b D cA p l e R s m args below meth c H locs N0 S0 ls Qf C oh rl hn hss hR hl ol os hlo hf
  subst he
  have e2 := lset_R (ga base b) i (.inr (.inr x)) lv
  have K := fun ls' hl' => S base b D cA p l e R s m args below meth c H locs N0 S0 ls' Qf C oh rl hn hss hR hl' (lset_ok (ok_hd os) ol) (ok_tl os) hlo hf
  by_cases hx : x = 0
  · subst hx
    exact lv_astore_nN C.1 C.2.1 hd hi hl hb e2 K
  · have e : rv (ga base b) (.inr (.inr x)) = .ref (ga base b x) := by show rr _ _ = _; unfold rr; rw [if_neg hx]
    rw [List.map_cons, e]
    rw [e] at e2
    exact lv_astore_n C.1 C.2.1 hd hi hl hb e2 K
theorem s_astore {M : MI} {pc : Nat} {lv : List (Nat × AV)} {st : List AV} {h : Hp} {Q : Option AV → Hp → Prop} {i x : Nat} {lv' : List (Nat × AV)} (hd : decode M.2.1 pc = .ok (.astore i, 2)) (hb : i < M.2.2.1) (he : lset i (.inr (.inr x)) lv = lv') (k : Go M (pc + 2) lv' st h Q) : Go M pc lv (.inr (.inr x) :: st) h Q := by
  refine Go.of k fun r h' S => ?_
  intro base b D cA p l e R s m args below meth c H locs N0 S0 ls Qf C oh rl hn hss hR hl ol os hlo hf
  subst he
  have e2 := lset_R (ga base b) i (.inr (.inr x)) lv
  have K := fun ls' hl' => S base b D cA p l e R s m args below meth c H locs N0 S0 ls' Qf C oh rl hn hss hR hl' (lset_ok (ok_hd os) ol) (ok_tl os) hlo hf
  by_cases hx : x = 0
  · subst hx
    exact lv_astoreN C.1 C.2.1 hd hl hb e2 K
  · have e : rv (ga base b) (.inr (.inr x)) = .ref (ga base b x) := by show rr _ _ = _; unfold rr; rw [if_neg hx]
    rw [List.map_cons, e]
    rw [e] at e2
    exact lv_astore C.1 C.2.1 hd hl hb e2 K
theorem s_iinc {M : MI} {pc : Nat} {lv : List (Nat × AV)} {st : List AV} {h : Hp} {Q : Option AV → Hp → Prop} {i : Nat} {n x : Int} {lv' : List (Nat × AV)} (hd : decode M.2.1 pc = .ok (.iinc i n, 3)) (hm : (i, .inl x) ∈ lv) (ho : okv (.inl (x + n))) (hb : i < M.2.2.1) (he : lset i (.inl (x + n)) lv = lv') (k : Go M (pc + 3) lv' (st) h Q) : Go M pc lv (st) h Q := by
  refine Go.of k fun r h' S => ?_
  intro base b D cA p l e R s m args below meth c H locs N0 S0 ls Qf C oh rl hn hss hR hl ol os hlo hf
  subst he
  obtain ⟨k0, hk⟩ := List.getElem?_of_mem (lvR_mem (g := ga base b) hm)
  exact lv_iinc C.1 C.2.1 hd hl hk (Int32.ofInt_add x n).symm hb (lset_R _ _ (.inl (x + n)) _) (fun ls' hl' => S base b D cA p l e R s m args below meth c H locs N0 S0 ls' Qf C oh rl hn hss hR hl' (lset_ok ho ol) os hlo hf)
theorem s_iadd {M : MI} {pc : Nat} {lv : List (Nat × AV)} {st : List AV} {h : Hp} {Q : Option AV → Hp → Prop} {x y : Int} (hd : decode M.2.1 pc = .ok (.iadd, 1)) (ho : okv (.inl (x + y))) (k : Go M (pc + 1) lv (.inl (x + y) :: st) h Q) : Go M pc lv (.inl y :: .inl x :: st) h Q := by
  refine Go.of k fun r h' S => ?_
  intro base b D cA p l e R s m args below meth c H locs N0 S0 ls Qf C oh rl hn hss hR hl ol os hlo hf
  have K := S base b D cA p l e R s m args below meth c H locs N0 S0 ls Qf C oh rl hn hss hR hl ol (ok_cons ho (ok_tl (ok_tl os))) hlo hf
  rw [List.map_cons, show rv (ga base b) (.inl (x + y)) = .int (Int32.ofInt x + Int32.ofInt y) from congrArg Value.int (Int32.ofInt_add x y)] at K
  exact lv_iadd C.1 C.2.1 hd K
theorem s_isub {M : MI} {pc : Nat} {lv : List (Nat × AV)} {st : List AV} {h : Hp} {Q : Option AV → Hp → Prop} {x y : Int} (hd : decode M.2.1 pc = .ok (.isub, 1)) (ho : okv (.inl (x - y))) (k : Go M (pc + 1) lv (.inl (x - y) :: st) h Q) : Go M pc lv (.inl y :: .inl x :: st) h Q := by
  refine Go.of k fun r h' S => ?_
  intro base b D cA p l e R s m args below meth c H locs N0 S0 ls Qf C oh rl hn hss hR hl ol os hlo hf
  have K := S base b D cA p l e R s m args below meth c H locs N0 S0 ls Qf C oh rl hn hss hR hl ol (ok_cons ho (ok_tl (ok_tl os))) hlo hf
  rw [List.map_cons, show rv (ga base b) (.inl (x - y)) = .int (Int32.ofInt x - Int32.ofInt y) from congrArg Value.int (Int32.ofInt_sub x y)] at K
  exact lv_isub C.1 C.2.1 hd K
theorem s_imul {M : MI} {pc : Nat} {lv : List (Nat × AV)} {st : List AV} {h : Hp} {Q : Option AV → Hp → Prop} {x y : Int} (hd : decode M.2.1 pc = .ok (.imul, 1)) (ho : okv (.inl (x * y))) (k : Go M (pc + 1) lv (.inl (x * y) :: st) h Q) : Go M pc lv (.inl y :: .inl x :: st) h Q := by
  refine Go.of k fun r h' S => ?_
  intro base b D cA p l e R s m args below meth c H locs N0 S0 ls Qf C oh rl hn hss hR hl ol os hlo hf
  have K := S base b D cA p l e R s m args below meth c H locs N0 S0 ls Qf C oh rl hn hss hR hl ol (ok_cons ho (ok_tl (ok_tl os))) hlo hf
  rw [List.map_cons, show rv (ga base b) (.inl (x * y)) = .int (Int32.ofInt x * Int32.ofInt y) from congrArg Value.int (Int32.ofInt_mul x y)] at K
  exact lv_imul C.1 C.2.1 hd K
theorem s_ladd {M : MI} {pc : Nat} {lv : List (Nat × AV)} {st : List AV} {h : Hp} {Q : Option AV → Hp → Prop} {x y : Int} (hd : decode M.2.1 pc = .ok (.ladd, 1)) (ho : okv (.inr (.inl (x + y)))) (k : Go M (pc + 1) lv (.inr (.inl (x + y)) :: st) h Q) : Go M pc lv (.inr (.inl y) :: .inr (.inl x) :: st) h Q := by
  refine Go.of k fun r h' S => ?_
  intro base b D cA p l e R s m args below meth c H locs N0 S0 ls Qf C oh rl hn hss hR hl ol os hlo hf
  have K := S base b D cA p l e R s m args below meth c H locs N0 S0 ls Qf C oh rl hn hss hR hl ol (ok_cons ho (ok_tl (ok_tl os))) hlo hf
  rw [List.map_cons, show rv (ga base b) (.inr (.inl (x + y))) = .long (Int64.ofInt x + Int64.ofInt y) from congrArg Value.long (Int64.ofInt_add x y)] at K
  exact lv_ladd C.1 C.2.1 hd K
theorem s_lmul {M : MI} {pc : Nat} {lv : List (Nat × AV)} {st : List AV} {h : Hp} {Q : Option AV → Hp → Prop} {x y : Int} (hd : decode M.2.1 pc = .ok (.lmul, 1)) (ho : okv (.inr (.inl (x * y)))) (k : Go M (pc + 1) lv (.inr (.inl (x * y)) :: st) h Q) : Go M pc lv (.inr (.inl y) :: .inr (.inl x) :: st) h Q := by
  refine Go.of k fun r h' S => ?_
  intro base b D cA p l e R s m args below meth c H locs N0 S0 ls Qf C oh rl hn hss hR hl ol os hlo hf
  have K := S base b D cA p l e R s m args below meth c H locs N0 S0 ls Qf C oh rl hn hss hR hl ol (ok_cons ho (ok_tl (ok_tl os))) hlo hf
  rw [List.map_cons, show rv (ga base b) (.inr (.inl (x * y))) = .long (Int64.ofInt x * Int64.ofInt y) from congrArg Value.long (Int64.ofInt_mul x y)] at K
  exact lv_lmul C.1 C.2.1 hd K
theorem i32_div {x y : Int} (hx : okv (.inl x)) (hy : okv (.inl y)) (h0 : 0 ≤ x) (h1 : 0 < y) : Int32.ofInt x / Int32.ofInt y = Int32.ofInt (x / y) := by
  have h2 : 0 ≤ x / y := Int.ediv_nonneg h0 (by omega)
  have h3 : x / y ≤ x := Int.ediv_le_self y h0
  have hz : okv (.inl (x / y)) := ⟨by have := hx.1; omega, by have := hx.2; omega⟩
  apply Int32.toInt_inj.mp
  rw [Int32.toInt_div, i32_toInt hx, i32_toInt hy, i32_toInt hz, Int.tdiv_eq_ediv_of_nonneg h0, ← Int32.toInt_ofInt]
  exact i32_toInt hz
theorem i64_div {x y : Int} (hx : okv (.inr (.inl x))) (hy : okv (.inr (.inl y))) (h0 : 0 ≤ x) (h1 : 0 < y) : Int64.ofInt x / Int64.ofInt y = Int64.ofInt (x / y) := by
  have h2 : 0 ≤ x / y := Int.ediv_nonneg h0 (by omega)
  have h3 : x / y ≤ x := Int.ediv_le_self y h0
  have hz : okv (.inr (.inl (x / y))) := ⟨by have := hx.1; omega, by have := hx.2; omega⟩
  apply Int64.toInt_inj.mp
  rw [Int64.toInt_div, i64_toInt hx, i64_toInt hy, i64_toInt hz, Int.tdiv_eq_ediv_of_nonneg h0, ← Int64.toInt_ofInt]
  exact i64_toInt hz
theorem i32_rem {x y : Int} (hx : okv (.inl x)) (hy : okv (.inl y)) (h0 : 0 ≤ x) (h1 : 0 < y) : Int32.ofInt x - Int32.ofInt x / Int32.ofInt y * Int32.ofInt y = Int32.ofInt (x % y) := by
  rw [i32_div hx hy h0 h1, ← Int32.ofInt_mul, ← Int32.ofInt_sub, Int.emod_def, Int.mul_comm y]
theorem i64_rem {x y : Int} (hx : okv (.inr (.inl x))) (hy : okv (.inr (.inl y))) (h0 : 0 ≤ x) (h1 : 0 < y) : Int64.ofInt x - Int64.ofInt x / Int64.ofInt y * Int64.ofInt y = Int64.ofInt (x % y) := by
  rw [i64_div hx hy h0 h1, ← Int64.ofInt_mul, ← Int64.ofInt_sub, Int.emod_def, Int.mul_comm y]
theorem ok_div {x y : Int} (hx : okv (.inl x)) (h0 : 0 ≤ x) (h1 : 0 < y) : okv (.inl (x / y)) := by
  have h2 : 0 ≤ x / y := Int.ediv_nonneg h0 (by omega)
  have h3 : x / y ≤ x := Int.ediv_le_self y h0
  exact ⟨by have := hx.1; omega, by have := hx.2; omega⟩
theorem okl_div {x y : Int} (hx : okv (.inr (.inl x))) (h0 : 0 ≤ x) (h1 : 0 < y) : okv (.inr (.inl (x / y))) := by
  have h2 : 0 ≤ x / y := Int.ediv_nonneg h0 (by omega)
  have h3 : x / y ≤ x := Int.ediv_le_self y h0
  exact ⟨by have := hx.1; omega, by have := hx.2; omega⟩
theorem ok_rem {x y : Int} (hy : okv (.inl y)) (h1 : 0 < y) : okv (.inl (x % y)) := by
  have h2 : 0 ≤ x % y := Int.emod_nonneg x (by omega)
  have h3 : x % y < y := Int.emod_lt_of_pos x h1
  exact ⟨by omega, by have := hy.2; omega⟩
theorem okl_rem {x y : Int} (hy : okv (.inr (.inl y))) (h1 : 0 < y) : okv (.inr (.inl (x % y))) := by
  have h2 : 0 ≤ x % y := Int.emod_nonneg x (by omega)
  have h3 : x % y < y := Int.emod_lt_of_pos x h1
  exact ⟨by omega, by have := hy.2; omega⟩
theorem i32_ne0 {y : Int} (hy : okv (.inl y)) (h1 : 0 < y) : ¬ Int32.ofInt y = 0 := fun e => by
  have h2 := (i32_eq hy (show okv (.inl 0) from ⟨by omega, by omega⟩)).mp (by rw [e]; rfl)
  omega
theorem i64_ne0 {y : Int} (hy : okv (.inr (.inl y))) (h1 : 0 < y) : ¬ Int64.ofInt y = 0 := fun e => by
  have h2 : (Int64.ofInt y).toInt = 0 := by rw [e]; rfl
  rw [i64_toInt hy] at h2
  omega

theorem s_idiv {M : MI} {pc : Nat} {lv : List (Nat × AV)} {st : List AV} {h : Hp} {Q : Option AV → Hp → Prop} {x y : Int} (hd : decode M.2.1 pc = .ok (.idiv, 1)) (h0 : 0 ≤ x) (h1 : 0 < y) (k : Go M (pc + 1) lv (.inl (x / y) :: st) h Q) : Go M pc lv (.inl y :: .inl x :: st) h Q := by
  refine Go.of k fun r h' S => ?_
  intro base b D cA p l e R s m args below meth c H locs N0 S0 ls Qf C oh rl hn hss hR hl ol os hlo hf
  have K := S base b D cA p l e R s m args below meth c H locs N0 S0 ls Qf C oh rl hn hss hR hl ol (ok_cons (ok_div (ok_hd (ok_tl os)) h0 h1) (ok_tl (ok_tl os))) hlo hf
  rw [List.map_cons, show rv (ga base b) (.inl (x / y)) = .int (Int32.ofInt x / Int32.ofInt y) from congrArg Value.int (i32_div (ok_hd (ok_tl os)) (ok_hd os) h0 h1).symm] at K
  exact lv_idiv C.1 C.2.1 hd (i32_ne0 (ok_hd os) h1) K
theorem s_irem {M : MI} {pc : Nat} {lv : List (Nat × AV)} {st : List AV} {h : Hp} {Q : Option AV → Hp → Prop} {x y : Int} (hd : decode M.2.1 pc = .ok (.irem, 1)) (h0 : 0 ≤ x) (h1 : 0 < y) (k : Go M (pc + 1) lv (.inl (x % y) :: st) h Q) : Go M pc lv (.inl y :: .inl x :: st) h Q := by
  refine Go.of k fun r h' S => ?_
  intro base b D cA p l e R s m args below meth c H locs N0 S0 ls Qf C oh rl hn hss hR hl ol os hlo hf
  have K := S base b D cA p l e R s m args below meth c H locs N0 S0 ls Qf C oh rl hn hss hR hl ol (ok_cons (ok_rem (ok_hd os) h1) (ok_tl (ok_tl os))) hlo hf
  rw [List.map_cons, show rv (ga base b) (.inl (x % y)) = .int (Int32.ofInt x - Int32.ofInt x / Int32.ofInt y * Int32.ofInt y) from congrArg Value.int (i32_rem (ok_hd (ok_tl os)) (ok_hd os) h0 h1).symm] at K
  exact lv_irem C.1 C.2.1 hd (i32_ne0 (ok_hd os) h1) K
theorem s_ldiv {M : MI} {pc : Nat} {lv : List (Nat × AV)} {st : List AV} {h : Hp} {Q : Option AV → Hp → Prop} {x y : Int} (hd : decode M.2.1 pc = .ok (.ldiv, 1)) (h0 : 0 ≤ x) (h1 : 0 < y) (k : Go M (pc + 1) lv (.inr (.inl (x / y)) :: st) h Q) : Go M pc lv (.inr (.inl y) :: .inr (.inl x) :: st) h Q := by
  refine Go.of k fun r h' S => ?_
  intro base b D cA p l e R s m args below meth c H locs N0 S0 ls Qf C oh rl hn hss hR hl ol os hlo hf
  have K := S base b D cA p l e R s m args below meth c H locs N0 S0 ls Qf C oh rl hn hss hR hl ol (ok_cons (okl_div (ok_hd (ok_tl os)) h0 h1) (ok_tl (ok_tl os))) hlo hf
  rw [List.map_cons, show rv (ga base b) (.inr (.inl (x / y))) = .long (Int64.ofInt x / Int64.ofInt y) from congrArg Value.long (i64_div (ok_hd (ok_tl os)) (ok_hd os) h0 h1).symm] at K
  exact lv_ldiv C.1 C.2.1 hd (i64_ne0 (ok_hd os) h1) K
theorem s_lrem {M : MI} {pc : Nat} {lv : List (Nat × AV)} {st : List AV} {h : Hp} {Q : Option AV → Hp → Prop} {x y : Int} (hd : decode M.2.1 pc = .ok (.lrem, 1)) (h0 : 0 ≤ x) (h1 : 0 < y) (k : Go M (pc + 1) lv (.inr (.inl (x % y)) :: st) h Q) : Go M pc lv (.inr (.inl y) :: .inr (.inl x) :: st) h Q := by
  refine Go.of k fun r h' S => ?_
  intro base b D cA p l e R s m args below meth c H locs N0 S0 ls Qf C oh rl hn hss hR hl ol os hlo hf
  have K := S base b D cA p l e R s m args below meth c H locs N0 S0 ls Qf C oh rl hn hss hR hl ol (ok_cons (okl_rem (ok_hd os) h1) (ok_tl (ok_tl os))) hlo hf
  rw [List.map_cons, show rv (ga base b) (.inr (.inl (x % y))) = .long (Int64.ofInt x - Int64.ofInt x / Int64.ofInt y * Int64.ofInt y) from congrArg Value.long (i64_rem (ok_hd (ok_tl os)) (ok_hd os) h0 h1).symm] at K
  exact lv_lrem C.1 C.2.1 hd (i64_ne0 (ok_hd os) h1) K
def zAnd (x y : Int) : Int := (Int32.ofInt x &&& Int32.ofInt y).toInt
def zOr (x y : Int) : Int := (Int32.ofInt x ||| Int32.ofInt y).toInt
def zShl (x y : Int) : Int := (Int32.ofInt x <<< (Int32.ofInt y &&& 31)).toInt
def zShr (x y : Int) : Int := (Int32.ofInt x >>> (Int32.ofInt y &&& 31)).toInt
def zUshr (x y : Int) : Int := (((Int32.ofInt x).toUInt32 >>> ((Int32.ofInt y).toUInt32 &&& Int32.toUInt32 31)).toInt32).toInt
def zLand (x y : Int) : Int := (Int64.ofInt x &&& Int64.ofInt y).toInt
def zCmp (x y : Int) : Int := if y < x then 1 else if x = y then 0 else -1
theorem i64_range (x : Int64) : okv (.inr (.inl x.toInt)) := by
  have h1 := Int64.le_toInt x
  have h2 := Int64.toInt_lt x
  exact ⟨by omega, by omega⟩

theorem s_iand {M : MI} {pc : Nat} {lv : List (Nat × AV)} {st : List AV} {h : Hp} {Q : Option AV → Hp → Prop} {x y : Int} (hd : decode M.2.1 pc = .ok (.iand, 1)) (k : Go M (pc + 1) lv (.inl (zAnd x y) :: st) h Q) : Go M pc lv (.inl y :: .inl x :: st) h Q := by
  refine Go.of k fun r h' S => ?_
  intro base b D cA p l e R s m args below meth c H locs N0 S0 ls Qf C oh rl hn hss hR hl ol os hlo hf
  have K := S base b D cA p l e R s m args below meth c H locs N0 S0 ls Qf C oh rl hn hss hR hl ol (ok_cons (i32_range _) (ok_tl (ok_tl os))) hlo hf
  rw [List.map_cons, show rv (ga base b) (.inl (zAnd x y)) = .int (Int32.ofInt x &&& Int32.ofInt y) from congrArg Value.int (i32_of _)] at K
  exact lv_iand C.1 C.2.1 hd K
theorem s_ior {M : MI} {pc : Nat} {lv : List (Nat × AV)} {st : List AV} {h : Hp} {Q : Option AV → Hp → Prop} {x y : Int} (hd : decode M.2.1 pc = .ok (.ior, 1)) (k : Go M (pc + 1) lv (.inl (zOr x y) :: st) h Q) : Go M pc lv (.inl y :: .inl x :: st) h Q := by
  refine Go.of k fun r h' S => ?_
  intro base b D cA p l e R s m args below meth c H locs N0 S0 ls Qf C oh rl hn hss hR hl ol os hlo hf
  have K := S base b D cA p l e R s m args below meth c H locs N0 S0 ls Qf C oh rl hn hss hR hl ol (ok_cons (i32_range _) (ok_tl (ok_tl os))) hlo hf
  rw [List.map_cons, show rv (ga base b) (.inl (zOr x y)) = .int (Int32.ofInt x ||| Int32.ofInt y) from congrArg Value.int (i32_of _)] at K
  exact lv_ior C.1 C.2.1 hd K
theorem s_ishl {M : MI} {pc : Nat} {lv : List (Nat × AV)} {st : List AV} {h : Hp} {Q : Option AV → Hp → Prop} {x y : Int} (hd : decode M.2.1 pc = .ok (.ishl, 1)) (k : Go M (pc + 1) lv (.inl (zShl x y) :: st) h Q) : Go M pc lv (.inl y :: .inl x :: st) h Q := by
  refine Go.of k fun r h' S => ?_
  intro base b D cA p l e R s m args below meth c H locs N0 S0 ls Qf C oh rl hn hss hR hl ol os hlo hf
  have K := S base b D cA p l e R s m args below meth c H locs N0 S0 ls Qf C oh rl hn hss hR hl ol (ok_cons (i32_range _) (ok_tl (ok_tl os))) hlo hf
  rw [List.map_cons, show rv (ga base b) (.inl (zShl x y)) = .int (Int32.ofInt x <<< (Int32.ofInt y &&& 31)) from congrArg Value.int (i32_of _)] at K
  exact lv_ishl C.1 C.2.1 hd K
theorem s_ishr {M : MI} {pc : Nat} {lv : List (Nat × AV)} {st : List AV} {h : Hp} {Q : Option AV → Hp → Prop} {x y : Int} (hd : decode M.2.1 pc = .ok (.ishr, 1)) (k : Go M (pc + 1) lv (.inl (zShr x y) :: st) h Q) : Go M pc lv (.inl y :: .inl x :: st) h Q := by
  refine Go.of k fun r h' S => ?_
  intro base b D cA p l e R s m args below meth c H locs N0 S0 ls Qf C oh rl hn hss hR hl ol os hlo hf
  have K := S base b D cA p l e R s m args below meth c H locs N0 S0 ls Qf C oh rl hn hss hR hl ol (ok_cons (i32_range _) (ok_tl (ok_tl os))) hlo hf
  rw [List.map_cons, show rv (ga base b) (.inl (zShr x y)) = .int (Int32.ofInt x >>> (Int32.ofInt y &&& 31)) from congrArg Value.int (i32_of _)] at K
  exact lv_ishr C.1 C.2.1 hd K
theorem s_iushr {M : MI} {pc : Nat} {lv : List (Nat × AV)} {st : List AV} {h : Hp} {Q : Option AV → Hp → Prop} {x y : Int} (hd : decode M.2.1 pc = .ok (.iushr, 1)) (k : Go M (pc + 1) lv (.inl (zUshr x y) :: st) h Q) : Go M pc lv (.inl y :: .inl x :: st) h Q := by
  refine Go.of k fun r h' S => ?_
  intro base b D cA p l e R s m args below meth c H locs N0 S0 ls Qf C oh rl hn hss hR hl ol os hlo hf
  have K := S base b D cA p l e R s m args below meth c H locs N0 S0 ls Qf C oh rl hn hss hR hl ol (ok_cons (i32_range _) (ok_tl (ok_tl os))) hlo hf
  rw [List.map_cons, show rv (ga base b) (.inl (zUshr x y)) = .int (((Int32.ofInt x).toUInt32 >>> ((Int32.ofInt y).toUInt32 &&& Int32.toUInt32 31)).toInt32) from congrArg Value.int (i32_of _)] at K
  exact lv_iushr C.1 C.2.1 hd rfl K
theorem s_land {M : MI} {pc : Nat} {lv : List (Nat × AV)} {st : List AV} {h : Hp} {Q : Option AV → Hp → Prop} {x y : Int} (hd : decode M.2.1 pc = .ok (.land, 1)) (k : Go M (pc + 1) lv (.inr (.inl (zLand x y)) :: st) h Q) : Go M pc lv (.inr (.inl y) :: .inr (.inl x) :: st) h Q := by
  refine Go.of k fun r h' S => ?_
  intro base b D cA p l e R s m args below meth c H locs N0 S0 ls Qf C oh rl hn hss hR hl ol os hlo hf
  have K := S base b D cA p l e R s m args below meth c H locs N0 S0 ls Qf C oh rl hn hss hR hl ol (ok_cons (i64_range _) (ok_tl (ok_tl os))) hlo hf
  rw [List.map_cons, show rv (ga base b) (.inr (.inl (zLand x y))) = .long (Int64.ofInt x &&& Int64.ofInt y) from congrArg Value.long (Int64.ofInt_toInt _)] at K
  exact lv_land C.1 C.2.1 hd K
theorem zCmp_ok (x y : Int) : okv (.inl (zCmp x y)) := by
  unfold zCmp
  split
  · exact ⟨by omega, by omega⟩
  · split <;> exact ⟨by omega, by omega⟩
theorem lg_zCmp {x y : Int} (hx : okv (.inr (.inl x))) (hy : okv (.inr (.inl y))) : lg_cmp (Int64.ofInt x) (Int64.ofInt y) = Int32.ofInt (zCmp x y) := by
  unfold lg_cmp zCmp
  have e1 : Int64.ofInt x > Int64.ofInt y ↔ y < x := by
    show Int64.ofInt y < Int64.ofInt x ↔ _
    rw [Int64.lt_iff_toInt_lt, i64_toInt hx, i64_toInt hy]
  have e2 : Int64.ofInt x = Int64.ofInt y ↔ x = y := by
    constructor
    · intro e; rw [← i64_toInt hx, ← i64_toInt hy, e]
    · intro e; rw [e]
  by_cases h1 : y < x
  · rw [if_pos (e1.mpr h1), if_pos h1]; rfl
  · rw [if_neg (fun z => h1 (e1.mp z)), if_neg h1]
    by_cases h2 : x = y
    · rw [if_pos (e2.mpr h2), if_pos h2]; rfl
    · rw [if_neg (fun z => h2 (e2.mp z)), if_neg h2]; rfl

theorem s_lcmp {M : MI} {pc : Nat} {lv : List (Nat × AV)} {st : List AV} {h : Hp} {Q : Option AV → Hp → Prop} {x y : Int} (hd : decode M.2.1 pc = .ok (.lcmp, 1)) (k : Go M (pc + 1) lv (.inl (zCmp x y) :: st) h Q) : Go M pc lv (.inr (.inl y) :: .inr (.inl x) :: st) h Q := by
  refine Go.of k fun r h' S => ?_
  intro base b D cA p l e R s m args below meth c H locs N0 S0 ls Qf C oh rl hn hss hR hl ol os hlo hf
  have K := S base b D cA p l e R s m args below meth c H locs N0 S0 ls Qf C oh rl hn hss hR hl ol (ok_cons (zCmp_ok x y) (ok_tl (ok_tl os))) hlo hf
  rw [List.map_cons, show rv (ga base b) (.inl (zCmp x y)) = .int (lg_cmp (Int64.ofInt x) (Int64.ofInt y)) from congrArg Value.int (lg_zCmp (ok_hd (ok_tl os)) (ok_hd os)).symm] at K
  exact W.lcmp C.1 C.2.1 hd K
theorem i2l_eq {x : Int} (hx : okv (.inl x)) : (Int32.ofInt x).toInt64 = Int64.ofInt x := by
  apply Int64.toInt_inj.mp
  rw [Int32.toInt_toInt64, i32_toInt hx, i64_toInt ⟨by have := hx.1; omega, by have := hx.2; omega⟩]
theorem l2i_eq {x : Int} (hx : okv (.inl x)) : (Int64.ofInt x).toInt32 = Int32.ofInt x := by
  have hy : okv (.inr (.inl x)) := ⟨by have := hx.1; omega, by have := hx.2; omega⟩
  apply Int32.toInt_inj.mp
  rw [Int64.toInt_toInt32, i64_toInt hy, ← Int32.toInt_ofInt]
theorem i2b_eq {x : Int} (hx : -128 ≤ x ∧ x ≤ 127) : (Int32.ofInt x).toInt8.toInt32 = Int32.ofInt x := by
  have hy : okv (.inl x) := ⟨by omega, by omega⟩
  apply Int32.toInt_inj.mp
  rw [Int8.toInt_toInt32, Int32.toInt_toInt8, i32_toInt hy]
  exact Int.bmod_eq_of_le (by omega) (by omega)
theorem i2c_eq {x : Int} (hx : 0 ≤ x ∧ x ≤ 65535) : ((Int32.ofInt x).toUInt32 % 65536).toInt32 = Int32.ofInt x := by
  obtain ⟨n, rfl⟩ := Int.eq_ofNat_of_zero_le hx.1
  have h1 : Int32.ofInt (n : Int) = nI n := by
    show Int32.ofInt (n : Int) = Int32.ofNat n
    exact Int32.ofInt_eq_ofNat
  rw [h1, pk_char, pk_tn (by omega)]
  congr 1
  omega

theorem s_i2l {M : MI} {pc : Nat} {lv : List (Nat × AV)} {st : List AV} {h : Hp} {Q : Option AV → Hp → Prop} {x : Int} (hd : decode M.2.1 pc = .ok (.i2l, 1)) (k : Go M (pc + 1) lv (.inr (.inl x) :: st) h Q) : Go M pc lv (.inl x :: st) h Q := by
  refine Go.of k fun r h' S => ?_
  intro base b D cA p l e R s m args below meth c H locs N0 S0 ls Qf C oh rl hn hss hR hl ol os hlo hf
  exact lv_i2l C.1 C.2.1 hd (i2l_eq (ok_hd os)) (S base b D cA p l e R s m args below meth c H locs N0 S0 ls Qf C oh rl hn hss hR hl ol (ok_cons ⟨by have := (ok_hd os).1; omega, by have := (ok_hd os).2; omega⟩ (ok_tl os)) hlo hf)
theorem s_l2i {M : MI} {pc : Nat} {lv : List (Nat × AV)} {st : List AV} {h : Hp} {Q : Option AV → Hp → Prop} {x : Int} (hd : decode M.2.1 pc = .ok (.l2i, 1)) (ho : okv (.inl x)) (k : Go M (pc + 1) lv (.inl x :: st) h Q) : Go M pc lv (.inr (.inl x) :: st) h Q := by
  refine Go.of k fun r h' S => ?_
  intro base b D cA p l e R s m args below meth c H locs N0 S0 ls Qf C oh rl hn hss hR hl ol os hlo hf
  exact lv_l2i C.1 C.2.1 hd (l2i_eq ho) (S base b D cA p l e R s m args below meth c H locs N0 S0 ls Qf C oh rl hn hss hR hl ol (ok_cons ho (ok_tl os)) hlo hf)
theorem s_i2b {M : MI} {pc : Nat} {lv : List (Nat × AV)} {st : List AV} {h : Hp} {Q : Option AV → Hp → Prop} {x : Int} (hd : decode M.2.1 pc = .ok (.i2b, 1)) (ho : -128 ≤ x ∧ x ≤ 127) (k : Go M (pc + 1) lv (.inl x :: st) h Q) : Go M pc lv (.inl x :: st) h Q := by
  refine Go.of k fun r h' S => ?_
  intro base b D cA p l e R s m args below meth c H locs N0 S0 ls Qf C oh rl hn hss hR hl ol os hlo hf
  exact lv_i2b C.1 C.2.1 hd (i2b_eq ho) (S base b D cA p l e R s m args below meth c H locs N0 S0 ls Qf C oh rl hn hss hR hl ol (ok_cons (ok_hd os) (ok_tl os)) hlo hf)
theorem s_i2c {M : MI} {pc : Nat} {lv : List (Nat × AV)} {st : List AV} {h : Hp} {Q : Option AV → Hp → Prop} {x : Int} (hd : decode M.2.1 pc = .ok (.i2c, 1)) (ho : 0 ≤ x ∧ x ≤ 65535) (k : Go M (pc + 1) lv (.inl x :: st) h Q) : Go M pc lv (.inl x :: st) h Q := by
  refine Go.of k fun r h' S => ?_
  intro base b D cA p l e R s m args below meth c H locs N0 S0 ls Qf C oh rl hn hss hR hl ol os hlo hf
  exact lv_i2c C.1 C.2.1 hd (i2c_eq ho) (S base b D cA p l e R s m args below meth c H locs N0 S0 ls Qf C oh rl hn hss hR hl ol (ok_cons (ok_hd os) (ok_tl os)) hlo hf)
theorem s_dup {M : MI} {pc : Nat} {lv : List (Nat × AV)} {st : List AV} {h : Hp} {Q : Option AV → Hp → Prop} {v : AV} (hd : decode M.2.1 pc = .ok (.dup, 1)) (hc : cat v = 1) (k : Go M (pc + 1) lv (v :: v :: st) h Q) : Go M pc lv (v :: st) h Q := by
  refine Go.of k fun r h' S => ?_
  intro base b D cA p l e R s m args below meth c H locs N0 S0 ls Qf C oh rl hn hss hR hl ol os hlo hf
  exact lv_dup C.1 C.2.1 hd ((cat_rv _ v).trans hc) (S base b D cA p l e R s m args below meth c H locs N0 S0 ls Qf C oh rl hn hss hR hl ol (ok_cons (ok_hd os) os) hlo hf)
theorem s_pop {M : MI} {pc : Nat} {lv : List (Nat × AV)} {st : List AV} {h : Hp} {Q : Option AV → Hp → Prop} {v : AV} (hd : decode M.2.1 pc = .ok (.pop, 1)) (hc : cat v = 1) (k : Go M (pc + 1) lv (st) h Q) : Go M pc lv (v :: st) h Q := by
  refine Go.of k fun r h' S => ?_
  intro base b D cA p l e R s m args below meth c H locs N0 S0 ls Qf C oh rl hn hss hR hl ol os hlo hf
  exact lv_pop C.1 C.2.1 hd ((cat_rv _ v).trans hc) (S base b D cA p l e R s m args below meth c H locs N0 S0 ls Qf C oh rl hn hss hR hl ol (ok_tl os) hlo hf)
theorem s_dup2 {M : MI} {pc : Nat} {lv : List (Nat × AV)} {st : List AV} {h : Hp} {Q : Option AV → Hp → Prop} {v w : AV} (hd : decode M.2.1 pc = .ok (.dup2, 1)) (hc : cat v = 1) (hc2 : cat w = 1) (k : Go M (pc + 1) lv (v :: w :: v :: w :: st) h Q) : Go M pc lv (v :: w :: st) h Q := by
  refine Go.of k fun r h' S => ?_
  intro base b D cA p l e R s m args below meth c H locs N0 S0 ls Qf C oh rl hn hss hR hl ol os hlo hf
  exact lv_dup2_11 C.1 C.2.1 hd ((cat_rv _ v).trans hc) ((cat_rv _ w).trans hc2) (S base b D cA p l e R s m args below meth c H locs N0 S0 ls Qf C oh rl hn hss hR hl ol (ok_cons (ok_hd os) (ok_cons (ok_hd (ok_tl os)) os)) hlo hf)
theorem s_goto {M : MI} {pc : Nat} {lv : List (Nat × AV)} {st : List AV} {h : Hp} {Q : Option AV → Hp → Prop} {off : Int} {tgt : Nat} (hd : decode M.2.1 pc = .ok (.goto off, 3)) (ht : (pc : Int) + off = (tgt : Int)) (k : Go M tgt lv (st) h Q) : Go M pc lv (st) h Q := by
  refine Go.of k fun r h' S => ?_
  intro base b D cA p l e R s m args below meth c H locs N0 S0 ls Qf C oh rl hn hss hR hl ol os hlo hf
  exact lv_goto C.1 C.2.1 hd ht (S base b D cA p l e R s m args below meth c H locs N0 S0 ls Qf C oh rl hn hss hR hl ol os hlo hf)
theorem s_icmp_eq {M : MI} {pc : Nat} {lv : List (Nat × AV)} {st : List AV} {h : Hp} {Q : Option AV → Hp → Prop} {x y : Int} {off : Int} {tgt : Nat} (hd : decode M.2.1 pc = .ok (.if_icmp .eq off, 3)) (ht : (pc : Int) + off = (tgt : Int)) (kt : x = y → Go M tgt lv st h Q) (kf : ¬ x = y → Go M (pc + 3) lv st h Q) : Go M pc lv (.inl y :: .inl x :: st) h Q := by
  by_cases hz : x = y
  · refine Go.of (kt hz) fun r h' S => ?_
    intro base b D cA p l e R s m args below meth c H locs N0 S0 ls Qf C oh rl hn hss hR hl ol os hlo hf
    have hi : Int32.ofInt x = Int32.ofInt y ↔ x = y := i32_eq (ok_hd (ok_tl os)) (ok_hd os)
    exact lv_icmp_eq C.1 C.2.1 hd ht (fun _ => (S base b D cA p l e R s m args below meth c H locs N0 S0 ls Qf C oh rl hn hss hR hl ol (ok_tl (ok_tl os)) hlo hf)) (fun n => absurd (hi.mpr hz) n)
  · refine Go.of (kf hz) fun r h' S => ?_
    intro base b D cA p l e R s m args below meth c H locs N0 S0 ls Qf C oh rl hn hss hR hl ol os hlo hf
    have hi : Int32.ofInt x = Int32.ofInt y ↔ x = y := i32_eq (ok_hd (ok_tl os)) (ok_hd os)
    exact lv_icmp_eq C.1 C.2.1 hd ht (fun n => absurd (hi.mp n) hz) (fun _ => (S base b D cA p l e R s m args below meth c H locs N0 S0 ls Qf C oh rl hn hss hR hl ol (ok_tl (ok_tl os)) hlo hf))
theorem s_icmp_ne {M : MI} {pc : Nat} {lv : List (Nat × AV)} {st : List AV} {h : Hp} {Q : Option AV → Hp → Prop} {x y : Int} {off : Int} {tgt : Nat} (hd : decode M.2.1 pc = .ok (.if_icmp .ne off, 3)) (ht : (pc : Int) + off = (tgt : Int)) (kt : x ≠ y → Go M tgt lv st h Q) (kf : x = y → Go M (pc + 3) lv st h Q) : Go M pc lv (.inl y :: .inl x :: st) h Q := by
  by_cases hz : x ≠ y
  · refine Go.of (kt hz) fun r h' S => ?_
    intro base b D cA p l e R s m args below meth c H locs N0 S0 ls Qf C oh rl hn hss hR hl ol os hlo hf
    have hi : Int32.ofInt x ≠ Int32.ofInt y ↔ x ≠ y := not_congr (i32_eq (ok_hd (ok_tl os)) (ok_hd os))
    exact lv_icmp_ne C.1 C.2.1 hd ht (fun _ => (S base b D cA p l e R s m args below meth c H locs N0 S0 ls Qf C oh rl hn hss hR hl ol (ok_tl (ok_tl os)) hlo hf)) (fun n => absurd n (hi.mpr hz))
  · refine Go.of (kf (Decidable.of_not_not hz)) fun r h' S => ?_
    intro base b D cA p l e R s m args below meth c H locs N0 S0 ls Qf C oh rl hn hss hR hl ol os hlo hf
    have hi : Int32.ofInt x ≠ Int32.ofInt y ↔ x ≠ y := not_congr (i32_eq (ok_hd (ok_tl os)) (ok_hd os))
    exact lv_icmp_ne C.1 C.2.1 hd ht (fun n => absurd (hi.mp n) hz) (fun _ => (S base b D cA p l e R s m args below meth c H locs N0 S0 ls Qf C oh rl hn hss hR hl ol (ok_tl (ok_tl os)) hlo hf))
theorem s_icmp_lt {M : MI} {pc : Nat} {lv : List (Nat × AV)} {st : List AV} {h : Hp} {Q : Option AV → Hp → Prop} {x y : Int} {off : Int} {tgt : Nat} (hd : decode M.2.1 pc = .ok (.if_icmp .lt off, 3)) (ht : (pc : Int) + off = (tgt : Int)) (kt : x < y → Go M tgt lv st h Q) (kf : ¬ x < y → Go M (pc + 3) lv st h Q) : Go M pc lv (.inl y :: .inl x :: st) h Q := by
  by_cases hz : x < y
  · refine Go.of (kt hz) fun r h' S => ?_
    intro base b D cA p l e R s m args below meth c H locs N0 S0 ls Qf C oh rl hn hss hR hl ol os hlo hf
    have hi : Int32.ofInt x < Int32.ofInt y ↔ x < y := i32_lt (ok_hd (ok_tl os)) (ok_hd os)
    exact lv_icmp_lt C.1 C.2.1 hd ht (fun _ => (S base b D cA p l e R s m args below meth c H locs N0 S0 ls Qf C oh rl hn hss hR hl ol (ok_tl (ok_tl os)) hlo hf)) (fun n => absurd (hi.mpr hz) n)
  · refine Go.of (kf hz) fun r h' S => ?_
    intro base b D cA p l e R s m args below meth c H locs N0 S0 ls Qf C oh rl hn hss hR hl ol os hlo hf
    have hi : Int32.ofInt x < Int32.ofInt y ↔ x < y := i32_lt (ok_hd (ok_tl os)) (ok_hd os)
    exact lv_icmp_lt C.1 C.2.1 hd ht (fun n => absurd (hi.mp n) hz) (fun _ => (S base b D cA p l e R s m args below meth c H locs N0 S0 ls Qf C oh rl hn hss hR hl ol (ok_tl (ok_tl os)) hlo hf))
theorem s_icmp_ge {M : MI} {pc : Nat} {lv : List (Nat × AV)} {st : List AV} {h : Hp} {Q : Option AV → Hp → Prop} {x y : Int} {off : Int} {tgt : Nat} (hd : decode M.2.1 pc = .ok (.if_icmp .ge off, 3)) (ht : (pc : Int) + off = (tgt : Int)) (kt : y ≤ x → Go M tgt lv st h Q) (kf : ¬ y ≤ x → Go M (pc + 3) lv st h Q) : Go M pc lv (.inl y :: .inl x :: st) h Q := by
  by_cases hz : y ≤ x
  · refine Go.of (kt hz) fun r h' S => ?_
    intro base b D cA p l e R s m args below meth c H locs N0 S0 ls Qf C oh rl hn hss hR hl ol os hlo hf
    have hi : Int32.ofInt y ≤ Int32.ofInt x ↔ y ≤ x := i32_le (ok_hd os) (ok_hd (ok_tl os))
    exact lv_icmp_ge C.1 C.2.1 hd ht (fun _ => (S base b D cA p l e R s m args below meth c H locs N0 S0 ls Qf C oh rl hn hss hR hl ol (ok_tl (ok_tl os)) hlo hf)) (fun n => absurd (hi.mpr hz) n)
  · refine Go.of (kf hz) fun r h' S => ?_
    intro base b D cA p l e R s m args below meth c H locs N0 S0 ls Qf C oh rl hn hss hR hl ol os hlo hf
    have hi : Int32.ofInt y ≤ Int32.ofInt x ↔ y ≤ x := i32_le (ok_hd os) (ok_hd (ok_tl os))
    exact lv_icmp_ge C.1 C.2.1 hd ht (fun n => absurd (hi.mp n) hz) (fun _ => (S base b D cA p l e R s m args below meth c H locs N0 S0 ls Qf C oh rl hn hss hR hl ol (ok_tl (ok_tl os)) hlo hf))
theorem s_icmp_gt {M : MI} {pc : Nat} {lv : List (Nat × AV)} {st : List AV} {h : Hp} {Q : Option AV → Hp → Prop} {x y : Int} {off : Int} {tgt : Nat} (hd : decode M.2.1 pc = .ok (.if_icmp .gt off, 3)) (ht : (pc : Int) + off = (tgt : Int)) (kt : y < x → Go M tgt lv st h Q) (kf : ¬ y < x → Go M (pc + 3) lv st h Q) : Go M pc lv (.inl y :: .inl x :: st) h Q := by
  by_cases hz : y < x
  · refine Go.of (kt hz) fun r h' S => ?_
    intro base b D cA p l e R s m args below meth c H locs N0 S0 ls Qf C oh rl hn hss hR hl ol os hlo hf
    have hi : Int32.ofInt y < Int32.ofInt x ↔ y < x := i32_lt (ok_hd os) (ok_hd (ok_tl os))
    exact lv_icmp_gt C.1 C.2.1 hd ht (fun _ => (S base b D cA p l e R s m args below meth c H locs N0 S0 ls Qf C oh rl hn hss hR hl ol (ok_tl (ok_tl os)) hlo hf)) (fun n => absurd (hi.mpr hz) n)
  · refine Go.of (kf hz) fun r h' S => ?_
    intro base b D cA p l e R s m args below meth c H locs N0 S0 ls Qf C oh rl hn hss hR hl ol os hlo hf
    have hi : Int32.ofInt y < Int32.ofInt x ↔ y < x := i32_lt (ok_hd os) (ok_hd (ok_tl os))
    exact lv_icmp_gt C.1 C.2.1 hd ht (fun n => absurd (hi.mp n) hz) (fun _ => (S base b D cA p l e R s m args below meth c H locs N0 S0 ls Qf C oh rl hn hss hR hl ol (ok_tl (ok_tl os)) hlo hf))
theorem s_icmp_le {M : MI} {pc : Nat} {lv : List (Nat × AV)} {st : List AV} {h : Hp} {Q : Option AV → Hp → Prop} {x y : Int} {off : Int} {tgt : Nat} (hd : decode M.2.1 pc = .ok (.if_icmp .le off, 3)) (ht : (pc : Int) + off = (tgt : Int)) (kt : x ≤ y → Go M tgt lv st h Q) (kf : ¬ x ≤ y → Go M (pc + 3) lv st h Q) : Go M pc lv (.inl y :: .inl x :: st) h Q := by
  by_cases hz : x ≤ y
  · refine Go.of (kt hz) fun r h' S => ?_
    intro base b D cA p l e R s m args below meth c H locs N0 S0 ls Qf C oh rl hn hss hR hl ol os hlo hf
    have hi : Int32.ofInt x ≤ Int32.ofInt y ↔ x ≤ y := i32_le (ok_hd (ok_tl os)) (ok_hd os)
    exact lv_icmp_le C.1 C.2.1 hd ht (fun _ => (S base b D cA p l e R s m args below meth c H locs N0 S0 ls Qf C oh rl hn hss hR hl ol (ok_tl (ok_tl os)) hlo hf)) (fun n => absurd (hi.mpr hz) n)
  · refine Go.of (kf hz) fun r h' S => ?_
    intro base b D cA p l e R s m args below meth c H locs N0 S0 ls Qf C oh rl hn hss hR hl ol os hlo hf
    have hi : Int32.ofInt x ≤ Int32.ofInt y ↔ x ≤ y := i32_le (ok_hd (ok_tl os)) (ok_hd os)
    exact lv_icmp_le C.1 C.2.1 hd ht (fun n => absurd (hi.mp n) hz) (fun _ => (S base b D cA p l e R s m args below meth c H locs N0 S0 ls Qf C oh rl hn hss hR hl ol (ok_tl (ok_tl os)) hlo hf))
theorem s_if_eq {M : MI} {pc : Nat} {lv : List (Nat × AV)} {st : List AV} {h : Hp} {Q : Option AV → Hp → Prop} {x : Int} {off : Int} {tgt : Nat} (hd : decode M.2.1 pc = .ok (.ifCond .eq off, 3)) (ht : (pc : Int) + off = (tgt : Int)) (kt : x = 0 → Go M tgt lv st h Q) (kf : ¬ x = 0 → Go M (pc + 3) lv st h Q) : Go M pc lv (.inl x :: st) h Q := by
  by_cases hz : x = 0
  · refine Go.of (kt hz) fun r h' S => ?_
    intro base b D cA p l e R s m args below meth c H locs N0 S0 ls Qf C oh rl hn hss hR hl ol os hlo hf
    have hi : Int32.ofInt x = 0 ↔ x = 0 := i32_eq (ok_hd os) (show okv (.inl 0) from ⟨by omega, by omega⟩)
    exact lv_if_eq C.1 C.2.1 hd ht (fun _ => (S base b D cA p l e R s m args below meth c H locs N0 S0 ls Qf C oh rl hn hss hR hl ol (ok_tl os) hlo hf)) (fun n => absurd (hi.mpr hz) n)
  · refine Go.of (kf hz) fun r h' S => ?_
    intro base b D cA p l e R s m args below meth c H locs N0 S0 ls Qf C oh rl hn hss hR hl ol os hlo hf
    have hi : Int32.ofInt x = 0 ↔ x = 0 := i32_eq (ok_hd os) (show okv (.inl 0) from ⟨by omega, by omega⟩)
    exact lv_if_eq C.1 C.2.1 hd ht (fun n => absurd (hi.mp n) hz) (fun _ => (S base b D cA p l e R s m args below meth c H locs N0 S0 ls Qf C oh rl hn hss hR hl ol (ok_tl os) hlo hf))
theorem s_if_ne {M : MI} {pc : Nat} {lv : List (Nat × AV)} {st : List AV} {h : Hp} {Q : Option AV → Hp → Prop} {x : Int} {off : Int} {tgt : Nat} (hd : decode M.2.1 pc = .ok (.ifCond .ne off, 3)) (ht : (pc : Int) + off = (tgt : Int)) (kt : x ≠ 0 → Go M tgt lv st h Q) (kf : x = 0 → Go M (pc + 3) lv st h Q) : Go M pc lv (.inl x :: st) h Q := by
  by_cases hz : x ≠ 0
  · refine Go.of (kt hz) fun r h' S => ?_
    intro base b D cA p l e R s m args below meth c H locs N0 S0 ls Qf C oh rl hn hss hR hl ol os hlo hf
    have hi : Int32.ofInt x ≠ 0 ↔ x ≠ 0 := not_congr (i32_eq (ok_hd os) (show okv (.inl 0) from ⟨by omega, by omega⟩))
    exact lv_if_ne C.1 C.2.1 hd ht (fun _ => (S base b D cA p l e R s m args below meth c H locs N0 S0 ls Qf C oh rl hn hss hR hl ol (ok_tl os) hlo hf)) (fun n => absurd n (hi.mpr hz))
  · refine Go.of (kf (Decidable.of_not_not hz)) fun r h' S => ?_
    intro base b D cA p l e R s m args below meth c H locs N0 S0 ls Qf C oh rl hn hss hR hl ol os hlo hf
    have hi : Int32.ofInt x ≠ 0 ↔ x ≠ 0 := not_congr (i32_eq (ok_hd os) (show okv (.inl 0) from ⟨by omega, by omega⟩))
    exact lv_if_ne C.1 C.2.1 hd ht (fun n => absurd (hi.mp n) hz) (fun _ => (S base b D cA p l e R s m args below meth c H locs N0 S0 ls Qf C oh rl hn hss hR hl ol (ok_tl os) hlo hf))
theorem s_if_lt {M : MI} {pc : Nat} {lv : List (Nat × AV)} {st : List AV} {h : Hp} {Q : Option AV → Hp → Prop} {x : Int} {off : Int} {tgt : Nat} (hd : decode M.2.1 pc = .ok (.ifCond .lt off, 3)) (ht : (pc : Int) + off = (tgt : Int)) (kt : x < 0 → Go M tgt lv st h Q) (kf : ¬ x < 0 → Go M (pc + 3) lv st h Q) : Go M pc lv (.inl x :: st) h Q := by
  by_cases hz : x < 0
  · refine Go.of (kt hz) fun r h' S => ?_
    intro base b D cA p l e R s m args below meth c H locs N0 S0 ls Qf C oh rl hn hss hR hl ol os hlo hf
    have hi : Int32.ofInt x < 0 ↔ x < 0 := i32_lt (ok_hd os) (show okv (.inl 0) from ⟨by omega, by omega⟩)
    exact lv_if_lt C.1 C.2.1 hd ht (fun _ => (S base b D cA p l e R s m args below meth c H locs N0 S0 ls Qf C oh rl hn hss hR hl ol (ok_tl os) hlo hf)) (fun n => absurd (hi.mpr hz) n)
  · refine Go.of (kf hz) fun r h' S => ?_
    intro base b D cA p l e R s m args below meth c H locs N0 S0 ls Qf C oh rl hn hss hR hl ol os hlo hf
    have hi : Int32.ofInt x < 0 ↔ x < 0 := i32_lt (ok_hd os) (show okv (.inl 0) from ⟨by omega, by omega⟩)
    exact lv_if_lt C.1 C.2.1 hd ht (fun n => absurd (hi.mp n) hz) (fun _ => (S base b D cA p l e R s m args below meth c H locs N0 S0 ls Qf C oh rl hn hss hR hl ol (ok_tl os) hlo hf))
theorem s_if_ge {M : MI} {pc : Nat} {lv : List (Nat × AV)} {st : List AV} {h : Hp} {Q : Option AV → Hp → Prop} {x : Int} {off : Int} {tgt : Nat} (hd : decode M.2.1 pc = .ok (.ifCond .ge off, 3)) (ht : (pc : Int) + off = (tgt : Int)) (kt : 0 ≤ x → Go M tgt lv st h Q) (kf : ¬ 0 ≤ x → Go M (pc + 3) lv st h Q) : Go M pc lv (.inl x :: st) h Q := by
  by_cases hz : 0 ≤ x
  · refine Go.of (kt hz) fun r h' S => ?_
    intro base b D cA p l e R s m args below meth c H locs N0 S0 ls Qf C oh rl hn hss hR hl ol os hlo hf
    have hi : 0 ≤ Int32.ofInt x ↔ 0 ≤ x := i32_le (show okv (.inl 0) from ⟨by omega, by omega⟩) (ok_hd os)
    exact lv_if_ge C.1 C.2.1 hd ht (fun _ => (S base b D cA p l e R s m args below meth c H locs N0 S0 ls Qf C oh rl hn hss hR hl ol (ok_tl os) hlo hf)) (fun n => absurd (hi.mpr hz) n)
  · refine Go.of (kf hz) fun r h' S => ?_
    intro base b D cA p l e R s m args below meth c H locs N0 S0 ls Qf C oh rl hn hss hR hl ol os hlo hf
    have hi : 0 ≤ Int32.ofInt x ↔ 0 ≤ x := i32_le (show okv (.inl 0) from ⟨by omega, by omega⟩) (ok_hd os)
    exact lv_if_ge C.1 C.2.1 hd ht (fun n => absurd (hi.mp n) hz) (fun _ => (S base b D cA p l e R s m args below meth c H locs N0 S0 ls Qf C oh rl hn hss hR hl ol (ok_tl os) hlo hf))
theorem s_if_gt {M : MI} {pc : Nat} {lv : List (Nat × AV)} {st : List AV} {h : Hp} {Q : Option AV → Hp → Prop} {x : Int} {off : Int} {tgt : Nat} (hd : decode M.2.1 pc = .ok (.ifCond .gt off, 3)) (ht : (pc : Int) + off = (tgt : Int)) (kt : 0 < x → Go M tgt lv st h Q) (kf : ¬ 0 < x → Go M (pc + 3) lv st h Q) : Go M pc lv (.inl x :: st) h Q := by
  by_cases hz : 0 < x
  · refine Go.of (kt hz) fun r h' S => ?_
    intro base b D cA p l e R s m args below meth c H locs N0 S0 ls Qf C oh rl hn hss hR hl ol os hlo hf
    have hi : 0 < Int32.ofInt x ↔ 0 < x := i32_lt (show okv (.inl 0) from ⟨by omega, by omega⟩) (ok_hd os)
    exact lv_if_gt C.1 C.2.1 hd ht (fun _ => (S base b D cA p l e R s m args below meth c H locs N0 S0 ls Qf C oh rl hn hss hR hl ol (ok_tl os) hlo hf)) (fun n => absurd (hi.mpr hz) n)
  · refine Go.of (kf hz) fun r h' S => ?_
    intro base b D cA p l e R s m args below meth c H locs N0 S0 ls Qf C oh rl hn hss hR hl ol os hlo hf
    have hi : 0 < Int32.ofInt x ↔ 0 < x := i32_lt (show okv (.inl 0) from ⟨by omega, by omega⟩) (ok_hd os)
    exact lv_if_gt C.1 C.2.1 hd ht (fun n => absurd (hi.mp n) hz) (fun _ => (S base b D cA p l e R s m args below meth c H locs N0 S0 ls Qf C oh rl hn hss hR hl ol (ok_tl os) hlo hf))
theorem s_if_le {M : MI} {pc : Nat} {lv : List (Nat × AV)} {st : List AV} {h : Hp} {Q : Option AV → Hp → Prop} {x : Int} {off : Int} {tgt : Nat} (hd : decode M.2.1 pc = .ok (.ifCond .le off, 3)) (ht : (pc : Int) + off = (tgt : Int)) (kt : x ≤ 0 → Go M tgt lv st h Q) (kf : ¬ x ≤ 0 → Go M (pc + 3) lv st h Q) : Go M pc lv (.inl x :: st) h Q := by
  by_cases hz : x ≤ 0
  · refine Go.of (kt hz) fun r h' S => ?_
    intro base b D cA p l e R s m args below meth c H locs N0 S0 ls Qf C oh rl hn hss hR hl ol os hlo hf
    have hi : Int32.ofInt x ≤ 0 ↔ x ≤ 0 := i32_le (ok_hd os) (show okv (.inl 0) from ⟨by omega, by omega⟩)
    exact lv_if_le C.1 C.2.1 hd ht (fun _ => (S base b D cA p l e R s m args below meth c H locs N0 S0 ls Qf C oh rl hn hss hR hl ol (ok_tl os) hlo hf)) (fun n => absurd (hi.mpr hz) n)
  · refine Go.of (kf hz) fun r h' S => ?_
    intro base b D cA p l e R s m args below meth c H locs N0 S0 ls Qf C oh rl hn hss hR hl ol os hlo hf
    have hi : Int32.ofInt x ≤ 0 ↔ x ≤ 0 := i32_le (ok_hd os) (show okv (.inl 0) from ⟨by omega, by omega⟩)
    exact lv_if_le C.1 C.2.1 hd ht (fun n => absurd (hi.mp n) hz) (fun _ => (S base b D cA p l e R s m args below meth c H locs N0 S0 ls Qf C oh rl hn hss hR hl ol (ok_tl os) hlo hf))
theorem s_ifnull {M : MI} {pc : Nat} {lv : List (Nat × AV)} {st : List AV} {h : Hp} {Q : Option AV → Hp → Prop} {x : Nat} {off : Int} {tgt : Nat} (hd : decode M.2.1 pc = .ok (.ifnull off, 3)) (ht : (pc : Int) + off = (tgt : Int)) (kt : x = 0 → Go M tgt lv st h Q) (kf : ¬ x = 0 → Go M (pc + 3) lv st h Q) : Go M pc lv (.inr (.inr x) :: st) h Q := by
  by_cases hz : x = 0
  · refine Go.of (kt hz) fun r h' S => ?_
    intro base b D cA p l e R s m args below meth c H locs N0 S0 ls Qf C oh rl hn hss hR hl ol os hlo hf
    subst hz
    exact lv_ifnullN C.1 C.2.1 hd ht (S base b D cA p l e R s m args below meth c H locs N0 S0 ls Qf C oh rl hn hss hR hl ol (ok_tl os) hlo hf)
  · refine Go.of (kf hz) fun r h' S => ?_
    intro base b D cA p l e R s m args below meth c H locs N0 S0 ls Qf C oh rl hn hss hR hl ol os hlo hf
    rw [List.map_cons, show rv (ga base b) (.inr (.inr x)) = .ref (ga base b x) by show rr _ _ = _; unfold rr; rw [if_neg hz]]
    exact lv_ifnull C.1 C.2.1 hd (S base b D cA p l e R s m args below meth c H locs N0 S0 ls Qf C oh rl hn hss hR hl ol (ok_tl os) hlo hf)
theorem s_ifnonnull {M : MI} {pc : Nat} {lv : List (Nat × AV)} {st : List AV} {h : Hp} {Q : Option AV → Hp → Prop} {x : Nat} {off : Int} {tgt : Nat} (hd : decode M.2.1 pc = .ok (.ifnonnull off, 3)) (ht : (pc : Int) + off = (tgt : Int)) (kt : x ≠ 0 → Go M tgt lv st h Q) (kf : ¬ x ≠ 0 → Go M (pc + 3) lv st h Q) : Go M pc lv (.inr (.inr x) :: st) h Q := by
  by_cases hz : x = 0
  · refine Go.of (kf (fun n => n hz)) fun r h' S => ?_
    intro base b D cA p l e R s m args below meth c H locs N0 S0 ls Qf C oh rl hn hss hR hl ol os hlo hf
    subst hz
    exact lv_ifnonnullN C.1 C.2.1 hd (S base b D cA p l e R s m args below meth c H locs N0 S0 ls Qf C oh rl hn hss hR hl ol (ok_tl os) hlo hf)
  · refine Go.of (kt hz) fun r h' S => ?_
    intro base b D cA p l e R s m args below meth c H locs N0 S0 ls Qf C oh rl hn hss hR hl ol os hlo hf
    rw [List.map_cons, show rv (ga base b) (.inr (.inr x)) = .ref (ga base b x) by show rr _ _ = _; unfold rr; rw [if_neg hz]]
    exact lv_ifnonnull C.1 C.2.1 hd ht (S base b D cA p l e R s m args below meth c H locs N0 S0 ls Qf C oh rl hn hss hR hl ol (ok_tl os) hlo hf)
theorem s_tswOut {M : MI} {pc : Nat} {lv : List (Nat × AV)} {st : List AV} {h : Hp} {Q : Option AV → Hp → Prop} {dflt lo hi : Int} {offs : Array Int} {len tgt : Nat} {x : Int} (hd : decode M.2.1 pc = .ok (.tableswitch dflt lo hi offs, len)) (hx : x < lo ∨ hi < x) (ht : (pc : Int) + dflt = (tgt : Int)) (k : Go M tgt lv (st) h Q) : Go M pc lv (.inl x :: st) h Q := by
  refine Go.of k fun r h' S => ?_
  intro base b D cA p l e R s m args below meth c H locs N0 S0 ls Qf C oh rl hn hss hR hl ol os hlo hf
  exact lv_tableOut C.1 C.2.1 hd (by rw [i32_toInt (ok_hd os)]; exact hx) ht (S base b D cA p l e R s m args below meth c H locs N0 S0 ls Qf C oh rl hn hss hR hl ol (ok_tl os) hlo hf)
theorem s_tswIn {M : MI} {pc : Nat} {lv : List (Nat × AV)} {st : List AV} {h : Hp} {Q : Option AV → Hp → Prop} {dflt lo hi off : Int} {offs : Array Int} {len tgt : Nat} {x : Int} (hd : decode M.2.1 pc = .ok (.tableswitch dflt lo hi offs, len)) (h1 : ¬ x < lo) (h2 : ¬ hi < x) (ho : offs[(x - lo).toNat]? = some off) (ht : (pc : Int) + off = (tgt : Int)) (k : Go M tgt lv (st) h Q) : Go M pc lv (.inl x :: st) h Q := by
  refine Go.of k fun r h' S => ?_
  intro base b D cA p l e R s m args below meth c H locs N0 S0 ls Qf C oh rl hn hss hR hl ol os hlo hf
  exact lv_tableIn C.1 C.2.1 hd (by rw [i32_toInt (ok_hd os)]; exact h1) (by rw [i32_toInt (ok_hd os)]; exact h2) (by rw [i32_toInt (ok_hd os)]; exact ho) ht (S base b D cA p l e R s m args below meth c H locs N0 S0 ls Qf C oh rl hn hss hR hl ol (ok_tl os) hlo hf)
theorem s_lsw {M : MI} {pc : Nat} {lv : List (Nat × AV)} {st : List AV} {h : Hp} {Q : Option AV → Hp → Prop} {dflt off : Int} {ps : Array (Int × Int)} {len tgt : Nat} {x : Int} (hd : decode M.2.1 pc = .ok (.lookupswitch dflt ps, len)) (hp : (ps.toList.zip (ps.toList.drop 1)).all (fun (a, next) => a.1 < next.1) = true) (ho : Op.lookupswitch.offset ps.toList dflt x = off) (ht : (pc : Int) + off = (tgt : Int)) (k : Go M tgt lv (st) h Q) : Go M pc lv (.inl x :: st) h Q := by
  refine Go.of k fun r h' S => ?_
  intro base b D cA p l e R s m args below meth c H locs N0 S0 ls Qf C oh rl hn hss hR hl ol os hlo hf
  exact lv_lookup C.1 C.2.1 hd hp (by rw [i32_toInt (ok_hd os)]; exact ho) ht (S base b D cA p l e R s m args below meth c H locs N0 S0 ls Qf C oh rl hn hss hR hl ol (ok_tl os) hlo hf)
end
section
/-! ENGINE, part 3: rows that read and change the memory -/
theorem gtbl_of {w : Cond} (i : Nat) (h : lw_tbl[i]? = some w) (hg : goodWord w = true) : w ∈ gtbl := List.mem_filter.mpr ⟨List.mem_of_getElem? h, hg⟩
set_option maxRecDepth 100000 in
theorem cls_ok : ∀ (ci : Nat) (r : vw_C), vwCl[ci]? = some r → (∀ w ∈ u_ws r.1 r.2.1 r.2.2, w ∈ gtbl) ∧ (∀ k, k < r.2.2 → parseFieldDescriptor (r.2.1 k).2.2.1 = some (tyOf ci k)) ∧ (∀ a, a < r.2.2 → ∀ b, b < r.2.2 → a ≠ b → (r.2.1 a).2.1 ≠ (r.2.1 b).2.1) ∧ Cond.instantiable r.1 r.2.2 ∈ gtbl ∧ Cond.initialized r.1 ∈ gtbl := by
  intro ci r hr
  match ci, hr with
  | 0, hr => cases hr; exact ⟨by decide +kernel, tyX0_ok, nmX0, by decide +kernel, by decide +kernel⟩
  | 1, hr => cases hr; exact ⟨by decide +kernel, tyX1_ok, nmX1, by decide +kernel, by decide +kernel⟩
  | 2, hr => cases hr; exact ⟨by decide +kernel, tyX2_ok, nmX2, by decide +kernel, by decide +kernel⟩
  | 3, hr => cases hr; exact ⟨by decide +kernel, tyX3_ok, nmX3, by decide +kernel, by decide +kernel⟩
  | 4, hr => cases hr; exact ⟨by decide +kernel, tyX4_ok, nmX4, by decide +kernel, by decide +kernel⟩
  | 5, hr => cases hr; exact ⟨by decide +kernel, tyX5_ok, nmX5, by decide +kernel, by decide +kernel⟩
  | 6, hr => cases hr; exact ⟨by decide +kernel, tyX6_ok, nmX6, by decide +kernel, by decide +kernel⟩
  | 7, hr => cases hr; exact ⟨by decide +kernel, tyX8_ok, nmX8, by decide +kernel, by decide +kernel⟩
  | 8, hr => cases hr; exact ⟨by decide +kernel, tyX9_ok, nmX9, by decide +kernel, by decide +kernel⟩
  | 9, hr => cases hr; exact ⟨by decide +kernel, tyX10_ok, nmX10, by decide +kernel, by decide +kernel⟩
  | 10, hr => cases hr; exact ⟨by decide +kernel, tyX11_ok, nmX11, by decide +kernel, by decide +kernel⟩
  | 11, hr => cases hr; exact ⟨by decide +kernel, tyX12_ok, nmX12, by decide +kernel, by decide +kernel⟩
  | n + 12, hr => simp [vwCl] at hr
theorem cls_lt {ci : Nat} {r : vw_C} (h : vwCl[ci]? = some r) : ci < 12 := (List.getElem?_eq_some_iff.mp h).1
-- the memory's laws
theorem okH_lt {h : Hp} (o : okH h) {a c : Nat} (hk : hK h a = c) (hc : c < 18) : 2 ≤ a ∧ a < hN h := by
  obtain ⟨-, h1, h2, h3, -⟩ := o
  refine ⟨?_, ?_⟩
  · rcases Nat.lt_or_ge a 2 with q | q
    · rcases (show a = 0 ∨ a = 1 by omega) with rfl | rfl
      · rw [h2] at hk; omega
      · rw [h3] at hk; omega
    · exact q
  · rcases Nat.lt_or_ge a (hN h) with q | q
    · exact q
    · rw [h1 a q] at hk; omega
theorem ga_inj {base b i j : Nat} (hb : b < base + 2) (hi : 2 ≤ i) (h : ga base b i = ga base b j) : i = j := by
  unfold ga at h
  split at h <;> split at h <;> omega
theorem ga_2 {base b k : Nat} (hk : 2 ≤ k) : ga base b k = base + k := by unfold ga; rw [if_neg (by omega)]
theorem ga_lo {base b k : Nat} (hk : 2 ≤ k) : base + 2 ≤ ga base b k := by rw [ga_2 hk]; omega
theorem rr_pos {g : Nat → Nat} {k : Nat} (hk : k ≠ 0) : rr g k = .ref (g k) := by unfold rr; rw [if_neg hk]
theorem rv_ref {g : Nat → Nat} {k : Nat} (hk : k ≠ 0) : rv g (.inr (.inr k)) = .ref (g k) := rr_pos hk
theorem cellR_kept {D : va_G} {cA : Nat → ClassId} {g : Nat → Nat} {h h' : Hp} {k : Nat} {H H' : Heap} (x : cellR D cA g h k H) (e1 : hK h' k = hK h k) (e2 : hL h' k = hL h k) (e3 : ∀ j, hI h' k j = hI h k j) (e4 : ∀ j, hR h' k j = hR h k j) (eq : H'[g k]? = H[g k]?) : cellR D cA g h' k H' := by
  have efv : fv g h' k = fv g h k := by
    funext j
    unfold fv
    rw [e1, e3, e4]
  refine ⟨fun r hr => ?_, fun a b => ?_, fun a b => ?_⟩
  · rw [e1] at hr ⊢
    rw [efv]
    exact (x.1 r hr).kept eq
  · rw [e1] at a b ⊢
    rw [eq, e2]
    simp only [e3]
    exact x.2.1 a b
  · rw [e1] at a b ⊢
    rw [eq, e2]
    simp only [e4]
    exact x.2.2 a b
theorem Rel.upd {base b : Nat} {D : va_G} {cA : Nat → ClassId} {s : State} {h h' : Hp} {H H' : Heap} {a : Nat} (x : Rel base b D cA s h H) (hb : b < base + 2) (ha : 2 ≤ a) (e0 : hN h' = hN h) (e1 : ∀ k, hK h' k = hK h k) (e2 : ∀ k, hL h' k = hL h k) (e3 : ∀ k j, k ≠ a → hI h' k j = hI h k j) (e4 : ∀ k j, k ≠ a → hR h' k j = hR h k j) (sz : H'.size = H.size) (oq : ∀ q, q ≠ ga base b a → H'[q]? = H[q]?) (hc : cellR D cA (ga base b) h' a H') : Rel base b D cA s h' H' := by
  obtain ⟨x1, x2, x3⟩ := x
  refine ⟨by rw [sz, e0, x1], fun k hk hl => ?_, ?_⟩
  · by_cases he : k = a
    · rw [he]; exact hc
    · exact cellR_kept (x2 k hk (by rw [← e0]; exact hl)) (e1 k) (e2 k) (fun j => e3 k j he) (fun j => e4 k j he) (oq _ (fun z => he (ga_inj hb hk z)))
  · have hne : b ≠ ga base b a := by have := ga_lo (base := base) (b := b) ha; omega
    have x4 := x3.kept (oq b hne)
    rw [e2 1]
    have e5 : (fun j : Nat => Int32.ofInt (hI h' 1 j)) = (fun j : Nat => Int32.ofInt (hI h 1 j)) := by
      funext j
      rw [e3 1 j (by omega)]
    rw [e5]
    exact x4
theorem Rel.push {base b : Nat} {D : va_G} {cA : Nat → ClassId} {s : State} {h h' : Hp} {H H' : Heap} (x : Rel base b D cA s h H) (oh : okH h) (e0 : hN h' = hN h + 1) (e1 : ∀ k, k ≠ hN h → hK h' k = hK h k) (e2 : ∀ k, k ≠ hN h → hL h' k = hL h k) (e3 : ∀ k j, k ≠ hN h → hI h' k j = hI h k j) (e4 : ∀ k j, k ≠ hN h → hR h' k j = hR h k j) (hb : b < base + 2) (sz : H'.size = H.size + 1) (oq : ∀ q, q < H.size → H'[q]? = H[q]?) (hc : cellR D cA (ga base b) h' (hN h) H') : Rel base b D cA s h' H' := by
  obtain ⟨x1, x2, x3⟩ := x
  have h2 := oh.1
  refine ⟨by rw [sz, e0, x1]; omega, fun k hk hl => ?_, ?_⟩
  · by_cases he : k = hN h
    · rw [he]; exact hc
    · exact cellR_kept (x2 k hk (by omega)) (e1 k he) (e2 k he) (fun j => e3 k j he) (fun j => e4 k j he) (oq _ (by rw [ga_2 hk, x1]; omega))
  · have x4 := x3.kept (oq b (by omega))
    rw [e2 1 (by omega)]
    have e5 : (fun j : Nat => Int32.ofInt (hI h' 1 j)) = (fun j : Nat => Int32.ofInt (hI h 1 j)) := by
      funext j
      rw [e3 1 j (by omega)]
    rw [e5]
    exact x4
theorem okH_wI {h : Hp} {a : Nat} {k v : Int} (o : okH h) (hv : okv (.inl v)) (hb : hK h a = 13 → -128 ≤ v ∧ v ≤ 127) : okH (wI h a k v) := by
  obtain ⟨o1, o2, o3, o4, o5, o6, o7⟩ := o
  refine ⟨o1, o2, o3, o4, fun c j => ?_, o6, fun c j hc => ?_⟩
  · show _ ≤ (if c = a ∧ j = k then v else hI h c j) ∧ (if c = a ∧ j = k then v else hI h c j) ≤ _
    split
    · exact hv
    · exact o5 c j
  · show _ ≤ (if c = a ∧ j = k then v else hI h c j) ∧ (if c = a ∧ j = k then v else hI h c j) ≤ _
    split
    · rename_i q
      exact hb (by rw [← q.1]; exact hc)
    · exact o7 c j hc
theorem okH_wR {h : Hp} {a : Nat} {k : Int} {v : Nat} (o : okH h) : okH (wR h a k v) := o
theorem okH_al {h : Hp} {kd : Nat} {n : Int} {sl : Nat} (o : okH h) (hn : 0 ≤ n ∧ n ≤ 2147483647) : okH (al h kd n sl) := by
  obtain ⟨o1, o2, o3, o4, o5, o6, o7⟩ := o
  refine ⟨Nat.le_succ_of_le o1, fun a ha => ?_, ?_, ?_, fun c j => ?_, fun c => ?_, fun c j hc => ?_⟩
  · have ha' : hN h + 1 ≤ a := ha
    show (if a = hN h then kd else hK h a) = 99
    rw [if_neg (by omega)]
    exact o2 a (by omega)
  · show (if 0 = hN h then kd else hK h 0) = 99
    rw [if_neg (by omega)]; exact o3
  · show (if 1 = hN h then kd else hK h 1) = 18
    rw [if_neg (by omega)]; exact o4
  · show _ ≤ (if c = hN h then 0 else hI h c j) ∧ (if c = hN h then 0 else hI h c j) ≤ _
    split
    · omega
    · exact o5 c j
  · show 0 ≤ (if c = hN h then n else hL h c) ∧ (if c = hN h then n else hL h c) ≤ _
    split
    · exact hn
    · exact o6 c
  · show _ ≤ (if c = hN h then 0 else hI h c j) ∧ (if c = hN h then 0 else hI h c j) ≤ _
    split
    · omega
    · rename_i q
      refine o7 c j ?_
      have hc' : (if c = hN h then kd else hK h c) = 13 := hc
      rw [if_neg q] at hc'
      exact hc'
theorem okH_cpI {h : Hp} {a : Nat} {i : Int} {b : Nat} {j n : Int} (o : okH h) (ha : hK h a = 13) : okH (cpI h a i b j n) := by
  obtain ⟨o1, o2, o3, o4, o5, o6, o7⟩ := o
  refine ⟨o1, o2, o3, o4, fun c k => ?_, o6, fun c k hc => ?_⟩
  · show _ ≤ (if c = b ∧ j ≤ k ∧ k < j + n then hI h a (i + (k - j)) else hI h c k) ∧ (if c = b ∧ j ≤ k ∧ k < j + n then hI h a (i + (k - j)) else hI h c k) ≤ _
    split
    · exact o5 a _
    · exact o5 c k
  · show _ ≤ (if c = b ∧ j ≤ k ∧ k < j + n then hI h a (i + (k - j)) else hI h c k) ∧ (if c = b ∧ j ≤ k ∧ k < j + n then hI h a (i + (k - j)) else hI h c k) ≤ _
    split
    · exact o7 a _ ha
    · exact o7 c k hc
theorem Kn.arr {D : va_G} {cA : Nat → ClassId} {s : State} (x : Kn D cA s) (i : Nat) {q : ClassId × FieldType} (h : (tysOf cA)[i]? = some q) : ArrOfT s q.1 q.2 ∧ va_RA s q.1 q.2 := x.1.2 i q h
end
section
/-! ENGINE, part 4: a row an instruction, over Go: fields, arrays, new ones -/
theorem Go.of2 {M : MI} {pc pc' : Nat} {lv lv' : List (Nat × AV)} {st st' : List AV} {h h1 : Hp} {Q : Option AV → Hp → Prop} (k : Go M pc' lv' st' h1 Q) (e1 : hN h ≤ hN h1) (e2 : hS h ≤ hS h1) (f : ∀ r h', hN h1 ≤ hN h' → hS h1 ≤ hS h' → Sim M pc' lv' st' h1 r h' → Sim M pc lv st h r h') : Go M pc lv st h Q := by
  obtain ⟨r, h', q, a, b, s⟩ := k
  exact ⟨r, h', q, Nat.le_trans e1 a, Nat.le_trans e2 b, f r h' a b s⟩
theorem locs_snoc {base : Nat} {locs : List Loc} {q : Loc} (h : ∀ x ∈ locs, base + 2 ≤ x.base) (hq : base + 2 ≤ q.base) : ∀ x ∈ locs ++ [q], base + 2 ≤ x.base := by
  intro x hx
  rcases List.mem_append.mp hx with z | z
  · exact h x z
  · rw [List.mem_singleton.mp z]; exact hq
theorem toNat_cast {j : Int} (h : 0 ≤ j) : ((j.toNat : Nat) : Int) = j := Int.toNat_of_nonneg h
theorem vp_in_z {j : Int} {n : Int} (h0 : 0 ≤ j) (h1 : j < n) (hn : n ≤ 2147483647) : ¬ (Int32.ofInt j < 0 ∨ n.toNat ≤ (Int32.ofInt j).toNatClampNeg) := by
  rw [i32_clamp h0 (by omega)]
  rintro (q | q)
  · have := (i32_lt (show okv (.inl j) from ⟨by omega, by omega⟩) (show okv (.inl 0) from ⟨by omega, by omega⟩)).mp q
    omega
  · omega

theorem s_getI {M : MI} {pc : Nat} {lv : List (Nat × AV)} {st : List AV} {h : Hp} {Q : Option AV → Hp → Prop} {a ci j idx : Nat} {jz : Int} {r0 : vw_C} (hd : decode M.2.1 pc = .ok (.getfield idx, 3)) (hc : vwCl[ci]? = some r0) (hj : j < r0.2.2) (hz : jz = (j : Int)) (hlk : Cond.fieldLink M.2.2.2.2.1 idx (r0.2.1 j).1 (r0.2.1 j).2.1 (r0.2.1 j).2.2.1 ∈ gtbl) (hi : isRf ci j = false) (hk : hK h a = ci) (k : Go M (pc + 3) lv (.inl (hI h a jz) :: st) h Q) : Go M pc lv (.inr (.inr a) :: st) h Q := by
  refine Go.of k fun r h' S => ?_
  intro base b D cA p l e R s m args below meth c H locs N0 S0 ls Qf C oh rl hn hss hRm hl ol os hlo hf
  subst hk
  subst hz
  have hci := cls_lt hc
  obtain ⟨ha2, haN⟩ := okH_lt oh rfl (by omega : hK h a < 18)
  obtain ⟨q1, -, -, -, -⟩ := cls_ok _ _ hc
  obtain ⟨hSl, hfc, kC, hkC, hkind⟩ := C.2.2.2.2.2.2.2.2.1.1.1 _ _ hc
  obtain ⟨cell, g1, g2, g3, g4⟩ := (rl.2.1 a ha2 haN).1 _ hc
  obtain ⟨cf, kf, fi, f, hif, hsl⟩ := hSl j hj
  rw [List.map_cons, rv_ref (by omega : a ≠ 0)]
  refine W.getf C.1 C.2.1 C.2.2.2.1 (C.2.2.2.2.1 _ hlk) hif (u_facts hfc hkC (u_lays C.2.2.2.2.1 q1 hj) hif).1 g1 (by rw [g3]; exact fun z => by cases z) (v := rv (ga base b) (.inl (hI h a (j : Int)))) ?_ rfl rfl hd (S base b D cA p l e R s m args below meth c H locs N0 S0 ls Qf C oh rl hn hss hRm hl ol (ok_cons (oh.2.2.2.2.1 _ _) (ok_tl os)) hlo hf)
  rw [hsl, g4 j hj]
  unfold fv
  rw [if_neg (by rw [hi]; decide)]
  first | done | rfl
theorem s_getR {M : MI} {pc : Nat} {lv : List (Nat × AV)} {st : List AV} {h : Hp} {Q : Option AV → Hp → Prop} {a ci j idx : Nat} {jz : Int} {r0 : vw_C} (hd : decode M.2.1 pc = .ok (.getfield idx, 3)) (hc : vwCl[ci]? = some r0) (hj : j < r0.2.2) (hz : jz = (j : Int)) (hlk : Cond.fieldLink M.2.2.2.2.1 idx (r0.2.1 j).1 (r0.2.1 j).2.1 (r0.2.1 j).2.2.1 ∈ gtbl) (hi : isRf ci j = true) (hk : hK h a = ci) (k : Go M (pc + 3) lv (.inr (.inr (hR h a jz)) :: st) h Q) : Go M pc lv (.inr (.inr a) :: st) h Q := by
  refine Go.of k fun r h' S => ?_
  intro base b D cA p l e R s m args below meth c H locs N0 S0 ls Qf C oh rl hn hss hRm hl ol os hlo hf
  subst hk
  subst hz
  have hci := cls_lt hc
  obtain ⟨ha2, haN⟩ := okH_lt oh rfl (by omega : hK h a < 18)
  obtain ⟨q1, -, -, -, -⟩ := cls_ok _ _ hc
  obtain ⟨hSl, hfc, kC, hkC, hkind⟩ := C.2.2.2.2.2.2.2.2.1.1.1 _ _ hc
  obtain ⟨cell, g1, g2, g3, g4⟩ := (rl.2.1 a ha2 haN).1 _ hc
  obtain ⟨cf, kf, fi, f, hif, hsl⟩ := hSl j hj
  rw [List.map_cons, rv_ref (by omega : a ≠ 0)]
  refine W.getf C.1 C.2.1 C.2.2.2.1 (C.2.2.2.2.1 _ hlk) hif (u_facts hfc hkC (u_lays C.2.2.2.2.1 q1 hj) hif).1 g1 (by rw [g3]; exact fun z => by cases z) (v := rv (ga base b) (.inr (.inr (hR h a (j : Int))))) ?_ rfl rfl hd (S base b D cA p l e R s m args below meth c H locs N0 S0 ls Qf C oh rl hn hss hRm hl ol (ok_cons trivial (ok_tl os)) hlo hf)
  rw [hsl, g4 j hj]
  unfold fv
  rw [if_pos hi]
  first | done | rfl
theorem s_putI {M : MI} {pc : Nat} {lv : List (Nat × AV)} {st : List AV} {h : Hp} {Q : Option AV → Hp → Prop} {v : Int} {a ci j idx : Nat} {jz : Int} {r0 : vw_C} (hd : decode M.2.1 pc = .ok (.putfield idx, 3)) (hc : vwCl[ci]? = some r0) (hj : j < r0.2.2) (hz : jz = (j : Int)) (hlk : Cond.fieldLink M.2.2.2.2.1 idx (r0.2.1 j).1 (r0.2.1 j).2.1 (r0.2.1 j).2.2.1 ∈ gtbl) (hi : isRf ci j = false) (hfin : (r0.2.1 j).2.2.2 = false) (hnv : narrow (tyOf ci j) (.int (Int32.ofInt v)) = .int (Int32.ofInt v)) (hft : fits (tyOf ci j) (.int (Int32.ofInt v)) = true) (hk : hK h a = ci) (k : Go M (pc + 3) lv st (wI h a jz v) Q) : Go M pc lv (.inl v :: .inr (.inr a) :: st) h Q := by
  refine Go.of2 k (Nat.le_refl _) (Nat.le_refl _) fun r h' hle1 hle2 S => ?_
  intro base b D cA p l e R s m args below meth c H locs N0 S0 ls Qf C oh rl hn hss hRm hl ol os hlo hf
  subst hk
  subst hz
  have hci := cls_lt hc
  obtain ⟨ha2, haN⟩ := okH_lt oh rfl (by omega : hK h a < 18)
  obtain ⟨q1, q2, q3, -, -⟩ := cls_ok _ _ hc
  have hap := va_apart (own := M.2.2.2.2.1) C.2.2.2.2.1 q1 (tyOf (hK h a)) q2 q3 C.2.2.2.2.2.2.2.2.1.1 hc
  obtain ⟨hSl, hfc, kC, hkC, hkind⟩ := C.2.2.2.2.2.2.2.2.1.1.1 _ _ hc
  obtain ⟨cell, g1, g2, g3, g4⟩ := (rl.2.1 a ha2 haN).1 _ hc
  obtain ⟨cf, kf, fi, f, hif, hsl⟩ := hSl j hj
  have hlay := C.2.2.2.2.1 _ (q1 _ (u_in_lay hj))
  unfold u_lay at hlay
  have hst := (u_facts hfc hkC (u_lays C.2.2.2.2.1 q1 hj) hif).1
  rw [if_neg (by rw [hfin]; decide)] at hlay
  have h6 := u_store hfc hkC hkind hlay hif (q2 j hj) hnv hft
  rw [List.map_cons, List.map_cons, rv_ref (by omega : a ≠ 0), show rv (ga base b) (.inl v) = .int (Int32.ofInt v) from rfl]
  refine W.putK C.1 C.2.1 (f := f) ⟨C.2.2.2.1, C.2.2.2.2.1 _ hlk, ⟨_, _, _, hif⟩, hst⟩ (by rw [g2]; exact h6) g1 g3 (by rw [hsl]; exact k2_hasslot (g4 j hj)) rfl rfl hd fun H1 e1 e2 e3 => ?_
  rw [hsl] at e1 ⊢
  refine S base b D cA p l e R s m args below meth c H1 _ N0 S0 ls Qf C (okH_wI oh (ok_hd os) (fun q => by omega)) (rl.upd (a := a) C.2.2.2.2.2.2.2.2.2 ha2 rfl (fun _ => rfl) (fun _ => rfl) (fun k j hk => by simp [hI, wI, hk]) (fun k j hk => rfl) e2 e3 ?_) hn hss hRm hl ol (ok_tl (ok_tl os)) (locs_snoc hlo (ga_lo ha2)) hf
  refine ⟨fun r hr => ?_, fun z1 z2 => absurd z1 (by show ¬ 12 ≤ hK h a; omega), fun z1 z2 => absurd z1 (by show ¬ 16 ≤ hK h a; omega)⟩
  have er : r = r0 := Option.some.inj (hr.symm.trans hc)
  subst er
  refine t_OB.to (V := updV (fv (ga base b) h a) j (.int (Int32.ofInt v))) ⟨_, e1, g2, g3, t_set g4 hap hj _⟩ (fun i hi2 => ?_)
  unfold updV fv
  by_cases hij : i = j
  · subst hij
    rw [if_pos rfl]
    show _ = if isRf (hK h a) i = true then _ else _
    rw [if_neg (by rw [hi]; decide)]
    simp [hI, wI]
  · rw [if_neg hij]
    have hij2 : ¬ ((i : Int) = (j : Int)) := by omega
    show _ = if isRf (hK h a) i = true then rr _ (hR (wI h a j v) a i) else .int (Int32.ofInt (hI (wI h a j v) a i))
    simp [hI, hR, wI, hij2]
theorem s_putR {M : MI} {pc : Nat} {lv : List (Nat × AV)} {st : List AV} {h : Hp} {Q : Option AV → Hp → Prop} {v : Nat} {a ci j idx : Nat} {jz : Int} {r0 : vw_C} (hd : decode M.2.1 pc = .ok (.putfield idx, 3)) (hc : vwCl[ci]? = some r0) (hj : j < r0.2.2) (hz : jz = (j : Int)) (hlk : Cond.fieldLink M.2.2.2.2.1 idx (r0.2.1 j).1 (r0.2.1 j).2.1 (r0.2.1 j).2.2.1 ∈ gtbl) (hi : isRf ci j = true) (hfin : (r0.2.1 j).2.2.2 = false) (hk : hK h a = ci) (k : Go M (pc + 3) lv st (wR h a jz v) Q) : Go M pc lv (.inr (.inr v) :: .inr (.inr a) :: st) h Q := by
  refine Go.of2 k (Nat.le_refl _) (Nat.le_refl _) fun r h' hle1 hle2 S => ?_
  intro base b D cA p l e R s m args below meth c H locs N0 S0 ls Qf C oh rl hn hss hRm hl ol os hlo hf
  subst hk
  subst hz
  have hci := cls_lt hc
  obtain ⟨ha2, haN⟩ := okH_lt oh rfl (by omega : hK h a < 18)
  obtain ⟨q1, q2, q3, -, -⟩ := cls_ok _ _ hc
  have hap := va_apart (own := M.2.2.2.2.1) C.2.2.2.2.1 q1 (tyOf (hK h a)) q2 q3 C.2.2.2.2.2.2.2.2.1.1 hc
  obtain ⟨hSl, hfc, kC, hkC, hkind⟩ := C.2.2.2.2.2.2.2.2.1.1.1 _ _ hc
  obtain ⟨cell, g1, g2, g3, g4⟩ := (rl.2.1 a ha2 haN).1 _ hc
  obtain ⟨cf, kf, fi, f, hif, hsl⟩ := hSl j hj
  have hlay := C.2.2.2.2.1 _ (q1 _ (u_in_lay hj))
  unfold u_lay at hlay
  have hty : isRT (tyOf (hK h a) j) = true := hi
  have hnv : narrow (tyOf (hK h a) j) (rr (ga base b) v) = rr (ga base b) v := by
    revert hty
    cases tyOf (hK h a) j <;> intro hty <;> first | (exact absurd hty (by decide)) | (unfold rr; split <;> rfl)
  have hft : fits (tyOf (hK h a) j) (rr (ga base b) v) = true := by
    revert hty
    cases tyOf (hK h a) j <;> intro hty <;> first | (exact absurd hty (by decide)) | (unfold rr; split <;> rfl)
  have hst := (u_facts hfc hkC (u_lays C.2.2.2.2.1 q1 hj) hif).1
  rw [if_neg (by rw [hfin]; decide)] at hlay
  have h6 := u_store hfc hkC hkind hlay hif (q2 j hj) hnv hft
  rw [List.map_cons, List.map_cons, rv_ref (by omega : a ≠ 0), show rv (ga base b) (.inr (.inr v)) = rr (ga base b) v from rfl]
  refine W.putK C.1 C.2.1 (f := f) ⟨C.2.2.2.1, C.2.2.2.2.1 _ hlk, ⟨_, _, _, hif⟩, hst⟩ (by rw [g2]; exact h6) g1 g3 (by rw [hsl]; exact k2_hasslot (g4 j hj)) rfl rfl hd fun H1 e1 e2 e3 => ?_
  rw [hsl] at e1 ⊢
  refine S base b D cA p l e R s m args below meth c H1 _ N0 S0 ls Qf C (okH_wR oh) (rl.upd (a := a) C.2.2.2.2.2.2.2.2.2 ha2 rfl (fun _ => rfl) (fun _ => rfl) (fun k j hk => rfl) (fun k j hk => by simp [hR, wR, hk]) e2 e3 ?_) hn hss hRm hl ol (ok_tl (ok_tl os)) (locs_snoc hlo (ga_lo ha2)) hf
  refine ⟨fun r hr => ?_, fun z1 z2 => absurd z1 (by show ¬ 12 ≤ hK h a; omega), fun z1 z2 => absurd z1 (by show ¬ 16 ≤ hK h a; omega)⟩
  have er : r = r0 := Option.some.inj (hr.symm.trans hc)
  subst er
  refine t_OB.to (V := updV (fv (ga base b) h a) j (rr (ga base b) v)) ⟨_, e1, g2, g3, t_set g4 hap hj _⟩ (fun i hi2 => ?_)
  unfold updV fv
  by_cases hij : i = j
  · subst hij
    rw [if_pos rfl]
    show _ = if isRf (hK h a) i = true then _ else _
    rw [if_pos hi]
    simp [hR, wR]
  · rw [if_neg hij]
    have hij2 : ¬ ((i : Int) = (j : Int)) := by omega
    show _ = if isRf (hK h a) i = true then rr _ (hR (wR h a j v) a i) else .int (Int32.ofInt (hI (wR h a j v) a i))
    simp [hI, hR, wR, hij2]
theorem s_putIF {M : MI} {pc : Nat} {lv : List (Nat × AV)} {st : List AV} {h : Hp} {Q : Option AV → Hp → Prop} {v : Int} {a ci j idx : Nat} {jz : Int} {r0 : vw_C} (hd : decode M.2.1 pc = .ok (.putfield idx, 3)) (hc : vwCl[ci]? = some r0) (hj : j < r0.2.2) (hz : jz = (j : Int)) (hlk : Cond.fieldLink M.2.2.2.2.1 idx (r0.2.1 j).1 (r0.2.1 j).2.1 (r0.2.1 j).2.2.1 ∈ gtbl) (hi : isRf ci j = false) (hfin : (r0.2.1 j).2.2.2 = true) (hini : M.1.name = "<init>") (hdecl : (r0.2.1 j).1 = M.2.2.2.2.1) (hnv : narrow (tyOf ci j) (.int (Int32.ofInt v)) = .int (Int32.ofInt v)) (hft : fits (tyOf ci j) (.int (Int32.ofInt v)) = true) (hk : hK h a = ci) (k : Go M (pc + 3) lv st (wI h a jz v) Q) : Go M pc lv (.inl v :: .inr (.inr a) :: st) h Q := by
  refine Go.of2 k (Nat.le_refl _) (Nat.le_refl _) fun r h' hle1 hle2 S => ?_
  intro base b D cA p l e R s m args below meth c H locs N0 S0 ls Qf C oh rl hn hss hRm hl ol os hlo hf
  subst hk
  subst hz
  have hci := cls_lt hc
  obtain ⟨ha2, haN⟩ := okH_lt oh rfl (by omega : hK h a < 18)
  obtain ⟨q1, q2, q3, -, -⟩ := cls_ok _ _ hc
  have hap := va_apart (own := M.2.2.2.2.1) C.2.2.2.2.1 q1 (tyOf (hK h a)) q2 q3 C.2.2.2.2.2.2.2.2.1.1 hc
  obtain ⟨hSl, hfc, kC, hkC, hkind⟩ := C.2.2.2.2.2.2.2.2.1.1.1 _ _ hc
  obtain ⟨cell, g1, g2, g3, g4⟩ := (rl.2.1 a ha2 haN).1 _ hc
  obtain ⟨cf, kf, fi, f, hif, hsl⟩ := hSl j hj
  have hlay := C.2.2.2.2.1 _ (q1 _ (u_in_lay hj))
  unfold u_lay at hlay
  have hst := (u_facts hfc hkC (u_lays C.2.2.2.2.1 q1 hj) hif).1
  rw [if_pos hfin] at hlay
  have hcf : m.cls = cf := by
    obtain ⟨_, _, c', _, _, _, -, -, hf', -, -, -, hown2, -⟩ := Cond.laysFinal_spec hlay
    have e1 : c' = cf := by have := hif.symm.trans hf'; simp at this; exact this.1.symm
    rw [hdecl] at hown2
    rw [← e1]; exact Option.some.inj (C.2.2.2.1.symm.trans hown2)
  have h6 := u_fits hfc hkC hkind (Or.inr hlay) hif (q2 j hj) hnv hft
  rw [List.map_cons, List.map_cons, rv_ref (by omega : a ≠ 0), show rv (ga base b) (.inl v) = .int (Int32.ofInt v) from rfl]
  refine W.putFinK C.1 C.2.1 C.2.2.2.1 (C.2.2.2.2.1 _ hlk) hif hst hcf (C.2.2.2.2.2.2.2.1 hini) (by rw [g2]; exact h6) g1 g3 (by rw [hsl]; exact k2_hasslot (g4 j hj)) rfl rfl hd fun H1 e1 e2 e3 => ?_
  rw [hsl] at e1 ⊢
  refine S base b D cA p l e R s m args below meth c H1 _ N0 S0 ls Qf C (okH_wI oh (ok_hd os) (fun q => by omega)) (rl.upd (a := a) C.2.2.2.2.2.2.2.2.2 ha2 rfl (fun _ => rfl) (fun _ => rfl) (fun k j hk => by simp [hI, wI, hk]) (fun k j hk => rfl) e2 e3 ?_) hn hss hRm hl ol (ok_tl (ok_tl os)) (locs_snoc hlo (ga_lo ha2)) hf
  refine ⟨fun r hr => ?_, fun z1 z2 => absurd z1 (by show ¬ 12 ≤ hK h a; omega), fun z1 z2 => absurd z1 (by show ¬ 16 ≤ hK h a; omega)⟩
  have er : r = r0 := Option.some.inj (hr.symm.trans hc)
  subst er
  refine t_OB.to (V := updV (fv (ga base b) h a) j (.int (Int32.ofInt v))) ⟨_, e1, g2, g3, t_set g4 hap hj _⟩ (fun i hi2 => ?_)
  unfold updV fv
  by_cases hij : i = j
  · subst hij
    rw [if_pos rfl]
    show _ = if isRf (hK h a) i = true then _ else _
    rw [if_neg (by rw [hi]; decide)]
    simp [hI, wI]
  · rw [if_neg hij]
    have hij2 : ¬ ((i : Int) = (j : Int)) := by omega
    show _ = if isRf (hK h a) i = true then rr _ (hR (wI h a j v) a i) else .int (Int32.ofInt (hI (wI h a j v) a i))
    simp [hI, hR, wI, hij2]
theorem s_putRF {M : MI} {pc : Nat} {lv : List (Nat × AV)} {st : List AV} {h : Hp} {Q : Option AV → Hp → Prop} {v : Nat} {a ci j idx : Nat} {jz : Int} {r0 : vw_C} (hd : decode M.2.1 pc = .ok (.putfield idx, 3)) (hc : vwCl[ci]? = some r0) (hj : j < r0.2.2) (hz : jz = (j : Int)) (hlk : Cond.fieldLink M.2.2.2.2.1 idx (r0.2.1 j).1 (r0.2.1 j).2.1 (r0.2.1 j).2.2.1 ∈ gtbl) (hi : isRf ci j = true) (hfin : (r0.2.1 j).2.2.2 = true) (hini : M.1.name = "<init>") (hdecl : (r0.2.1 j).1 = M.2.2.2.2.1) (hk : hK h a = ci) (k : Go M (pc + 3) lv st (wR h a jz v) Q) : Go M pc lv (.inr (.inr v) :: .inr (.inr a) :: st) h Q := by
  refine Go.of2 k (Nat.le_refl _) (Nat.le_refl _) fun r h' hle1 hle2 S => ?_
  intro base b D cA p l e R s m args below meth c H locs N0 S0 ls Qf C oh rl hn hss hRm hl ol os hlo hf
  subst hk
  subst hz
  have hci := cls_lt hc
  obtain ⟨ha2, haN⟩ := okH_lt oh rfl (by omega : hK h a < 18)
  obtain ⟨q1, q2, q3, -, -⟩ := cls_ok _ _ hc
  have hap := va_apart (own := M.2.2.2.2.1) C.2.2.2.2.1 q1 (tyOf (hK h a)) q2 q3 C.2.2.2.2.2.2.2.2.1.1 hc
  obtain ⟨hSl, hfc, kC, hkC, hkind⟩ := C.2.2.2.2.2.2.2.2.1.1.1 _ _ hc
  obtain ⟨cell, g1, g2, g3, g4⟩ := (rl.2.1 a ha2 haN).1 _ hc
  obtain ⟨cf, kf, fi, f, hif, hsl⟩ := hSl j hj
  have hlay := C.2.2.2.2.1 _ (q1 _ (u_in_lay hj))
  unfold u_lay at hlay
  have hty : isRT (tyOf (hK h a) j) = true := hi
  have hnv : narrow (tyOf (hK h a) j) (rr (ga base b) v) = rr (ga base b) v := by
    revert hty
    cases tyOf (hK h a) j <;> intro hty <;> first | (exact absurd hty (by decide)) | (unfold rr; split <;> rfl)
  have hft : fits (tyOf (hK h a) j) (rr (ga base b) v) = true := by
    revert hty
    cases tyOf (hK h a) j <;> intro hty <;> first | (exact absurd hty (by decide)) | (unfold rr; split <;> rfl)
  have hst := (u_facts hfc hkC (u_lays C.2.2.2.2.1 q1 hj) hif).1
  rw [if_pos hfin] at hlay
  have hcf : m.cls = cf := by
    obtain ⟨_, _, c', _, _, _, -, -, hf', -, -, -, hown2, -⟩ := Cond.laysFinal_spec hlay
    have e1 : c' = cf := by have := hif.symm.trans hf'; simp at this; exact this.1.symm
    rw [hdecl] at hown2
    rw [← e1]; exact Option.some.inj (C.2.2.2.1.symm.trans hown2)
  have h6 := u_fits hfc hkC hkind (Or.inr hlay) hif (q2 j hj) hnv hft
  rw [List.map_cons, List.map_cons, rv_ref (by omega : a ≠ 0), show rv (ga base b) (.inr (.inr v)) = rr (ga base b) v from rfl]
  refine W.putFinK C.1 C.2.1 C.2.2.2.1 (C.2.2.2.2.1 _ hlk) hif hst hcf (C.2.2.2.2.2.2.2.1 hini) (by rw [g2]; exact h6) g1 g3 (by rw [hsl]; exact k2_hasslot (g4 j hj)) rfl rfl hd fun H1 e1 e2 e3 => ?_
  rw [hsl] at e1 ⊢
  refine S base b D cA p l e R s m args below meth c H1 _ N0 S0 ls Qf C (okH_wR oh) (rl.upd (a := a) C.2.2.2.2.2.2.2.2.2 ha2 rfl (fun _ => rfl) (fun _ => rfl) (fun k j hk => rfl) (fun k j hk => by simp [hR, wR, hk]) e2 e3 ?_) hn hss hRm hl ol (ok_tl (ok_tl os)) (locs_snoc hlo (ga_lo ha2)) hf
  refine ⟨fun r hr => ?_, fun z1 z2 => absurd z1 (by show ¬ 12 ≤ hK h a; omega), fun z1 z2 => absurd z1 (by show ¬ 16 ≤ hK h a; omega)⟩
  have er : r = r0 := Option.some.inj (hr.symm.trans hc)
  subst er
  refine t_OB.to (V := updV (fv (ga base b) h a) j (rr (ga base b) v)) ⟨_, e1, g2, g3, t_set g4 hap hj _⟩ (fun i hi2 => ?_)
  unfold updV fv
  by_cases hij : i = j
  · subst hij
    rw [if_pos rfl]
    show _ = if isRf (hK h a) i = true then _ else _
    rw [if_pos hi]
    simp [hR, wR]
  · rw [if_neg hij]
    have hij2 : ¬ ((i : Int) = (j : Int)) := by omega
    show _ = if isRf (hK h a) i = true then rr _ (hR (wR h a j v) a i) else .int (Int32.ofInt (hI (wR h a j v) a i))
    simp [hI, hR, wR, hij2]
theorem s_iald {M : MI} {pc : Nat} {lv : List (Nat × AV)} {st : List AV} {h : Hp} {Q : Option AV → Hp → Prop} {a : Nat} {j : Int} (hd : decode M.2.1 pc = .ok (.iaload, 1)) (hk : hK h a = 12) (h0 : 0 ≤ j) (h1 : j < hL h a) (k : Go M (pc + 1) lv (.inl (hI h a j) :: st) h Q) : Go M pc lv (.inl j :: .inr (.inr a) :: st) h Q := by
  refine Go.of k fun r h' S => ?_
  intro base b D cA p l e R s m args below meth c H locs N0 S0 ls Qf C oh rl hn hss hRm hl ol os hlo hf
  obtain ⟨ha2, haN⟩ := okH_lt oh hk (by omega)
  have hcell := (rl.2.1 a ha2 haN).2.1 (by omega) (by omega)
  rw [hk] at hcell
  have hlen := (oh.2.2.2.2.2.1 a).2
  rw [List.map_cons, List.map_cons, rv_ref (by omega : a ≠ 0)]
  refine W.iald C.1 C.2.1 hcell ((C.2.2.2.2.2.2.2.2.1.arr 0 rfl).1 _ _) (fun q => by cases q) (by rw [arrV_size]; exact vp_in_z h0 h1 hlen) (v := rv (ga base b) (.inl (hI h a j))) ?_ rfl rfl hd (S base b D cA p l e R s m args below meth c H locs N0 S0 ls Qf C oh rl hn hss hRm hl ol (ok_cons (oh.2.2.2.2.1 _ _) (ok_tl (ok_tl os))) hlo hf)
  rw [i32_clamp h0 (by omega), arrV_read _ _ (by omega), toNat_cast h0]
  rfl
theorem s_bald {M : MI} {pc : Nat} {lv : List (Nat × AV)} {st : List AV} {h : Hp} {Q : Option AV → Hp → Prop} {a : Nat} {j : Int} (hd : decode M.2.1 pc = .ok (.baload, 1)) (hk : hK h a = 13) (h0 : 0 ≤ j) (h1 : j < hL h a) (k : Go M (pc + 1) lv (.inl (hI h a j) :: st) h Q) : Go M pc lv (.inl j :: .inr (.inr a) :: st) h Q := by
  refine Go.of k fun r h' S => ?_
  intro base b D cA p l e R s m args below meth c H locs N0 S0 ls Qf C oh rl hn hss hRm hl ol os hlo hf
  obtain ⟨ha2, haN⟩ := okH_lt oh hk (by omega)
  have hcell := (rl.2.1 a ha2 haN).2.1 (by omega) (by omega)
  rw [hk] at hcell
  have hlen := (oh.2.2.2.2.2.1 a).2
  rw [List.map_cons, List.map_cons, rv_ref (by omega : a ≠ 0)]
  refine W.bald C.1 C.2.1 hcell ((C.2.2.2.2.2.2.2.2.1.arr 1 rfl).1 _ _) (fun q => by cases q) (by rw [arrV_size]; exact vp_in_z h0 h1 hlen) (v := rv (ga base b) (.inl (hI h a j))) ?_ rfl rfl hd (S base b D cA p l e R s m args below meth c H locs N0 S0 ls Qf C oh rl hn hss hRm hl ol (ok_cons (oh.2.2.2.2.1 _ _) (ok_tl (ok_tl os))) hlo hf)
  rw [i32_clamp h0 (by omega), arrV_read _ _ (by omega), toNat_cast h0]
  rfl
theorem s_cald {M : MI} {pc : Nat} {lv : List (Nat × AV)} {st : List AV} {h : Hp} {Q : Option AV → Hp → Prop} {a : Nat} {j : Int} (hd : decode M.2.1 pc = .ok (.caload, 1)) (hk : hK h a = 14) (h0 : 0 ≤ j) (h1 : j < hL h a) (k : Go M (pc + 1) lv (.inl (hI h a j) :: st) h Q) : Go M pc lv (.inl j :: .inr (.inr a) :: st) h Q := by
  refine Go.of k fun r h' S => ?_
  intro base b D cA p l e R s m args below meth c H locs N0 S0 ls Qf C oh rl hn hss hRm hl ol os hlo hf
  obtain ⟨ha2, haN⟩ := okH_lt oh hk (by omega)
  have hcell := (rl.2.1 a ha2 haN).2.1 (by omega) (by omega)
  rw [hk] at hcell
  have hlen := (oh.2.2.2.2.2.1 a).2
  rw [List.map_cons, List.map_cons, rv_ref (by omega : a ≠ 0)]
  refine W.cald C.1 C.2.1 hcell ((C.2.2.2.2.2.2.2.2.1.arr 2 rfl).1 _ _) (fun q => by cases q) (by rw [arrV_size]; exact vp_in_z h0 h1 hlen) (v := rv (ga base b) (.inl (hI h a j))) ?_ rfl rfl hd (S base b D cA p l e R s m args below meth c H locs N0 S0 ls Qf C oh rl hn hss hRm hl ol (ok_cons (oh.2.2.2.2.1 _ _) (ok_tl (ok_tl os))) hlo hf)
  rw [i32_clamp h0 (by omega), arrV_read _ _ (by omega), toNat_cast h0]
  rfl
theorem s_zald {M : MI} {pc : Nat} {lv : List (Nat × AV)} {st : List AV} {h : Hp} {Q : Option AV → Hp → Prop} {a : Nat} {j : Int} (hd : decode M.2.1 pc = .ok (.baload, 1)) (hk : hK h a = 15) (h0 : 0 ≤ j) (h1 : j < hL h a) (k : Go M (pc + 1) lv (.inl (hI h a j) :: st) h Q) : Go M pc lv (.inl j :: .inr (.inr a) :: st) h Q := by
  refine Go.of k fun r h' S => ?_
  intro base b D cA p l e R s m args below meth c H locs N0 S0 ls Qf C oh rl hn hss hRm hl ol os hlo hf
  obtain ⟨ha2, haN⟩ := okH_lt oh hk (by omega)
  have hcell := (rl.2.1 a ha2 haN).2.1 (by omega) (by omega)
  rw [hk] at hcell
  have hlen := (oh.2.2.2.2.2.1 a).2
  rw [List.map_cons, List.map_cons, rv_ref (by omega : a ≠ 0)]
  refine W.zald C.1 C.2.1 hcell ((C.2.2.2.2.2.2.2.2.1.arr 3 rfl).1 _ _) (fun q => by cases q) (by rw [arrV_size]; exact vp_in_z h0 h1 hlen) (v := rv (ga base b) (.inl (hI h a j))) ?_ rfl rfl hd (S base b D cA p l e R s m args below meth c H locs N0 S0 ls Qf C oh rl hn hss hRm hl ol (ok_cons (oh.2.2.2.2.1 _ _) (ok_tl (ok_tl os))) hlo hf)
  rw [i32_clamp h0 (by omega), arrV_read _ _ (by omega), toNat_cast h0]
  rfl
theorem s_sld {M : MI} {pc : Nat} {lv : List (Nat × AV)} {st : List AV} {h : Hp} {Q : Option AV → Hp → Prop} {j : Int} (hd : decode M.2.1 pc = .ok (.iaload, 1)) (h0 : 0 ≤ j) (h1 : j < hL h 1) (k : Go M (pc + 1) lv (.inl (hI h 1 j) :: st) h Q) : Go M pc lv (.inl j :: .inr (.inr 1) :: st) h Q := by
  refine Go.of k fun r h' S => ?_
  intro base b D cA p l e R s m args below meth c H locs N0 S0 ls Qf C oh rl hn hss hRm hl ol os hlo hf
  obtain ⟨scr, x1, x2, x3, x4, x5⟩ := rl.2.2
  have hlen := (oh.2.2.2.2.2.1 1).2
  rw [List.map_cons, List.map_cons, rv_ref (by omega : (1 : Nat) ≠ 0), show ga base b 1 = b from if_pos rfl]
  refine W.iald C.1 C.2.1 x1 x2 x3 (by rw [x4]; exact vp_in_z h0 h1 hlen) (v := rv (ga base b) (.inl (hI h 1 j))) ?_ rfl rfl hd (S base b D cA p l e R s m args below meth c H locs N0 S0 ls Qf C oh rl hn hss hRm hl ol (ok_cons (oh.2.2.2.2.1 _ _) (ok_tl (ok_tl os))) hlo hf)
  rw [i32_clamp h0 (by omega), x5 _ (by omega)]
  show some (Value.int (Int32.ofInt (hI h 1 ((j.toNat : Nat) : Int)))) = _
  rw [toNat_cast h0]
  rfl
theorem ofNat_toNat {n : Int} (h : 0 ≤ n) : (n.toNat).toInt32 = Int32.ofInt n := by
  obtain ⟨k, rfl⟩ := Int.eq_ofNat_of_zero_le h
  show Int32.ofNat ((k : Int).toNat) = _
  rw [Int.toNat_natCast]
  exact Int32.ofInt_eq_ofNat.symm
theorem s_slen {M : MI} {pc : Nat} {lv : List (Nat × AV)} {st : List AV} {h : Hp} {Q : Option AV → Hp → Prop} (hd : decode M.2.1 pc = .ok (.arraylength, 1)) (k : Go M (pc + 1) lv (.inl (hL h 1) :: st) h Q) : Go M pc lv (.inr (.inr 1) :: st) h Q := by
  refine Go.of k fun r h' S => ?_
  intro base b D cA p l e R s m args below meth c H locs N0 S0 ls Qf C oh rl hn hss hRm hl ol os hlo hf
  obtain ⟨scr, x1, x2, x3, x4, x5⟩ := rl.2.2
  have hlen := oh.2.2.2.2.2.1 1
  rw [List.map_cons, rv_ref (by omega : (1 : Nat) ≠ 0), show ga base b 1 = b from if_pos rfl]
  exact W.alen C.1 C.2.1 x1 x2 (by rw [x4]; exact ofNat_toNat hlen.1) rfl rfl hd (S base b D cA p l e R s m args below meth c H locs N0 S0 ls Qf C oh rl hn hss hRm hl ol (ok_cons ⟨by omega, by omega⟩ (ok_tl os)) hlo hf)
theorem s_blen {M : MI} {pc : Nat} {lv : List (Nat × AV)} {st : List AV} {h : Hp} {Q : Option AV → Hp → Prop} {a : Nat} (hd : decode M.2.1 pc = .ok (.arraylength, 1)) (hk : hK h a = 13) (k : Go M (pc + 1) lv (.inl (hL h a) :: st) h Q) : Go M pc lv (.inr (.inr a) :: st) h Q := by
  refine Go.of k fun r h' S => ?_
  intro base b D cA p l e R s m args below meth c H locs N0 S0 ls Qf C oh rl hn hss hRm hl ol os hlo hf
  obtain ⟨ha2, haN⟩ := okH_lt oh hk (by omega)
  have hcell := (rl.2.1 a ha2 haN).2.1 (by omega) (by omega)
  rw [hk] at hcell
  have hlen := oh.2.2.2.2.2.1 a
  rw [List.map_cons, rv_ref (by omega : a ≠ 0)]
  exact W.alen C.1 C.2.1 hcell ((C.2.2.2.2.2.2.2.2.1.arr 1 rfl).1 _ _) (by rw [arrV_size]; exact ofNat_toNat hlen.1) rfl rfl hd (S base b D cA p l e R s m args below meth c H locs N0 S0 ls Qf C oh rl hn hss hRm hl ol (ok_cons ⟨by omega, by omega⟩ (ok_tl os)) hlo hf)
theorem s_iast {M : MI} {pc : Nat} {lv : List (Nat × AV)} {st : List AV} {h : Hp} {Q : Option AV → Hp → Prop} {a : Nat} {j v : Int} (hd : decode M.2.1 pc = .ok (.iastore, 1)) (hk : hK h a = 12) (h0 : 0 ≤ j) (h1 : j < hL h a)  (k : Go M (pc + 1) lv st (wI h a j v) Q) : Go M pc lv (.inl v :: .inl j :: .inr (.inr a) :: st) h Q := by
  refine Go.of2 k (Nat.le_refl _) (Nat.le_refl _) fun r h' hle1 hle2 S => ?_
  intro base b D cA p l e R s m args below meth c H locs N0 S0 ls Qf C oh rl hn hss hRm hl ol os hlo hf
  obtain ⟨ha2, haN⟩ := okH_lt oh hk (by omega)
  have hcell := (rl.2.1 a ha2 haN).2.1 (by omega) (by omega)
  rw [hk] at hcell
  have hlen := (oh.2.2.2.2.2.1 a).2
  rw [List.map_cons, List.map_cons, List.map_cons, rv_ref (by omega : a ≠ 0)]
  refine W.iast C.1 C.2.1 hcell ((C.2.2.2.2.2.2.2.2.1.arr 0 rfl).1 _ _) (fun q => by cases q) (by rw [arrV_size]; exact vp_in_z h0 h1 hlen) rfl rfl hd fun H1 e1 e2 e3 => ?_
  rw [i32_clamp h0 (by omega)] at e1
  refine S base b D cA p l e R s m args below meth c H1 _ N0 S0 ls Qf C (okH_wI oh (ok_hd os) (fun q => by omega)) (rl.upd (a := a) C.2.2.2.2.2.2.2.2.2 ha2 rfl (fun _ => rfl) (fun _ => rfl) (fun k j hk => by simp [hI, wI, hk]) (fun k j hk => rfl) e2 e3 ?_) hn hss hRm hl ol (ok_tl (ok_tl (ok_tl os))) (locs_snoc hlo (ga_lo ha2)) hf
  refine ⟨fun r hr => absurd (cls_lt hr) (by show ¬ hK h a < 12; omega), fun z1 z2 => ?_, fun z1 z2 => absurd z1 (by show ¬ 16 ≤ hK h a; omega)⟩
  rw [e1, arrV_store, show hK (wI h a j v) a = 12 from hk]
  show some (arrV _ (hL h a).toNat _) = some (arrV _ (hL h a).toNat _)
  congr 2
  funext i
  unfold updV
  by_cases hij : i = j.toNat
  · subst hij
    rw [if_pos rfl, toNat_cast h0]
    simp [hI, wI]
  · rw [if_neg hij]
    have hij2 : ¬ ((i : Int) = j) := by omega
    simp [hI, wI, hij2]
theorem s_bast {M : MI} {pc : Nat} {lv : List (Nat × AV)} {st : List AV} {h : Hp} {Q : Option AV → Hp → Prop} {a : Nat} {j v : Int} (hd : decode M.2.1 pc = .ok (.bastore, 1)) (hk : hK h a = 13) (h0 : 0 ≤ j) (h1 : j < hL h a) (hv : -128 ≤ v ∧ v ≤ 127) (k : Go M (pc + 1) lv st (wI h a j v) Q) : Go M pc lv (.inl v :: .inl j :: .inr (.inr a) :: st) h Q := by
  refine Go.of2 k (Nat.le_refl _) (Nat.le_refl _) fun r h' hle1 hle2 S => ?_
  intro base b D cA p l e R s m args below meth c H locs N0 S0 ls Qf C oh rl hn hss hRm hl ol os hlo hf
  obtain ⟨ha2, haN⟩ := okH_lt oh hk (by omega)
  have hcell := (rl.2.1 a ha2 haN).2.1 (by omega) (by omega)
  rw [hk] at hcell
  have hlen := (oh.2.2.2.2.2.1 a).2
  have hnar : narrow .byte (.int (Int32.ofInt v)) = .int (Int32.ofInt v) := congrArg Value.int (i2b_eq hv)
  rw [List.map_cons, List.map_cons, List.map_cons, rv_ref (by omega : a ≠ 0)]
  refine W.bast C.1 C.2.1 hcell ((C.2.2.2.2.2.2.2.2.1.arr 1 rfl).1 _ _) (fun q => by cases q) (by rw [arrV_size]; exact vp_in_z h0 h1 hlen) rfl rfl hd fun H1 e1 e2 e3 => ?_
  rw [i32_clamp h0 (by omega), hnar] at e1
  refine S base b D cA p l e R s m args below meth c H1 _ N0 S0 ls Qf C (okH_wI oh (ok_hd os) (fun q => hv)) (rl.upd (a := a) C.2.2.2.2.2.2.2.2.2 ha2 rfl (fun _ => rfl) (fun _ => rfl) (fun k j hk => by simp [hI, wI, hk]) (fun k j hk => rfl) e2 e3 ?_) hn hss hRm hl ol (ok_tl (ok_tl (ok_tl os))) (locs_snoc hlo (ga_lo ha2)) hf
  refine ⟨fun r hr => absurd (cls_lt hr) (by show ¬ hK h a < 12; omega), fun z1 z2 => ?_, fun z1 z2 => absurd z1 (by show ¬ 16 ≤ hK h a; omega)⟩
  rw [e1, arrV_store, show hK (wI h a j v) a = 13 from hk]
  show some (arrV _ (hL h a).toNat _) = some (arrV _ (hL h a).toNat _)
  congr 2
  funext i
  unfold updV
  by_cases hij : i = j.toNat
  · subst hij
    rw [if_pos rfl, toNat_cast h0]
    simp [hI, wI]
  · rw [if_neg hij]
    have hij2 : ¬ ((i : Int) = j) := by omega
    simp [hI, wI, hij2]
theorem s_zast {M : MI} {pc : Nat} {lv : List (Nat × AV)} {st : List AV} {h : Hp} {Q : Option AV → Hp → Prop} {a : Nat} {j v : Int} (hd : decode M.2.1 pc = .ok (.bastore, 1)) (hk : hK h a = 15) (h0 : 0 ≤ j) (h1 : j < hL h a) (hv : v = 0 ∨ v = 1) (k : Go M (pc + 1) lv st (wI h a j v) Q) : Go M pc lv (.inl v :: .inl j :: .inr (.inr a) :: st) h Q := by
  refine Go.of2 k (Nat.le_refl _) (Nat.le_refl _) fun r h' hle1 hle2 S => ?_
  intro base b D cA p l e R s m args below meth c H locs N0 S0 ls Qf C oh rl hn hss hRm hl ol os hlo hf
  obtain ⟨ha2, haN⟩ := okH_lt oh hk (by omega)
  have hcell := (rl.2.1 a ha2 haN).2.1 (by omega) (by omega)
  rw [hk] at hcell
  have hlen := (oh.2.2.2.2.2.1 a).2
  have hnar : narrow .boolean (.int (Int32.ofInt v)) = .int (Int32.ofInt v) := by rcases hv with rfl | rfl <;> rfl
  rw [List.map_cons, List.map_cons, List.map_cons, rv_ref (by omega : a ≠ 0)]
  refine W.zast C.1 C.2.1 hcell ((C.2.2.2.2.2.2.2.2.1.arr 3 rfl).1 _ _) (fun q => by cases q) (by rw [arrV_size]; exact vp_in_z h0 h1 hlen) rfl rfl hd fun H1 e1 e2 e3 => ?_
  rw [i32_clamp h0 (by omega), hnar] at e1
  refine S base b D cA p l e R s m args below meth c H1 _ N0 S0 ls Qf C (okH_wI oh (ok_hd os) (fun q => by omega)) (rl.upd (a := a) C.2.2.2.2.2.2.2.2.2 ha2 rfl (fun _ => rfl) (fun _ => rfl) (fun k j hk => by simp [hI, wI, hk]) (fun k j hk => rfl) e2 e3 ?_) hn hss hRm hl ol (ok_tl (ok_tl (ok_tl os))) (locs_snoc hlo (ga_lo ha2)) hf
  refine ⟨fun r hr => absurd (cls_lt hr) (by show ¬ hK h a < 12; omega), fun z1 z2 => ?_, fun z1 z2 => absurd z1 (by show ¬ 16 ≤ hK h a; omega)⟩
  rw [e1, arrV_store, show hK (wI h a j v) a = 15 from hk]
  show some (arrV _ (hL h a).toNat _) = some (arrV _ (hL h a).toNat _)
  congr 2
  funext i
  unfold updV
  by_cases hij : i = j.toNat
  · subst hij
    rw [if_pos rfl, toNat_cast h0]
    simp [hI, wI]
  · rw [if_neg hij]
    have hij2 : ¬ ((i : Int) = j) := by omega
    simp [hI, wI, hij2]
theorem s_cast {M : MI} {pc : Nat} {lv : List (Nat × AV)} {st : List AV} {h : Hp} {Q : Option AV → Hp → Prop} {a : Nat} {j v : Int} (hd : decode M.2.1 pc = .ok (.castore, 1)) (hk : hK h a = 14) (h0 : 0 ≤ j) (h1 : j < hL h a) (hv : 0 ≤ v ∧ v ≤ 65535) (k : Go M (pc + 1) lv st (wI h a j v) Q) : Go M pc lv (.inl v :: .inl j :: .inr (.inr a) :: st) h Q := by
  refine Go.of2 k (Nat.le_refl _) (Nat.le_refl _) fun r h' hle1 hle2 S => ?_
  intro base b D cA p l e R s m args below meth c H locs N0 S0 ls Qf C oh rl hn hss hRm hl ol os hlo hf
  obtain ⟨ha2, haN⟩ := okH_lt oh hk (by omega)
  have hcell := (rl.2.1 a ha2 haN).2.1 (by omega) (by omega)
  rw [hk] at hcell
  have hlen := (oh.2.2.2.2.2.1 a).2
  have hnar : narrow .char (.int (Int32.ofInt v)) = .int (Int32.ofInt v) := by
    have e := i2c_eq hv
    rw [← e]
    exact pk_nc _
  rw [List.map_cons, List.map_cons, List.map_cons, rv_ref (by omega : a ≠ 0)]
  refine W.cast C.1 C.2.1 hcell ((C.2.2.2.2.2.2.2.2.1.arr 2 rfl).1 _ _) (fun q => by cases q) (by rw [arrV_size]; exact vp_in_z h0 h1 hlen) rfl rfl hd fun H1 e1 e2 e3 => ?_
  rw [i32_clamp h0 (by omega), hnar] at e1
  refine S base b D cA p l e R s m args below meth c H1 _ N0 S0 ls Qf C (okH_wI oh (ok_hd os) (fun q => by omega)) (rl.upd (a := a) C.2.2.2.2.2.2.2.2.2 ha2 rfl (fun _ => rfl) (fun _ => rfl) (fun k j hk => by simp [hI, wI, hk]) (fun k j hk => rfl) e2 e3 ?_) hn hss hRm hl ol (ok_tl (ok_tl (ok_tl os))) (locs_snoc hlo (ga_lo ha2)) hf
  refine ⟨fun r hr => absurd (cls_lt hr) (by show ¬ hK h a < 12; omega), fun z1 z2 => ?_, fun z1 z2 => absurd z1 (by show ¬ 16 ≤ hK h a; omega)⟩
  rw [e1, arrV_store, show hK (wI h a j v) a = 14 from hk]
  show some (arrV _ (hL h a).toNat _) = some (arrV _ (hL h a).toNat _)
  congr 2
  funext i
  unfold updV
  by_cases hij : i = j.toNat
  · subst hij
    rw [if_pos rfl, toNat_cast h0]
    simp [hI, wI]
  · rw [if_neg hij]
    have hij2 : ¬ ((i : Int) = j) := by omega
    simp [hI, wI, hij2]
theorem s_aald {M : MI} {pc : Nat} {lv : List (Nat × AV)} {st : List AV} {h : Hp} {Q : Option AV → Hp → Prop} {a : Nat} {j : Int} (hd : decode M.2.1 pc = .ok (.aaload, 1)) (hk : hK h a = 16 ∨ hK h a = 17) (h0 : 0 ≤ j) (h1 : j < hL h a) (k : Go M (pc + 1) lv (.inr (.inr (hR h a j)) :: st) h Q) : Go M pc lv (.inl j :: .inr (.inr a) :: st) h Q := by
  refine Go.of k fun r h' S => ?_
  intro base b D cA p l e R s m args below meth c H locs N0 S0 ls Qf C oh rl hn hss hRm hl ol os hlo hf
  obtain ⟨ha2, haN⟩ := okH_lt oh rfl (by omega : hK h a < 18)
  have hcell := (rl.2.1 a ha2 haN).2.2 (by omega) (by omega)
  have hlen := (oh.2.2.2.2.2.1 a).2
  obtain ⟨ty, hty, harr⟩ : ∃ ty : FieldType, ty.isReference = true ∧ ArrOfT s (cA (hK h a)) ty := by
    rcases hk with hk | hk
    · rw [hk]; exact ⟨_, rfl, (C.2.2.2.2.2.2.2.2.1.arr 4 rfl).1⟩
    · rw [hk]; exact ⟨_, rfl, (C.2.2.2.2.2.2.2.2.1.arr 5 rfl).1⟩
  rw [List.map_cons, List.map_cons, rv_ref (by omega : a ≠ 0)]
  refine W.aald C.1 C.2.1 hcell (harr _ _) hty (fun q => by cases q) (by rw [arrV_size]; exact vp_in_z h0 h1 hlen) (v := rv (ga base b) (.inr (.inr (hR h a j)))) ?_ rfl rfl hd (S base b D cA p l e R s m args below meth c H locs N0 S0 ls Qf C oh rl hn hss hRm hl ol (ok_cons trivial (ok_tl (ok_tl os))) hlo hf)
  rw [i32_clamp h0 (by omega), arrV_read _ _ (by omega), toNat_cast h0]
  rfl
theorem s_aast {M : MI} {pc : Nat} {lv : List (Nat × AV)} {st : List AV} {h : Hp} {Q : Option AV → Hp → Prop} {a v : Nat} {j : Int} (hd : decode M.2.1 pc = .ok (.aastore, 1)) (hk : (hK h a = 16 ∧ hK h v = 2) ∨ (hK h a = 17 ∧ hK h v = 7)) (h0 : 0 ≤ j) (h1 : j < hL h a) (k : Go M (pc + 1) lv st (wR h a j v) Q) : Go M pc lv (.inr (.inr v) :: .inl j :: .inr (.inr a) :: st) h Q := by
  refine Go.of2 k (Nat.le_refl _) (Nat.le_refl _) fun r h' hle1 hle2 S => ?_
  intro base b D cA p l e R s m args below meth c H locs N0 S0 ls Qf C oh rl hn hss hRm hl ol os hlo hf
  obtain ⟨ha2, haN⟩ := okH_lt oh rfl (by omega : hK h a < 18)
  obtain ⟨hv2, hvN⟩ := okH_lt oh rfl (by omega : hK h v < 18)
  have hcell := (rl.2.1 a ha2 haN).2.2 (by omega) (by omega)
  have hlen := (oh.2.2.2.2.2.1 a).2
  obtain ⟨r0, C0, hc0, hr0, kA, comp, k1, k2, k3⟩ : ∃ (r0 : vw_C) (C0 : String), vwCl[hK h v]? = some r0 ∧ r0.1 = C0 ∧ ∃ (kA : Class) (comp : ClassId), s.vm.classes[cA (hK h a)]? = some kA ∧ kA.kind = .array comp (.object C0) ∧ s.vm.findClass C0 = some comp := by
    rcases hk with ⟨q1, q2⟩ | ⟨q1, q2⟩
    · obtain ⟨kA, comp, k1, k2, k3, -⟩ := (C.2.2.2.2.2.2.2.2.1.arr 4 rfl).2
      exact ⟨_, _, by rw [q2]; rfl, rfl, kA, comp, by rw [q1]; exact k1, k2, k3⟩
    · obtain ⟨kA, comp, k1, k2, k3, -⟩ := (C.2.2.2.2.2.2.2.2.1.arr 5 rfl).2
      exact ⟨_, _, by rw [q2]; rfl, rfl, kA, comp, by rw [q1]; exact k1, k2, k3⟩
  obtain ⟨cellV, g1, g2, g3, -⟩ := (rl.2.1 v hv2 hvN).1 _ hc0
  have hcls := (C.2.2.2.2.2.2.2.2.1.1.1 _ _ hc0).2
  rw [hr0] at hcls
  have hcomp : comp = D.1 (hK h v) := Option.some.inj (k3.symm.trans hcls.1)
  subst hcomp
  obtain ⟨kC, hkC, -⟩ := hcls.2
  rw [List.map_cons, List.map_cons, List.map_cons, rv_ref (by omega : a ≠ 0), rv_ref (by omega : v ≠ 0)]
  refine W.aast C.1 C.2.1 hcell (fun q h => by cases h) (fun h => by cases h) k1 k2 rfl hkC ⟨fun z => vp_in_z h0 h1 hlen (Or.inl z), by rw [arrV_size, i32_clamp h0 (by omega)]; omega⟩ g1 (fun q h => by rw [g3] at h; cases h) (by rw [g2]; exact hkC) (by rw [g2]; exact va_assign hcls) rfl rfl hd fun H1 e1 e2 e3 => ?_
  rw [i32_clamp h0 (by omega)] at e1
  refine S base b D cA p l e R s m args below meth c H1 _ N0 S0 ls Qf C (okH_wR oh) (rl.upd (a := a) C.2.2.2.2.2.2.2.2.2 ha2 rfl (fun _ => rfl) (fun _ => rfl) (fun k j hk => rfl) (fun k j hk => by simp [hR, wR, hk]) e2 e3 ?_) hn hss hRm hl ol (ok_tl (ok_tl (ok_tl os))) (locs_snoc hlo (ga_lo ha2)) hf
  refine ⟨fun r hr => absurd (cls_lt hr) (by show ¬ hK h a < 12; omega), fun z1 z2 => absurd z2 (by show ¬ hK h a < 16; omega), fun z1 z2 => ?_⟩
  rw [e1, arrV_store, show hK (wR h a j v) a = hK h a from rfl]
  show some (arrV _ (hL h a).toNat _) = some (arrV _ (hL h a).toNat _)
  congr 2
  funext i
  unfold updV
  by_cases hij : i = j.toNat
  · subst hij
    rw [if_pos rfl, toNat_cast h0]
    simp [hR, wR, rr]
    omega
  · rw [if_neg hij]
    have hij2 : ¬ ((i : Int) = j) := by omega
    simp [hR, wR, hij2]
end
section
/-! ENGINE, part 5: new cells, arraycopy, ends, calls -/
theorem al_N (h : Hp) (kd : Nat) (n : Int) (sl : Nat) : hN (al h kd n sl) = hN h + 1 := rfl
theorem al_S (h : Hp) (kd : Nat) (n : Int) (sl : Nat) : hS (al h kd n sl) = hS h + sl := rfl
theorem al_K {h : Hp} {kd : Nat} {n : Int} {sl : Nat} : hK (al h kd n sl) (hN h) = kd := if_pos rfl
theorem al_L {h : Hp} {kd : Nat} {n : Int} {sl : Nat} : hL (al h kd n sl) (hN h) = n := if_pos rfl
theorem al_I {h : Hp} {kd : Nat} {n : Int} {sl : Nat} (j : Int) : hI (al h kd n sl) (hN h) j = 0 := if_pos rfl
theorem al_R {h : Hp} {kd : Nat} {n : Int} {sl : Nat} (j : Int) : hR (al h kd n sl) (hN h) j = 0 := if_pos rfl
theorem al_push {base b : Nat} {D : va_G} {cA : Nat → ClassId} {s : State} {h : Hp} {H H' : Heap} {kd : Nat} {n : Int} {sl : Nat} (x : Rel base b D cA s h H) (oh : okH h) (hb : b < base + 2) (sz : H'.size = H.size + 1) (oq : ∀ q, q < H.size → H'[q]? = H[q]?) (hc : cellR D cA (ga base b) (al h kd n sl) (hN h) H') : Rel base b D cA s (al h kd n sl) H' :=
  x.push oh rfl (fun k hk => if_neg hk) (fun k hk => if_neg hk) (fun k j hk => if_neg hk) (fun k j hk => if_neg hk) hb sz oq hc
theorem def_fv (ty : FieldType) (g : Nat → Nat) (hp : ty = .int ∨ ty = .boolean ∨ isRT ty = true) : defaultValue ty = if isRT ty = true then rr g 0 else .int (Int32.ofInt 0) := by
  rcases hp with rfl | rfl | hp
  · rfl
  · rfl
  · rw [if_pos hp]
    cases ty <;> first | (exact absurd hp (by decide)) | rfl
set_option maxRecDepth 100000 in
theorem cls_ty : ∀ (ci : Nat) (r : vw_C), vwCl[ci]? = some r → ∀ j, j < r.2.2 → (tyOf ci j = .int ∨ tyOf ci j = .boolean ∨ isRT (tyOf ci j) = true) := by
  intro ci r hr
  match ci, hr with
  | 0, hr => cases hr; decide +kernel
  | 1, hr => cases hr; decide +kernel
  | 2, hr => cases hr; decide +kernel
  | 3, hr => cases hr; decide +kernel
  | 4, hr => cases hr; decide +kernel
  | 5, hr => cases hr; decide +kernel
  | 6, hr => cases hr; decide +kernel
  | 7, hr => cases hr; decide +kernel
  | 8, hr => cases hr; decide +kernel
  | 9, hr => cases hr; decide +kernel
  | 10, hr => cases hr; decide +kernel
  | 11, hr => cases hr; decide +kernel
  | n + 12, hr => simp [vwCl] at hr

theorem s_new {M : MI} {pc : Nat} {lv : List (Nat × AV)} {st : List AV} {h : Hp} {Q : Option AV → Hp → Prop} {ci idx : Nat} {r0 : vw_C} (hd : decode M.2.1 pc = .ok (.new idx, 3)) (hc : vwCl[ci]? = some r0) (hlk : Cond.classLink M.2.2.2.2.1 idx r0.1 ∈ gtbl) (k : Go M (pc + 3) lv (.inr (.inr (hN h)) :: st) (al h ci 0 r0.2.2) Q) : Go M pc lv st h Q := by
  refine Go.of2 k (Nat.le_succ _) (Nat.le_add_right _ _) fun r h' hle1 hle2 S => ?_
  intro base b D cA p l e R s m args below meth c H locs N0 S0 ls Qf C oh rl hn hss hRm hl ol os hlo hf
  have hci := cls_lt hc
  obtain ⟨q1, q2, q3, q4, q5⟩ := cls_ok _ _ hc
  have hKn := C.2.2.2.2.2.2.2.2.1.1.1 _ _ hc
  have r3 := hRm.2.2.1
  have r4 := hRm.2.2.2
  rw [al_N] at hle1
  rw [al_S] at hle2
  refine W.newcK C.1 C.2.1 C.2.2.2.1 (C.2.2.2.2.1 _ hlk) (C.2.2.2.2.1 _ q4) (C.2.2.2.2.1 _ q5) rfl hd (by omega) (by omega) hKn.2.1 rfl fun H1 kC hkC e1 z1 o1 => ?_
  have h2 := oh.1
  have eg : H.size = ga base b (hN h) := by rw [ga_2 oh.1, rl.1]
  refine W.cs (cells' := hN (al h ci 0 r0.2.2) - N0) (slots' := hS (al h ci 0 r0.2.2) - S0) (by rw [al_N]; omega) (by rw [al_S]; omega) ?_
  have K := S base b D cA p l e R s m args below meth c H1 locs N0 S0 ls Qf C (okH_al (kd := ci) (sl := r0.2.2) oh ⟨Int.le_refl 0, by omega⟩) (al_push rl oh C.2.2.2.2.2.2.2.2.2 z1 o1 ?_) (by rw [al_N]; omega) (by rw [al_S]; omega) hRm hl ol (ok_cons trivial os) hlo hf
  · rw [List.map_cons, rv_ref (by omega : hN h ≠ 0), ← eg] at K
    exact K
  · refine ⟨fun r hr => ?_, fun z1 z2 => absurd z1 (by rw [al_K]; omega), fun z1 z2 => absurd z1 (by rw [al_K]; omega)⟩
    rw [al_K] at hr ⊢
    have er : r = r0 := Option.some.inj (hr.symm.trans hc)
    subst er
    rw [← eg]
    refine (u_born (tyOf ci) C.2.2.2.2.1 q1 hKn hkC e1 q2).to (fun j hj => ?_)
    unfold fv
    rw [al_K, al_R, al_I]
    exact def_fv (tyOf ci j) (ga base b) (cls_ty _ _ hc j hj)
theorem s_newi {M : MI} {pc : Nat} {lv : List (Nat × AV)} {st : List AV} {h : Hp} {Q : Option AV → Hp → Prop} {n : Int} (hd : decode M.2.1 pc = .ok (.newarray .int, 2)) (hac : Cond.arrayClass .int ∈ gtbl) (h0 : 0 ≤ n) (h1 : n ≤ 100000000) (k : Go M (pc + 2) lv (.inr (.inr (hN h)) :: st) (al h 12 n n.toNat) Q) : Go M pc lv (.inl n :: st) h Q := by
  refine Go.of2 k (Nat.le_succ _) (Nat.le_add_right _ _) fun r h' hle1 hle2 S => ?_
  intro base b D cA p l e R s m args below meth c H locs N0 S0 ls Qf C oh rl hn hss hRm hl ol os hlo hf
  have r3 := hRm.2.2.1
  have r4 := hRm.2.2.2
  rw [al_N] at hle1
  rw [al_S] at hle2
  have hn1 : ¬ Int32.ofInt n < 0 := fun z => by
    have := (i32_lt (ok_hd os) (show okv (.inl 0) from ⟨by omega, by omega⟩)).mp z
    omega
  refine va_newaK (atype := .int) (N := n.toNat) C.1 C.2.1 (C.2.2.2.2.1 _ hac) rfl hd rfl hn1 (i32_clamp h0 (by omega)) (by show n.toNat * 4 ≤ 536870912; omega) (by omega) (by omega) rfl fun H1 cB e1 z1 o1 hA1 hNm => ?_
  have hcA : cB = cA 12 := by
    have h3 := (C.2.2.2.2.2.2.2.2.1.arr 0 rfl).2
    exact Option.some.inj (hNm.symm.trans h3)
  subst hcA
  have h2 := oh.1
  have eg : H.size = ga base b (hN h) := by rw [ga_2 oh.1, rl.1]
  refine W.cs (cells' := hN (al h 12 n n.toNat) - N0) (slots' := hS (al h 12 n n.toNat) - S0) (by rw [al_N]; omega) (by rw [al_S]; omega) ?_
  have K := S base b D cA p l e R s m args below meth c H1 locs N0 S0 ls Qf C (okH_al (kd := 12) (sl := n.toNat) oh ⟨h0, by omega⟩) (al_push rl oh C.2.2.2.2.2.2.2.2.2 z1 o1 ?_) (by rw [al_N]; omega) (by rw [al_S]; omega) hRm hl ol (ok_cons trivial (ok_tl os)) hlo hf
  · rw [List.map_cons, rv_ref (by omega : hN h ≠ 0), ← eg] at K
    exact K
  · refine ⟨fun r hr => absurd (cls_lt hr) (by rw [al_K]; omega), fun z1 z2 => ?_, fun z1 z2 => absurd z1 (by rw [al_K]; omega)⟩
    rw [al_K, al_L, ← eg, e1]
    simp only [al_I]
    rfl
theorem s_newb {M : MI} {pc : Nat} {lv : List (Nat × AV)} {st : List AV} {h : Hp} {Q : Option AV → Hp → Prop} {n : Int} (hd : decode M.2.1 pc = .ok (.newarray .byte, 2)) (hac : Cond.arrayClass .byte ∈ gtbl) (h0 : 0 ≤ n) (h1 : n ≤ 100000000) (k : Go M (pc + 2) lv (.inr (.inr (hN h)) :: st) (al h 13 n n.toNat) Q) : Go M pc lv (.inl n :: st) h Q := by
  refine Go.of2 k (Nat.le_succ _) (Nat.le_add_right _ _) fun r h' hle1 hle2 S => ?_
  intro base b D cA p l e R s m args below meth c H locs N0 S0 ls Qf C oh rl hn hss hRm hl ol os hlo hf
  have r3 := hRm.2.2.1
  have r4 := hRm.2.2.2
  rw [al_N] at hle1
  rw [al_S] at hle2
  have hn1 : ¬ Int32.ofInt n < 0 := fun z => by
    have := (i32_lt (ok_hd os) (show okv (.inl 0) from ⟨by omega, by omega⟩)).mp z
    omega
  refine va_newaK (atype := .byte) (N := n.toNat) C.1 C.2.1 (C.2.2.2.2.1 _ hac) rfl hd rfl hn1 (i32_clamp h0 (by omega)) (by show n.toNat * 1 ≤ 536870912; omega) (by omega) (by omega) rfl fun H1 cB e1 z1 o1 hA1 hNm => ?_
  have hcA : cB = cA 13 := by
    have h3 := (C.2.2.2.2.2.2.2.2.1.arr 1 rfl).2
    exact Option.some.inj (hNm.symm.trans h3)
  subst hcA
  have h2 := oh.1
  have eg : H.size = ga base b (hN h) := by rw [ga_2 oh.1, rl.1]
  refine W.cs (cells' := hN (al h 13 n n.toNat) - N0) (slots' := hS (al h 13 n n.toNat) - S0) (by rw [al_N]; omega) (by rw [al_S]; omega) ?_
  have K := S base b D cA p l e R s m args below meth c H1 locs N0 S0 ls Qf C (okH_al (kd := 13) (sl := n.toNat) oh ⟨h0, by omega⟩) (al_push rl oh C.2.2.2.2.2.2.2.2.2 z1 o1 ?_) (by rw [al_N]; omega) (by rw [al_S]; omega) hRm hl ol (ok_cons trivial (ok_tl os)) hlo hf
  · rw [List.map_cons, rv_ref (by omega : hN h ≠ 0), ← eg] at K
    exact K
  · refine ⟨fun r hr => absurd (cls_lt hr) (by rw [al_K]; omega), fun z1 z2 => ?_, fun z1 z2 => absurd z1 (by rw [al_K]; omega)⟩
    rw [al_K, al_L, ← eg, e1]
    simp only [al_I]
    rfl
theorem s_newc {M : MI} {pc : Nat} {lv : List (Nat × AV)} {st : List AV} {h : Hp} {Q : Option AV → Hp → Prop} {n : Int} (hd : decode M.2.1 pc = .ok (.newarray .char, 2)) (hac : Cond.arrayClass .char ∈ gtbl) (h0 : 0 ≤ n) (h1 : n ≤ 100000000) (k : Go M (pc + 2) lv (.inr (.inr (hN h)) :: st) (al h 14 n n.toNat) Q) : Go M pc lv (.inl n :: st) h Q := by
  refine Go.of2 k (Nat.le_succ _) (Nat.le_add_right _ _) fun r h' hle1 hle2 S => ?_
  intro base b D cA p l e R s m args below meth c H locs N0 S0 ls Qf C oh rl hn hss hRm hl ol os hlo hf
  have r3 := hRm.2.2.1
  have r4 := hRm.2.2.2
  rw [al_N] at hle1
  rw [al_S] at hle2
  have hn1 : ¬ Int32.ofInt n < 0 := fun z => by
    have := (i32_lt (ok_hd os) (show okv (.inl 0) from ⟨by omega, by omega⟩)).mp z
    omega
  refine va_newaK (atype := .char) (N := n.toNat) C.1 C.2.1 (C.2.2.2.2.1 _ hac) rfl hd rfl hn1 (i32_clamp h0 (by omega)) (by show n.toNat * 2 ≤ 536870912; omega) (by omega) (by omega) rfl fun H1 cB e1 z1 o1 hA1 hNm => ?_
  have hcA : cB = cA 14 := by
    have h3 := (C.2.2.2.2.2.2.2.2.1.arr 2 rfl).2
    exact Option.some.inj (hNm.symm.trans h3)
  subst hcA
  have h2 := oh.1
  have eg : H.size = ga base b (hN h) := by rw [ga_2 oh.1, rl.1]
  refine W.cs (cells' := hN (al h 14 n n.toNat) - N0) (slots' := hS (al h 14 n n.toNat) - S0) (by rw [al_N]; omega) (by rw [al_S]; omega) ?_
  have K := S base b D cA p l e R s m args below meth c H1 locs N0 S0 ls Qf C (okH_al (kd := 14) (sl := n.toNat) oh ⟨h0, by omega⟩) (al_push rl oh C.2.2.2.2.2.2.2.2.2 z1 o1 ?_) (by rw [al_N]; omega) (by rw [al_S]; omega) hRm hl ol (ok_cons trivial (ok_tl os)) hlo hf
  · rw [List.map_cons, rv_ref (by omega : hN h ≠ 0), ← eg] at K
    exact K
  · refine ⟨fun r hr => absurd (cls_lt hr) (by rw [al_K]; omega), fun z1 z2 => ?_, fun z1 z2 => absurd z1 (by rw [al_K]; omega)⟩
    rw [al_K, al_L, ← eg, e1]
    simp only [al_I]
    rfl
theorem s_newz {M : MI} {pc : Nat} {lv : List (Nat × AV)} {st : List AV} {h : Hp} {Q : Option AV → Hp → Prop} {n : Int} (hd : decode M.2.1 pc = .ok (.newarray .boolean, 2)) (hac : Cond.arrayClass .boolean ∈ gtbl) (h0 : 0 ≤ n) (h1 : n ≤ 100000000) (k : Go M (pc + 2) lv (.inr (.inr (hN h)) :: st) (al h 15 n n.toNat) Q) : Go M pc lv (.inl n :: st) h Q := by
  refine Go.of2 k (Nat.le_succ _) (Nat.le_add_right _ _) fun r h' hle1 hle2 S => ?_
  intro base b D cA p l e R s m args below meth c H locs N0 S0 ls Qf C oh rl hn hss hRm hl ol os hlo hf
  have r3 := hRm.2.2.1
  have r4 := hRm.2.2.2
  rw [al_N] at hle1
  rw [al_S] at hle2
  have hn1 : ¬ Int32.ofInt n < 0 := fun z => by
    have := (i32_lt (ok_hd os) (show okv (.inl 0) from ⟨by omega, by omega⟩)).mp z
    omega
  refine va_newaK (atype := .boolean) (N := n.toNat) C.1 C.2.1 (C.2.2.2.2.1 _ hac) rfl hd rfl hn1 (i32_clamp h0 (by omega)) (by show n.toNat * 1 ≤ 536870912; omega) (by omega) (by omega) rfl fun H1 cB e1 z1 o1 hA1 hNm => ?_
  have hcA : cB = cA 15 := by
    have h3 := (C.2.2.2.2.2.2.2.2.1.arr 3 rfl).2
    exact Option.some.inj (hNm.symm.trans h3)
  subst hcA
  have h2 := oh.1
  have eg : H.size = ga base b (hN h) := by rw [ga_2 oh.1, rl.1]
  refine W.cs (cells' := hN (al h 15 n n.toNat) - N0) (slots' := hS (al h 15 n n.toNat) - S0) (by rw [al_N]; omega) (by rw [al_S]; omega) ?_
  have K := S base b D cA p l e R s m args below meth c H1 locs N0 S0 ls Qf C (okH_al (kd := 15) (sl := n.toNat) oh ⟨h0, by omega⟩) (al_push rl oh C.2.2.2.2.2.2.2.2.2 z1 o1 ?_) (by rw [al_N]; omega) (by rw [al_S]; omega) hRm hl ol (ok_cons trivial (ok_tl os)) hlo hf
  · rw [List.map_cons, rv_ref (by omega : hN h ≠ 0), ← eg] at K
    exact K
  · refine ⟨fun r hr => absurd (cls_lt hr) (by rw [al_K]; omega), fun z1 z2 => ?_, fun z1 z2 => absurd z1 (by rw [al_K]; omega)⟩
    rw [al_K, al_L, ← eg, e1]
    simp only [al_I]
    rfl
theorem s_newF {M : MI} {pc : Nat} {lv : List (Nat × AV)} {st : List AV} {h : Hp} {Q : Option AV → Hp → Prop} {n : Int} {idx : Nat} (hd : decode M.2.1 pc = .ok (.anewarray idx, 3)) (hlk : Cond.classLink M.2.2.2.2.1 idx RX2 ∈ gtbl) (h0 : 0 ≤ n) (h1 : n ≤ 100000000) (k : Go M (pc + 3) lv (.inr (.inr (hN h)) :: st) (al h 16 n n.toNat) Q) : Go M pc lv (.inl n :: st) h Q := by
  refine Go.of2 k (Nat.le_succ _) (Nat.le_add_right _ _) fun r h' hle1 hle2 S => ?_
  intro base b D cA p l e R s m args below meth c H locs N0 S0 ls Qf C oh rl hn hss hRm hl ol os hlo hf
  have r3 := hRm.2.2.1
  have r4 := hRm.2.2.2
  rw [al_N] at hle1
  rw [al_S] at hle2
  have hn1 : ¬ Int32.ofInt n < 0 := fun z => by
    have := (i32_lt (ok_hd os) (show okv (.inl 0) from ⟨by omega, by omega⟩)).mp z
    omega
  have ecl := i32_clamp h0 (by omega : n ≤ 2147483647)
  refine W.anew C.1 C.2.1 C.2.2.2.1 (C.2.2.2.2.1 _ hlk) (va_AO.use C.2.2.2.2.2.2.2.2.1.2.1) rfl hd rfl hn1 (by rw [ecl]; omega) (by omega) (by rw [ecl]; omega) fun cB kA comp f1 f2 f3 f4 => ?_
  rw [ecl]
  have hcA : cB = cA 16 := by
    obtain ⟨_, _, -, -, -, h3⟩ := (C.2.2.2.2.2.2.2.2.1.arr 4 rfl).2
    exact Option.some.inj (f1.symm.trans h3)
  subst hcA
  generalize hH1 : H.push ({ cls := cA 16, slots := Array.replicate n.toNat .null, vm := .none } : Cell) = H1
  have z1 : H1.size = H.size + 1 := by rw [← hH1, Array.size_push]
  have e1 : H1[H.size]? = some (arrV (cA 16) n.toNat (fun _ => .null)) := by rw [← hH1, Array.getElem?_push_size, ← arrV_new]
  have o1 : ∀ q : Nat, q < H.size → H1[q]? = H[q]? := fun q hq => by rw [← hH1, Array.getElem?_push, if_neg (Nat.ne_of_lt hq)]
  have h2 := oh.1
  have eg : H.size = ga base b (hN h) := by rw [ga_2 oh.1, rl.1]
  refine W.cs (cells' := hN (al h 16 n n.toNat) - N0) (slots' := hS (al h 16 n n.toNat) - S0) (by rw [al_N]; omega) (by rw [al_S]; omega) ?_
  have K := S base b D cA p l e R s m args below meth c H1 locs N0 S0 ls Qf C (okH_al (kd := 16) (sl := n.toNat) oh ⟨h0, by omega⟩) (al_push rl oh C.2.2.2.2.2.2.2.2.2 z1 o1 ?_) (by rw [al_N]; omega) (by rw [al_S]; omega) hRm hl ol (ok_cons trivial (ok_tl os)) hlo hf
  · rw [List.map_cons, rv_ref (by omega : hN h ≠ 0), ← eg] at K
    exact K
  · refine ⟨fun r hr => absurd (cls_lt hr) (by rw [al_K]; omega), fun z1 z2 => absurd z2 (by rw [al_K]; omega), fun z1 z2 => ?_⟩
    rw [al_K, al_L, ← eg, e1]
    simp only [al_R]
    rfl
theorem s_newS {M : MI} {pc : Nat} {lv : List (Nat × AV)} {st : List AV} {h : Hp} {Q : Option AV → Hp → Prop} {n : Int} {idx : Nat} (hd : decode M.2.1 pc = .ok (.anewarray idx, 3)) (hlk : Cond.classLink M.2.2.2.2.1 idx RX8 ∈ gtbl) (h0 : 0 ≤ n) (h1 : n ≤ 100000000) (k : Go M (pc + 3) lv (.inr (.inr (hN h)) :: st) (al h 17 n n.toNat) Q) : Go M pc lv (.inl n :: st) h Q := by
  refine Go.of2 k (Nat.le_succ _) (Nat.le_add_right _ _) fun r h' hle1 hle2 S => ?_
  intro base b D cA p l e R s m args below meth c H locs N0 S0 ls Qf C oh rl hn hss hRm hl ol os hlo hf
  have r3 := hRm.2.2.1
  have r4 := hRm.2.2.2
  rw [al_N] at hle1
  rw [al_S] at hle2
  have hn1 : ¬ Int32.ofInt n < 0 := fun z => by
    have := (i32_lt (ok_hd os) (show okv (.inl 0) from ⟨by omega, by omega⟩)).mp z
    omega
  have ecl := i32_clamp h0 (by omega : n ≤ 2147483647)
  refine W.anew C.1 C.2.1 C.2.2.2.1 (C.2.2.2.2.1 _ hlk) (va_AO.use C.2.2.2.2.2.2.2.2.1.2.2.1) rfl hd rfl hn1 (by rw [ecl]; omega) (by omega) (by rw [ecl]; omega) fun cB kA comp f1 f2 f3 f4 => ?_
  rw [ecl]
  have hcA : cB = cA 17 := by
    obtain ⟨_, _, -, -, -, h3⟩ := (C.2.2.2.2.2.2.2.2.1.arr 5 rfl).2
    exact Option.some.inj (f1.symm.trans h3)
  subst hcA
  generalize hH1 : H.push ({ cls := cA 17, slots := Array.replicate n.toNat .null, vm := .none } : Cell) = H1
  have z1 : H1.size = H.size + 1 := by rw [← hH1, Array.size_push]
  have e1 : H1[H.size]? = some (arrV (cA 17) n.toNat (fun _ => .null)) := by rw [← hH1, Array.getElem?_push_size, ← arrV_new]
  have o1 : ∀ q : Nat, q < H.size → H1[q]? = H[q]? := fun q hq => by rw [← hH1, Array.getElem?_push, if_neg (Nat.ne_of_lt hq)]
  have h2 := oh.1
  have eg : H.size = ga base b (hN h) := by rw [ga_2 oh.1, rl.1]
  refine W.cs (cells' := hN (al h 17 n n.toNat) - N0) (slots' := hS (al h 17 n n.toNat) - S0) (by rw [al_N]; omega) (by rw [al_S]; omega) ?_
  have K := S base b D cA p l e R s m args below meth c H1 locs N0 S0 ls Qf C (okH_al (kd := 17) (sl := n.toNat) oh ⟨h0, by omega⟩) (al_push rl oh C.2.2.2.2.2.2.2.2.2 z1 o1 ?_) (by rw [al_N]; omega) (by rw [al_S]; omega) hRm hl ol (ok_cons trivial (ok_tl os)) hlo hf
  · rw [List.map_cons, rv_ref (by omega : hN h ≠ 0), ← eg] at K
    exact K
  · refine ⟨fun r hr => absurd (cls_lt hr) (by rw [al_K]; omega), fun z1 z2 => absurd z2 (by rw [al_K]; omega), fun z1 z2 => ?_⟩
    rw [al_K, al_L, ← eg, e1]
    simp only [al_R]
    rfl
theorem fits_byte {z : Int} (h : -128 ≤ z ∧ z ≤ 127) : fits .byte (.int (Int32.ofInt z)) = true := by
  rw [← i2b_eq h]
  exact pk_fb _
theorem s_acpy {M : MI} {pc : Nat} {lv : List (Nat × AV)} {st : List AV} {h : Hp} {Q : Option AV → Hp → Prop} {a a0 idx : Nat} {sp dp n : Int} (hd : decode M.2.1 pc = .ok (.invokestatic idx, 3)) (hlk : Cond.methodLink M.2.2.2.2.1 idx arraycopyName ∈ gtbl) (hna : Cond.native arraycopyName ∈ gtbl) (hsa : Cond.static arraycopyName ∈ gtbl) (hia : Cond.initialized "java/lang/System" ∈ gtbl) (hlv : 1 ≤ M.2.2.2.2.2) (hst : st = []) (hk0 : hK h a0 = 13) (hk : hK h a = 13) (h1 : 0 ≤ sp) (h2 : 0 ≤ dp) (h3 : 0 ≤ n) (h4 : sp + n ≤ hL h a0) (h5 : dp + n ≤ hL h a) (k : Go M (pc + 3) lv st (cpI h a0 sp a dp n) Q) : Go M pc lv (.inl n :: .inl dp :: .inr (.inr a) :: .inl sp :: .inr (.inr a0) :: st) h Q := by
  refine Go.of2 k (Nat.le_refl _) (Nat.le_refl _) fun r h' hle1 hle2 S => ?_
  intro base b D cA p l e R s m args below meth c H locs N0 S0 ls Qf C oh rl hn hss hRm hl ol os hlo hf
  subst hst
  obtain ⟨ha2, haN⟩ := okH_lt oh hk (by omega)
  obtain ⟨hb2, hbN⟩ := okH_lt oh hk0 (by omega)
  have hc1 := (rl.2.1 a ha2 haN).2.1 (by omega) (by omega)
  have hc0 := (rl.2.1 a0 hb2 hbN).2.1 (by omega) (by omega)
  rw [hk] at hc1
  rw [hk0] at hc0
  have hl1 := oh.2.2.2.2.2.1 a
  have hl0 := oh.2.2.2.2.2.1 a0
  have z0 : okv (.inl 0) := ⟨by omega, by omega⟩
  have nneg : ∀ z : Int, 0 ≤ z → z ≤ 2147483647 → ¬ Int32.ofInt z < 0 := fun z q1 q2 q => by
    have := (i32_lt (show okv (.inl z) from ⟨by omega, by omega⟩) z0).mp q
    omega
  have es := i32_clamp h1 (by omega : sp ≤ 2147483647)
  have ed := i32_clamp h2 (by omega : dp ≤ 2147483647)
  have en := i32_clamp h3 (by omega : n ≤ 2147483647)
  rw [List.map_cons, List.map_cons, List.map_cons, List.map_cons, List.map_cons, rv_ref (by omega : a ≠ 0), rv_ref (by omega : a0 ≠ 0)]
  have rl1 := hRm.1
  have rl2 := hRm.2.1
  intro T hT X
  obtain ⟨-, k0, hkk0, cm0, hkd0⟩ := (C.2.2.2.2.2.2.2.2.1.arr 1 rfl).1 (hL h a0).toNat (fun j => .int (Int32.ofInt (hI h a0 j)))
  obtain ⟨-, k1, hkk1, cm1, hkd1⟩ := (C.2.2.2.2.2.2.2.2.1.arr 1 rfl).1 (hL h a).toNat (fun j => .int (Int32.ofInt (hI h a j)))
  obtain ⟨vm', X', step⟩ := X.arraycopy C.1 C.2.2.2.1 (C.2.2.2.2.1 _ hlk) (C.2.2.2.2.1 _ hna) (C.2.2.2.2.1 _ hsa) (C.2.2.2.2.1 _ hia) (src := ga base b a0) (dst := ga base b a) (cs := arrV (cA 13) (hL h a0).toNat (fun j => .int (Int32.ofInt (hI h a0 j)))) (cd := arrV (cA 13) (hL h a).toNat (fun j => .int (Int32.ofInt (hI h a j)))) (srcPos := Int32.ofInt sp) (destPos := Int32.ofInt dp) (n := Int32.ofInt n) (by rw [hT]; exact hc0) (by rw [hT]; exact hc1)
    (fun _ h => by cases h) (fun _ h => by cases h) (fun h => by cases h) (fun h => by cases h) hkk0 hkk1 hkd0 hkd1 (by dsimp only; decide) (nneg sp h1 (by omega)) (nneg dp h2 (by omega)) (nneg n h3 (by omega))
    (by rw [arrV_size, i32_toInt ⟨by omega, by omega⟩, i32_toInt ⟨by omega, by omega⟩]; omega)
    (by rw [arrV_size, i32_toInt ⟨by omega, by omega⟩, i32_toInt ⟨by omega, by omega⟩]; omega)
    (fun vm₁ _ i hi => by
      rw [es]
      rw [en] at hi
      have e : (arrV (cA 13) (hL h a0).toNat (fun j => .int (Int32.ofInt (hI h a0 j)))).slots.getD (sp.toNat + i) .null = .int (Int32.ofInt (hI h a0 ((sp.toNat + i : Nat) : Int))) := by
        rw [Array.getD_eq_getD_getElem?, arrV_read _ _ (by omega)]
        rfl
      refine ⟨?_, ?_⟩
      · rw [e]
        exact fits_byte (oh.2.2.2.2.2.2 a0 _ hk0)
      · rw [e]
        exact trivial)
    (g := F0 m pc ls [.int (Int32.ofInt n), .int (Int32.ofInt dp), .ref (ga base b a), .int (Int32.ofInt sp), .ref (ga base b a0)]) rfl (by rw [C.2.2.1]; exact hl.1) (rest := []) rfl (by rw [C.2.1]; exact hd) (by omega) (by show 2 * 0 + 0 + (nativeFrameWords "java/lang/System" "arraycopy" 5 + 11) ≤ _; have : nativeFrameWords "java/lang/System" "arraycopy" 5 + 11 ≤ 36 := (by decide +kernel); omega)
  have e1 : copied (arrV (cA 13) (hL h a0).toNat (fun j => .int (Int32.ofInt (hI h a0 j)))) (arrV (cA 13) (hL h a).toNat (fun j => .int (Int32.ofInt (hI h a j)))) (Int32.ofInt sp) (Int32.ofInt dp) (Int32.ofInt n) = arrV (cA 13) (hL h a).toNat (fun j => .int (va_cpy (fun j : Nat => Int32.ofInt (hI h a0 j)) (fun j : Nat => Int32.ofInt (hI h a j)) sp.toNat dp.toNat n.toNat j)) := by
    have e0 := va_copied (fun z => Value.int z) (cA 13) (cA 13) (n1 := (hL h a).toNat) (dp := dp.toNat) (fun j : Nat => Int32.ofInt (hI h a0 j)) (fun j : Nat => Int32.ofInt (hI h a j)) (show sp.toNat + n.toNat ≤ (hL h a0).toNat by omega)
    rw [← es, ← ed, ← en]
    rw [← es, ← ed, ← en] at e0
    exact e0
  rw [e1] at X' step
  have hlt : ga base b a < H.size := (Array.getElem?_eq_some_iff.mp hc1).1
  generalize hcl : arrV (cA 13) (hL h a).toNat (fun j => .int (va_cpy (fun j : Nat => Int32.ofInt (hI h a0 j)) (fun j : Nat => Int32.ofInt (hI h a j)) sp.toNat dp.toNat n.toNat j)) = newc at X' step
  have hheap : ((T.setVm vm').setCell (ga base b a) newc).heap = H.setIfInBounds (ga base b a) newc := by rw [← hT]; rfl
  have oq : ∀ q : Nat, q ≠ ga base b a → (H.setIfInBounds (ga base b a) newc)[q]? = H[q]? := fun q hq => by simp [Array.getElem?_setIfInBounds, Ne.symm hq]
  have oa : (H.setIfInBounds (ga base b a) newc)[ga base b a]? = some newc := by simp [Array.getElem?_setIfInBounds, hlt]
  have hrel : Rel base b D cA s (cpI h a0 sp a dp n) (H.setIfInBounds (ga base b a) newc) := by
    refine rl.upd (a := a) C.2.2.2.2.2.2.2.2.2 ha2 rfl (fun _ => rfl) (fun _ => rfl) (fun k j hk => by simp [hI, cpI, hk]) (fun k j hk => rfl) (by simp) oq ?_
    refine ⟨fun r hr => absurd (cls_lt hr) (by show ¬ hK h a < 12; omega), fun z1 z2 => ?_, fun z1 z2 => absurd z1 (by show ¬ 16 ≤ hK h a; omega)⟩
    rw [oa, ← hcl, show hK (cpI h a0 sp a dp n) a = 13 from hk]
    show some (arrV _ (hL h a).toNat _) = some (arrV _ (hL h a).toNat _)
    congr 2
    funext i
    unfold va_cpy
    by_cases hi : dp.toNat ≤ i ∧ i < dp.toNat + n.toNat
    · rw [if_pos hi]
      have e2 : hI (cpI h a0 sp a dp n) a i = hI h a0 (sp + ((i : Int) - dp)) := if_pos ⟨rfl, by omega, by omega⟩
      have e3 : ((sp.toNat + (i - dp.toNat) : Nat) : Int) = sp + ((i : Int) - dp) := by omega
      show Value.int (Int32.ofInt (hI h a0 ((sp.toNat + (i - dp.toNat) : Nat) : Int))) = _
      rw [e2, e3]
    · rw [if_neg hi]
      have e2 : hI (cpI h a0 sp a dp n) a i = hI h a i := if_neg (by omega)
      rw [e2]
  have K := fun (L1 : List Loc) (hL1 : ∀ q ∈ L1, base + 2 ≤ q.base) => S base b D cA p l e R s m args below meth c (H.setIfInBounds (ga base b a) newc) L1 N0 S0 ls Qf C (okH_cpI (i := sp) (b := a) (j := dp) (n := n) oh hk0) hrel hn hss hRm hl ol (ok_tl (ok_tl (ok_tl (ok_tl (ok_tl os))))) hL1 hf
  exact (K _ (fun q hq => by
    rcases List.mem_append.mp hq with z | z
    · exact hlo q z
    · obtain ⟨y, -, hy⟩ := List.mem_map.mp z
      rw [← hy]
      exact ga_lo ha2) _ hheap X').elim (fun t ht => ⟨t, step t ht.1, ht.2⟩)
theorem s_ret {M : MI} {pc : Nat} {lv : List (Nat × AV)} {st : List AV} {h : Hp} {Q : Option AV → Hp → Prop} {r : Option AV} (hr : RetOk M pc r) (he : st = r.toList) (hq : Q r h) : Go M pc lv st h Q := by
  refine ⟨r, h, hq, Nat.le_refl _, Nat.le_refl _, ?_⟩
  intro base b D cA p l e R s m args below meth c H locs N0 S0 ls Qf C oh rl hn hss hRm hl ol os hlo hf
  subst he
  refine hf pc H locs ls hr oh rl (fun v hv => os v ?_) hlo
  rw [hv]
  exact List.mem_singleton.mpr rfl
theorem s_iret {M : MI} {pc : Nat} {lv : List (Nat × AV)} {st : List AV} {h : Hp} {Q : Option AV → Hp → Prop} {x : Int} {ty : FieldType} (hd : decode M.2.1 pc = .ok (.ireturn, 1)) (hm : M.2.2.2.1 = some ty) (hn : narrow ty (.int (Int32.ofInt x)) = .int (Int32.ofInt x)) (hq : Q (some (.inl x)) h) : Go M pc lv [.inl x] h Q := s_ret (r := some (.inl x)) ⟨ty, hm, hn, hd⟩ rfl hq
theorem s_vret {M : MI} {pc : Nat} {lv : List (Nat × AV)} {st : List AV} {h : Hp} {Q : Option AV → Hp → Prop} (hd : decode M.2.1 pc = .ok (.return_, 1)) (hm : M.2.2.2.1 = none) (hq : Q none h) : Go M pc lv [] h Q := s_ret (r := none) ⟨hm, hd⟩ rfl hq
theorem s_aret {M : MI} {pc : Nat} {lv : List (Nat × AV)} {st : List AV} {h : Hp} {Q : Option AV → Hp → Prop} {x : Nat} {rt : FieldType} (hd : decode M.2.1 pc = .ok (.areturn, 1)) (hm : M.2.2.2.1 = some rt) (hrt : (∃ n, rt = .object n) ∨ ∃ t, rt = .array t) (hq : Q (some (.inr (.inr x))) h) : Go M pc lv [.inr (.inr x)] h Q := s_ret (r := some (.inr (.inr x))) ⟨⟨rt, hm, hrt⟩, hd⟩ rfl hq
theorem nar_z {x : Int} (h : x = 0 ∨ x = 1) : narrow .boolean (.int (Int32.ofInt x)) = .int (Int32.ofInt x) := by rcases h with rfl | rfl <;> rfl
theorem fit_z {x : Int} (h : x = 0 ∨ x = 1) : fits .boolean (.int (Int32.ofInt x)) = true := by rcases h with rfl | rfl <;> rfl
end
section
/-! ENGINE, part 6: a method's contract out of Go, and the rows of the calls -/
def wsM (M : MI) : List Cond := Cond.code M.1 M.2.1 M.2.2.1 M.2.2.2.1 :: gtbl
def PcOf (base b : Nat) (D : va_G) (cA : Nat → ClassId) (as : List AV) (h : Hp) : Array Value → State → Prop := fun v U => v = (as.map (rv (ga base b))).toArray ∧ okH h ∧ Rel base b D cA U h U.heap ∧ Kn D cA U
def QcOf (base b : Nat) (D : va_G) (cA : Nat → ClassId) (r : Option AV) (h' : Hp) : Array Value → State → Outcome → State → Prop := fun _ _ o t => o = .returned (r.map (rv (ga base b))) ∧ okH h' ∧ Rel base b D cA t h' t.heap ∧ ∀ v, r = some v → okv v
def lvA : Nat → List AV → List (Nat × AV)
  | _, [] => []
  | i, v :: vs => (i, v) :: lvA (i + 1) vs
theorem lvA_R (g : Nat → Nat) : ∀ (as : List AV) (i : Nat), (∀ v ∈ as, cat v = 1) → lv_args i (as.map (rv g)) = lvR g (lvA i as)
  | [], _, _ => rfl
  | v :: vs, i, hc => by
    have h1 : (rv g v).category = 1 := (cat_rv g v).trans (hc v List.mem_cons_self)
    show (i, rv g v) :: lv_args (if (rv g v).category = 2 then i + 2 else i + 1) (vs.map (rv g)) = (i, rv g v) :: lvR g (lvA (i + 1) vs)
    rw [if_neg (by omega), lvA_R g vs (i + 1) (fun w hw => hc w (List.mem_cons_of_mem _ hw))]
theorem lvA_ok : ∀ (as : List AV) (i : Nat), (∀ v ∈ as, okv v) → ∀ q ∈ lvA i as, okv q.2
  | [], _, _, q, hq => by cases hq
  | v :: vs, i, ho, q, hq => by
    rcases List.mem_cons.mp hq with rfl | hq
    · exact ho v List.mem_cons_self
    · exact lvA_ok vs (i + 1) (fun w hw => ho w (List.mem_cons_of_mem _ hw)) q hq
theorem lg_sl_len (vs : List Value) (h : ∀ v ∈ vs, v.category = 1) : (lg_sl vs).length = vs.length := by
  induction vs with
  | nil => rfl
  | cons v t ih =>
    have h1 := h v List.mem_cons_self
    have h2 := ih (fun w hw => h w (List.mem_cons_of_mem _ hw))
    show ((if v.category = 2 then [Slot.val v, .second] else [.val v]) ++ lg_sl t).length = _
    rw [if_neg (by omega), List.length_append, h2]
    simp
    omega
theorem Kn.moved {D : va_G} {cA : Nat → ClassId} {s U : State} (hW : s.WarmedH U.vm) (x : Kn D cA s) : Kn D cA U := ⟨va_K.moved hW.alike x.1, x.2.1.moved hW.alike, x.2.2.1.moved hW.alike, fun q hq => va_Nw.warmM hW (x.2.2.2 q hq)⟩
theorem Rel.moved {base b : Nat} {D : va_G} {cA : Nat → ClassId} {s U : State} {h : Hp} {H : Heap} (hv : s.vm.Alike U.vm) (x : Rel base b D cA s h H) : Rel base b D cA U h H := ⟨x.1, x.2.1, x.2.2.moved hv⟩
/-- what a method must be, so that it can be called -/
def MOk (M : MI) : Prop := Cond.code M.1 M.2.1 M.2.2.1 M.2.2.2.1 ∈ gtbl ∧ Cond.initialized M.1.cls ∈ gtbl ∧ M.1.cls = M.2.2.2.2.1 ∧ (M.1.cls ≠ "java/lang/invoke/MethodHandle" ∧ M.1.cls ≠ "java/lang/invoke/VarHandle") ∧ plainName M.1.cls = true ∧ M.2.2.1 ≤ 9
theorem gtbl_good : GoodIn gtbl gtbl := fun w hw => ⟨hw, good_of_word (List.mem_filter.mp hw).2⟩
theorem wsM_good {M : MI} (hM : MOk M) : GoodIn gtbl (wsM M) := fun w hw => by
  rcases List.mem_cons.mp hw with rfl | hw
  · exact gtbl_good _ hM.1
  · exact gtbl_good w hw
theorem met_of {M : MI} {as : List AV} {h h' : Hp} {r : Option AV} (hM : MOk M) (hc : ∀ v ∈ as, cat v = 1) (ho : ∀ v ∈ as, okv v) (hlen : as.length ≤ M.2.2.1) (e1 : hN h ≤ hN h') (e2 : hS h ≤ hS h') (S : Sim M 0 (lvA 0 as) [] h r h') {base b : Nat} {D : va_G} {cA : Nat → ClassId} (hb : b < base + 2) (l : Launch) :
    Met l M.1 (wsM M) { frames := M.2.2.2.2.2, cells := hN h' - hN h, slots := hS h' - hS h, locals := 36 * M.2.2.2.2.2 } (PcOf base b D cA as h) (QcOf base b D cA r h') (hN h' - hN h) (hS h' - hS h) (fun q => base + 2 ≤ q) := by
  refine Met.ofW (cc := M.2.1) (maxL := M.2.2.1) (ret := M.2.2.2.1) hM.2.2.2.2.1 rfl ?_
  intro p e s m args below meth c s₁ B hml hv
  obtain ⟨rfl, oh, rl, kn⟩ := hv
  have hts := atoms_spec (ws := wsM M) B.pre
  have hown : s.vm.findClass M.1.cls = some m.cls := findClass_of_methodNamed B.named
  have hin : meth.name = M.1.name := (name_of_methodNamed B.named B.method).1
  have hcats : ∀ v ∈ as.map (rv (ga base b)), v.category = 1 := by
    intro v hv
    obtain ⟨w, hw, rfl⟩ := List.mem_map.mp hv
    exact (cat_rv _ w).trans (hc w hw)
  have hsl := lg_sl_len _ hcats
  rw [List.length_map] at hsl
  have hl := lv_entry (as.map (rv (ga base b))) (n := M.2.2.1) (by rw [hsl]; exact hlen)
  rw [lg_entry_eq]
  rw [lvA_R _ _ _ hc] at hl
  have C : Cx M base b D cA p s m (as.map (rv (ga base b))).toArray meth c := ⟨B.exec, B.bytes, hml, by rw [← hM.2.2.1]; exact hown, fun w hw => hts w (List.mem_cons_of_mem _ hw), B.returns, B.notSynchronized, fun z => hin.trans z, kn, hb⟩
  have K := S base b D cA p l e (headSpec (wsM M) { frames := M.2.2.2.2.2, cells := hN h' - hN h, slots := hS h' - hS h, locals := 36 * M.2.2.2.2.2 }).room s m (as.map (rv (ga base b))).toArray below meth c s.heap [] (hN h) (hS h) _ (MQ below (QcOf base b D cA r h') (as.map (rv (ga base b))).toArray s (hN h' - hN h) (hS h' - hS h) (fun q => base + 2 ≤ q)) C oh rl (Nat.le_refl _) (Nat.le_refl _) ⟨Nat.le_refl _, Nat.le_refl _, Nat.le_refl _, Nat.le_refl _⟩ hl (lvA_ok as 0 ho) (fun v hv => by cases hv) (fun q hq => by cases hq) ?_
  · rw [Nat.sub_self, Nat.sub_self] at K
    exact K
  · intro pc H locs ls hr oh' rl' hov hlo
    have hlocks := B.notSynchronized
    have hq : ∀ t : State, t.heap = H → s.WarmedH t.vm → QcOf base b D cA r h' (as.map (rv (ga base b))).toArray s (.returned (r.map (rv (ga base b)))) t := fun t ht hW => ⟨rfl, oh', by rw [ht]; exact rl'.moved hW.alike, hov⟩
    match r, hr, hq with
    | none, hr, hq => exact W.vret B.exec B.bytes (B.returns.trans hr.1) hq hlo hr.2 hlocks
    | some (.inl z), hr, hq =>
      obtain ⟨ty, h1, h2, h3⟩ := hr
      exact W.zret B.exec B.bytes (B.returns.trans h1) h2 hq hlo h3 hlocks
    | some (.inr (.inl _)), hr, _ => exact absurd hr (fun z => z)
    | some (.inr (.inr k)), hr, hq =>
      obtain ⟨⟨rt, h1, h2⟩, h3⟩ := hr
      refine W.aret B.exec B.bytes (B.returns.trans h1) h2 ?_ hq hlo h3 hlocks
      show rr _ k = _ ∨ ∃ a, rr _ k = _
      unfold rr
      split
      · exact Or.inl rfl
      · exact Or.inr ⟨_, rfl⟩
theorem Pc_blind {base b : Nat} {D : va_G} {cA : Nat → ClassId} {as : List AV} {h : Hp} : FrameBlind (PcOf base b D cA as h) := by
  intro a U g mk x
  obtain ⟨x1, x2, x3, x4⟩ := x
  have hal : U.vm.Alike (U.calling g mk a).vm := Vm.Alike.refl U.vm
  refine ⟨x1, x2, x3.moved hal, va_K.moved hal x4.1, x4.2.1.moved hal, x4.2.2.1.moved hal, fun q hq => ?_⟩
  exact va_tabs rfl (rfl : U.vm = (U.calling g mk a).vm) (x4.2.2.2 q hq)
/-- behind a call -/
theorem call_on {M : MI} {pc : Nat} {lv : List (Nat × AV)} {rest : List AV} {h1 h' : Hp} {r1 r : Option AV} {h : Hp} (S : Sim M (pc + 3) lv (r1.toList ++ rest) h1 r h') (e1 : hN h ≤ hN h1) (e2 : hS h ≤ hS h1)
    {base b : Nat} {D : va_G} {cA : Nat → ClassId} {p : Program} {l : Launch} {e : Env} {R : Room} {s : State} {m : MethodId} {args : Array Value} {below : List Frame} {meth : Method} {c : Code} {H : Heap} {locs : List Loc} {N0 S0 : Nat} {ls : Array Slot} {Qf : State → Prop} {st0 : List Value} {a1 : Array Value}
    (C : Cx M base b D cA p s m args meth c) (hn : N0 ≤ hN h) (hss : S0 ≤ hS h) (hRm : RoomOk M R (hN h' - N0) (hS h' - S0)) (hl : lv_has ls M.2.2.1 (lvR (ga base b) lv)) (ol : ∀ q ∈ lv, okv q.2) (os : ∀ v ∈ rest, okv v) (hlo : ∀ q ∈ locs, base + 2 ≤ q.base) (hf : Fin_ M base b D cA p l e R s m args below meth c r h' N0 S0 Qf)
    (hr : va_Run p l e R s m args below meth c H locs (hN h - N0) (hS h - S0) (hN h1 - hN h) (hS h1 - hS h) (F0 m pc ls st0) (rest.map (rv (ga base b))) (QcOf base b D cA r1 h1 a1) (fun q => base + 2 ≤ q)) : W p l e R s m args below meth c H locs (hN h - N0) (hS h - S0) Qf (F0 m pc ls st0) := by
  intro T hT X
  obtain ⟨v, st₀, t, T', L, h0, X', hL, f1, f2, ⟨hv, oh1, rl1, ov1⟩, st⟩ := hr T hT X
  cases hv
  have hal : t.vm.Alike s.vm := by rw [← f2]; exact X'.warmed.alike.symm
  have K := S base b D cA p l e R s m args below meth c T'.heap (locs ++ L) N0 S0 ls Qf C oh1 (by rw [f1]; exact rl1.moved hal) (Nat.le_trans hn e1) (Nat.le_trans hss e2) hRm hl ol (fun v hv => by
      rcases List.mem_append.mp hv with z | z
      · exact ov1 v (by cases r1 with | none => cases z | some w => rw [List.mem_singleton.mp z])
      · exact os v z) (fun q hq => by
      rcases List.mem_append.mp hq with z | z
      · exact hlo q z
      · exact hL q z) hf
  rw [show hN h1 - N0 = hN h - N0 + (hN h1 - hN h) by omega, show hS h1 - S0 = hS h - S0 + (hS h1 - hS h) by omega] at K
  obtain ⟨t2, a1, b1⟩ := K T' rfl X'
  refine ⟨t2, st t2 ?_, b1⟩
  have e3 : (r1.map (rv (ga base b))).toList ++ rest.map (rv (ga base b)) = (r1.toList ++ rest).map (rv (ga base b)) := by
    cases r1 <;> simp
  rw [e3]
  exact a1
theorem room_call {M M' : MI} {R : Room} {nc ns : Nat} (hR : RoomOk M R nc ns) (hM' : MOk M') (hlv : M'.2.2.2.2.2 + 1 ≤ M.2.2.2.2.2) : M'.2.2.2.2.2 + 1 ≤ R.frames ∧ 8 + (M'.2.2.1 + 11) + 36 * M'.2.2.2.2.2 ≤ R.locals := by
  have h1 := hR.1
  have h2 := hR.2.1
  have h3 := hM'.2.2.2.2.2
  omega
theorem rest_room {m : MethodId} {pc : Nat} {ls : Array Slot} {st0 : List Value} {g : Nat → Nat} {rest : List AV} (h : (rest.map cat).sum ≤ 8) : 2 * (F0 m pc ls st0).monitorRoom + ((rest.map (rv g)).map fun v => v.category).sum ≤ 8 := by
  refine lv_room ?_
  rw [List.map_map, show ((fun v : Value => v.category) ∘ rv g) = cat from funext (cat_rv g)]
  exact h
theorem ok_app {a b : List AV} (h : ∀ v ∈ a ++ b, okv v) : (∀ v ∈ a, okv v) ∧ ∀ v ∈ b, okv v := ⟨fun v hv => h v (List.mem_append_left _ hv), fun v hv => h v (List.mem_append_right _ hv)⟩
def nPar (M : MI) (n : Nat) : Prop := (parseMethodDescriptor M.1.desc).map (fun d => d.parameters.length) = some n
/-- invokestatic: the callee's end is Q1, and from there on it goes -/
theorem s_callS {M M' : MI} {pc : Nat} {lv : List (Nat × AV)} {st rest as : List AV} {h : Hp} {Q Q1 : Option AV → Hp → Prop} {idx : Nat} (hd : decode M.2.1 pc = .ok (.invokestatic idx, 3)) (hM' : MOk M') (hlk : Cond.methodLink M.2.2.2.2.1 idx M'.1 ∈ gtbl) (hstt : Cond.static M'.1 ∈ gtbl) (hnp : nPar M' as.length) (hlv : M'.2.2.2.2.2 + 1 ≤ M.2.2.2.2.2) (hst : st = as.reverse ++ rest) (hca : ∀ v ∈ as, cat v = 1) (hlen : as.length ≤ M'.2.2.1) (hrm : (rest.map cat).sum ≤ 8)
    (k1 : Go M' 0 (lvA 0 as) [] h Q1) (k : ∀ r h1, Q1 r h1 → Go M (pc + 3) lv (r.toList ++ rest) h1 Q) : Go M pc lv st h Q := by
  obtain ⟨r1, h1, q1, e1, e2, S1⟩ := k1
  obtain ⟨r, h', q, e3, e4, S⟩ := k r1 h1 q1
  refine ⟨r, h', q, Nat.le_trans e1 e3, Nat.le_trans e2 e4, ?_⟩
  intro base b D cA p l e R s m args below meth c H locs N0 S0 ls Qf C oh rl hn hss hRm hl ol os hlo hf
  subst hst
  obtain ⟨oa, orst⟩ := ok_app os
  have oa' : ∀ v ∈ as, okv v := fun v hv => oa v (List.mem_reverse.mpr hv)
  have hMet := met_of hM' hca oa' hlen e1 e2 S1 (base := base) (b := b) (D := D) (cA := cA) C.2.2.2.2.2.2.2.2.2 l
  have r3 := hRm.2.2.1
  have r4 := hRm.2.2.2
  refine call_on (a1 := (as.map (rv (ga base b))).toArray) S e1 e2 C hn hss hRm hl ol orst hlo hf ?_
  refine va_runS (As := as.map (rv (ga base b))) (Ts := gtbl) (own := M.2.2.2.2.1) (index := idx) (n := as.length) (ws := wsM M') (bytes := M'.2.1) (maxL := M'.2.2.1) (ret := M'.2.2.2.1) ⟨C.1, C.2.1, C.2.2.1, C.2.2.2.1, C.2.2.2.2.1⟩ hMet ⟨callB_of as.length C.2.2.2.2.1 (wsM_good hM') rfl rfl rfl (C.2.2.2.2.1 _ hM'.2.1) (C.2.2.2.2.1 _ hlk) ⟨hM'.2.2.2.1.1, hM'.2.2.2.1.2, hnp⟩ (room_call hRm hM' hlv), C.2.2.2.2.1 _ hstt⟩ ⟨Pc_blind, fun U hU hW => ⟨rfl, oh, by rw [hU]; exact rl.moved hW.alike, C.2.2.2.2.2.2.2.2.1.moved hW⟩⟩ rfl (by simp) hl.1 (by show (as.reverse ++ rest).map (rv (ga base b)) = _; simp) (rest_room hrm) hd ⟨by omega, by omega⟩
/-- invokevirtual on an object of a known class -/
theorem s_callV {M M' : MI} {pc : Nat} {lv : List (Nat × AV)} {st rest as : List AV} {h : Hp} {Q Q1 : Option AV → Hp → Prop} {idx a ci : Nat} {r0 : vw_C} (hd : decode M.2.1 pc = .ok (.invokevirtual idx, 3)) (hM' : MOk M') (hlk : Cond.methodLink M.2.2.2.2.1 idx M'.1 ∈ gtbl) (hinst : Cond.instanceMethod M'.1 ∈ gtbl) (hsel : Cond.selects M'.1.cls M'.1 M'.1 ∈ gtbl) (hnp : nPar M' as.length) (hlv : M'.2.2.2.2.2 + 1 ≤ M.2.2.2.2.2) (hc : vwCl[ci]? = some r0) (hcn : r0.1 = M'.1.cls) (hst : st = as.reverse ++ .inr (.inr a) :: rest) (hca : ∀ v ∈ as, cat v = 1) (hlen : as.length + 1 ≤ M'.2.2.1) (hrm : (rest.map cat).sum ≤ 8) (hk : hK h a = ci)
    (k1 : Go M' 0 (lvA 0 (.inr (.inr a) :: as)) [] h Q1) (k : ∀ r h1, Q1 r h1 → Go M (pc + 3) lv (r.toList ++ rest) h1 Q) : Go M pc lv st h Q := by
  obtain ⟨r1, h1, q1, e1, e2, S1⟩ := k1
  obtain ⟨r, h', q, e3, e4, S⟩ := k r1 h1 q1
  refine ⟨r, h', q, Nat.le_trans e1 e3, Nat.le_trans e2 e4, ?_⟩
  intro base b D cA p l e R s m args below meth c H locs N0 S0 ls Qf C oh rl hn hss hRm hl ol os hlo hf
  subst hst
  subst hk
  have hci := cls_lt hc
  obtain ⟨ha2, haN⟩ := okH_lt oh rfl (by omega : hK h a < 18)
  obtain ⟨oa, orst0⟩ := ok_app os
  have orst := ok_tl orst0
  have oa' : ∀ v ∈ as, okv v := fun v hv => oa v (List.mem_reverse.mpr hv)
  have hMet := met_of hM' (as := .inr (.inr a) :: as) (fun v hv => by
    rcases List.mem_cons.mp hv with rfl | hv
    · rfl
    · exact hca v hv) (ok_cons trivial oa') hlen e1 e2 S1 (base := base) (b := b) (D := D) (cA := cA) C.2.2.2.2.2.2.2.2.2 l
  have r3 := hRm.2.2.1
  have r4 := hRm.2.2.2
  obtain ⟨cell, g1, g2, g3, -⟩ := (rl.2.1 a ha2 haN).1 _ hc
  have hcls := (C.2.2.2.2.2.2.2.2.1.1.1 _ _ hc).2.1
  rw [hcn] at hcls
  have erf : rv (ga base b) (.inr (.inr a)) = .ref (ga base b a) := rv_ref (by omega)
  refine call_on (a1 := (Value.ref (ga base b a) :: as.map (rv (ga base b))).toArray) S e1 e2 C hn hss hRm hl ol orst hlo hf ?_
  refine va_runV (b := ga base b a) (C := M'.1.cls) (As := as.map (rv (ga base b))) (Ts := gtbl) (own := M.2.2.2.2.1) (index := idx) (n := as.length) (ws := wsM M') (bytes := M'.2.1) (maxL := M'.2.2.1) (ret := M'.2.2.2.1) ⟨C.1, C.2.1, C.2.2.1, C.2.2.2.1, C.2.2.2.2.1⟩ hMet ⟨callB_of as.length C.2.2.2.2.1 (wsM_good hM') rfl rfl rfl (C.2.2.2.2.1 _ hM'.2.1) (C.2.2.2.2.1 _ hlk) ⟨hM'.2.2.2.1.1, hM'.2.2.2.1.2, hnp⟩ (room_call hRm hM' hlv), C.2.2.2.2.1 _ hinst, C.2.2.2.2.1 _ hsel⟩ ⟨Pc_blind, ⟨cell, g1, by rw [g3]; rfl, by rw [g2]; exact hcls⟩, fun U hU hW => ⟨by rw [List.map_cons, erf], oh, by rw [hU]; exact rl.moved hW.alike, C.2.2.2.2.2.2.2.2.1.moved hW⟩⟩ rfl (by simp) hl.1 (by show (as.reverse ++ .inr (.inr a) :: rest).map (rv (ga base b)) = _; simp [erf]) (rest_room hrm) hd ⟨by omega, by omega⟩
/-- invokespecial of a constructor, plain or of a nest mate -/
theorem s_callI {M M' : MI} {pc : Nat} {lv : List (Nat × AV)} {st rest as : List AV} {h : Hp} {Q Q1 : Option AV → Hp → Prop} {idx a : Nat} (hd : decode M.2.1 pc = .ok (.invokespecial idx, 3)) (hM' : MOk M') (hlk : Cond.methodLink M.2.2.2.2.1 idx M'.1 ∈ gtbl ∨ (M.2.2.2.2.1, idx, M'.1) ∈ nestW) (hinst : Cond.instanceMethod M'.1 ∈ gtbl) (hyn : M'.1.name = "<init>") (hret : M'.2.2.2.1 = none) (hnp : nPar M' as.length) (hlv : M'.2.2.2.2.2 + 1 ≤ M.2.2.2.2.2) (hst : st = as.reverse ++ .inr (.inr a) :: rest) (hca : ∀ v ∈ as, cat v = 1) (hlen : as.length + 1 ≤ M'.2.2.1) (hrm : (rest.map cat).sum ≤ 8) (hk : hK h a < 12)
    (k1 : Go M' 0 (lvA 0 (.inr (.inr a) :: as)) [] h Q1) (k : ∀ r h1, Q1 r h1 → Go M (pc + 3) lv (r.toList ++ rest) h1 Q) : Go M pc lv st h Q := by
  obtain ⟨r1, h1, q1, e1, e2, S1⟩ := k1
  obtain ⟨r, h', q, e3, e4, S⟩ := k r1 h1 q1
  refine ⟨r, h', q, Nat.le_trans e1 e3, Nat.le_trans e2 e4, ?_⟩
  intro base b D cA p l e R s m args below meth c H locs N0 S0 ls Qf C oh rl hn hss hRm hl ol os hlo hf
  subst hst
  obtain ⟨ha2, haN⟩ := okH_lt oh rfl (by omega : hK h a < 18)
  obtain ⟨oa, orst0⟩ := ok_app os
  have orst := ok_tl orst0
  have oa' : ∀ v ∈ as, okv v := fun v hv => oa v (List.mem_reverse.mpr hv)
  have hMet := met_of hM' (as := .inr (.inr a) :: as) (fun v hv => by
    rcases List.mem_cons.mp hv with rfl | hv
    · rfl
    · exact hca v hv) (ok_cons trivial oa') hlen e1 e2 S1 (base := base) (b := b) (D := D) (cA := cA) C.2.2.2.2.2.2.2.2.2 l
  have r3 := hRm.2.2.1
  have r4 := hRm.2.2.2
  have erf : rv (ga base b) (.inr (.inr a)) = .ref (ga base b a) := rv_ref (by omega)
  have hws : wsM M' = Cond.code M'.1 M'.2.1 M'.2.2.1 none :: gtbl := by unfold wsM; rw [hret]
  refine call_on (a1 := (Value.ref (ga base b a) :: as.map (rv (ga base b))).toArray) S e1 e2 C hn hss hRm hl ol orst hlo hf ?_
  rcases hlk with hlk | hlk
  · exact va_runI (b := ga base b a) (As := as.map (rv (ga base b))) (Ts := gtbl) (own := M.2.2.2.2.1) (index := idx) (n := as.length) (ws := wsM M') (bytes := M'.2.1) (maxL := M'.2.2.1) ⟨C.1, C.2.1, C.2.2.1, C.2.2.2.1, C.2.2.2.2.1⟩ hMet ⟨callB_of as.length C.2.2.2.2.1 (wsM_good hM') hws rfl rfl (C.2.2.2.2.1 _ hM'.2.1) (C.2.2.2.2.1 _ hlk) ⟨hM'.2.2.2.1.1, hM'.2.2.2.1.2, hnp⟩ (room_call hRm hM' hlv), hyn, C.2.2.2.2.1 _ hinst⟩ ⟨Pc_blind, fun U hU hW => ⟨by rw [List.map_cons, erf], oh, by rw [hU]; exact rl.moved hW.alike, C.2.2.2.2.2.2.2.2.1.moved hW⟩⟩ rfl (by simp) hl.1 (by show (as.reverse ++ .inr (.inr a) :: rest).map (rv (ga base b)) = _; simp [erf]) (rest_room hrm) hd ⟨by omega, by omega⟩
  · exact va_runIN (b := ga base b a) (host := RX11) (As := as.map (rv (ga base b))) (Ts := gtbl) (own := M.2.2.2.2.1) (index := idx) (n := as.length) (ws := wsM M') (bytes := M'.2.1) (maxL := M'.2.2.1) ⟨C.1, C.2.1, C.2.2.1, C.2.2.2.1, C.2.2.2.2.1⟩ hMet ⟨va_cnB as.length C.2.2.2.2.1 (wsM_good hM') hws rfl rfl (C.2.2.2.2.2.2.2.2.1.2.2.2 _ hlk) (C.2.2.2.2.1 _ hM'.2.1) ⟨hM'.2.2.2.1.1, hM'.2.2.2.1.2, hnp⟩ (room_call hRm hM' hlv), hyn, C.2.2.2.2.1 _ hinst⟩ ⟨Pc_blind, fun U hU hW => ⟨by rw [List.map_cons, erf], oh, by rw [hU]; exact rl.moved hW.alike, C.2.2.2.2.2.2.2.2.1.moved hW⟩⟩ rfl (by simp) hl.1 (by show (as.reverse ++ .inr (.inr a) :: rest).map (rv (ga base b)) = _; simp [erf]) (rest_room hrm) hd ⟨by omega, by omega⟩
theorem s_objInit {M : MI} {pc : Nat} {lv : List (Nat × AV)} {st : List AV} {h : Hp} {Q : Option AV → Hp → Prop} {a idx : Nat} (hd : decode M.2.1 pc = .ok (.invokespecial idx, 3)) (hlk : Cond.methodLink M.2.2.2.2.1 idx Lib.objectInit ∈ gtbl) (hlv : 1 ≤ M.2.2.2.2.2) (hst : st = []) (hk : hK h a < 12) (k : Go M (pc + 3) lv st h Q) : Go M pc lv (.inr (.inr a) :: st) h Q := by
  refine Go.of k fun r h' S => ?_
  intro base b D cA p l e R s m args below meth c H locs N0 S0 ls Qf C oh rl hn hss hRm hl ol os hlo hf
  subst hst
  obtain ⟨ha2, haN⟩ := okH_lt oh rfl (by omega : hK h a < 18)
  have r1 := hRm.1
  have r2 := hRm.2.1
  rw [List.map_cons, rv_ref (by omega : a ≠ 0)]
  have hoi : Cond.instanceMethod Lib.objectInit ∈ gtbl := by decide +kernel
  have hoc : Cond.code Lib.objectInit ⟨#[0xb1]⟩ 1 none ∈ gtbl := by decide +kernel
  exact W.objInit C.1 C.2.1 C.2.2.2.1 (C.2.2.2.2.1 _ hlk) (C.2.2.2.2.1 _ hoi) (C.2.2.2.2.1 _ hoc) rfl (by rw [C.2.2.1]; exact hl.1) rfl hd (by omega) (by show 2 * 0 + 0 + 12 ≤ _; omega) (S base b D cA p l e R s m args below meth c H locs N0 S0 ls Qf C oh rl hn hss hRm hl ol (ok_tl os) hlo hf)
end

section
-- ===== PART A: goes FIRST, ahead of the names: the tables' words, and 'selects' of the private methods out of them =====
/-- a private method of a class that the tables say can be made, by its rows of tables_1 -/
def lw_okq (q : MethodName × Nat) : Prop := (q.1.cls ≠ "java/lang/invoke/MethodHandle" ∧ q.1.cls ≠ "java/lang/invoke/VarHandle") ∧ Cond.instantiable q.1.cls q.2 ∈ tables_1 ∧ Cond.privateMethod q.1 ∈ tables_1 ∧ Cond.instanceMethod q.1 ∈ tables_1
theorem lw_p0 : lw_okq (⟨"MultiwayCut", "putWord", "(I)V"⟩, 10) := ⟨⟨by decide +kernel, by decide +kernel⟩, List.mem_of_getElem? (i := 27) (by decide +kernel), List.mem_of_getElem? (i := 277) (by decide +kernel), List.mem_of_getElem? (i := 278) (by decide +kernel)⟩
theorem lw_p1 : lw_okq (⟨"MultiwayCut$Grouping", "makeRound", "(LMultiwayCut$Graph;)Z"⟩, 2) := ⟨⟨by decide +kernel, by decide +kernel⟩, List.mem_of_getElem? (i := 176) (by decide +kernel), List.mem_of_getElem? (i := 349) (by decide +kernel), List.mem_of_getElem? (i := 350) (by decide +kernel)⟩
theorem lw_p2 : lw_okq (⟨"MultiwayCut$Grouping", "grouped", "()I"⟩, 2) := ⟨⟨by decide +kernel, by decide +kernel⟩, List.mem_of_getElem? (i := 176) (by decide +kernel), List.mem_of_getElem? (i := 354) (by decide +kernel), List.mem_of_getElem? (i := 355) (by decide +kernel)⟩
theorem lw_p3 : lw_okq (⟨"MultiwayCut$ExactSearch", "costToEarlier", "(LMultiwayCut$Graph;I)I"⟩, 3) := ⟨⟨by decide +kernel, by decide +kernel⟩, List.mem_of_getElem? (i := 190) (by decide +kernel), List.mem_of_getElem? (i := 377) (by decide +kernel), List.mem_of_getElem? (i := 378) (by decide +kernel)⟩
theorem lw_p4 : lw_okq (⟨"MultiwayCut$NearestSearch", "offer", "(III)V"⟩, 2) := ⟨⟨by decide +kernel, by decide +kernel⟩, List.mem_of_getElem? (i := 208) (by decide +kernel), List.mem_of_getElem? (i := 433) (by decide +kernel), List.mem_of_getElem? (i := 434) (by decide +kernel)⟩
theorem lw_p5 : lw_okq (⟨"java/lang/Throwable", "fillInStackTrace", "(I)Ljava/lang/Throwable;"⟩, 6) := ⟨⟨by decide +kernel, by decide +kernel⟩, List.mem_of_getElem? (i := 504) (by decide +kernel), List.mem_of_getElem? (i := 502) (by decide +kernel), List.mem_of_getElem? (i := 503) (by decide +kernel)⟩
theorem lw_p6 : lw_okq (⟨"MultiwayCut$SetupReader", "advance", "()V"⟩, 13) := ⟨⟨by decide +kernel, by decide +kernel⟩, List.mem_of_getElem? (i := 125) (by decide +kernel), List.mem_of_getElem? (i := 543) (by decide +kernel), List.mem_of_getElem? (i := 544) (by decide +kernel)⟩
theorem lw_p7 : lw_okq (⟨"MultiwayCut$SetupReader", "readGraph", "()Z"⟩, 13) := ⟨⟨by decide +kernel, by decide +kernel⟩, List.mem_of_getElem? (i := 125) (by decide +kernel), List.mem_of_getElem? (i := 548) (by decide +kernel), List.mem_of_getElem? (i := 549) (by decide +kernel)⟩
theorem lw_p8 : lw_okq (⟨"MultiwayCut$SetupReader", "isWord", "(Ljava/lang/String;)Z"⟩, 13) := ⟨⟨by decide +kernel, by decide +kernel⟩, List.mem_of_getElem? (i := 125) (by decide +kernel), List.mem_of_getElem? (i := 553) (by decide +kernel), List.mem_of_getElem? (i := 554) (by decide +kernel)⟩
theorem lw_p9 : lw_okq (⟨"MultiwayCut$SetupReader", "fail", "(I)Z"⟩, 13) := ⟨⟨by decide +kernel, by decide +kernel⟩, List.mem_of_getElem? (i := 125) (by decide +kernel), List.mem_of_getElem? (i := 605) (by decide +kernel), List.mem_of_getElem? (i := 606) (by decide +kernel)⟩
theorem lw_p10 : lw_okq (⟨"MultiwayCut$SetupReader", "numberHere", "(II)I"⟩, 13) := ⟨⟨by decide +kernel, by decide +kernel⟩, List.mem_of_getElem? (i := 125) (by decide +kernel), List.mem_of_getElem? (i := 609) (by decide +kernel), List.mem_of_getElem? (i := 610) (by decide +kernel)⟩
theorem lw_p11 : lw_okq (⟨"MultiwayCut$SetupReader", "readSymbol", "(I)Z"⟩, 13) := ⟨⟨by decide +kernel, by decide +kernel⟩, List.mem_of_getElem? (i := 125) (by decide +kernel), List.mem_of_getElem? (i := 613) (by decide +kernel), List.mem_of_getElem? (i := 614) (by decide +kernel)⟩
theorem lw_p12 : lw_okq (⟨"MultiwayCut$SetupReader", "readStatement", "()Z"⟩, 13) := ⟨⟨by decide +kernel, by decide +kernel⟩, List.mem_of_getElem? (i := 125) (by decide +kernel), List.mem_of_getElem? (i := 617) (by decide +kernel), List.mem_of_getElem? (i := 618) (by decide +kernel)⟩
theorem lw_p13 : lw_okq (⟨"MultiwayCut$SetupReader", "readTerminal", "()Z"⟩, 13) := ⟨⟨by decide +kernel, by decide +kernel⟩, List.mem_of_getElem? (i := 125) (by decide +kernel), List.mem_of_getElem? (i := 622) (by decide +kernel), List.mem_of_getElem? (i := 623) (by decide +kernel)⟩
theorem lw_p14 : lw_okq (⟨"MultiwayCut$SetupReader", "vertexHere", "()I"⟩, 13) := ⟨⟨by decide +kernel, by decide +kernel⟩, List.mem_of_getElem? (i := 125) (by decide +kernel), List.mem_of_getElem? (i := 627) (by decide +kernel), List.mem_of_getElem? (i := 628) (by decide +kernel)⟩
theorem lw_p15 : lw_okq (⟨"MultiwayCut$SetupReader", "readEdge", "()Z"⟩, 13) := ⟨⟨by decide +kernel, by decide +kernel⟩, List.mem_of_getElem? (i := 125) (by decide +kernel), List.mem_of_getElem? (i := 633) (by decide +kernel), List.mem_of_getElem? (i := 634) (by decide +kernel)⟩
def lw_privs_1 : List (MethodName × Nat) := [(⟨"MultiwayCut", "putWord", "(I)V"⟩, 10), (⟨"MultiwayCut$Grouping", "makeRound", "(LMultiwayCut$Graph;)Z"⟩, 2), (⟨"MultiwayCut$Grouping", "grouped", "()I"⟩, 2), (⟨"MultiwayCut$ExactSearch", "costToEarlier", "(LMultiwayCut$Graph;I)I"⟩, 3), (⟨"MultiwayCut$NearestSearch", "offer", "(III)V"⟩, 2), (⟨"java/lang/Throwable", "fillInStackTrace", "(I)Ljava/lang/Throwable;"⟩, 6), (⟨"MultiwayCut$SetupReader", "advance", "()V"⟩, 13), (⟨"MultiwayCut$SetupReader", "readGraph", "()Z"⟩, 13), (⟨"MultiwayCut$SetupReader", "isWord", "(Ljava/lang/String;)Z"⟩, 13), (⟨"MultiwayCut$SetupReader", "fail", "(I)Z"⟩, 13), (⟨"MultiwayCut$SetupReader", "numberHere", "(II)I"⟩, 13), (⟨"MultiwayCut$SetupReader", "readSymbol", "(I)Z"⟩, 13), (⟨"MultiwayCut$SetupReader", "readStatement", "()Z"⟩, 13), (⟨"MultiwayCut$SetupReader", "readTerminal", "()Z"⟩, 13), (⟨"MultiwayCut$SetupReader", "vertexHere", "()I"⟩, 13), (⟨"MultiwayCut$SetupReader", "readEdge", "()Z"⟩, 13)]
theorem lw_r1 : ∀ q ∈ lw_privs_1, lw_okq q := List.forall_mem_cons.mpr ⟨lw_p0, List.forall_mem_cons.mpr ⟨lw_p1, List.forall_mem_cons.mpr ⟨lw_p2, List.forall_mem_cons.mpr ⟨lw_p3, List.forall_mem_cons.mpr ⟨lw_p4, List.forall_mem_cons.mpr ⟨lw_p5, List.forall_mem_cons.mpr ⟨lw_p6, List.forall_mem_cons.mpr ⟨lw_p7, List.forall_mem_cons.mpr ⟨lw_p8, List.forall_mem_cons.mpr ⟨lw_p9, List.forall_mem_cons.mpr ⟨lw_p10, List.forall_mem_cons.mpr ⟨lw_p11, List.forall_mem_cons.mpr ⟨lw_p12, List.forall_mem_cons.mpr ⟨lw_p13, List.forall_mem_cons.mpr ⟨lw_p14, List.forall_mem_cons.mpr ⟨lw_p15, fun _ h => absurd h List.not_mem_nil⟩⟩⟩⟩⟩⟩⟩⟩⟩⟩⟩⟩⟩⟩⟩⟩
theorem lw_p16 : lw_okq (⟨"MultiwayCut$SetupReader", "readLoad", "()Z"⟩, 13) := ⟨⟨by decide +kernel, by decide +kernel⟩, List.mem_of_getElem? (i := 125) (by decide +kernel), List.mem_of_getElem? (i := 654) (by decide +kernel), List.mem_of_getElem? (i := 655) (by decide +kernel)⟩
theorem lw_p17 : lw_okq (⟨"MultiwayCut$SetupReader", "startCost", "()Z"⟩, 13) := ⟨⟨by decide +kernel, by decide +kernel⟩, List.mem_of_getElem? (i := 125) (by decide +kernel), List.mem_of_getElem? (i := 659) (by decide +kernel), List.mem_of_getElem? (i := 660) (by decide +kernel)⟩
theorem lw_p18 : lw_okq (⟨"MultiwayCut$SetupReader", "readSum", "(I)Z"⟩, 13) := ⟨⟨by decide +kernel, by decide +kernel⟩, List.mem_of_getElem? (i := 125) (by decide +kernel), List.mem_of_getElem? (i := 663) (by decide +kernel), List.mem_of_getElem? (i := 664) (by decide +kernel)⟩
theorem lw_p19 : lw_okq (⟨"MultiwayCut$SetupReader", "readTerm", "(I)Z"⟩, 13) := ⟨⟨by decide +kernel, by decide +kernel⟩, List.mem_of_getElem? (i := 125) (by decide +kernel), List.mem_of_getElem? (i := 667) (by decide +kernel), List.mem_of_getElem? (i := 668) (by decide +kernel)⟩
theorem lw_p20 : lw_okq (⟨"MultiwayCut$SetupReader", "readFactor", "(I)Z"⟩, 13) := ⟨⟨by decide +kernel, by decide +kernel⟩, List.mem_of_getElem? (i := 125) (by decide +kernel), List.mem_of_getElem? (i := 671) (by decide +kernel), List.mem_of_getElem? (i := 672) (by decide +kernel)⟩
theorem lw_p21 : lw_okq (⟨"MultiwayCut$SetupReader", "putCode", "(I)V"⟩, 13) := ⟨⟨by decide +kernel, by decide +kernel⟩, List.mem_of_getElem? (i := 125) (by decide +kernel), List.mem_of_getElem? (i := 675) (by decide +kernel), List.mem_of_getElem? (i := 676) (by decide +kernel)⟩
theorem lw_p22 : lw_okq (⟨"MultiwayCut$SetupReader", "finish", "()V"⟩, 13) := ⟨⟨by decide +kernel, by decide +kernel⟩, List.mem_of_getElem? (i := 125) (by decide +kernel), List.mem_of_getElem? (i := 682) (by decide +kernel), List.mem_of_getElem? (i := 683) (by decide +kernel)⟩
theorem lw_p23 : lw_okq (⟨"MultiwayCut", "requireVertex", "(I)V"⟩, 10) := ⟨⟨by decide +kernel, by decide +kernel⟩, List.mem_of_getElem? (i := 27) (by decide +kernel), List.mem_of_getElem? (i := 742) (by decide +kernel), List.mem_of_getElem? (i := 743) (by decide +kernel)⟩
theorem lw_p24 : lw_okq (⟨"MultiwayCut", "requireEdge", "(I)V"⟩, 10) := ⟨⟨by decide +kernel, by decide +kernel⟩, List.mem_of_getElem? (i := 27) (by decide +kernel), List.mem_of_getElem? (i := 770) (by decide +kernel), List.mem_of_getElem? (i := 771) (by decide +kernel)⟩
theorem lw_p25 : lw_okq (⟨"MultiwayCut", "requireTerminal", "(I)V"⟩, 10) := ⟨⟨by decide +kernel, by decide +kernel⟩, List.mem_of_getElem? (i := 27) (by decide +kernel), List.mem_of_getElem? (i := 810) (by decide +kernel), List.mem_of_getElem? (i := 811) (by decide +kernel)⟩
theorem lw_p26 : lw_okq (⟨"MultiwayCut", "requireSomeTerminal", "()V"⟩, 10) := ⟨⟨by decide +kernel, by decide +kernel⟩, List.mem_of_getElem? (i := 27) (by decide +kernel), List.mem_of_getElem? (i := 831) (by decide +kernel), List.mem_of_getElem? (i := 832) (by decide +kernel)⟩
theorem lw_p27 : lw_okq (⟨"MultiwayCut$MoveSearch", "consider", "(LMultiwayCut$Graph;II)V"⟩, 3) := ⟨⟨by decide +kernel, by decide +kernel⟩, List.mem_of_getElem? (i := 223) (by decide +kernel), List.mem_of_getElem? (i := 934) (by decide +kernel), List.mem_of_getElem? (i := 935) (by decide +kernel)⟩
theorem lw_p28 : lw_okq (⟨"MultiwayCut", "requireWeight", "(I)V"⟩, 10) := ⟨⟨by decide +kernel, by decide +kernel⟩, List.mem_of_getElem? (i := 27) (by decide +kernel), List.mem_of_getElem? (i := 981) (by decide +kernel), List.mem_of_getElem? (i := 982) (by decide +kernel)⟩
theorem lw_p29 : lw_okq (⟨"MultiwayCutModel", "right", "(ZI)Z"⟩, 35) := ⟨⟨by decide +kernel, by decide +kernel⟩, List.mem_of_getElem? (i := 1025) (by decide +kernel), List.mem_of_getElem? (i := 1154) (by decide +kernel), List.mem_of_getElem? (i := 1155) (by decide +kernel)⟩
theorem lw_p30 : lw_okq (⟨"MultiwayCutModel", "texts", "()V"⟩, 35) := ⟨⟨by decide +kernel, by decide +kernel⟩, List.mem_of_getElem? (i := 1025) (by decide +kernel), List.mem_of_getElem? (i := 1158) (by decide +kernel), List.mem_of_getElem? (i := 1159) (by decide +kernel)⟩
theorem lw_p31 : lw_okq (⟨"MultiwayCutModel", "takes", "(Ljava/lang/String;)Z"⟩, 35) := ⟨⟨by decide +kernel, by decide +kernel⟩, List.mem_of_getElem? (i := 1025) (by decide +kernel), List.mem_of_getElem? (i := 1163) (by decide +kernel), List.mem_of_getElem? (i := 1164) (by decide +kernel)⟩
def lw_privs_2 : List (MethodName × Nat) := [(⟨"MultiwayCut$SetupReader", "readLoad", "()Z"⟩, 13), (⟨"MultiwayCut$SetupReader", "startCost", "()Z"⟩, 13), (⟨"MultiwayCut$SetupReader", "readSum", "(I)Z"⟩, 13), (⟨"MultiwayCut$SetupReader", "readTerm", "(I)Z"⟩, 13), (⟨"MultiwayCut$SetupReader", "readFactor", "(I)Z"⟩, 13), (⟨"MultiwayCut$SetupReader", "putCode", "(I)V"⟩, 13), (⟨"MultiwayCut$SetupReader", "finish", "()V"⟩, 13), (⟨"MultiwayCut", "requireVertex", "(I)V"⟩, 10), (⟨"MultiwayCut", "requireEdge", "(I)V"⟩, 10), (⟨"MultiwayCut", "requireTerminal", "(I)V"⟩, 10), (⟨"MultiwayCut", "requireSomeTerminal", "()V"⟩, 10), (⟨"MultiwayCut$MoveSearch", "consider", "(LMultiwayCut$Graph;II)V"⟩, 3), (⟨"MultiwayCut", "requireWeight", "(I)V"⟩, 10), (⟨"MultiwayCutModel", "right", "(ZI)Z"⟩, 35), (⟨"MultiwayCutModel", "texts", "()V"⟩, 35), (⟨"MultiwayCutModel", "takes", "(Ljava/lang/String;)Z"⟩, 35)]
theorem lw_r2 : ∀ q ∈ lw_privs_2, lw_okq q := List.forall_mem_cons.mpr ⟨lw_p16, List.forall_mem_cons.mpr ⟨lw_p17, List.forall_mem_cons.mpr ⟨lw_p18, List.forall_mem_cons.mpr ⟨lw_p19, List.forall_mem_cons.mpr ⟨lw_p20, List.forall_mem_cons.mpr ⟨lw_p21, List.forall_mem_cons.mpr ⟨lw_p22, List.forall_mem_cons.mpr ⟨lw_p23, List.forall_mem_cons.mpr ⟨lw_p24, List.forall_mem_cons.mpr ⟨lw_p25, List.forall_mem_cons.mpr ⟨lw_p26, List.forall_mem_cons.mpr ⟨lw_p27, List.forall_mem_cons.mpr ⟨lw_p28, List.forall_mem_cons.mpr ⟨lw_p29, List.forall_mem_cons.mpr ⟨lw_p30, List.forall_mem_cons.mpr ⟨lw_p31, fun _ h => absurd h List.not_mem_nil⟩⟩⟩⟩⟩⟩⟩⟩⟩⟩⟩⟩⟩⟩⟩⟩
theorem lw_p32 : lw_okq (⟨"MultiwayCutModel", "sees", "()I"⟩, 35) := ⟨⟨by decide +kernel, by decide +kernel⟩, List.mem_of_getElem? (i := 1025) (by decide +kernel), List.mem_of_getElem? (i := 1167) (by decide +kernel), List.mem_of_getElem? (i := 1168) (by decide +kernel)⟩
theorem lw_p33 : lw_okq (⟨"MultiwayCutModel", "fails", "(II)V"⟩, 35) := ⟨⟨by decide +kernel, by decide +kernel⟩, List.mem_of_getElem? (i := 1025) (by decide +kernel), List.mem_of_getElem? (i := 1173) (by decide +kernel), List.mem_of_getElem? (i := 1174) (by decide +kernel)⟩
theorem lw_p34 : lw_okq (⟨"MultiwayCutModel", "reads", "(II)I"⟩, 35) := ⟨⟨by decide +kernel, by decide +kernel⟩, List.mem_of_getElem? (i := 1025) (by decide +kernel), List.mem_of_getElem? (i := 1177) (by decide +kernel), List.mem_of_getElem? (i := 1178) (by decide +kernel)⟩
theorem lw_p35 : lw_okq (⟨"MultiwayCutModel", "isDigit", "()Z"⟩, 35) := ⟨⟨by decide +kernel, by decide +kernel⟩, List.mem_of_getElem? (i := 1025) (by decide +kernel), List.mem_of_getElem? (i := 1181) (by decide +kernel), List.mem_of_getElem? (i := 1182) (by decide +kernel)⟩
theorem lw_p36 : lw_okq (⟨"MultiwayCutModel", "wants", "(I)V"⟩, 35) := ⟨⟨by decide +kernel, by decide +kernel⟩, List.mem_of_getElem? (i := 1025) (by decide +kernel), List.mem_of_getElem? (i := 1187) (by decide +kernel), List.mem_of_getElem? (i := 1188) (by decide +kernel)⟩
theorem lw_p37 : lw_okq (⟨"MultiwayCutModel", "statement", "()V"⟩, 35) := ⟨⟨by decide +kernel, by decide +kernel⟩, List.mem_of_getElem? (i := 1025) (by decide +kernel), List.mem_of_getElem? (i := 1191) (by decide +kernel), List.mem_of_getElem? (i := 1192) (by decide +kernel)⟩
theorem lw_p38 : lw_okq (⟨"MultiwayCutModel", "terminalLine", "(I)V"⟩, 35) := ⟨⟨by decide +kernel, by decide +kernel⟩, List.mem_of_getElem? (i := 1025) (by decide +kernel), List.mem_of_getElem? (i := 1196) (by decide +kernel), List.mem_of_getElem? (i := 1197) (by decide +kernel)⟩
theorem lw_p39 : lw_okq (⟨"MultiwayCutModel", "readsVertex", "()I"⟩, 35) := ⟨⟨by decide +kernel, by decide +kernel⟩, List.mem_of_getElem? (i := 1025) (by decide +kernel), List.mem_of_getElem? (i := 1203) (by decide +kernel), List.mem_of_getElem? (i := 1204) (by decide +kernel)⟩
theorem lw_p40 : lw_okq (⟨"MultiwayCutModel", "edgeLine", "(I)V"⟩, 35) := ⟨⟨by decide +kernel, by decide +kernel⟩, List.mem_of_getElem? (i := 1025) (by decide +kernel), List.mem_of_getElem? (i := 1208) (by decide +kernel), List.mem_of_getElem? (i := 1209) (by decide +kernel)⟩
theorem lw_p41 : lw_okq (⟨"MultiwayCutModel", "isJoined", "(II)Z"⟩, 35) := ⟨⟨by decide +kernel, by decide +kernel⟩, List.mem_of_getElem? (i := 1025) (by decide +kernel), List.mem_of_getElem? (i := 1212) (by decide +kernel), List.mem_of_getElem? (i := 1213) (by decide +kernel)⟩
theorem lw_p42 : lw_okq (⟨"MultiwayCutModel", "loadLine", "()V"⟩, 35) := ⟨⟨by decide +kernel, by decide +kernel⟩, List.mem_of_getElem? (i := 1025) (by decide +kernel), List.mem_of_getElem? (i := 1218) (by decide +kernel), List.mem_of_getElem? (i := 1219) (by decide +kernel)⟩
theorem lw_p43 : lw_okq (⟨"MultiwayCutModel", "sum", "()V"⟩, 35) := ⟨⟨by decide +kernel, by decide +kernel⟩, List.mem_of_getElem? (i := 1025) (by decide +kernel), List.mem_of_getElem? (i := 1223) (by decide +kernel), List.mem_of_getElem? (i := 1224) (by decide +kernel)⟩
theorem lw_p44 : lw_okq (⟨"MultiwayCutModel", "term", "()V"⟩, 35) := ⟨⟨by decide +kernel, by decide +kernel⟩, List.mem_of_getElem? (i := 1025) (by decide +kernel), List.mem_of_getElem? (i := 1227) (by decide +kernel), List.mem_of_getElem? (i := 1228) (by decide +kernel)⟩
theorem lw_p45 : lw_okq (⟨"MultiwayCutModel", "factor", "()V"⟩, 35) := ⟨⟨by decide +kernel, by decide +kernel⟩, List.mem_of_getElem? (i := 1025) (by decide +kernel), List.mem_of_getElem? (i := 1231) (by decide +kernel), List.mem_of_getElem? (i := 1232) (by decide +kernel)⟩
theorem lw_p46 : lw_okq (⟨"MultiwayCutModel", "codes", "(II)V"⟩, 35) := ⟨⟨by decide +kernel, by decide +kernel⟩, List.mem_of_getElem? (i := 1025) (by decide +kernel), List.mem_of_getElem? (i := 1235) (by decide +kernel), List.mem_of_getElem? (i := 1236) (by decide +kernel)⟩
theorem lw_p47 : lw_okq (⟨"MultiwayCutModel", "change", "()V"⟩, 35) := ⟨⟨by decide +kernel, by decide +kernel⟩, List.mem_of_getElem? (i := 1025) (by decide +kernel), List.mem_of_getElem? (i := 1242) (by decide +kernel), List.mem_of_getElem? (i := 1243) (by decide +kernel)⟩
def lw_privs_3 : List (MethodName × Nat) := [(⟨"MultiwayCutModel", "sees", "()I"⟩, 35), (⟨"MultiwayCutModel", "fails", "(II)V"⟩, 35), (⟨"MultiwayCutModel", "reads", "(II)I"⟩, 35), (⟨"MultiwayCutModel", "isDigit", "()Z"⟩, 35), (⟨"MultiwayCutModel", "wants", "(I)V"⟩, 35), (⟨"MultiwayCutModel", "statement", "()V"⟩, 35), (⟨"MultiwayCutModel", "terminalLine", "(I)V"⟩, 35), (⟨"MultiwayCutModel", "readsVertex", "()I"⟩, 35), (⟨"MultiwayCutModel", "edgeLine", "(I)V"⟩, 35), (⟨"MultiwayCutModel", "isJoined", "(II)Z"⟩, 35), (⟨"MultiwayCutModel", "loadLine", "()V"⟩, 35), (⟨"MultiwayCutModel", "sum", "()V"⟩, 35), (⟨"MultiwayCutModel", "term", "()V"⟩, 35), (⟨"MultiwayCutModel", "factor", "()V"⟩, 35), (⟨"MultiwayCutModel", "codes", "(II)V"⟩, 35), (⟨"MultiwayCutModel", "change", "()V"⟩, 35)]
theorem lw_r3 : ∀ q ∈ lw_privs_3, lw_okq q := List.forall_mem_cons.mpr ⟨lw_p32, List.forall_mem_cons.mpr ⟨lw_p33, List.forall_mem_cons.mpr ⟨lw_p34, List.forall_mem_cons.mpr ⟨lw_p35, List.forall_mem_cons.mpr ⟨lw_p36, List.forall_mem_cons.mpr ⟨lw_p37, List.forall_mem_cons.mpr ⟨lw_p38, List.forall_mem_cons.mpr ⟨lw_p39, List.forall_mem_cons.mpr ⟨lw_p40, List.forall_mem_cons.mpr ⟨lw_p41, List.forall_mem_cons.mpr ⟨lw_p42, List.forall_mem_cons.mpr ⟨lw_p43, List.forall_mem_cons.mpr ⟨lw_p44, List.forall_mem_cons.mpr ⟨lw_p45, List.forall_mem_cons.mpr ⟨lw_p46, List.forall_mem_cons.mpr ⟨lw_p47, fun _ h => absurd h List.not_mem_nil⟩⟩⟩⟩⟩⟩⟩⟩⟩⟩⟩⟩⟩⟩⟩⟩
theorem lw_p48 : lw_okq (⟨"MultiwayCutModel", "get", "(I)I"⟩, 35) := ⟨⟨by decide +kernel, by decide +kernel⟩, List.mem_of_getElem? (i := 1025) (by decide +kernel), List.mem_of_getElem? (i := 1246) (by decide +kernel), List.mem_of_getElem? (i := 1247) (by decide +kernel)⟩
theorem lw_p49 : lw_okq (⟨"MultiwayCutModel", "put", "(II)V"⟩, 35) := ⟨⟨by decide +kernel, by decide +kernel⟩, List.mem_of_getElem? (i := 1025) (by decide +kernel), List.mem_of_getElem? (i := 1250) (by decide +kernel), List.mem_of_getElem? (i := 1251) (by decide +kernel)⟩
theorem lw_p50 : lw_okq (⟨"MultiwayCutModel", "isTerminal", "(I)Z"⟩, 35) := ⟨⟨by decide +kernel, by decide +kernel⟩, List.mem_of_getElem? (i := 1025) (by decide +kernel), List.mem_of_getElem? (i := 1254) (by decide +kernel), List.mem_of_getElem? (i := 1255) (by decide +kernel)⟩
theorem lw_p51 : lw_okq (⟨"MultiwayCutModel", "count", "()I"⟩, 35) := ⟨⟨by decide +kernel, by decide +kernel⟩, List.mem_of_getElem? (i := 1025) (by decide +kernel), List.mem_of_getElem? (i := 1269) (by decide +kernel), List.mem_of_getElem? (i := 1270) (by decide +kernel)⟩
theorem lw_p52 : lw_okq (⟨"MultiwayCutModel", "edges", "()I"⟩, 35) := ⟨⟨by decide +kernel, by decide +kernel⟩, List.mem_of_getElem? (i := 1025) (by decide +kernel), List.mem_of_getElem? (i := 1277) (by decide +kernel), List.mem_of_getElem? (i := 1278) (by decide +kernel)⟩
theorem lw_p53 : lw_okq (⟨"MultiwayCutModel", "isVertex", "(I)Z"⟩, 35) := ⟨⟨by decide +kernel, by decide +kernel⟩, List.mem_of_getElem? (i := 1025) (by decide +kernel), List.mem_of_getElem? (i := 1289) (by decide +kernel), List.mem_of_getElem? (i := 1290) (by decide +kernel)⟩
theorem lw_p54 : lw_okq (⟨"MultiwayCutModel", "laysCosts", "()V"⟩, 35) := ⟨⟨by decide +kernel, by decide +kernel⟩, List.mem_of_getElem? (i := 1025) (by decide +kernel), List.mem_of_getElem? (i := 1298) (by decide +kernel), List.mem_of_getElem? (i := 1299) (by decide +kernel)⟩
theorem lw_p55 : lw_okq (⟨"MultiwayCutModel", "costOf", "(I)I"⟩, 35) := ⟨⟨by decide +kernel, by decide +kernel⟩, List.mem_of_getElem? (i := 1025) (by decide +kernel), List.mem_of_getElem? (i := 1302) (by decide +kernel), List.mem_of_getElem? (i := 1303) (by decide +kernel)⟩
theorem lw_p56 : lw_okq (⟨"MultiwayCutModel", "lengthOf", "(I)I"⟩, 35) := ⟨⟨by decide +kernel, by decide +kernel⟩, List.mem_of_getElem? (i := 1025) (by decide +kernel), List.mem_of_getElem? (i := 1311) (by decide +kernel), List.mem_of_getElem? (i := 1312) (by decide +kernel)⟩
theorem lw_p57 : lw_okq (⟨"MultiwayCutModel", "all", "()I"⟩, 35) := ⟨⟨by decide +kernel, by decide +kernel⟩, List.mem_of_getElem? (i := 1025) (by decide +kernel), List.mem_of_getElem? (i := 1319) (by decide +kernel), List.mem_of_getElem? (i := 1320) (by decide +kernel)⟩
theorem lw_p58 : lw_okq (⟨"MultiwayCutModel", "cutOf", "(I)I"⟩, 35) := ⟨⟨by decide +kernel, by decide +kernel⟩, List.mem_of_getElem? (i := 1025) (by decide +kernel), List.mem_of_getElem? (i := 1323) (by decide +kernel), List.mem_of_getElem? (i := 1324) (by decide +kernel)⟩
theorem lw_p59 : lw_okq (⟨"MultiwayCutModel", "low", "(I)I"⟩, 35) := ⟨⟨by decide +kernel, by decide +kernel⟩, List.mem_of_getElem? (i := 1025) (by decide +kernel), List.mem_of_getElem? (i := 1327) (by decide +kernel), List.mem_of_getElem? (i := 1328) (by decide +kernel)⟩
theorem lw_p60 : lw_okq (⟨"MultiwayCutModel", "high", "(I)I"⟩, 35) := ⟨⟨by decide +kernel, by decide +kernel⟩, List.mem_of_getElem? (i := 1025) (by decide +kernel), List.mem_of_getElem? (i := 1331) (by decide +kernel), List.mem_of_getElem? (i := 1332) (by decide +kernel)⟩
theorem lw_p61 : lw_okq (⟨"MultiwayCutModel", "mustBe", "(I)Z"⟩, 35) := ⟨⟨by decide +kernel, by decide +kernel⟩, List.mem_of_getElem? (i := 1025) (by decide +kernel), List.mem_of_getElem? (i := 1343) (by decide +kernel), List.mem_of_getElem? (i := 1344) (by decide +kernel)⟩
theorem lw_p62 : lw_okq (⟨"MultiwayCutModel", "isolating", "(I)I"⟩, 35) := ⟨⟨by decide +kernel, by decide +kernel⟩, List.mem_of_getElem? (i := 1025) (by decide +kernel), List.mem_of_getElem? (i := 1347) (by decide +kernel), List.mem_of_getElem? (i := 1348) (by decide +kernel)⟩
theorem lw_p63 : lw_okq (⟨"MultiwayCutModel", "bestSet", "(IIZ)I"⟩, 35) := ⟨⟨by decide +kernel, by decide +kernel⟩, List.mem_of_getElem? (i := 1025) (by decide +kernel), List.mem_of_getElem? (i := 1351) (by decide +kernel), List.mem_of_getElem? (i := 1352) (by decide +kernel)⟩
def lw_privs_4 : List (MethodName × Nat) := [(⟨"MultiwayCutModel", "get", "(I)I"⟩, 35), (⟨"MultiwayCutModel", "put", "(II)V"⟩, 35), (⟨"MultiwayCutModel", "isTerminal", "(I)Z"⟩, 35), (⟨"MultiwayCutModel", "count", "()I"⟩, 35), (⟨"MultiwayCutModel", "edges", "()I"⟩, 35), (⟨"MultiwayCutModel", "isVertex", "(I)Z"⟩, 35), (⟨"MultiwayCutModel", "laysCosts", "()V"⟩, 35), (⟨"MultiwayCutModel", "costOf", "(I)I"⟩, 35), (⟨"MultiwayCutModel", "lengthOf", "(I)I"⟩, 35), (⟨"MultiwayCutModel", "all", "()I"⟩, 35), (⟨"MultiwayCutModel", "cutOf", "(I)I"⟩, 35), (⟨"MultiwayCutModel", "low", "(I)I"⟩, 35), (⟨"MultiwayCutModel", "high", "(I)I"⟩, 35), (⟨"MultiwayCutModel", "mustBe", "(I)Z"⟩, 35), (⟨"MultiwayCutModel", "isolating", "(I)I"⟩, 35), (⟨"MultiwayCutModel", "bestSet", "(IIZ)I"⟩, 35)]
theorem lw_r4 : ∀ q ∈ lw_privs_4, lw_okq q := List.forall_mem_cons.mpr ⟨lw_p48, List.forall_mem_cons.mpr ⟨lw_p49, List.forall_mem_cons.mpr ⟨lw_p50, List.forall_mem_cons.mpr ⟨lw_p51, List.forall_mem_cons.mpr ⟨lw_p52, List.forall_mem_cons.mpr ⟨lw_p53, List.forall_mem_cons.mpr ⟨lw_p54, List.forall_mem_cons.mpr ⟨lw_p55, List.forall_mem_cons.mpr ⟨lw_p56, List.forall_mem_cons.mpr ⟨lw_p57, List.forall_mem_cons.mpr ⟨lw_p58, List.forall_mem_cons.mpr ⟨lw_p59, List.forall_mem_cons.mpr ⟨lw_p60, List.forall_mem_cons.mpr ⟨lw_p61, List.forall_mem_cons.mpr ⟨lw_p62, List.forall_mem_cons.mpr ⟨lw_p63, fun _ h => absurd h List.not_mem_nil⟩⟩⟩⟩⟩⟩⟩⟩⟩⟩⟩⟩⟩⟩⟩⟩
theorem lw_p64 : lw_okq (⟨"MultiwayCutModel", "laysIsolating", "()V"⟩, 35) := ⟨⟨by decide +kernel, by decide +kernel⟩, List.mem_of_getElem? (i := 1025) (by decide +kernel), List.mem_of_getElem? (i := 1364) (by decide +kernel), List.mem_of_getElem? (i := 1365) (by decide +kernel)⟩
theorem lw_p65 : lw_okq (⟨"MultiwayCutModel", "hasTerminal", "()Z"⟩, 35) := ⟨⟨by decide +kernel, by decide +kernel⟩, List.mem_of_getElem? (i := 1025) (by decide +kernel), List.mem_of_getElem? (i := 1372) (by decide +kernel), List.mem_of_getElem? (i := 1373) (by decide +kernel)⟩
theorem lw_p66 : lw_okq (⟨"MultiwayCutModel", "dearestNow", "()I"⟩, 35) := ⟨⟨by decide +kernel, by decide +kernel⟩, List.mem_of_getElem? (i := 1025) (by decide +kernel), List.mem_of_getElem? (i := 1376) (by decide +kernel), List.mem_of_getElem? (i := 1377) (by decide +kernel)⟩
theorem lw_p67 : lw_okq (⟨"MultiwayCutModel", "unionNow", "()I"⟩, 35) := ⟨⟨by decide +kernel, by decide +kernel⟩, List.mem_of_getElem? (i := 1025) (by decide +kernel), List.mem_of_getElem? (i := 1384) (by decide +kernel), List.mem_of_getElem? (i := 1385) (by decide +kernel)⟩
theorem lw_p68 : lw_okq (⟨"MultiwayCutModel", "laysGroups", "()V"⟩, 35) := ⟨⟨by decide +kernel, by decide +kernel⟩, List.mem_of_getElem? (i := 1025) (by decide +kernel), List.mem_of_getElem? (i := 1396) (by decide +kernel), List.mem_of_getElem? (i := 1397) (by decide +kernel)⟩
theorem lw_p69 : lw_okq (⟨"MultiwayCutModel", "goesRound", "()Z"⟩, 35) := ⟨⟨by decide +kernel, by decide +kernel⟩, List.mem_of_getElem? (i := 1025) (by decide +kernel), List.mem_of_getElem? (i := 1400) (by decide +kernel), List.mem_of_getElem? (i := 1401) (by decide +kernel)⟩
theorem lw_p70 : lw_okq (⟨"MultiwayCutModel", "othersOf", "(I)I"⟩, 35) := ⟨⟨by decide +kernel, by decide +kernel⟩, List.mem_of_getElem? (i := 1025) (by decide +kernel), List.mem_of_getElem? (i := 1404) (by decide +kernel), List.mem_of_getElem? (i := 1405) (by decide +kernel)⟩
theorem lw_p71 : lw_okq (⟨"MultiwayCutModel", "exactNow", "()I"⟩, 35) := ⟨⟨by decide +kernel, by decide +kernel⟩, List.mem_of_getElem? (i := 1025) (by decide +kernel), List.mem_of_getElem? (i := 1416) (by decide +kernel), List.mem_of_getElem? (i := 1417) (by decide +kernel)⟩
theorem lw_p72 : lw_okq (⟨"MultiwayCutModel", "laysExact", "(I)I"⟩, 35) := ⟨⟨by decide +kernel, by decide +kernel⟩, List.mem_of_getElem? (i := 1025) (by decide +kernel), List.mem_of_getElem? (i := 1420) (by decide +kernel), List.mem_of_getElem? (i := 1421) (by decide +kernel)⟩
theorem lw_p73 : lw_okq (⟨"MultiwayCutModel", "costBy", "([I)I"⟩, 35) := ⟨⟨by decide +kernel, by decide +kernel⟩, List.mem_of_getElem? (i := 1025) (by decide +kernel), List.mem_of_getElem? (i := 1424) (by decide +kernel), List.mem_of_getElem? (i := 1425) (by decide +kernel)⟩
theorem lw_p74 : lw_okq (⟨"MultiwayCutModel", "goesOn", "(I)Z"⟩, 35) := ⟨⟨by decide +kernel, by decide +kernel⟩, List.mem_of_getElem? (i := 1025) (by decide +kernel), List.mem_of_getElem? (i := 1428) (by decide +kernel), List.mem_of_getElem? (i := 1429) (by decide +kernel)⟩
theorem lw_p75 : lw_okq (⟨"MultiwayCutModel", "laysNear", "()V"⟩, 35) := ⟨⟨by decide +kernel, by decide +kernel⟩, List.mem_of_getElem? (i := 1025) (by decide +kernel), List.mem_of_getElem? (i := 1444) (by decide +kernel), List.mem_of_getElem? (i := 1445) (by decide +kernel)⟩
theorem lw_p76 : lw_okq (⟨"MultiwayCutModel", "laysFar", "(I)V"⟩, 35) := ⟨⟨by decide +kernel, by decide +kernel⟩, List.mem_of_getElem? (i := 1025) (by decide +kernel), List.mem_of_getElem? (i := 1448) (by decide +kernel), List.mem_of_getElem? (i := 1449) (by decide +kernel)⟩
theorem lw_p77 : lw_okq (⟨"MultiwayCutModel", "costNow", "()I"⟩, 35) := ⟨⟨by decide +kernel, by decide +kernel⟩, List.mem_of_getElem? (i := 1025) (by decide +kernel), List.mem_of_getElem? (i := 1464) (by decide +kernel), List.mem_of_getElem? (i := 1465) (by decide +kernel)⟩
theorem lw_p78 : lw_okq (⟨"MultiwayCutModel", "laysMove", "()V"⟩, 35) := ⟨⟨by decide +kernel, by decide +kernel⟩, List.mem_of_getElem? (i := 1025) (by decide +kernel), List.mem_of_getElem? (i := 1486) (by decide +kernel), List.mem_of_getElem? (i := 1487) (by decide +kernel)⟩
theorem lw_p79 : lw_okq (⟨"MultiwayCutModel", "isEdge", "(I)Z"⟩, 35) := ⟨⟨by decide +kernel, by decide +kernel⟩, List.mem_of_getElem? (i := 1025) (by decide +kernel), List.mem_of_getElem? (i := 1515) (by decide +kernel), List.mem_of_getElem? (i := 1516) (by decide +kernel)⟩
def lw_privs_5 : List (MethodName × Nat) := [(⟨"MultiwayCutModel", "laysIsolating", "()V"⟩, 35), (⟨"MultiwayCutModel", "hasTerminal", "()Z"⟩, 35), (⟨"MultiwayCutModel", "dearestNow", "()I"⟩, 35), (⟨"MultiwayCutModel", "unionNow", "()I"⟩, 35), (⟨"MultiwayCutModel", "laysGroups", "()V"⟩, 35), (⟨"MultiwayCutModel", "goesRound", "()Z"⟩, 35), (⟨"MultiwayCutModel", "othersOf", "(I)I"⟩, 35), (⟨"MultiwayCutModel", "exactNow", "()I"⟩, 35), (⟨"MultiwayCutModel", "laysExact", "(I)I"⟩, 35), (⟨"MultiwayCutModel", "costBy", "([I)I"⟩, 35), (⟨"MultiwayCutModel", "goesOn", "(I)Z"⟩, 35), (⟨"MultiwayCutModel", "laysNear", "()V"⟩, 35), (⟨"MultiwayCutModel", "laysFar", "(I)V"⟩, 35), (⟨"MultiwayCutModel", "costNow", "()I"⟩, 35), (⟨"MultiwayCutModel", "laysMove", "()V"⟩, 35), (⟨"MultiwayCutModel", "isEdge", "(I)Z"⟩, 35)]
theorem lw_r5 : ∀ q ∈ lw_privs_5, lw_okq q := List.forall_mem_cons.mpr ⟨lw_p64, List.forall_mem_cons.mpr ⟨lw_p65, List.forall_mem_cons.mpr ⟨lw_p66, List.forall_mem_cons.mpr ⟨lw_p67, List.forall_mem_cons.mpr ⟨lw_p68, List.forall_mem_cons.mpr ⟨lw_p69, List.forall_mem_cons.mpr ⟨lw_p70, List.forall_mem_cons.mpr ⟨lw_p71, List.forall_mem_cons.mpr ⟨lw_p72, List.forall_mem_cons.mpr ⟨lw_p73, List.forall_mem_cons.mpr ⟨lw_p74, List.forall_mem_cons.mpr ⟨lw_p75, List.forall_mem_cons.mpr ⟨lw_p76, List.forall_mem_cons.mpr ⟨lw_p77, List.forall_mem_cons.mpr ⟨lw_p78, List.forall_mem_cons.mpr ⟨lw_p79, fun _ h => absurd h List.not_mem_nil⟩⟩⟩⟩⟩⟩⟩⟩⟩⟩⟩⟩⟩⟩⟩⟩
theorem lw_p80 : lw_okq (⟨"MultiwayCutModel", "areJoined", "(II)Z"⟩, 35) := ⟨⟨by decide +kernel, by decide +kernel⟩, List.mem_of_getElem? (i := 1025) (by decide +kernel), List.mem_of_getElem? (i := 1524) (by decide +kernel), List.mem_of_getElem? (i := 1525) (by decide +kernel)⟩
def lw_privs_6 : List (MethodName × Nat) := [(⟨"MultiwayCutModel", "areJoined", "(II)Z"⟩, 35)]
theorem lw_r6 : ∀ q ∈ lw_privs_6, lw_okq q := List.forall_mem_cons.mpr ⟨lw_p80, fun _ h => absurd h List.not_mem_nil⟩
def lw_privs : List (MethodName × Nat) := lw_privs_1 ++ (lw_privs_2 ++ (lw_privs_3 ++ (lw_privs_4 ++ (lw_privs_5 ++ (lw_privs_6)))))
def lw_tbl : List Cond := k2_sels lw_privs ++ tables_1
theorem lw_privs_ok : ∀ q ∈ lw_privs, lw_okq q := by
  show ∀ q ∈ lw_privs_1 ++ (lw_privs_2 ++ (lw_privs_3 ++ (lw_privs_4 ++ (lw_privs_5 ++ (lw_privs_6))))), lw_okq q
  exact List.forall_mem_append.mpr ⟨lw_r1, List.forall_mem_append.mpr ⟨lw_r2, List.forall_mem_append.mpr ⟨lw_r3, List.forall_mem_append.mpr ⟨lw_r4, List.forall_mem_append.mpr ⟨lw_r5, lw_r6⟩⟩⟩⟩⟩
/-- the streams that the claim lets the run draw from -/
abbrev lw_cs : List Choice := [Jvm.Choice.named "NaN.bits"]
theorem lw_bits : nanBits ∈ lw_cs := by first | decide | exact List.mem_cons_self | simp [lw_cs, nanBits]
end
section
/-! ===== BEGIN words of one list among another's, by their places ===== -/
theorem goodIn_r {big : List Cond} (ws : List Cond) (ps : List Nat) (hp : ws = ps.filterMap (fun i => big[i]?)) (h : ws.all goodWord = true) : GoodIn big ws := by
  intro w hw
  have h1 := List.all_eq_true.mp h w hw
  rw [hp] at hw
  obtain ⟨i, -, hi⟩ := List.mem_filterMap.mp hw
  have hm : w ∈ big := by first | exact List.mem_of_getElem? hi | exact List.getElem?_mem hi
  exact ⟨hm, good_of_word h1⟩
theorem goodIn_app {big a b : List Cond} (ha : GoodIn big a) (hb : GoodIn big b) : GoodIn big (a ++ b) := fun w h => (List.mem_append.mp h).elim (ha w) (hb w)
theorem goodIn_ca {big a b : List Cond} {c : Cond} (ha : GoodIn big (c :: a)) (hb : GoodIn big b) : GoodIn big (c :: (a ++ b)) := fun w h => (List.mem_cons.mp h).elim (fun e => ha w (List.mem_cons.mpr (Or.inl e))) (fun h => (List.mem_append.mp h).elim (fun h => ha w (List.mem_cons.mpr (Or.inr h))) (hb w))
theorem goodIn_sub {big ws : List Cond} (hm : ∀ w ∈ ws, w ∈ big) (h : ws.all goodWord = true) : GoodIn big ws := fun w hw => ⟨hm w hw, good_of_word (List.all_eq_true.mp h w hw)⟩
/-! ===== END ===== -/
/-! ===== BEGIN exceptions that leave a method, and their catching by the caller (launches without stack traces) ===== -/
section VXA
/-! The laws vx_back, vx_callV, vx_callS, vx_callSW, vx_throw0, vx_throwS follow proofs of the library, with one case more: JvmDerived/Free/Laws.lean (Back.of_free), Shelf42/LK1.lean (callV, callS), Shelf/KitTraced.lean (throwNew0V, throwNewS). -/
/-- where a method has thrown q: the class by its name, the cell, what was written, the world -/
def vx_T (XC : String → State → State → Prop) (st : State) (q : Addr) (t : State) (mc ms : Nat) (free : Addr → Prop) : Prop :=
  ∃ (E : String) (ce : Cell) (L : List Loc), XC E st t ∧ t.heap[q]? = some ce ∧ ce.vm = .none ∧ st.vm.findClass E = some ce.cls ∧ st.WarmedH t.vm ∧ st.sameButNew ({ t with vm := st.vm } : State) L mc ms ∧ ∀ z ∈ L, free z.base
def vx_Q (Qc : Array Value → State → Outcome → State → Prop) (XC : String → State → State → Prop) (mc ms : Nat) (free : Addr → Prop) : Array Value → State → Outcome → State → Prop := fun a st o t =>
  (Qc a st o t ∧ ∃ L, FrameEnd st o t L mc ms ∧ ∀ q ∈ L, free q.base) ∨ ∃ q, o = .threw q ∧ vx_T XC st q t mc ms free
/-- a callee that returns or throws -/
def vx_Met (l : Launch) (y : MethodName) (ws : List Cond) (rm : Room) (Pc : Array Value → State → Prop) (Qc : Array Value → State → Outcome → State → Prop) (XC : String → State → State → Prop) (mc ms : Nat) (free : Addr → Prop) : Prop :=
  MetFree l y (headSpec ws rm) Pc (fun _ _ _ _ _ => True) (vx_Q Qc XC mc ms free)
def vx_Post (XC : String → State → State → Prop) (mc ms : Nat) (free : Addr → Prop) : Pt → Array Value → Addr → Pt → Prop := fun A a q B =>
  ∃ (g : JFrame) (mk : MethodId) (t : State) (L : List Loc) (E : String) (ce : Cell), B.U.heap = t.heap ∧ B.U.vm = t.vm ∧ XC E (A.U.calling g mk a) t ∧ t.heap[q]? = some ce ∧ ce.vm = .none ∧ A.U.vm.findClass E = some ce.cls ∧ B.locs = A.locs ++ L ∧ (∀ z ∈ L, free z.base) ∧ B.cells = A.cells + mc ∧ B.slots = A.slots + ms
def vx_Back (l : Launch) (R : Room) (p : Program) (e : Env) (below : List Frame) (s : State) (sargs : Array Value) (y : MethodName) (len W9 : Nat)
    (Pre : Pt → Array Value → Prop) (Post : Pt → Array Value → Option Value → Pt → Prop) (PostX : Pt → Array Value → Addr → Pt → Prop) : Prop :=
  ∀ (m : MethodId) (meth : Method) (c : Code) (A : Pt) (g : JFrame) (ig : Instr) (mk : MethodId) (a : Array Value),
    Stand p l e R s m sargs below meth c A.U A.locs A.cells A.slots → g.method = m → g.locals.size = c.maxLocals → decode c.code g.pc = .ok (ig, len) →
    2 * g.monitorRoom + (g.stack.map fun v => v.category).sum ≤ W9 → A.U.methodNamed? y = some mk → Pre A a →
    (∃ (v : Option Value) (B : Pt), Stand p l e R s m sargs below meth c B.U B.locs B.cells B.slots ∧ Post A a v B ∧
      Steps p.tables e below (doInvoke e (A.U.setTop g) [] mk a).1 (B.U.setTop { g with pc := g.pc + len, stack := v.toList ++ g.stack })) ∨
    (∃ (q : Addr) (B : Pt), Stand p l e R s m sargs below meth c B.U B.locs B.cells B.slots ∧ PostX A a q B ∧
      Steps p.tables e below (doInvoke e (A.U.setTop g) [] mk a).1 ((B.U.setTop g).pushFrame (.throwing q)))
section Payer
variable {l : Launch} {R : Room} {p : Program} {e : Env} {below : List Frame} {s : State} {sargs : Array Value} {y : MethodName} {len W9 : Nat}
theorem vx_back {ws : List Cond} {rm : Room} {Pc : Array Value → State → Prop} {Qc : Array Value → State → Outcome → State → Prop} {XC : String → State → State → Prop} {mc ms : Nat} {free : Addr → Prop} {bytes : ByteArray} {maxL : Nat} {ret : Option FieldType}
    (hM : vx_Met l y ws rm Pc Qc XC mc ms free) (hblind : FrameBlind Pc) (hrc : rm.cells = mc) (hrs : rm.slots = ms)
    (hframes : rm.frames + 1 ≤ R.frames) (hlocals : W9 + (maxL + 11) + rm.locals ≤ R.locals)
    (hws : ∀ w ∈ ws, ∀ a' U, s.WarmedH U.vm → w.before a' U = true) (hcode : Cond.code y bytes maxL ret ∈ ws) (hinit : ∀ a' U, s.WarmedH U.vm → (Cond.initialized y.cls).before a' U = true) :
    vx_Back l R p e below s sargs y len W9 (PreOf R mc ms Pc) (PostOf Qc mc ms free) (vx_Post XC mc ms free) := by
  intro m meth c A g ig mk a X hg hsize hdg hW hn hp
  have h1 : (headSpec ws rm).pre.before a A.U = true := atoms_intro fun w hw => hws w hw _ _ X.warmed
  have h2 : (Cond.code y bytes maxL ret).before a A.U = true := hws _ hcode _ _ X.warmed
  have h3 : (Cond.initialized y.cls).before a A.U = true := hinit _ _ X.warmed
  have h4 : A.cells + (headSpec ws rm).room.cells ≤ R.cells := by rw [show (headSpec ws rm).room.cells = mc from hrc]; exact hp.1
  have h5 : A.slots + (headSpec ws rm).room.slots ≤ R.slots := by rw [show (headSpec ws rm).room.slots = ms from hrs]; exact hp.2.1
  have hPc : Pc a (A.U.calling g mk a) := hblind _ _ _ _ hp.2.2
  obtain ⟨U, Ls, c0, s0⟩ := A
  dsimp only [Pt.U, Pt.locs, Pt.cells, Pt.slots] at h1 h2 h3 h4 h5 X hn hPc ⊢
  obtain ⟨methY, cY, hmY, hcY, -, hlY, -, -, -, -⟩ := Cond.code_spec hn h2
  obtain ⟨kY, hkY, -⟩ := className_of_methodNamed hn
  have hinitY : kY.init = .initialized := Cond.initialized_spec (findClass_of_methodNamed hn) hkY h3
  have h : At U g.method c below := by rw [hg]; exact X.here
  have hlocals9 : W9 + (maxL + 11) + (headSpec ws rm).room.locals ≤ R.locals := hlocals
  have happ : (headSpec ws rm).appliesLoose y e.platform (U.calling g mk a) = true :=
    Spec.appliesLoose_calling (g := g) h hdg hn hkY hinitY
      (X.room_calling (g := g) (R' := (headSpec ws rm).room) hsize hmY hcY hframes (by rw [hlY]; omega) h4 h5) h1
  obtain ⟨mid, hmid⟩ := h.above
  have hfr : (U.setTop g).frames = (.java g :: mid) ++ below := by rw [State.frames_setTop' g h.top, hmid]; rfl
  obtain ⟨o, s₂, hsteps, -, hend, hq⟩ := Steps.callFree hM p X.admits X.cas X.clock (acts := []) hfr happ hPc trivial
  have hq' : vx_Q Qc XC mc ms free a (U.calling g mk a) o s₂ := hq
  rw [State.frames_setTop' g h.top] at hend
  obtain ⟨g₀, hg0⟩ := Option.isSome_iff_exists.mp h.top
  obtain ⟨r, hr⟩ := State.topJava?_eq_some.mp hg0
  have hr' : (({ U with heap := s₂.heap, slotsUsed := s₂.slotsUsed } : State).setVm s₂.vm).frames = .java g₀ :: r := hr
  rcases hq' with ⟨hqc, L, hfe, hL⟩ | ⟨q, rfl, E, ce, L, hx, hce, hcv, hcl, hW₂, hsm, hL⟩
  · obtain ⟨⟨v, rfl⟩, hW₂, e2, q2, q3, q4, q5, q6⟩ := id hfe
    have e3 : s₂ = ({ (U.calling g mk a).setFrames s₂.frames with heap := s₂.heap, slotsUsed := s₂.slotsUsed } : State).setVm s₂.vm := by
      have : s₂ = ({ s₂ with vm := (U.calling g mk a).vm } : State).setVm s₂.vm := rfl
      rw [e2] at this
      exact this
    obtain ⟨c₂, i₂, len₂, hc₂, hd₂, hf₂⟩ := hend
    have hW' : U.WarmedH s₂.vm := hW₂
    have hcc : c₂ = c := by
      have h1 : s₂.code? g.method = U.code? g.method := by
        rw [State.code?_eq, State.code?_eq, hW'.alike.method?]
      exact Option.some.inj (hc₂.symm.trans (h1.trans h.code))
    subst hcc
    have hlen : len₂ = len := by rw [hdg] at hd₂; cases hd₂; rfl
    subst hlen
    have hs₂ : s₂ = (({ U with heap := s₂.heap, slotsUsed := s₂.slotsUsed } : State).setVm s₂.vm).setTop { g with pc := g.pc + len₂, stack := v.toList ++ g.stack } := by
      refine e3.trans ?_
      rw [hf₂, State.calling_eq h.top, State.setFrames_setFrames, State.setTop_of_frames _ hr', hr]
      rfl
    have hsame : U.sameButNew ({ U with heap := s₂.heap, slotsUsed := s₂.slotsUsed } : State) L mc ms := by
      refine ⟨?_, q2, q3, q4, q5, q6⟩
      obtain ⟨t, ht, -⟩ := State.frames_cons hr
      show ({ U with heap := s₂.heap, slotsUsed := s₂.slotsUsed } : State) = { U.setFrames U.frames with heap := s₂.heap, slotsUsed := s₂.slotsUsed }
      rw [State.setFrames_self ht]
    subst hg
    refine Or.inl ⟨v, ⟨(({ U with heap := s₂.heap, slotsUsed := s₂.slotsUsed } : State).setVm s₂.vm), Ls ++ L, c0 + mc, s0 + ms⟩,
      ⟨X.admits, X.cas, X.clock, X.frames, X.room, X.hears, X.method, X.code, (X.here.setHeapUsed s₂.heap s₂.slotsUsed).setVm hW'.alike, X.tail, State.WarmedH.trans X.warmed hW', X.limits, X.bytes, X.same.trans (hsame.setVm s.vm)⟩,
      ⟨g, mk, s₂, L, rfl, rfl, hqc, rfl, hL, rfl, rfl⟩, ?_⟩
    show Steps p.tables e below _ ((({ U with heap := s₂.heap, slotsUsed := s₂.slotsUsed } : State).setVm s₂.vm).setTop { g with pc := g.pc + len₂, stack := v.toList ++ g.stack })
    rw [← hs₂]
    exact hsteps
  · obtain ⟨e2, q2, q3, q4, q5, q6⟩ := id hsm
    have e3 : s₂ = ({ (U.calling g mk a).setFrames s₂.frames with heap := s₂.heap, slotsUsed := s₂.slotsUsed } : State).setVm s₂.vm := by
      have : s₂ = ({ s₂ with vm := (U.calling g mk a).vm } : State).setVm s₂.vm := rfl
      rw [e2] at this
      exact this
    have hf₂ : s₂.frames = .throwing q :: .java g :: U.frames.tail := hend
    have hW' : U.WarmedH s₂.vm := hW₂
    have hs₂ : s₂ = ((({ U with heap := s₂.heap, slotsUsed := s₂.slotsUsed } : State).setVm s₂.vm).setTop g).pushFrame (.throwing q) := by
      refine e3.trans ?_
      rw [hf₂, State.calling_eq h.top, State.setFrames_setFrames, State.pushFrame, State.frames_setTop _ hr', State.setTop_of_frames _ hr', State.setFrames_setFrames, hr]
      rfl
    have hsame : U.sameButNew ({ U with heap := s₂.heap, slotsUsed := s₂.slotsUsed } : State) L mc ms := by
      refine ⟨?_, q2, q3, q4, q5, q6⟩
      obtain ⟨t, ht, -⟩ := State.frames_cons hr
      show ({ U with heap := s₂.heap, slotsUsed := s₂.slotsUsed } : State) = { U.setFrames U.frames with heap := s₂.heap, slotsUsed := s₂.slotsUsed }
      rw [State.setFrames_self ht]
    subst hg
    refine Or.inr ⟨q, ⟨(({ U with heap := s₂.heap, slotsUsed := s₂.slotsUsed } : State).setVm s₂.vm), Ls ++ L, c0 + mc, s0 + ms⟩,
      ⟨X.admits, X.cas, X.clock, X.frames, X.room, X.hears, X.method, X.code, (X.here.setHeapUsed s₂.heap s₂.slotsUsed).setVm hW'.alike, X.tail, State.WarmedH.trans X.warmed hW', X.limits, X.bytes, X.same.trans (hsame.setVm s.vm)⟩,
      ⟨g, mk, s₂, L, E, ce, rfl, rfl, hx, hce, hcv, hcl, rfl, hL, rfl, rfl⟩, ?_⟩
    show Steps p.tables e below _ (((({ U with heap := s₂.heap, slotsUsed := s₂.slotsUsed } : State).setVm s₂.vm).setTop g).pushFrame (.throwing q))
    rw [← hs₂]
    exact hsteps
end Payer
section Calls
variable {p : Program} {l : Launch} {e : Env} {R : Room} {s : State} {m : MethodId} {args : Array Value} {below : List Frame} {meth : Method} {c : Code} {T : State} {locs : List Loc} {cells slots : Nat}
theorem vx_callV (X : Stand p l e R s m args below meth c T locs cells slots) (hexec : p.tables.exec = Jvm.exec) {own C : String} {index : Nat} {y : MethodName} {bytes : ByteArray} {maxL : Nat} {ret : Option FieldType}
    (hown : s.vm.findClass own = some m.cls) (hlink : (Cond.methodLink own index y).before args s = true) (hinst : (Cond.instanceMethod y).before args s = true) (hsel : (Cond.selects C y y).before args s = true)
    (hcode : (Cond.code y bytes maxL ret).before args s = true) (hy : y.cls ≠ "java/lang/invoke/MethodHandle" ∧ y.cls ≠ "java/lang/invoke/VarHandle")
    {W9 : Nat} {Pre : Pt → Array Value → Prop} {Post : Pt → Array Value → Option Value → Pt → Prop} {PostX : Pt → Array Value → Addr → Pt → Prop} (hK : vx_Back l R p e below s args y 3 W9 Pre Post PostX)
    {b : Addr} {cellB : Cell} (hcell : T.heap[b]? = some cellB) (hobj : cellB.vm.isStatics = false) (hcls : s.vm.findClass C = some cellB.cls)
    {g : JFrame} (hg : g.method = m) (hsize : g.locals.size = c.maxLocals) {argsL rest : List Value} (hlen : ∀ sig, parseMethodDescriptor y.desc = some sig → argsL.length = sig.parameters.length)
    (hstack : g.stack = argsL.reverse ++ .ref b :: rest) (hW : 2 * g.monitorRoom + (rest.map fun v => v.category).sum ≤ W9) (hdg : decode c.code g.pc = .ok (.invokevirtual index, 3))
    (hpre : ∀ vm₁, s.WarmedH vm₁ → Pre ⟨T.setVm vm₁, locs, cells, slots⟩ (Value.ref b :: argsL).toArray) :
    (∃ (v : Option Value) (vm₁ : Vm) (B : Pt), s.WarmedH vm₁ ∧ Stand p l e R s m args below meth c B.U B.locs B.cells B.slots ∧ Post ⟨T.setVm vm₁, locs, cells, slots⟩ (Value.ref b :: argsL).toArray v B ∧
      ∀ target, Steps p.tables e below (B.U.setTop { g with pc := g.pc + 3, stack := v.toList ++ rest }) target → Steps p.tables e below (T.setTop g) target) ∨
    (∃ (q : Addr) (vm₁ : Vm) (B : Pt), s.WarmedH vm₁ ∧ Stand p l e R s m args below meth c B.U B.locs B.cells B.slots ∧ PostX ⟨T.setVm vm₁, locs, cells, slots⟩ (Value.ref b :: argsL).toArray q B ∧
      Steps p.tables e below (T.setTop g) ((B.U.setTop { g with stack := rest }).pushFrame (.throwing q))) := by
  obtain ⟨mk, methM, hnamed, hmethM, hstM, habM⟩ := Cond.instanceMethod_spec hinst
  obtain ⟨methM', cM, hmethM', -, -, -, -, -, -, hsigM⟩ := Cond.code_spec hnamed hcode
  cases hmethM.symm.trans hmethM'
  obtain ⟨c2, r2, m2, q1, q2, q3, q4, kP, hkP, hkPi⟩ := Cond.selects_spec hsel
  cases hcls.symm.trans q1
  cases (State.methodFound?_of_named hnamed hy).symm.trans q2
  cases hnamed.symm.trans q3
  have hselP : selectMethod e.platform s.vm cellB.cls mk = .method mk := by rw [Launch.admits_selectMethod X.admits]; exact q4
  obtain ⟨vm₁, X₁, hstep₁⟩ := X.invokevirtual hexec hown hlink hnamed hmethM hstM hkP hkPi hy (a := b) (cell := cellB) hcell
    (fun z h => by rw [h] at hobj; cases hobj) hselP hmethM habM hkP hkPi (g := g) hg (argsL := argsL) (rest := rest) (hlen _ hsigM) hstack hdg
  rcases hK m meth c ⟨T.setVm vm₁, locs, cells, slots⟩ { g with stack := rest } (.invokevirtual index) mk (Value.ref b :: argsL).toArray X₁ hg hsize hdg hW (X₁.named hnamed) (hpre vm₁ X₁.warmed) with ⟨v, B, X', hpost, hsteps⟩ | ⟨q, B, X', hpost, hsteps⟩
  · exact Or.inl ⟨v, vm₁, B, X₁.warmed, X', hpost, fun target h => hstep₁ _ fun acts => by rw [doInvoke_state]; exact hsteps.trans h⟩
  · exact Or.inr ⟨q, vm₁, B, X₁.warmed, X', hpost, hstep₁ _ fun acts => by rw [doInvoke_state]; exact hsteps⟩
theorem vx_callS (X : Stand p l e R s m args below meth c T locs cells slots) (hexec : p.tables.exec = Jvm.exec) {own : String} {index : Nat} {y : MethodName} {bytes : ByteArray} {maxL : Nat} {ret : Option FieldType}
    (hown : s.vm.findClass own = some m.cls) (hlink : (Cond.methodLink own index y).before args s = true) (hstat : (Cond.static y).before args s = true) (hinit : (Cond.initialized y.cls).before args s = true)
    (hcode : (Cond.code y bytes maxL ret).before args s = true) (hy : y.cls ≠ "java/lang/invoke/MethodHandle" ∧ y.cls ≠ "java/lang/invoke/VarHandle")
    {W9 : Nat} {Pre : Pt → Array Value → Prop} {Post : Pt → Array Value → Option Value → Pt → Prop} {PostX : Pt → Array Value → Addr → Pt → Prop} (hK : vx_Back l R p e below s args y 3 W9 Pre Post PostX)
    {g : JFrame} (hg : g.method = m) (hsize : g.locals.size = c.maxLocals) {argsL rest : List Value} (hlen : ∀ sig, parseMethodDescriptor y.desc = some sig → argsL.length = sig.parameters.length)
    (hstack : g.stack = argsL.reverse ++ rest) (hW : 2 * g.monitorRoom + (rest.map fun v => v.category).sum ≤ W9) (hdg : decode c.code g.pc = .ok (.invokestatic index, 3))
    (hpre : ∀ vm₁, s.WarmedH vm₁ → Pre ⟨T.setVm vm₁, locs, cells, slots⟩ argsL.toArray) :
    (∃ (v : Option Value) (vm₁ : Vm) (B : Pt), s.WarmedH vm₁ ∧ Stand p l e R s m args below meth c B.U B.locs B.cells B.slots ∧ Post ⟨T.setVm vm₁, locs, cells, slots⟩ argsL.toArray v B ∧
      ∀ target, Steps p.tables e below (B.U.setTop { g with pc := g.pc + 3, stack := v.toList ++ rest }) target → Steps p.tables e below (T.setTop g) target) ∨
    (∃ (q : Addr) (vm₁ : Vm) (B : Pt), s.WarmedH vm₁ ∧ Stand p l e R s m args below meth c B.U B.locs B.cells B.slots ∧ PostX ⟨T.setVm vm₁, locs, cells, slots⟩ argsL.toArray q B ∧
      Steps p.tables e below (T.setTop g) ((B.U.setTop { g with stack := rest }).pushFrame (.throwing q))) := by
  obtain ⟨mk, hnamed⟩ := Cond.code_named hcode
  obtain ⟨methM, cM, hmethM, -, -, -, -, -, -, hsigM⟩ := Cond.code_spec hnamed hcode
  have hstatic : methM.isStatic = true := Cond.static_spec hnamed hmethM hstat
  obtain ⟨kP, hkP, -⟩ := className_of_methodNamed hnamed
  have hinitP : kP.init = .initialized := Cond.initialized_spec (findClass_of_methodNamed hnamed) hkP hinit
  obtain ⟨vm₁, X₁, hstep₁⟩ := X.invokestatic hexec hown hlink hnamed hmethM hstatic hkP hinitP hy (g := g) hg (argsL := argsL) (rest := rest) (hlen _ hsigM) hstack hdg
  rcases hK m meth c ⟨T.setVm vm₁, locs, cells, slots⟩ { g with stack := rest } (.invokestatic index) mk argsL.toArray X₁ hg hsize hdg hW (X₁.named hnamed) (hpre vm₁ X₁.warmed) with ⟨v, B, X', hpost, hsteps⟩ | ⟨q, B, X', hpost, hsteps⟩
  · exact Or.inl ⟨v, vm₁, B, X₁.warmed, X', hpost, fun target h => hstep₁ _ fun acts => by rw [doInvoke_state]; exact hsteps.trans h⟩
  · exact Or.inr ⟨q, vm₁, B, X₁.warmed, X', hpost, hstep₁ _ fun acts => by rw [doInvoke_state]; exact hsteps⟩
end Calls
theorem vx_cls {s : State} {T : State} {vm₁ : Vm} {E : String} {k : ClassId} (hW : s.WarmedH vm₁) (h : (T.setVm vm₁).vm.findClass E = some k) : s.vm.findClass E = some k := by
  have h1 : vm₁.findClass E = some k := h
  rw [hW.alike.findClass] at h1
  exact h1
/-- the method's frame g, with q thrown over it -/
def vx_W (p : Program) (l : Launch) (e : Env) (R : Room) (s : State) (m : MethodId) (args : Array Value) (below : List Frame) (meth : Method) (c : Code) (H : Heap) (locs : List Loc) (cells slots : Nat) (Q : State → Prop) (g : JFrame) (q : Addr) : Prop :=
  ∀ T : State, T.heap = H → Stand p l e R s m args below meth c T locs cells slots → ∃ t, Steps p.tables e below ((T.setTop g).pushFrame (.throwing q)) t ∧ Q t
def vx_Run (p : Program) (l : Launch) (e : Env) (R : Room) (s : State) (m : MethodId) (args : Array Value) (below : List Frame) (meth : Method) (c : Code) (H : Heap) (locs : List Loc) (cells slots mc ms : Nat) (g : JFrame) (rest : List Value) (Qa : State → Outcome → State → Prop) (XC : String → State → State → Prop) (free : Addr → Prop) : Prop :=
  ∀ T : State, T.heap = H → Stand p l e R s m args below meth c T locs cells slots →
    (∃ (v : Option Value) (st₀ t T' : State) (L : List Loc), st₀.heap = H ∧ Stand p l e R s m args below meth c T' (locs ++ L) (cells + mc) (slots + ms) ∧ (∀ q ∈ L, free q.base) ∧ T'.heap = t.heap ∧ T'.vm = t.vm ∧ Qa st₀ (.returned v) t ∧
      Goes p e below T g T' { g with pc := g.pc + 3, stack := v.toList ++ rest }) ∨
    (∃ (q : Addr) (st₀ t T' : State) (L : List Loc) (E : String) (ce : Cell), st₀.heap = H ∧ Stand p l e R s m args below meth c T' (locs ++ L) (cells + mc) (slots + ms) ∧ (∀ z ∈ L, free z.base) ∧ T'.heap = t.heap ∧ T'.vm = t.vm ∧ XC E st₀ t ∧ t.heap[q]? = some ce ∧ ce.vm = .none ∧ s.vm.findClass E = some ce.cls ∧
      Steps p.tables e below (T.setTop g) ((T'.setTop { g with stack := rest }).pushFrame (.throwing q)))
def vx_X {S : Type} (px : S → Prop) (B : String → S → State → Prop) (A : Nat → Prop) : String → State → State → Prop := fun E st t => ∃ u : S, px u ∧ B E u t ∧ va_F A st t
section Runs
variable {p : Program} {l : Launch} {e : Env} {R : Room} {s : State} {m : MethodId} {args : Array Value} {below : List Frame} {meth : Method} {c : Code} {H : Heap} {locs : List Loc} {cells slots : Nat}
variable {y : MethodName} {bytes cc : ByteArray} {maxL nL mc ms n index : Nat} {ret : Option FieldType} {ws : List Cond} {rm : Room} {Pc : Array Value → State → Prop} {Qc : Array Value → State → Outcome → State → Prop} {XC : String → State → State → Prop} {free : Addr → Prop} {Ts : List Cond} {own C : String} {b : Addr} {As rest : List Value} {g : JFrame}
theorem vx_callBack (cb : CallB R s args own index y bytes maxL ret ws rm mc ms n) (hM : vx_Met l y ws rm Pc Qc XC mc ms free) (hbl : FrameBlind Pc) : vx_Back l R p e below s args y 3 8 (PreOf R mc ms Pc) (PostOf Qc mc ms free) (vx_Post XC mc ms free) := by
  obtain ⟨hrc, hrs, hfr, hlo, hws, hcw, -, hini, -⟩ := cb
  exact vx_back (bytes := bytes) (maxL := maxL) (ret := ret) hM hbl hrc hrs hfr hlo hws hcw (fun a' U hW => word_at hW (Or.inl (by first | rfl | simp [Cond.onTables, Cond.keeps, Cond.steady])) hini)
theorem vx_runV (S : CallFix p m c cc nL s args Ts own) (hM : vx_Met l y ws rm Pc Qc XC mc ms free) (cw : CallW R s args own C index y bytes maxL ret ws rm mc ms n) (hp : PreV s H C b Pc As)
    (hg : g.method = m) (hn : As.length = n) (hsize : g.locals.size = nL) (hstack : g.stack = As.reverse ++ .ref b :: rest) (hW : 2 * g.monitorRoom + (rest.map fun v => v.category).sum ≤ 8) (hdg : decode cc g.pc = .ok (.invokevirtual index, 3)) (hf : cells + mc ≤ R.cells ∧ slots + ms ≤ R.slots) :
    vx_Run p l e R s m args below meth c H locs cells slots mc ms g rest (Qc (Value.ref b :: As).toArray) XC free := by
  have hK : vx_Back l R p e below s args y 3 8 (PreOf R mc ms Pc) (PostOf Qc mc ms free) (vx_Post XC mc ms free) := vx_callBack cw.1 hM hp.1
  obtain ⟨⟨-, -, -, -, -, -, hcode, -, hy, hlen, hl⟩, hin, hse⟩ := cw
  obtain ⟨hx, hb, hml, ho, -⟩ := S
  obtain ⟨-, ⟨cellB, hcB, hoB, hclB⟩, hPc⟩ := hp
  intro T hT X
  rcases vx_callV X hx (C := C) (bytes := bytes) (maxL := maxL) (ret := ret) ho hl hin hse hcode hy hK (by rw [hT]; exact hcB) hoB hclB hg (hsize.trans hml.symm) (argsL := As) (rest := rest) (fun sig h => hn.trans (hlen sig h)) hstack hW (by rw [hb]; exact hdg)
    (fun vm₁ hW₁ => ⟨hf.1, hf.2, hPc (T.setVm vm₁) hT hW₁⟩) with ⟨v, vm₁, ⟨U', l2, c2, s2⟩, hW₁, X', ⟨g', mk, t, L, e1, e2, hq, h1, hL, h2, h3⟩, st⟩ | ⟨q, vm₁, ⟨U', l2, c2, s2⟩, hW₁, X', ⟨g', mk, t, L, E, ce, e1, e2, hq, hce, hcv, hcl, h1, hL, h2, h3⟩, st⟩
  · dsimp only [Pt.U, Pt.locs, Pt.cells, Pt.slots] at X' e1 e2 h1 h2 h3 st
    subst h1; subst h2; subst h3
    exact Or.inl ⟨v, (T.setVm vm₁).calling g' mk (Value.ref b :: As).toArray, t, U', L, hT, X', hL, e1, e2, hq, st⟩
  · dsimp only [Pt.U, Pt.locs, Pt.cells, Pt.slots] at X' e1 e2 h1 h2 h3 st hcl
    subst h1; subst h2; subst h3
    exact Or.inr ⟨q, (T.setVm vm₁).calling g' mk (Value.ref b :: As).toArray, t, U', L, E, ce, hT, X', hL, e1, e2, hq, hce, hcv, vx_cls hW₁ hcl, st⟩
theorem vx_runS (S : CallFix p m c cc nL s args Ts own) (hM : vx_Met l y ws rm Pc Qc XC mc ms free) (cw : CallB R s args own index y bytes maxL ret ws rm mc ms n ∧ (Cond.static y).before args s = true) (hp : PreS s H Pc As)
    (hg : g.method = m) (hn : As.length = n) (hsize : g.locals.size = nL) (hstack : g.stack = As.reverse ++ rest) (hW : 2 * g.monitorRoom + (rest.map fun v => v.category).sum ≤ 8) (hdg : decode cc g.pc = .ok (.invokestatic index, 3)) (hf : cells + mc ≤ R.cells ∧ slots + ms ≤ R.slots) :
    vx_Run p l e R s m args below meth c H locs cells slots mc ms g rest (Qc As.toArray) XC free := by
  have hK : vx_Back l R p e below s args y 3 8 (PreOf R mc ms Pc) (PostOf Qc mc ms free) (vx_Post XC mc ms free) := vx_callBack cw.1 hM hp.1
  obtain ⟨⟨-, -, -, -, -, -, hcode, hini, hy, hlen, hl⟩, hstt⟩ := cw
  obtain ⟨hx, hb, hml, ho, -⟩ := S
  intro T hT X
  rcases vx_callS X hx (bytes := bytes) (maxL := maxL) (ret := ret) ho hl hstt hini hcode hy hK hg (hsize.trans hml.symm) (argsL := As) (rest := rest) (fun sig h => hn.trans (hlen sig h)) hstack hW (by rw [hb]; exact hdg)
    (fun vm₁ hW₁ => ⟨hf.1, hf.2, hp.2 (T.setVm vm₁) hT hW₁⟩) with ⟨v, vm₁, ⟨U', l2, c2, s2⟩, hW₁, X', ⟨g', mk, t, L, e1, e2, hq, h1, hL, h2, h3⟩, st⟩ | ⟨q, vm₁, ⟨U', l2, c2, s2⟩, hW₁, X', ⟨g', mk, t, L, E, ce, e1, e2, hq, hce, hcv, hcl, h1, hL, h2, h3⟩, st⟩
  · dsimp only [Pt.U, Pt.locs, Pt.cells, Pt.slots] at X' e1 e2 h1 h2 h3 st
    subst h1; subst h2; subst h3
    exact Or.inl ⟨v, (T.setVm vm₁).calling g' mk As.toArray, t, U', L, hT, X', hL, e1, e2, hq, st⟩
  · dsimp only [Pt.U, Pt.locs, Pt.cells, Pt.slots] at X' e1 e2 h1 h2 h3 st hcl
    subst h1; subst h2; subst h3
    exact Or.inr ⟨q, (T.setVm vm₁).calling g' mk As.toArray, t, U', L, E, ce, hT, X', hL, e1, e2, hq, hce, hcv, vx_cls hW₁ hcl, st⟩
end Runs
section Rows
variable {p : Program} {l : Launch} {e : Env} {R : Room} {s : State} {m : MethodId} {args : Array Value} {below : List Frame} {meth : Method} {c : Code} {H : Heap} {locs : List Loc} {cells slots : Nat} {Q : State → Prop}
variable {mc ms : Nat} {free : Addr → Prop} {A0 A1 : Nat → Prop} {H0 : Heap} {a : Array Value} {pc : Nat} {ls : Array Slot} {st0 rest : List Value}
theorem vx_keep {st₀ t T' : State} {L : List Loc} (h0 : st₀.heap = H) (e1 : T'.heap = t.heap) (hS : va_S A0 H0 H locs) (hA : ∀ q, q < H.size → A1 q → A0 q) (hf : ∀ q, free q → A0 q) (hL : ∀ q ∈ L, free q.base) (hF : va_F A1 st₀ t) :
    H.size ≤ T'.heap.size ∧ (∀ q : Nat, q < H.size → ¬ A1 q → T'.heap[q]? = H[q]?) ∧ va_S A0 H0 T'.heap (locs ++ L) := by
  obtain ⟨hz, hk⟩ := hF
  rw [h0] at hz hk
  exact ⟨by rw [e1]; exact hz, fun q h1 h2 => by rw [e1]; exact hk q h1 h2,
    ⟨Nat.le_trans hS.1 (by rw [e1]; exact hz), fun q h1 h2 => by rw [e1, hk q (Nat.lt_of_lt_of_le h1 hS.1) (fun z => h2 (hA q (Nat.lt_of_lt_of_le h1 hS.1) z))]; exact hS.2.1 q h1 h2, fun q hq => by
      rcases List.mem_append.mp hq with h | h
      · exact hS.2.2 q h
      · exact hf _ (hL q h)⟩⟩
theorem vx_calli {S SX : Type} {post : Int32 → S → Prop} {px : SX → Prop} {B : S → State → Prop} {BX : String → SX → State → Prop} {AX : Nat → Prop} (hr : vx_Run p l e R s m args below meth c H locs cells slots mc ms (F0 m pc ls st0) rest (va_Qi post B A1 a) (vx_X px BX AX) free) (hS : va_S A0 H0 H locs) (hA : ∀ q, q < H.size → A1 q → A0 q) (hf : ∀ q, free q → A0 q) (hAX : ∀ q, q < H.size → AX q → A0 q)
    (kx : ∀ (E : String) (ce : Cell) (q9 : Addr) (u : SX) (t : State) (H1 : Heap) (locs1 : List Loc), t.heap = H1 → s.vm.Alike t.vm → px u → BX E u t → H.size ≤ H1.size → (∀ q : Nat, q < H.size → ¬ AX q → H1[q]? = H[q]?) → va_S A0 H0 H1 locs1 → H1[q9]? = some ce → ce.vm = .none → s.vm.findClass E = some ce.cls → vx_W p l e R s m args below meth c H1 locs1 (cells + mc) (slots + ms) Q (F0 m pc ls rest) q9)
    (kk : ∀ (r : Int32) (u : S) (t : State) (H1 : Heap) (locs1 : List Loc), t.heap = H1 → s.vm.Alike t.vm → post r u → B u t → H.size ≤ H1.size → (∀ q : Nat, q < H.size → ¬ A1 q → H1[q]? = H[q]?) → va_S A0 H0 H1 locs1 → W p l e R s m args below meth c H1 locs1 (cells + mc) (slots + ms) Q (F0 m (pc + 3) ls (.int r :: rest))) : W p l e R s m args below meth c H locs cells slots Q (F0 m pc ls st0) := by
  intro T hT X
  rcases hr T hT X with ⟨v, st₀, t, T', L, h0, X', hL, e1, e2, ⟨⟨r, u, hv, hp, hb⟩, hF⟩, st⟩ | ⟨q, st₀, t, T', L, E, ce, h0, X', hL, e1, e2, ⟨u, hp, hb, hF⟩, hce, hcv, hcl, st⟩
  · cases hv
    obtain ⟨k1, k2, k3⟩ := vx_keep h0 e1 hS hA hf hL hF
    obtain ⟨t2, a1, b1⟩ := kk r u t T'.heap (locs ++ L) e1.symm (by rw [← e2]; exact X'.warmed.alike) hp hb k1 k2 k3 T' rfl X'
    exact ⟨t2, st t2 a1, b1⟩
  · obtain ⟨k1, k2, k3⟩ := vx_keep h0 e1 hS hAX hf hL hF
    obtain ⟨t2, a1, b1⟩ := kx E ce q u t T'.heap (locs ++ L) e1.symm (by rw [← e2]; exact X'.warmed.alike) hp hb k1 k2 k3 (by rw [e1]; exact hce) hcv hcl T' rfl X'
    exact ⟨t2, st.trans a1, b1⟩
theorem vx_calll {S SX : Type} {post : Int64 → S → Prop} {px : SX → Prop} {B : S → State → Prop} {BX : String → SX → State → Prop} {AX : Nat → Prop} (hr : vx_Run p l e R s m args below meth c H locs cells slots mc ms (F0 m pc ls st0) rest (va_Ql post B A1 a) (vx_X px BX AX) free) (hS : va_S A0 H0 H locs) (hA : ∀ q, q < H.size → A1 q → A0 q) (hf : ∀ q, free q → A0 q) (hAX : ∀ q, q < H.size → AX q → A0 q)
    (kx : ∀ (E : String) (ce : Cell) (q9 : Addr) (u : SX) (t : State) (H1 : Heap) (locs1 : List Loc), t.heap = H1 → s.vm.Alike t.vm → px u → BX E u t → H.size ≤ H1.size → (∀ q : Nat, q < H.size → ¬ AX q → H1[q]? = H[q]?) → va_S A0 H0 H1 locs1 → H1[q9]? = some ce → ce.vm = .none → s.vm.findClass E = some ce.cls → vx_W p l e R s m args below meth c H1 locs1 (cells + mc) (slots + ms) Q (F0 m pc ls rest) q9)
    (kk : ∀ (r : Int64) (u : S) (t : State) (H1 : Heap) (locs1 : List Loc), t.heap = H1 → s.vm.Alike t.vm → post r u → B u t → H.size ≤ H1.size → (∀ q : Nat, q < H.size → ¬ A1 q → H1[q]? = H[q]?) → va_S A0 H0 H1 locs1 → W p l e R s m args below meth c H1 locs1 (cells + mc) (slots + ms) Q (F0 m (pc + 3) ls (.long r :: rest))) : W p l e R s m args below meth c H locs cells slots Q (F0 m pc ls st0) := by
  intro T hT X
  rcases hr T hT X with ⟨v, st₀, t, T', L, h0, X', hL, e1, e2, ⟨⟨r, u, hv, hp, hb⟩, hF⟩, st⟩ | ⟨q, st₀, t, T', L, E, ce, h0, X', hL, e1, e2, ⟨u, hp, hb, hF⟩, hce, hcv, hcl, st⟩
  · cases hv
    obtain ⟨k1, k2, k3⟩ := vx_keep h0 e1 hS hA hf hL hF
    obtain ⟨t2, a1, b1⟩ := kk r u t T'.heap (locs ++ L) e1.symm (by rw [← e2]; exact X'.warmed.alike) hp hb k1 k2 k3 T' rfl X'
    exact ⟨t2, st t2 a1, b1⟩
  · obtain ⟨k1, k2, k3⟩ := vx_keep h0 e1 hS hAX hf hL hF
    obtain ⟨t2, a1, b1⟩ := kx E ce q u t T'.heap (locs ++ L) e1.symm (by rw [← e2]; exact X'.warmed.alike) hp hb k1 k2 k3 (by rw [e1]; exact hce) hcv hcl T' rfl X'
    exact ⟨t2, st.trans a1, b1⟩
theorem vx_callf {S SX : Type} {post : UInt32 → S → Prop} {px : SX → Prop} {B : S → State → Prop} {BX : String → SX → State → Prop} {AX : Nat → Prop} (hr : vx_Run p l e R s m args below meth c H locs cells slots mc ms (F0 m pc ls st0) rest (va_Qf post B A1 a) (vx_X px BX AX) free) (hS : va_S A0 H0 H locs) (hA : ∀ q, q < H.size → A1 q → A0 q) (hf : ∀ q, free q → A0 q) (hAX : ∀ q, q < H.size → AX q → A0 q)
    (kx : ∀ (E : String) (ce : Cell) (q9 : Addr) (u : SX) (t : State) (H1 : Heap) (locs1 : List Loc), t.heap = H1 → s.vm.Alike t.vm → px u → BX E u t → H.size ≤ H1.size → (∀ q : Nat, q < H.size → ¬ AX q → H1[q]? = H[q]?) → va_S A0 H0 H1 locs1 → H1[q9]? = some ce → ce.vm = .none → s.vm.findClass E = some ce.cls → vx_W p l e R s m args below meth c H1 locs1 (cells + mc) (slots + ms) Q (F0 m pc ls rest) q9)
    (kk : ∀ (r : UInt32) (u : S) (t : State) (H1 : Heap) (locs1 : List Loc), t.heap = H1 → s.vm.Alike t.vm → post r u → B u t → H.size ≤ H1.size → (∀ q : Nat, q < H.size → ¬ A1 q → H1[q]? = H[q]?) → va_S A0 H0 H1 locs1 → W p l e R s m args below meth c H1 locs1 (cells + mc) (slots + ms) Q (F0 m (pc + 3) ls (.float r :: rest))) : W p l e R s m args below meth c H locs cells slots Q (F0 m pc ls st0) := by
  intro T hT X
  rcases hr T hT X with ⟨v, st₀, t, T', L, h0, X', hL, e1, e2, ⟨⟨r, u, hv, hp, hb⟩, hF⟩, st⟩ | ⟨q, st₀, t, T', L, E, ce, h0, X', hL, e1, e2, ⟨u, hp, hb, hF⟩, hce, hcv, hcl, st⟩
  · cases hv
    obtain ⟨k1, k2, k3⟩ := vx_keep h0 e1 hS hA hf hL hF
    obtain ⟨t2, a1, b1⟩ := kk r u t T'.heap (locs ++ L) e1.symm (by rw [← e2]; exact X'.warmed.alike) hp hb k1 k2 k3 T' rfl X'
    exact ⟨t2, st t2 a1, b1⟩
  · obtain ⟨k1, k2, k3⟩ := vx_keep h0 e1 hS hAX hf hL hF
    obtain ⟨t2, a1, b1⟩ := kx E ce q u t T'.heap (locs ++ L) e1.symm (by rw [← e2]; exact X'.warmed.alike) hp hb k1 k2 k3 (by rw [e1]; exact hce) hcv hcl T' rfl X'
    exact ⟨t2, st.trans a1, b1⟩
theorem vx_calld {S SX : Type} {post : UInt64 → S → Prop} {px : SX → Prop} {B : S → State → Prop} {BX : String → SX → State → Prop} {AX : Nat → Prop} (hr : vx_Run p l e R s m args below meth c H locs cells slots mc ms (F0 m pc ls st0) rest (va_Qd post B A1 a) (vx_X px BX AX) free) (hS : va_S A0 H0 H locs) (hA : ∀ q, q < H.size → A1 q → A0 q) (hf : ∀ q, free q → A0 q) (hAX : ∀ q, q < H.size → AX q → A0 q)
    (kx : ∀ (E : String) (ce : Cell) (q9 : Addr) (u : SX) (t : State) (H1 : Heap) (locs1 : List Loc), t.heap = H1 → s.vm.Alike t.vm → px u → BX E u t → H.size ≤ H1.size → (∀ q : Nat, q < H.size → ¬ AX q → H1[q]? = H[q]?) → va_S A0 H0 H1 locs1 → H1[q9]? = some ce → ce.vm = .none → s.vm.findClass E = some ce.cls → vx_W p l e R s m args below meth c H1 locs1 (cells + mc) (slots + ms) Q (F0 m pc ls rest) q9)
    (kk : ∀ (r : UInt64) (u : S) (t : State) (H1 : Heap) (locs1 : List Loc), t.heap = H1 → s.vm.Alike t.vm → post r u → B u t → H.size ≤ H1.size → (∀ q : Nat, q < H.size → ¬ A1 q → H1[q]? = H[q]?) → va_S A0 H0 H1 locs1 → W p l e R s m args below meth c H1 locs1 (cells + mc) (slots + ms) Q (F0 m (pc + 3) ls (.double r :: rest))) : W p l e R s m args below meth c H locs cells slots Q (F0 m pc ls st0) := by
  intro T hT X
  rcases hr T hT X with ⟨v, st₀, t, T', L, h0, X', hL, e1, e2, ⟨⟨r, u, hv, hp, hb⟩, hF⟩, st⟩ | ⟨q, st₀, t, T', L, E, ce, h0, X', hL, e1, e2, ⟨u, hp, hb, hF⟩, hce, hcv, hcl, st⟩
  · cases hv
    obtain ⟨k1, k2, k3⟩ := vx_keep h0 e1 hS hA hf hL hF
    obtain ⟨t2, a1, b1⟩ := kk r u t T'.heap (locs ++ L) e1.symm (by rw [← e2]; exact X'.warmed.alike) hp hb k1 k2 k3 T' rfl X'
    exact ⟨t2, st t2 a1, b1⟩
  · obtain ⟨k1, k2, k3⟩ := vx_keep h0 e1 hS hAX hf hL hF
    obtain ⟨t2, a1, b1⟩ := kx E ce q u t T'.heap (locs ++ L) e1.symm (by rw [← e2]; exact X'.warmed.alike) hp hb k1 k2 k3 (by rw [e1]; exact hce) hcv hcl T' rfl X'
    exact ⟨t2, st.trans a1, b1⟩
theorem vx_callv {S SX : Type} {post : S → Prop} {px : SX → Prop} {B : S → State → Prop} {BX : String → SX → State → Prop} {AX : Nat → Prop} (hr : vx_Run p l e R s m args below meth c H locs cells slots mc ms (F0 m pc ls st0) rest (va_Qv post B A1 a) (vx_X px BX AX) free) (hS : va_S A0 H0 H locs) (hA : ∀ q, q < H.size → A1 q → A0 q) (hf : ∀ q, free q → A0 q) (hAX : ∀ q, q < H.size → AX q → A0 q)
    (kx : ∀ (E : String) (ce : Cell) (q9 : Addr) (u : SX) (t : State) (H1 : Heap) (locs1 : List Loc), t.heap = H1 → s.vm.Alike t.vm → px u → BX E u t → H.size ≤ H1.size → (∀ q : Nat, q < H.size → ¬ AX q → H1[q]? = H[q]?) → va_S A0 H0 H1 locs1 → H1[q9]? = some ce → ce.vm = .none → s.vm.findClass E = some ce.cls → vx_W p l e R s m args below meth c H1 locs1 (cells + mc) (slots + ms) Q (F0 m pc ls rest) q9)
    (kk : ∀ (u : S) (t : State) (H1 : Heap) (locs1 : List Loc), t.heap = H1 → s.vm.Alike t.vm → post u → B u t → H.size ≤ H1.size → (∀ q : Nat, q < H.size → ¬ A1 q → H1[q]? = H[q]?) → va_S A0 H0 H1 locs1 → W p l e R s m args below meth c H1 locs1 (cells + mc) (slots + ms) Q (F0 m (pc + 3) ls (rest))) : W p l e R s m args below meth c H locs cells slots Q (F0 m pc ls st0) := by
  intro T hT X
  rcases hr T hT X with ⟨v, st₀, t, T', L, h0, X', hL, e1, e2, ⟨⟨u, hv, hp, hb⟩, hF⟩, st⟩ | ⟨q, st₀, t, T', L, E, ce, h0, X', hL, e1, e2, ⟨u, hp, hb, hF⟩, hce, hcv, hcl, st⟩
  · cases hv
    obtain ⟨k1, k2, k3⟩ := vx_keep h0 e1 hS hA hf hL hF
    obtain ⟨t2, a1, b1⟩ := kk u t T'.heap (locs ++ L) e1.symm (by rw [← e2]; exact X'.warmed.alike) hp hb k1 k2 k3 T' rfl X'
    exact ⟨t2, st t2 a1, b1⟩
  · obtain ⟨k1, k2, k3⟩ := vx_keep h0 e1 hS hAX hf hL hF
    obtain ⟨t2, a1, b1⟩ := kx E ce q u t T'.heap (locs ++ L) e1.symm (by rw [← e2]; exact X'.warmed.alike) hp hb k1 k2 k3 (by rw [e1]; exact hce) hcv hcl T' rfl X'
    exact ⟨t2, st.trans a1, b1⟩
/-- caught by the row x of this method's table; the rows ahead don't take it -/
theorem vx_catch {own name : String} {E : String} {ce : Cell} {q : Addr} (hown : s.vm.findClass own = some m.cls) (pre : List ExceptionTableEntry) (x : ExceptionTableEntry) (suf : List ExceptionTableEntry) (hsplit : c.exceptionTable.toList = pre ++ x :: suf)
    (hpass : ∀ z ∈ pre, covers z pc = false ∨ (z.catchType ≠ 0 ∧ ∃ nm : String, (Cond.classLink own z.catchType nm).before args s = true ∧ va_Nc E nm s)) (hx : covers x pc = true) (h0 : x.catchType ≠ 0)
    (hlink : (Cond.classLink own x.catchType name).before args s = true) (hcast : (Cond.castable E name).before args s = true) (hcell : H[q]? = some ce) (hv : ce.vm = .none) (hcl : s.vm.findClass E = some ce.cls)
    (kk : W p l e R s m args below meth c H locs cells slots Q (F0 m x.handlerPc ls [.ref q])) : vx_W p l e R s m args below meth c H locs cells slots Q (F0 m pc ls rest) q := by
  intro T hT X
  have hpl : e.platform.magicAccessors = ({} : Platform).magicAccessors := by rw [X.admits.platform]
  obtain ⟨c3, c4, hc3, hc4, hasg⟩ := Cond.castable_spec hcast
  cases Option.some.inj (hc3.symm.trans hcl)
  obtain ⟨c5, hc5, hcl5⟩ := Cond.classLink_spec hown hlink e.platform hpl
  cases Option.some.inj (hc4.symm.trans hc5)
  obtain ⟨vm', X', st⟩ := X.thenCaughtThrough q (g := F0 m pc ls rest) rfl (Steps.refl _) (by rw [hT]; exact hcell) (by rw [hv]; rfl) (by obtain ⟨k9, h9, -⟩ := Vm.findClass_spec hcl; exact ⟨k9, h9⟩) pre x suf hsplit
    (fun z hz => by
      rcases hpass z hz with h | ⟨hz0, nm, hl1, hn1⟩
      · exact Or.inl h
      · obtain ⟨c6, hc6, hcl6⟩ := Cond.classLink_spec hown hl1 e.platform hpl
        obtain ⟨a8, b8, h1, h2, h3⟩ := hn1
        cases Option.some.inj (h1.symm.trans hcl)
        cases Option.some.inj (h2.symm.trans hc6)
        exact Or.inr ⟨hz0, _, hcl6, h3⟩) hx (Or.inr ⟨h0, c4, hcl5, hasg⟩)
  obtain ⟨t, a1, b1⟩ := kk (T.setVm vm') hT X'
  exact ⟨t, st.trans a1, b1⟩
end Rows
section Ends
variable {p : Program} {l : Launch} {e : Env} {R : Room} {s : State} {m : MethodId} {args : Array Value} {below : List Frame} {meth : Method} {c : Code} {H : Heap} {locs : List Loc} {cells slots : Nat} {Q : State → Prop}
variable {mc ms : Nat} {free : Addr → Prop} {A0 A1 : Nat → Prop} {H0 : Heap} {a : Array Value} {ls : Array Slot} {st0 rest : List Value}
variable {Qc : Array Value → State → Outcome → State → Prop} {XC : String → State → State → Prop}
/-- what a body that may throw owes at its end -/
def vx_MQ (below : List Frame) (Qc : Array Value → State → Outcome → State → Prop) (XC : String → State → State → Prop) (a : Array Value) (s : State) (mc ms : Nat) (free : Addr → Prop) : State → Prop := fun t =>
  ∃ o, t.status = .running ∧ Ended t below o ∧ vx_Q Qc XC mc ms free a s o t
theorem vx_ret {g : JFrame} {mc ms : Nat} (k : W p l e R s m args below meth c H locs cells slots (MQ below Qc args s mc ms free) g) : W p l e R s m args below meth c H locs cells slots (vx_MQ below Qc XC args s mc ms free) g := by
  intro T hT X
  obtain ⟨t, a1, o, b1, b2, b3, b4⟩ := k T hT X
  exact ⟨t, a1, o, b1, b2, Or.inl ⟨b3, b4⟩⟩
/-- not caught here: it goes on to the caller -/
theorem vx_widen {g : JFrame} {q : Addr} {k n : Nat} (h1 : cells ≤ k) (h2 : slots ≤ n) (kk : vx_W p l e R s m args below meth c H locs k n Q g q) : vx_W p l e R s m args below meth c H locs cells slots Q g q := fun T hT X => kk T hT (stand_widen X h1 h2)
theorem vx_out {pc : Nat} {E : String} {ce : Cell} {q : Addr} {mc ms : Nat} (hout : ∀ x ∈ c.exceptionTable.toList, covers x pc = false) (hlocks : meth.locks = false) (hcell : H[q]? = some ce) (hv : ce.vm = .none) (hcl : s.vm.findClass E = some ce.cls)
    (hx : ∀ t : State, t.heap = H → s.vm.Alike t.vm → XC E s t) (hf : ∀ z ∈ locs, free z.base) (hc : cells ≤ mc) (hs : slots ≤ ms) :
    vx_W p l e R s m args below meth c H locs cells slots (vx_MQ below Qc XC args s mc ms free) (F0 m pc ls rest) q := by
  intro T hT X
  obtain ⟨st1, hrun, hend, hW, hsm⟩ := X.leaveThrown q (g := F0 m pc ls rest) rfl rfl rfl hout hlocks
  have hcell9 : (T.setFrames (.throwing q :: below)).heap[q]? = some ce := by
    show T.heap[q]? = some ce
    rw [hT]; exact hcell
  exact ⟨_, st1, .threw q, hrun, hend, Or.inr ⟨q, rfl, E, ce, locs, hx _ hT hW.alike, hcell9, hv, hcl, hW, hsm.mono hc hs, hf⟩⟩
theorem vx_frame {U : State} {k n : Nat} (h : s.sameButNew ({ U with vm := s.vm } : State) locs k n) : s.heap.size ≤ U.heap.size ∧ ∀ q : Nat, q < s.heap.size → (∀ z ∈ locs, z.base ≠ q) → U.heap[q]? = s.heap[q]? := by
  obtain ⟨-, h2, -, -, -, h6⟩ := h
  refine ⟨h2, fun q hq hz => ?_⟩
  obtain ⟨c9, e1, e2, e3, e4⟩ := h6 q _ (Array.getElem?_eq_getElem hq)
  have hs : c9.slots = (s.heap[q]).slots := Array.ext_getElem? fun i => e4 i fun hm => hz _ hm rfl
  have h9 : c9 = s.heap[q] := by
    rw [hs] at e2
    exact e2
  have e5 : U.heap[q]? = some c9 := e1
  rw [e5, h9, Array.getElem?_eq_getElem hq]
/-- the words of a throw but the four that speak of the heap -/
def vx_no (w : Cond) : Bool := decide (w ≠ .isRef (.static Bundle.tN "UNASSIGNED_STACK" Bundle.steD)) && decide (w ≠ .isRef (.static Bundle.tN "SUPPRESSED_SENTINEL" Bundle.listD)) && decide (w ≠ .laysStatic Bundle.tN "UNASSIGNED_STACK" Bundle.steD) && decide (w ≠ .laysStatic Bundle.tN "SUPPRESSED_SENTINEL" Bundle.listD)
def vx_at0 (own : String) (ic : Nat) (X : String) (names : List String) : List Cond := (Bundle.ownAtoms0 own ic X names).filter vx_no
def vx_atS (own : String) (ic : Nat) (X : String) (names : List String) : List Cond := (Bundle.ownAtoms own ic X names).filter vx_no
/-- a word that the tables alone decide, or a good one -/
def vx_ot (w : Cond) : Bool := w.onTables || goodWord w
theorem vx_ot_at {args a' : Array Value} {s U : State} {w : Cond} (hW : s.WarmedH U.vm) (hvm : s.vm = U.vm) (hg : vx_ot w = true) (h : w.before args s = true) : w.before a' U = true := by
  simp only [vx_ot, Bool.or_eq_true] at hg
  rcases hg with hg | hg
  · exact va_tabs hg hvm h
  · exact word_at hW (good_of_word hg) h
/-- a list's words: the good ones out of the method's own list, the others by premises of their own -/
theorem vx_hat {args : Array Value} {s : State} {L B : List Cond} (h1 : ∀ w ∈ L.filter goodWord, w.before args s = true) (h2 : ∀ w ∈ L.filter (fun w => !goodWord w), w ∈ B) (h3 : ∀ w ∈ B, w.before args s = true) : ∀ w ∈ L, w.before args s = true := by
  intro w hw
  by_cases g : goodWord w = true
  · exact h1 w (List.mem_filter.mpr ⟨hw, g⟩)
  · refine h3 w (h2 w (List.mem_filter.mpr ⟨hw, ?_⟩))
    show (!goodWord w) = true
    cases hgw : goodWord w
    · rfl
    · exact absurd hgw g
theorem vx_c {args : Array Value} {s : State} {w : Cond} {B : List Cond} (h : w.before args s = true) (t : ∀ w ∈ B, w.before args s = true) : ∀ w' ∈ w :: B, w'.before args s = true := fun w' h' => (List.mem_cons.mp h').elim (fun e => by rw [e]; exact h) (t w')
theorem vx_n {args : Array Value} {s : State} : ∀ w ∈ ([] : List Cond), w.before args s = true := fun _ h => nomatch h
theorem vx_own {args : Array Value} {s : State} {L : List Cond} (h1 : ∀ w ∈ L.filter vx_no, w.before args s = true)
    (hU : (Cond.isRef (.static Bundle.tN "UNASSIGNED_STACK" Bundle.steD)).before args s = true) (hN : (Cond.isRef (.static Bundle.tN "SUPPRESSED_SENTINEL" Bundle.listD)).before args s = true)
    (lU : (Cond.laysStatic Bundle.tN "UNASSIGNED_STACK" Bundle.steD).before args s = true) (lN : (Cond.laysStatic Bundle.tN "SUPPRESSED_SENTINEL" Bundle.listD).before args s = true) : ∀ w ∈ L, w.before args s = true := by
  intro w hw
  by_cases e1 : w = .isRef (.static Bundle.tN "UNASSIGNED_STACK" Bundle.steD)
  · rw [e1]; exact hU
  · by_cases e2 : w = .isRef (.static Bundle.tN "SUPPRESSED_SENTINEL" Bundle.listD)
    · rw [e2]; exact hN
    · by_cases e3 : w = .laysStatic Bundle.tN "UNASSIGNED_STACK" Bundle.steD
      · rw [e3]; exact lU
      · by_cases e4 : w = .laysStatic Bundle.tN "SUPPRESSED_SENTINEL" Bundle.listD
        · rw [e4]; exact lN
        · exact h1 w (List.mem_filter.mpr ⟨hw, by unfold vx_no; rw [decide_eq_true e1, decide_eq_true e2, decide_eq_true e3, decide_eq_true e4]; rfl⟩)
/-- where a static field lies, its class's statics cell in H -/
def vx_L (C n d : String) (A : Nat → Prop) (U : State) (H : Heap) : Prop := ∃ (c : ClassId) (k : Class) (i : Nat) (f : Field) (a : Nat) (cell : Cell), U.vm.findClass C = some c ∧ U.fieldFound? C n d = some (c, k, i, f) ∧ f.isStatic = true ∧ k.statics = some a ∧ H[a]? = some cell ∧ cell.vm.isStatics = true ∧ cell.cls = c ∧ f.slot < cell.slots.size ∧ k.staticTypes[f.slot]? = some f.type ∧ ¬ A a
theorem vx_L.moved {C n d : String} {A : Nat → Prop} {u U : State} {H : Heap} (hvm : u.vm.Alike U.vm) (h : vx_L C n d A u H) : vx_L C n d A U H := by
  obtain ⟨c, k, i, f, a, cell, h1, h2, h3, h4, h5, h6, h7, h8, h9, h10⟩ := h
  obtain ⟨k', hi', he⟩ := State.fieldFound?_setVm hvm h2
  exact ⟨c, k', i, f, a, cell, by rw [hvm.findClass]; exact h1, hi', h3, by rw [he]; exact h4, h5, h6, h7, h8, by rw [he]; exact h9, h10⟩
theorem vx_L.kept {C n d : String} {A : Nat → Prop} {U : State} {H H1 : Heap} (h : vx_L C n d A U H) (hq : ∀ a : Nat, a < H.size → ¬ A a → H1[a]? = H[a]?) : vx_L C n d A U H1 := by
  obtain ⟨c, k, i, f, a, cell, h1, h2, h3, h4, h5, h6, h7, h8, h9, h10⟩ := h
  exact ⟨c, k, i, f, a, cell, h1, h2, h3, h4, by rw [hq a (Array.getElem?_eq_some_iff.mp h5).1 h10]; exact h5, h6, h7, h8, h9, h10⟩
theorem vx_L.narrow {C n d : String} {A B : Nat → Prop} {U : State} {H : Heap} (h : vx_L C n d A U H) (hAB : ∀ q, B q → A q) : vx_L C n d B U H := by
  obtain ⟨c, k, i, f, a, cell, h1, h2, h3, h4, h5, h6, h7, h8, h9, h10⟩ := h
  exact ⟨c, k, i, f, a, cell, h1, h2, h3, h4, h5, h6, h7, h8, h9, fun z => h10 (hAB _ z)⟩
theorem vx_L.word {C n d : String} {A : Nat → Prop} {s : State} {args : Array Value} (h : vx_L C n d A s s.heap) : (Cond.laysStatic C n d).before args s = true := by
  obtain ⟨c, k, i, f, a, cell, h1, h2, h3, h4, h5, h6, h7, h8, h9, -⟩ := h
  show (Cond.laysStatic C n d).holds args s none s [] = true
  exact Cond.laysStatic_of h1 h2 h3 h4 h5 h6 h7 h8 h9
/-- .. and what it holds: null or some reference -/
def vx_Zq (C n d : String) (A : Nat → Prop) (U : State) (H : Heap) : Prop := va_Zq C n d A U H ∧ vx_L C n d A U H
theorem vx_Zq.moved {C n d : String} {A : Nat → Prop} {u U : State} {H : Heap} (hvm : u.vm.Alike U.vm) (h : vx_Zq C n d A u H) : vx_Zq C n d A U H := ⟨va_Zq.moved hvm h.1, vx_L.moved hvm h.2⟩
theorem vx_Zq.kept {C n d : String} {A : Nat → Prop} {U : State} {H H1 : Heap} (h : vx_Zq C n d A U H) (hq : ∀ a : Nat, a < H.size → ¬ A a → H1[a]? = H[a]?) : vx_Zq C n d A U H1 := ⟨va_Zq.kept h.1 hq, vx_L.kept h.2 hq⟩
theorem vx_Zq.narrow {C n d : String} {A B : Nat → Prop} {U : State} {H : Heap} (h : vx_Zq C n d A U H) (hAB : ∀ q, B q → A q) : vx_Zq C n d B U H := ⟨va_Zq.narrow h.1 hAB, vx_L.narrow h.2 hAB⟩
theorem vx_Zqof {args : Array Value} {s : State} {C n d : String} {A : Nat → Prop} (hl : (Cond.laysStatic C n d).before args s = true) (hini : (Cond.initialized C).before args s = true) (h : (Cond.isRef (.static C n d)).before args s = true) (hA : ∀ a : Nat, a < s.heap.size → ¬ A a) : vx_Zq C n d A s s.heap := by
  refine ⟨va_Zqof hl hini h hA, ?_⟩
  obtain ⟨c, k, i, f, a, cell, h1, h2, h3, h4, h5, h6, h7, h8, h9⟩ := Cond.laysStatic_spec hl
  exact ⟨c, k, i, f, a, cell, h1, h2, h3, h4, h5, h6, h7, h8, h9, hA a (Array.getElem?_eq_some_iff.mp h5).1⟩
theorem vx_isRef {C n d : String} {v : Value} {A : Nat → Prop} {s : State} {args : Array Value} (h : va_Z C n d v A s s.heap) (hv : v.isRef = true) : (Cond.isRef (.static C n d)).before args s = true := by
  obtain ⟨cf, kf, fi, f, a, cell, h1, h2, h3, h4, h5, h6, h7, -⟩ := h
  have he : (Term.static C n d).eval args s none [] s = some v := by
    simp [Term.eval, State.fieldNamed?, h1, h2, h4, h5, h6, h7]
  simp only [Cond.before, Cond.holds, Cond.value, he]
  cases v <;> simp_all [Value.isRef]
theorem vx_isRefq {C n d : String} {A : Nat → Prop} {s : State} {args : Array Value} (h : va_Zq C n d A s s.heap) : (Cond.isRef (.static C n d)).before args s = true := by
  rcases h with h | ⟨t, h⟩
  · exact vx_isRef h rfl
  · exact vx_isRef h rfl
/-- the same frame, seen from here: as if the method were called anew in this heap -/
theorem vx_rebase {T : State} (X : Stand p l e R s m args below meth c T locs cells slots) {R' : Room} (hf : R'.frames ≤ R.frames) (hl : R'.locals ≤ R.locals) (hc : cells + R'.cells ≤ R.cells) (hs : slots + R'.slots ≤ R.slots) :
    Stand p l e R' ((T.setVm s.vm).setFrames (.invoking m args :: below)) m args below meth c T [] 0 0 := by
  have htop : (T.setVm s.vm).topJava?.isSome := X.here.top
  have hF : ((T.setVm s.vm).setFrames (.invoking m args :: below)).frames = .invoking m args :: below := State.frames_setFrames _ (State.cur_lt_of_top htop)
  obtain ⟨g₀, hg0⟩ := Option.isSome_iff_exists.mp htop
  obtain ⟨r, hr⟩ := State.topJava?_eq_some.mp hg0
  have hl9 : e.platform.stackLimits (T.setVm s.vm).me = e.platform.stackLimits s.me := X.limits
  have hb9 : (T.setVm s.vm).me.stackBytes = s.me.stackBytes := X.bytes
  refine ⟨X.admits, X.cas, X.clock, hF, ?_, X.hears, X.method, X.code, X.here, X.tail, X.warmed, ?_, ?_, ?_⟩
  · have h := X.room
    have hU : ((T.setVm s.vm).setFrames (.invoking m args :: below)).localsInUse = s.localsInUse := by
      rw [State.localsInUse_invoking hF (meth := meth) (c := c) X.method X.code, State.localsInUse_invoking X.frames X.method X.code]
    simp only [State.hasRoom, Bool.and_eq_true, decide_eq_true_eq] at h ⊢
    obtain ⟨⟨⟨⟨h1, h2, h3, h4, h5, h6⟩, h7⟩, h8⟩, h9⟩ := h
    rw [X.frames, List.length_cons] at h2 h3
    have q1 := X.heapSize
    have q2 := X.used
    simp only [hF, hU, List.length_cons, State.stackLimits_setFrames, State.stackBytes_setFrames, hl9, hb9]
    refine ⟨⟨⟨⟨by omega, by omega, by omega, by omega, by omega, h6⟩, ?_⟩, ?_⟩, X.book⟩
    · show T.heap.size + R'.cells ≤ e.platform.maxCells
      omega
    · show T.slotsUsed + R'.slots ≤ e.platform.maxSlots
      omega
  · rw [State.stackLimits_setFrames]; rfl
  · rw [State.stackBytes_setFrames]; rfl
  · refine ⟨?_, Nat.le_refl _, Nat.le_refl _, ?_, ?_, fun a c9 h9 => ⟨c9, h9, rfl, rfl, fun _ _ => rfl⟩⟩
    · obtain ⟨t, ht, -⟩ := State.frames_cons hr
      show T.setVm s.vm = { ((T.setVm s.vm).setFrames (.invoking m args :: below)).setFrames (T.setVm s.vm).frames with heap := T.heap, slotsUsed := T.slotsUsed }
      rw [State.setFrames_setFrames, State.setFrames_self ht]
      rfl
    · show T.slotsUsed = T.slotsUsed + ((T.heap.toList.drop T.heap.size).map (·.slots.size)).sum
      rw [List.drop_eq_nil_of_le (Nat.le_of_eq Array.length_toList)]
      rfl
    · show ((T.heap.toList.drop T.heap.size).map (·.slots.size)).sum ≤ 0
      rw [List.drop_eq_nil_of_le (Nat.le_of_eq Array.length_toList)]
      exact Nat.le_refl _
/-- 'throw new E()': new; dup; invokespecial; athrow -/
theorem vx_throw0 {cc : ByteArray} {pc : Nat} (hexec : p.tables.exec = Jvm.exec) (hb : c.code = cc) (hl : l.stackTraces = false) {own cls : String} {names : List String} {ik ic mc ms : Nat} {A : Nat → Prop}
    (hown : s.vm.findClass own = some m.cls) (hcls : Bundle.fit cls = true) (hnames : ∀ n ∈ names, Bundle.fit n = true)
    (hk : (Cond.classLink own ik cls).before args s = true) (hini : (Cond.initialized cls).before args s = true) (hat : ∀ w ∈ vx_at0 own ic cls names, w.before args s = true)
    (hgood : ∀ w ∈ Cond.classLink own ik cls :: Cond.initialized cls :: vx_at0 own ic cls names, vx_ot w = true)
    (hU : vx_Zq Bundle.tN "UNASSIGNED_STACK" Bundle.steD A s s.heap) (hN : vx_Zq Bundle.tN "SUPPRESSED_SENTINEL" Bundle.listD A s s.heap) (hS : va_S A s.heap H locs) (hsize : ls.size = c.maxLocals)
    (d0 : decode cc pc = .ok (.new ik, 3)) (d3 : decode cc (pc + 3) = .ok (.dup, 1)) (d4 : decode cc (pc + 4) = .ok (.invokespecial ic, 3)) (d7 : decode cc (pc + 7) = .ok (.athrow, 1))
    (hout : ∀ x ∈ c.exceptionTable.toList, covers x (pc + 7) = false)
    (hRframes : names.length + 3 < R.frames) (hRlocals : (rest.map fun v => v.category).sum + (13 * (names.length + 1) + 42) ≤ R.locals) (hRcells : cells + 1 ≤ R.cells) (hRslots : slots + 6 ≤ R.slots) (hlocks : meth.locks = false)
    (hx : ∀ t : State, s.vm.Alike t.vm → H.size ≤ t.heap.size → (∀ q : Nat, q < H.size → t.heap[q]? = H[q]?) → XC cls s t)
    (hf : ∀ z ∈ locs, free z.base) (hc : cells + 1 ≤ mc) (hs : slots + 6 ≤ ms) :
    W p l e R s m args below meth c H locs cells slots (vx_MQ below Qc XC args s mc ms free) (F0 m pc ls rest) := by
  intro T hT X
  have htr : e.platform.stackTraces = false := (show e.platform.stackTraces = l.stackTraces by rw [X.admits.platform]).trans hl
  have Y := vx_rebase X (R' := { frames := R.frames, locals := R.locals, cells := 1, slots := 6 }) (Nat.le_refl _) (Nat.le_refl _) hRcells hRslots
  obtain ⟨s', hA⟩ : ∃ z, z = (T.setVm s.vm).setFrames (.invoking m args :: below) := ⟨_, rfl⟩
  rw [← hA] at Y
  have hvm : s'.vm = s.vm := by rw [hA]; rfl
  have hhp : s'.heap = H := by rw [hA]; exact hT
  have hW0 : s.WarmedH s'.vm := by rw [hvm]; exact State.WarmedH.refl s
  have hat' : ∀ w ∈ vx_at0 own ic cls names, w.before args s' = true := fun w hw => vx_ot_at hW0 hvm.symm (hgood w (List.mem_cons_of_mem _ (List.mem_cons_of_mem _ hw))) (hat w hw)
  have hk' : (Cond.classLink own ik cls).before args s' = true := vx_ot_at hW0 hvm.symm (hgood _ List.mem_cons_self) hk
  have hini' : (Cond.initialized cls).before args s' = true := vx_ot_at hW0 hvm.symm (hgood _ (List.mem_cons_of_mem _ List.mem_cons_self)) hini
  have hU' : vx_Zq Bundle.tN "UNASSIGNED_STACK" Bundle.steD A s' s'.heap := by rw [hhp]; exact vx_Zq.moved hW0.alike (hU.kept hS.2.1)
  have hN' : vx_Zq Bundle.tN "SUPPRESSED_SENTINEL" Bundle.listD A s' s'.heap := by rw [hhp]; exact vx_Zq.moved hW0.alike (hN.kept hS.2.1)
  have h : ∀ w ∈ Bundle.ownAtoms0 own ic cls names, w.before args s' = true := vx_own hat' (vx_isRefq hU'.1) (vx_isRefq hN'.1) hU'.2.word hN'.2.word
  have hown' : s'.vm.findClass own = some m.cls := by rw [hvm]; exact hown
  have hins : (Cond.instantiable cls 6).before args s' = true := h _ (by simp [Bundle.ownAtoms0])
  obtain ⟨vm₁, cX, kX, hfX, hkX, -, -, X₁, st1⟩ := Y.newCold hexec (own := own) (C := cls) (index := ik) (n := 6) hown' hk' hins hini'
    (g := F0 m pc ls rest) rfl (by rw [hb]; exact d0) (Nat.le_refl _) (Nat.le_refl _)
  generalize hT1 : (T.setVm vm₁).pushCell { cls := cX, slots := kX.instanceTypes.map defaultValue, vm := .none } = T1 at X₁ st1
  have hcat : (Value.ref T.heap.size).category = 1 := rfl
  have hcellA : T1.heap[T.heap.size]? = some (freshCell cX kX) := by rw [← hT1]; exact State.heap_pushCell_size _ _
  have d3' : decode c.code (pc + 3) = .ok (.dup, 1) := by rw [hb]; exact d3
  obtain ⟨U, hsteps, hrun, hend, hW, hsame, ce, hce, hO⟩ := X₁.ctorThrow0 hexec htr (own := own) (cls := cls) (names := names) (ic := ic) hown' hcls hnames h (fun x hx => nomatch hx) hfX hkX hcellA (by rw [hhp, hT]; exact Nat.le_refl _)
    (g := { method := m, pc := pc + 4, locals := ls, stack := .ref T.heap.size :: .ref T.heap.size :: rest, locked := none }) rfl hsize rfl rfl (rest := rest) rfl
    (by rw [hb]; exact d4) (by rw [hb]; exact d7) hout hRframes (by simp only [List.map_cons, List.sum_cons, hcat]; omega) hlocks
  obtain ⟨f1, f2⟩ := vx_frame hsame
  rw [hhp] at f1 f2
  have hWs : s.WarmedH U.vm := State.WarmedH.trans hW0 hW
  have hcl : s.vm.findClass cls = some ce.cls := by
    have h9 := hO.cls
    rw [hvm] at h9
    exact h9
  have hall : s.sameButNew ({ U with vm := s.vm } : State) locs mc ms := by
    subst hA
    obtain ⟨e1, e2⟩ := hsame
    rw [State.setFrames_setFrames] at e1
    have h2 : (T.setVm s.vm).sameButNew ({ U with vm := s.vm } : State) [] (0 + 1) (0 + 6) := ⟨e1, e2⟩
    have h3 := X.same.trans h2
    rw [List.append_nil] at h3
    exact h3.mono hc hs
  refine ⟨U, ?_, .threw T.heap.size, hrun, hend, Or.inr ⟨T.heap.size, rfl, cls, ce, locs, hx U hWs.alike f1 (fun q hq => f2 q hq (fun z hz => nomatch hz)), hce, hO.vm, hcl, hWs, hall, hf⟩⟩
  refine st1 _ ?_
  show Steps p.tables e below (T1.setTop { method := m, pc := pc + 3, locals := ls, stack := .ref T.heap.size :: rest, locked := none }) _
  jvm_step X₁.here [X₁.here.top, hexec, d3', Value.category]
  exact hsteps
/-- 'throw new E("text")': new; dup; ldc; invokespecial; athrow -/
theorem vx_throwS {cc : ByteArray} {pc : Nat} (hexec : p.tables.exec = Jvm.exec) (hb : c.code = cc) (hl : l.stackTraces = false) {own cls text : String} {names : List String} {ik is ic mc ms sa : Nat} {A : Nat → Prop}
    (hown : s.vm.findClass own = some m.cls) (hcls : Bundle.fit cls = true) (hnames : ∀ n ∈ names, Bundle.fit n = true)
    (hk : (Cond.classLink own ik cls).before args s = true) (hini : (Cond.initialized cls).before args s = true) (hstr : vk_R own is text sa s) (hat : ∀ w ∈ vx_atS own ic cls names, w.before args s = true)
    (hgood : ∀ w ∈ Cond.classLink own ik cls :: Cond.initialized cls :: vx_atS own ic cls names, vx_ot w = true)
    (hU : vx_Zq Bundle.tN "UNASSIGNED_STACK" Bundle.steD A s s.heap) (hN : vx_Zq Bundle.tN "SUPPRESSED_SENTINEL" Bundle.listD A s s.heap) (hS : va_S A s.heap H locs) (hsize : ls.size = c.maxLocals)
    (d0 : decode cc pc = .ok (.new ik, 3)) (d3 : decode cc (pc + 3) = .ok (.dup, 1)) (d4 : decode cc (pc + 4) = .ok (.ldc is, 2)) (d6 : decode cc (pc + 6) = .ok (.invokespecial ic, 3)) (d9 : decode cc (pc + 9) = .ok (.athrow, 1))
    (hout : ∀ x ∈ c.exceptionTable.toList, covers x (pc + 9) = false)
    (hRframes : names.length + 3 < R.frames) (hRlocals : (rest.map fun v => v.category).sum + (13 * (names.length + 1) + 43) ≤ R.locals) (hRcells : cells + 1 ≤ R.cells) (hRslots : slots + 6 ≤ R.slots) (hlocks : meth.locks = false)
    (hx : ∀ t : State, s.vm.Alike t.vm → H.size ≤ t.heap.size → (∀ q : Nat, q < H.size → t.heap[q]? = H[q]?) → XC cls s t)
    (hf : ∀ z ∈ locs, free z.base) (hc : cells + 1 ≤ mc) (hs : slots + 6 ≤ ms) :
    W p l e R s m args below meth c H locs cells slots (vx_MQ below Qc XC args s mc ms free) (F0 m pc ls rest) := by
  intro T hT X
  have htr : e.platform.stackTraces = false := (show e.platform.stackTraces = l.stackTraces by rw [X.admits.platform]).trans hl
  have Y := vx_rebase X (R' := { frames := R.frames, locals := R.locals, cells := 1, slots := 6 }) (Nat.le_refl _) (Nat.le_refl _) hRcells hRslots
  obtain ⟨s', hA⟩ : ∃ z, z = (T.setVm s.vm).setFrames (.invoking m args :: below) := ⟨_, rfl⟩
  rw [← hA] at Y
  have hvm : s'.vm = s.vm := by rw [hA]; rfl
  have hhp : s'.heap = H := by rw [hA]; exact hT
  have hW0 : s.WarmedH s'.vm := by rw [hvm]; exact State.WarmedH.refl s
  have hat' : ∀ w ∈ vx_atS own ic cls names, w.before args s' = true := fun w hw => vx_ot_at hW0 hvm.symm (hgood w (List.mem_cons_of_mem _ (List.mem_cons_of_mem _ hw))) (hat w hw)
  have hk' : (Cond.classLink own ik cls).before args s' = true := vx_ot_at hW0 hvm.symm (hgood _ List.mem_cons_self) hk
  have hini' : (Cond.initialized cls).before args s' = true := vx_ot_at hW0 hvm.symm (hgood _ (List.mem_cons_of_mem _ List.mem_cons_self)) hini
  have hU' : vx_Zq Bundle.tN "UNASSIGNED_STACK" Bundle.steD A s' s'.heap := by rw [hhp]; exact vx_Zq.moved hW0.alike (hU.kept hS.2.1)
  have hN' : vx_Zq Bundle.tN "SUPPRESSED_SENTINEL" Bundle.listD A s' s'.heap := by rw [hhp]; exact vx_Zq.moved hW0.alike (hN.kept hS.2.1)
  have h : ∀ w ∈ Bundle.ownAtoms own ic cls names, w.before args s' = true := vx_own hat' (vx_isRefq hU'.1) (vx_isRefq hN'.1) hU'.2.word hN'.2.word
  have hown' : s'.vm.findClass own = some m.cls := by rw [hvm]; exact hown
  have hins : (Cond.instantiable cls 6).before args s' = true := h _ (by simp [Bundle.ownAtoms])
  obtain ⟨vm₁, cX, kX, hfX, hkX, -, -, X₁, st1⟩ := Y.newCold hexec (own := own) (C := cls) (index := ik) (n := 6) hown' hk' hins hini'
    (g := F0 m pc ls rest) rfl (by rw [hb]; exact d0) (Nat.le_refl _) (Nat.le_refl _)
  generalize hT1 : (T.setVm vm₁).pushCell { cls := cX, slots := kX.instanceTypes.map defaultValue, vm := .none } = T1 at X₁ st1
  have hcat : (Value.ref T.heap.size).category = 1 := rfl
  have hcellA : T1.heap[T.heap.size]? = some (freshCell cX kX) := by rw [← hT1]; exact State.heap_pushCell_size _ _
  have d3' : decode c.code (pc + 3) = .ok (.dup, 1) := by rw [hb]; exact d3
  have d4' : decode c.code (pc + 4) = .ok (.ldc is, 2) := by rw [hb]; exact d4
  have hstr' : vk_R own is text sa s' := vk_R.warm hW0 hstr
  obtain ⟨U, hsteps, hrun, hend, hW, hsame, ce, hce, hO⟩ := X₁.ctorThrowS hexec htr (own := own) (cls := cls) (names := names) (ic := ic) hown' hcls hnames h (fun x hx => nomatch hx) hfX hkX hcellA (by rw [hhp, hT]; exact Nat.le_refl _) (msg := .ref sa) rfl
    (g := { method := m, pc := pc + 6, locals := ls, stack := .ref sa :: .ref T.heap.size :: .ref T.heap.size :: rest, locked := none }) rfl hsize rfl rfl (rest := rest) rfl
    (by rw [hb]; exact d6) (by rw [hb]; exact d9) hout hRframes (by simp only [List.map_cons, List.sum_cons, hcat]; omega) hlocks
  obtain ⟨f1, f2⟩ := vx_frame hsame
  rw [hhp] at f1 f2
  have hWs : s.WarmedH U.vm := State.WarmedH.trans hW0 hW
  have hcl : s.vm.findClass cls = some ce.cls := by
    have h9 := hO.cls
    rw [hvm] at h9
    exact h9
  have hall : s.sameButNew ({ U with vm := s.vm } : State) locs mc ms := by
    subst hA
    obtain ⟨e1, e2⟩ := hsame
    rw [State.setFrames_setFrames] at e1
    have h2 : (T.setVm s.vm).sameButNew ({ U with vm := s.vm } : State) [] (0 + 1) (0 + 6) := ⟨e1, e2⟩
    have h3 := X.same.trans h2
    rw [List.append_nil] at h3
    exact h3.mono hc hs
  refine ⟨U, ?_, .threw T.heap.size, hrun, hend, Or.inr ⟨T.heap.size, rfl, cls, ce, locs, hx U hWs.alike f1 (fun q hq => f2 q hq (fun z hz => nomatch hz)), hce, hO.vm, hcl, hWs, hall, hf⟩⟩
  refine st1 _ ?_
  show Steps p.tables e below (T1.setTop { method := m, pc := pc + 3, locals := ls, stack := .ref T.heap.size :: rest, locked := none }) _
  jvm_step X₁.here [X₁.here.top, hexec, d3', Value.category]
  exact X₁.ldcString hexec (own := own) (text := text) (index := is) (a := sa) hown' hstr'.1 hstr'.2
    (g := { method := m, pc := pc + 4, locals := ls, stack := .ref T.heap.size :: .ref T.heap.size :: rest, locked := none }) rfl d4' _ hsteps
/-- 'throw new E("text")', the text by a wide index -/
theorem vx_throwSW {cc : ByteArray} {pc : Nat} (hexec : p.tables.exec = Jvm.exec) (hb : c.code = cc) (hl : l.stackTraces = false) {own cls text : String} {names : List String} {ik is ic mc ms sa : Nat} {A : Nat → Prop}
    (hown : s.vm.findClass own = some m.cls) (hcls : Bundle.fit cls = true) (hnames : ∀ n ∈ names, Bundle.fit n = true)
    (hk : (Cond.classLink own ik cls).before args s = true) (hini : (Cond.initialized cls).before args s = true) (hstr : vk_R own is text sa s) (hat : ∀ w ∈ vx_atS own ic cls names, w.before args s = true)
    (hgood : ∀ w ∈ Cond.classLink own ik cls :: Cond.initialized cls :: vx_atS own ic cls names, vx_ot w = true)
    (hU : vx_Zq Bundle.tN "UNASSIGNED_STACK" Bundle.steD A s s.heap) (hN : vx_Zq Bundle.tN "SUPPRESSED_SENTINEL" Bundle.listD A s s.heap) (hS : va_S A s.heap H locs) (hsize : ls.size = c.maxLocals)
    (d0 : decode cc pc = .ok (.new ik, 3)) (d3 : decode cc (pc + 3) = .ok (.dup, 1)) (d4 : decode cc (pc + 4) = .ok (.ldc_w is, 3)) (d7 : decode cc (pc + 7) = .ok (.invokespecial ic, 3)) (d10 : decode cc (pc + 10) = .ok (.athrow, 1))
    (hout : ∀ x ∈ c.exceptionTable.toList, covers x (pc + 10) = false)
    (hRframes : names.length + 3 < R.frames) (hRlocals : (rest.map fun v => v.category).sum + (13 * (names.length + 1) + 43) ≤ R.locals) (hRcells : cells + 1 ≤ R.cells) (hRslots : slots + 6 ≤ R.slots) (hlocks : meth.locks = false)
    (hx : ∀ t : State, s.vm.Alike t.vm → H.size ≤ t.heap.size → (∀ q : Nat, q < H.size → t.heap[q]? = H[q]?) → XC cls s t)
    (hf : ∀ z ∈ locs, free z.base) (hc : cells + 1 ≤ mc) (hs : slots + 6 ≤ ms) :
    W p l e R s m args below meth c H locs cells slots (vx_MQ below Qc XC args s mc ms free) (F0 m pc ls rest) := by
  intro T hT X
  have htr : e.platform.stackTraces = false := (show e.platform.stackTraces = l.stackTraces by rw [X.admits.platform]).trans hl
  have Y := vx_rebase X (R' := { frames := R.frames, locals := R.locals, cells := 1, slots := 6 }) (Nat.le_refl _) (Nat.le_refl _) hRcells hRslots
  obtain ⟨s', hA⟩ : ∃ z, z = (T.setVm s.vm).setFrames (.invoking m args :: below) := ⟨_, rfl⟩
  rw [← hA] at Y
  have hvm : s'.vm = s.vm := by rw [hA]; rfl
  have hhp : s'.heap = H := by rw [hA]; exact hT
  have hW0 : s.WarmedH s'.vm := by rw [hvm]; exact State.WarmedH.refl s
  have hat' : ∀ w ∈ vx_atS own ic cls names, w.before args s' = true := fun w hw => vx_ot_at hW0 hvm.symm (hgood w (List.mem_cons_of_mem _ (List.mem_cons_of_mem _ hw))) (hat w hw)
  have hk' : (Cond.classLink own ik cls).before args s' = true := vx_ot_at hW0 hvm.symm (hgood _ List.mem_cons_self) hk
  have hini' : (Cond.initialized cls).before args s' = true := vx_ot_at hW0 hvm.symm (hgood _ (List.mem_cons_of_mem _ List.mem_cons_self)) hini
  have hU' : vx_Zq Bundle.tN "UNASSIGNED_STACK" Bundle.steD A s' s'.heap := by rw [hhp]; exact vx_Zq.moved hW0.alike (hU.kept hS.2.1)
  have hN' : vx_Zq Bundle.tN "SUPPRESSED_SENTINEL" Bundle.listD A s' s'.heap := by rw [hhp]; exact vx_Zq.moved hW0.alike (hN.kept hS.2.1)
  have h : ∀ w ∈ Bundle.ownAtoms own ic cls names, w.before args s' = true := vx_own hat' (vx_isRefq hU'.1) (vx_isRefq hN'.1) hU'.2.word hN'.2.word
  have hown' : s'.vm.findClass own = some m.cls := by rw [hvm]; exact hown
  have hins : (Cond.instantiable cls 6).before args s' = true := h _ (by simp [Bundle.ownAtoms])
  obtain ⟨vm₁, cX, kX, hfX, hkX, -, -, X₁, st1⟩ := Y.newCold hexec (own := own) (C := cls) (index := ik) (n := 6) hown' hk' hins hini'
    (g := F0 m pc ls rest) rfl (by rw [hb]; exact d0) (Nat.le_refl _) (Nat.le_refl _)
  generalize hT1 : (T.setVm vm₁).pushCell { cls := cX, slots := kX.instanceTypes.map defaultValue, vm := .none } = T1 at X₁ st1
  have hcat : (Value.ref T.heap.size).category = 1 := rfl
  have hcellA : T1.heap[T.heap.size]? = some (freshCell cX kX) := by rw [← hT1]; exact State.heap_pushCell_size _ _
  have d3' : decode c.code (pc + 3) = .ok (.dup, 1) := by rw [hb]; exact d3
  have d4' : decode c.code (pc + 4) = .ok (.ldc_w is, 3) := by rw [hb]; exact d4
  have hstr' : vk_R own is text sa s' := vk_R.warm hW0 hstr
  obtain ⟨U, hsteps, hrun, hend, hW, hsame, ce, hce, hO⟩ := X₁.ctorThrowS hexec htr (own := own) (cls := cls) (names := names) (ic := ic) hown' hcls hnames h (fun x hx => nomatch hx) hfX hkX hcellA (by rw [hhp, hT]; exact Nat.le_refl _) (msg := .ref sa) rfl
    (g := { method := m, pc := pc + 7, locals := ls, stack := .ref sa :: .ref T.heap.size :: .ref T.heap.size :: rest, locked := none }) rfl hsize rfl rfl (rest := rest) rfl
    (by rw [hb]; exact d7) (by rw [hb]; exact d10) hout hRframes (by simp only [List.map_cons, List.sum_cons, hcat]; omega) hlocks
  obtain ⟨f1, f2⟩ := vx_frame hsame
  rw [hhp] at f1 f2
  have hWs : s.WarmedH U.vm := State.WarmedH.trans hW0 hW
  have hcl : s.vm.findClass cls = some ce.cls := by
    have h9 := hO.cls
    rw [hvm] at h9
    exact h9
  have hall : s.sameButNew ({ U with vm := s.vm } : State) locs mc ms := by
    subst hA
    obtain ⟨e1, e2⟩ := hsame
    rw [State.setFrames_setFrames] at e1
    have h2 : (T.setVm s.vm).sameButNew ({ U with vm := s.vm } : State) [] (0 + 1) (0 + 6) := ⟨e1, e2⟩
    have h3 := X.same.trans h2
    rw [List.append_nil] at h3
    exact h3.mono hc hs
  refine ⟨U, ?_, .threw T.heap.size, hrun, hend, Or.inr ⟨T.heap.size, rfl, cls, ce, locs, hx U hWs.alike f1 (fun q hq => f2 q hq (fun z hz => nomatch hz)), hce, hO.vm, hcl, hWs, hall, hf⟩⟩
  refine st1 _ ?_
  show Steps p.tables e below (T1.setTop { method := m, pc := pc + 3, locals := ls, stack := .ref T.heap.size :: rest, locked := none }) _
  jvm_step X₁.here [X₁.here.top, hexec, d3', Value.category]
  exact X₁.ldcStringW hexec (own := own) (text := text) (index := is) (a := sa) hown' hstr'.1 hstr'.2
    (g := { method := m, pc := pc + 4, locals := ls, stack := .ref T.heap.size :: .ref T.heap.size :: rest, locked := none }) rfl d4' _ hsteps
end Ends
section Bodies
variable {l : Launch}
theorem vx_ofW {y : MethodName} {ws ws' : List Cond} {rm : Room} {Pc : Array Value → State → Prop} {Qc : Array Value → State → Outcome → State → Prop} {XC : String → State → State → Prop} {mc ms : Nat} {free : Addr → Prop} {cc : ByteArray} {maxL : Nat} {ret : Option FieldType}
    (hy : plainName y.cls = true) (hw : ws = Cond.code y cc maxL ret :: ws')
    (body : ∀ p e s m args below meth c s₁, BodyLoose p l y (headSpec ws rm) cc maxL ret e s m args below meth c s₁ → c.maxLocals = maxL → (∀ x ∈ c.exceptionTable.toList, False) → Pc args s →
      W p l e (headSpec ws rm).room s m args below meth c s.heap [] 0 0 (vx_MQ below Qc XC args s mc ms free) (entryFrame m args maxL)) : vx_Met l y ws rm Pc Qc XC mc ms free := by
  refine MetFree.of_bodyS (code := cc) (maxLocals := maxL) (ret := ret) hy ?_ ?_
  · intro args s m h hn
    obtain ⟨meth, c, h1, h2, h3, h4, h5, h6, -, -⟩ := Cond.code_spec hn (atoms_spec (ws := ws) h _ (by rw [hw]; exact List.mem_cons_self))
    exact ⟨meth, c, h1, h2, h3, h4, h5, h6⟩
  · intro p e s m args below meth c s₁ B hml hP _
    have hh0 : s₁.heap = s.heap := by rw [B.state]; rfl
    have ht : ∀ x ∈ c.exceptionTable.toList, False := by
      obtain ⟨meth9, c9, h1, h2, -, -, -, -, h7, -⟩ := Cond.code_spec B.named (atoms_spec (ws := ws) B.pre _ (by rw [hw]; exact List.mem_cons_self))
      cases Option.some.inj (h1.symm.trans B.method)
      cases Option.some.inj (h2.symm.trans (Stand.of_body B).code)
      intro x hx
      rw [Array.isEmpty_iff.mp h7] at hx
      cases hx
    obtain ⟨t, a1, o, b1, b2, b3⟩ := body p e s m args below meth c s₁ B hml ht hP s₁ hh0 (Stand.of_body B)
    exact ⟨t, o, a1, b1, b2, b3⟩
/-- the table of a body with handlers -/
theorem vx_table {p : Program} {x y : MethodName} {S : Spec} {cc bytes : ByteArray} {maxL maxL' : Nat} {ret ret' : Option FieldType} {e : Env} {s s₁ : State} {m : MethodId} {args : Array Value} {below : List Frame} {meth : Method} {c : Code} {hh : List (Nat × Nat × Nat × Nat)}
    (B : BodyLoose p l y S cc maxL ret e s m args below meth c s₁) (h : (Cond.codeWith y bytes maxL' ret' hh).before args s = true) : c.exceptionTable.toList = tableOf hh := by
  obtain ⟨m9, meth9, c9, hn9, h1, h2, -, -, h6, -⟩ := Cond.codeWith_spec h
  cases Option.some.inj (hn9.symm.trans B.named)
  cases Option.some.inj (h1.symm.trans B.method)
  cases Option.some.inj (h2.symm.trans (Stand.of_body B).code)
  rw [← h6, table_eq]
end Bodies
end VXA
/-! ===== END ===== -/
/-! ===== BEGIN a static call of a method with an exception table ===== -/
section VXS
variable {p : Program} {l : Launch} {e : Env} {R : Room} {s : State} {m : MethodId} {args : Array Value} {below : List Frame} {meth : Method} {c : Code} {T : State} {H : Heap} {locs : List Loc} {cells slots : Nat}
abbrev vx_CSW (R : Room) (s : State) (args : Array Value) (own : String) (index : Nat) (y : MethodName) (bytes : ByteArray) (maxL : Nat) (ret : Option FieldType) (hh : List (Nat × Nat × Nat × Nat)) (ws : List Cond) (rm : Room) (mc ms n : Nat) : Prop :=
  (rm.cells = mc ∧ rm.slots = ms ∧ rm.frames + 1 ≤ R.frames ∧ 8 + (maxL + 11) + rm.locals ≤ R.locals ∧ (∀ w ∈ ws, ∀ (a' : Array Value) (U : State), s.WarmedH U.vm → w.before a' U = true) ∧ Cond.codeWith y bytes maxL ret hh ∈ ws) ∧
  (Cond.codeWith y bytes maxL ret hh).before args s = true ∧ (Cond.initialized y.cls).before args s = true ∧ (y.cls ≠ "java/lang/invoke/MethodHandle" ∧ y.cls ≠ "java/lang/invoke/VarHandle") ∧
  (∀ sig, parseMethodDescriptor y.desc = some sig → n = sig.parameters.length) ∧ (Cond.methodLink own index y).before args s = true ∧ (Cond.static y).before args s = true
theorem vx_cwSW {own : String} {index maxL mc ms : Nat} {y : MethodName} {bytes : ByteArray} {ret : Option FieldType} {hh : List (Nat × Nat × Nat × Nat)} {Ts ws ws' : List Cond} {rm : Room} (n : Nat) (ht : ∀ w ∈ Ts, w.before args s = true) (hT : GoodIn Ts (va_wsS own index y ws)) (hw : ws = Cond.codeWith y bytes maxL ret hh :: ws') (hrc : rm.cells = mc) (hrs : rm.slots = ms)
    (hd : y.cls ≠ "java/lang/invoke/MethodHandle" ∧ y.cls ≠ "java/lang/invoke/VarHandle" ∧ (parseMethodDescriptor y.desc).map (fun d => d.parameters.length) = some n) (hR : rm.frames + 1 ≤ R.frames ∧ 8 + (maxL + 11) + rm.locals ≤ R.locals) :
    vx_CSW R s args own index y bytes maxL ret hh ws rm mc ms n := by
  have ok : ∀ w ∈ va_wsS own index y ws, w.before args s = true := fun w h => ht w (hT w h).1
  have hG : GoodIn Ts ws := fun w h => hT w (by unfold va_wsS; exact List.mem_append_right _ h)
  have hc : Cond.codeWith y bytes maxL ret hh ∈ ws := by rw [hw]; exact List.mem_cons_self
  refine ⟨⟨hrc, hrs, hR.1, hR.2, pay_in ht hG, hc⟩, ht _ (hG _ hc).1, ok _ (by simp [va_wsS]), ⟨hd.1, hd.2.1⟩, fun sig h => ?_, ok _ (by simp [va_wsS]), ok _ (by simp [va_wsS])⟩
  have h2 := hd.2.2
  rw [h] at h2
  exact (Option.some.inj h2).symm
theorem vx_callSW (X : Stand p l e R s m args below meth c T locs cells slots) (hexec : p.tables.exec = Jvm.exec) {own : String} {index : Nat} {y : MethodName} {bytes : ByteArray} {maxL : Nat} {ret : Option FieldType} {hh : List (Nat × Nat × Nat × Nat)}
    (hown : s.vm.findClass own = some m.cls) (hlink : (Cond.methodLink own index y).before args s = true) (hstat : (Cond.static y).before args s = true) (hinit : (Cond.initialized y.cls).before args s = true)
    (hcode : (Cond.codeWith y bytes maxL ret hh).before args s = true) (hy : y.cls ≠ "java/lang/invoke/MethodHandle" ∧ y.cls ≠ "java/lang/invoke/VarHandle")
    {W9 : Nat} {Pre : Pt → Array Value → Prop} {Post : Pt → Array Value → Option Value → Pt → Prop} (hK : Back l R p e below s args y 3 W9 Pre Post)
    {g : JFrame} (hg : g.method = m) (hsize : g.locals.size = c.maxLocals) {argsL rest : List Value} (hlen : ∀ sig, parseMethodDescriptor y.desc = some sig → argsL.length = sig.parameters.length)
    (hstack : g.stack = argsL.reverse ++ rest) (hW : 2 * g.monitorRoom + (rest.map fun v => v.category).sum ≤ W9) (hdg : decode c.code g.pc = .ok (.invokestatic index, 3))
    (hpre : ∀ vm₁, s.WarmedH vm₁ → Pre ⟨T.setVm vm₁, locs, cells, slots⟩ argsL.toArray) :
    ∃ (v : Option Value) (vm₁ : Vm) (B : Pt), s.WarmedH vm₁ ∧ Stand p l e R s m args below meth c B.U B.locs B.cells B.slots ∧ Post ⟨T.setVm vm₁, locs, cells, slots⟩ argsL.toArray v B ∧
      ∀ target, Steps p.tables e below (B.U.setTop { g with pc := g.pc + 3, stack := v.toList ++ rest }) target → Steps p.tables e below (T.setTop g) target := by
  obtain ⟨mk, methM, cM, hnamed, hmethM, -, -, -, -, -, -, hsigM⟩ := Cond.codeWith_spec hcode
  have hstatic : methM.isStatic = true := Cond.static_spec hnamed hmethM hstat
  obtain ⟨kP, hkP, -⟩ := className_of_methodNamed hnamed
  have hinitP : kP.init = .initialized := Cond.initialized_spec (findClass_of_methodNamed hnamed) hkP hinit
  obtain ⟨vm₁, X₁, hstep₁⟩ := X.invokestatic hexec hown hlink hnamed hmethM hstatic hkP hinitP hy (g := g) hg (argsL := argsL) (rest := rest) (hlen _ hsigM) hstack hdg
  obtain ⟨v, B, X', hpost, hsteps⟩ := hK m meth c ⟨T.setVm vm₁, locs, cells, slots⟩ { g with stack := rest } (.invokestatic index) mk argsL.toArray X₁ hg hsize hdg hW (X₁.named hnamed) (hpre vm₁ X₁.warmed)
  exact ⟨v, vm₁, B, X₁.warmed, X', hpost, fun target h => hstep₁ _ fun acts => by rw [doInvoke_state]; exact hsteps.trans h⟩
theorem vx_runSW {y : MethodName} {bytes cc : ByteArray} {maxL nL mc ms n index : Nat} {ret : Option FieldType} {hh : List (Nat × Nat × Nat × Nat)} {ws : List Cond} {rm : Room} {Pc : Array Value → State → Prop} {Qc : Array Value → State → Outcome → State → Prop} {free : Addr → Prop} {Ts : List Cond} {own : String} {As rest : List Value} {g : JFrame}
    (S : CallFix p m c cc nL s args Ts own) (hM : Met l y ws rm Pc Qc mc ms free) (cw : vx_CSW R s args own index y bytes maxL ret hh ws rm mc ms n) (hp : PreS s H Pc As)
    (hg : g.method = m) (hn : As.length = n) (hsize : g.locals.size = nL) (hstack : g.stack = As.reverse ++ rest) (hW : 2 * g.monitorRoom + (rest.map fun v => v.category).sum ≤ 8) (hdg : decode cc g.pc = .ok (.invokestatic index, 3)) (hf : cells + mc ≤ R.cells ∧ slots + ms ≤ R.slots) :
    va_Run p l e R s m args below meth c H locs cells slots mc ms g rest (Qc As.toArray) (free) := by
  obtain ⟨⟨hrc, hrs, hfr, hlo, hws, hcw⟩, hcode, hini, hy, hlen, hl, hstt⟩ := cw
  have hK : Back l R p e below s args y 3 8 (PreOf R mc ms Pc) (PostOf Qc mc ms free) := va_backW (hh := hh) (bytes := bytes) (maxL := maxL) (ret := ret) hM hp.1 hrc hrs hfr hlo hws hcw (fun a' U hW => word_at hW (Or.inl (by first | rfl | simp [Cond.onTables, Cond.keeps, Cond.steady])) hini)
  obtain ⟨hx, hb, hml, ho, -⟩ := S
  intro T hT X
  obtain ⟨v, vm₁, ⟨U', l2, c2, s2⟩, hW₁, X', ⟨g', mk, t, L, e1, e2, hq, h1, hL, h2, h3⟩, st⟩ := vx_callSW X hx (hh := hh) (bytes := bytes) (maxL := maxL) (ret := ret) ho hl hstt hini hcode hy hK hg (hsize.trans hml.symm) (argsL := As) (rest := rest) (fun sig h => hn.trans (hlen sig h)) hstack hW (by rw [hb]; exact hdg)
    (fun vm₁ hW₁ => ⟨hf.1, hf.2, hp.2 (T.setVm vm₁) hT hW₁⟩)
  dsimp only [Pt.U, Pt.locs, Pt.cells, Pt.slots] at X' e1 e2 h1 h2 h3 st
  subst h1; subst h2; subst h3
  exact ⟨v, (T.setVm vm₁).calling g' mk As.toArray, t, U', L, hT, X', hL, e1, e2, hq, st⟩
/-- not caught here, past rows that name other classes: it goes on to the caller -/
theorem vx_outP {p : Program} {l : Launch} {e : Env} {R : Room} {s : State} {m : MethodId} {args : Array Value} {below : List Frame} {meth : Method} {c : Code} {H : Heap} {locs : List Loc} {cells slots : Nat} {free : Addr → Prop} {ls : Array Slot} {rest : List Value} {Qc : Array Value → State → Outcome → State → Prop} {XC : String → State → State → Prop}
    {pc : Nat} {own E : String} {ce : Cell} {q : Addr} {mc ms : Nat} (hown : s.vm.findClass own = some m.cls) (hlocks : meth.locks = false)
    (hpass : ∀ z ∈ c.exceptionTable.toList, covers z pc = false ∨ (z.catchType ≠ 0 ∧ ∃ nm : String, (Cond.classLink own z.catchType nm).before args s = true ∧ va_Nc E nm s)) (hcell : H[q]? = some ce) (hv : ce.vm = .none) (hcl : s.vm.findClass E = some ce.cls)
    (hx : ∀ t : State, t.heap = H → s.vm.Alike t.vm → XC E s t) (hf : ∀ z ∈ locs, free z.base) (hc : cells ≤ mc) (hs : slots ≤ ms) :
    vx_W p l e R s m args below meth c H locs cells slots (vx_MQ below Qc XC args s mc ms free) (F0 m pc ls rest) q := by
  intro T hT X
  have hpl : e.platform.magicAccessors = ({} : Platform).magicAccessors := by rw [X.admits.platform]
  obtain ⟨vm', hW', X', st⟩ := X.outThrough hlocks q (g := F0 m pc ls rest) rfl rfl rfl (cell := ce) (by rw [hT]; exact hcell) (by rw [hv]; rfl)
    (by obtain ⟨k9, h9, -⟩ := Vm.findClass_spec hcl; exact ⟨k9, h9⟩) (fun z hz => by
      rcases hpass z hz with h | ⟨hz0, nm, hl1, hn1⟩
      · exact Or.inl h
      · obtain ⟨c6, hc6, hcl6⟩ := Cond.classLink_spec hown hl1 e.platform hpl
        obtain ⟨a8, b8, h1, h2, h3⟩ := hn1
        cases Option.some.inj (h1.symm.trans hcl)
        cases Option.some.inj (h2.symm.trans hc6)
        exact Or.inr ⟨hz0, _, hcl6, h3⟩)
  obtain ⟨g₀, hfr⟩ := X'.frames_eq
  have hcell9 : ((T.setVm vm').setFrames (.throwing q :: below)).heap[q]? = some ce := by
    show T.heap[q]? = some ce
    rw [hT]; exact hcell
  have hend : Ended ((T.setVm vm').setFrames (.throwing q :: below)) below (.threw q) := State.frames_setFrames _ (State.cur_lt_of_frames hfr)
  refine ⟨(T.setVm vm').setFrames (.throwing q :: below), ?_, .threw q, X'.here.running, hend, Or.inr ⟨q, rfl, E, ce, locs, hx _ hT (X'.ends _).1.alike, hcell9, hv, hcl, (X'.ends _).1, (X'.ends _).2.mono hc hs, hf⟩⟩
  rw [X.pushThrowing_eq]
  exact st
/-- a thing of a world lies in the heap -/
theorem vx_lt {D : va_G} {cl : List vw_C} {ws : va_W} {H1 : Heap} (h : va_P D cl ws H1) {k : Nat} {q : Nat × va_E} (hk : ws[k]? = some q) : q.1 < H1.size := (h k q hk).lt
end VXS
/-! ===== END ===== -/
/-! ===== BEGIN methods with a table of their own: called by a name, returning or throwing ===== -/
section VXH
/-! vx_backW, vx_callVX, vx_callSX, vx_callVW, vx_runVW, vx_runVX, vx_runSX, vx_ofWH follow the same proofs as their sisters above (Free/Laws.lean, Shelf42/LK1.lean); vx_outP calls Shelf42/NT130.lean (outThrough). -/
section
variable {l : Launch} {R : Room} {p : Program} {e : Env} {below : List Frame} {s : State} {sargs : Array Value} {y : MethodName} {len W9 : Nat}
theorem vx_backW {ws : List Cond} {rm : Room} {Pc : Array Value → State → Prop} {Qc : Array Value → State → Outcome → State → Prop} {XC : String → State → State → Prop} {mc ms : Nat} {free : Addr → Prop} {bytes : ByteArray} {maxL : Nat} {ret : Option FieldType} {hh : List (Nat × Nat × Nat × Nat)}
    (hM : vx_Met l y ws rm Pc Qc XC mc ms free) (hblind : FrameBlind Pc) (hrc : rm.cells = mc) (hrs : rm.slots = ms)
    (hframes : rm.frames + 1 ≤ R.frames) (hlocals : W9 + (maxL + 11) + rm.locals ≤ R.locals)
    (hws : ∀ w ∈ ws, ∀ a' U, s.WarmedH U.vm → w.before a' U = true) (hcode : Cond.codeWith y bytes maxL ret hh ∈ ws) (hinit : ∀ a' U, s.WarmedH U.vm → (Cond.initialized y.cls).before a' U = true) :
    vx_Back l R p e below s sargs y len W9 (PreOf R mc ms Pc) (PostOf Qc mc ms free) (vx_Post XC mc ms free) := by
  intro m meth c A g ig mk a X hg hsize hdg hW hn hp
  have h1 : (headSpec ws rm).pre.before a A.U = true := atoms_intro fun w hw => hws w hw _ _ X.warmed
  have h2 : (Cond.codeWith y bytes maxL ret hh).before a A.U = true := hws _ hcode _ _ X.warmed
  have h3 : (Cond.initialized y.cls).before a A.U = true := hinit _ _ X.warmed
  have h4 : A.cells + (headSpec ws rm).room.cells ≤ R.cells := by rw [show (headSpec ws rm).room.cells = mc from hrc]; exact hp.1
  have h5 : A.slots + (headSpec ws rm).room.slots ≤ R.slots := by rw [show (headSpec ws rm).room.slots = ms from hrs]; exact hp.2.1
  have hPc : Pc a (A.U.calling g mk a) := hblind _ _ _ _ hp.2.2
  obtain ⟨U, Ls, c0, s0⟩ := A
  dsimp only [Pt.U, Pt.locs, Pt.cells, Pt.slots] at h1 h2 h3 h4 h5 X hn hPc ⊢
  obtain ⟨m9, methY, cY, hn9, hmY, hcY, -, hlY, -⟩ := Cond.codeWith_spec h2
  cases Option.some.inj (hn9.symm.trans hn)
  obtain ⟨kY, hkY, -⟩ := className_of_methodNamed hn
  have hinitY : kY.init = .initialized := Cond.initialized_spec (findClass_of_methodNamed hn) hkY h3
  have h : At U g.method c below := by rw [hg]; exact X.here
  have hlocals9 : W9 + (maxL + 11) + (headSpec ws rm).room.locals ≤ R.locals := hlocals
  have happ : (headSpec ws rm).appliesLoose y e.platform (U.calling g mk a) = true :=
    Spec.appliesLoose_calling (g := g) h hdg hn hkY hinitY
      (X.room_calling (g := g) (R' := (headSpec ws rm).room) hsize hmY hcY hframes (by rw [hlY]; omega) h4 h5) h1
  obtain ⟨mid, hmid⟩ := h.above
  have hfr : (U.setTop g).frames = (.java g :: mid) ++ below := by rw [State.frames_setTop' g h.top, hmid]; rfl
  obtain ⟨o, s₂, hsteps, -, hend, hq⟩ := Steps.callFree hM p X.admits X.cas X.clock (acts := []) hfr happ hPc trivial
  have hq' : vx_Q Qc XC mc ms free a (U.calling g mk a) o s₂ := hq
  rw [State.frames_setTop' g h.top] at hend
  obtain ⟨g₀, hg0⟩ := Option.isSome_iff_exists.mp h.top
  obtain ⟨r, hr⟩ := State.topJava?_eq_some.mp hg0
  have hr' : (({ U with heap := s₂.heap, slotsUsed := s₂.slotsUsed } : State).setVm s₂.vm).frames = .java g₀ :: r := hr
  rcases hq' with ⟨hqc, L, hfe, hL⟩ | ⟨q, rfl, E, ce, L, hx, hce, hcv, hcl, hW₂, hsm, hL⟩
  · obtain ⟨⟨v, rfl⟩, hW₂, e2, q2, q3, q4, q5, q6⟩ := id hfe
    have e3 : s₂ = ({ (U.calling g mk a).setFrames s₂.frames with heap := s₂.heap, slotsUsed := s₂.slotsUsed } : State).setVm s₂.vm := by
      have : s₂ = ({ s₂ with vm := (U.calling g mk a).vm } : State).setVm s₂.vm := rfl
      rw [e2] at this
      exact this
    obtain ⟨c₂, i₂, len₂, hc₂, hd₂, hf₂⟩ := hend
    have hW' : U.WarmedH s₂.vm := hW₂
    have hcc : c₂ = c := by
      have h1 : s₂.code? g.method = U.code? g.method := by
        rw [State.code?_eq, State.code?_eq, hW'.alike.method?]
      exact Option.some.inj (hc₂.symm.trans (h1.trans h.code))
    subst hcc
    have hlen : len₂ = len := by rw [hdg] at hd₂; cases hd₂; rfl
    subst hlen
    have hs₂ : s₂ = (({ U with heap := s₂.heap, slotsUsed := s₂.slotsUsed } : State).setVm s₂.vm).setTop { g with pc := g.pc + len₂, stack := v.toList ++ g.stack } := by
      refine e3.trans ?_
      rw [hf₂, State.calling_eq h.top, State.setFrames_setFrames, State.setTop_of_frames _ hr', hr]
      rfl
    have hsame : U.sameButNew ({ U with heap := s₂.heap, slotsUsed := s₂.slotsUsed } : State) L mc ms := by
      refine ⟨?_, q2, q3, q4, q5, q6⟩
      obtain ⟨t, ht, -⟩ := State.frames_cons hr
      show ({ U with heap := s₂.heap, slotsUsed := s₂.slotsUsed } : State) = { U.setFrames U.frames with heap := s₂.heap, slotsUsed := s₂.slotsUsed }
      rw [State.setFrames_self ht]
    subst hg
    refine Or.inl ⟨v, ⟨(({ U with heap := s₂.heap, slotsUsed := s₂.slotsUsed } : State).setVm s₂.vm), Ls ++ L, c0 + mc, s0 + ms⟩,
      ⟨X.admits, X.cas, X.clock, X.frames, X.room, X.hears, X.method, X.code, (X.here.setHeapUsed s₂.heap s₂.slotsUsed).setVm hW'.alike, X.tail, State.WarmedH.trans X.warmed hW', X.limits, X.bytes, X.same.trans (hsame.setVm s.vm)⟩,
      ⟨g, mk, s₂, L, rfl, rfl, hqc, rfl, hL, rfl, rfl⟩, ?_⟩
    show Steps p.tables e below _ ((({ U with heap := s₂.heap, slotsUsed := s₂.slotsUsed } : State).setVm s₂.vm).setTop { g with pc := g.pc + len₂, stack := v.toList ++ g.stack })
    rw [← hs₂]
    exact hsteps
  · obtain ⟨e2, q2, q3, q4, q5, q6⟩ := id hsm
    have e3 : s₂ = ({ (U.calling g mk a).setFrames s₂.frames with heap := s₂.heap, slotsUsed := s₂.slotsUsed } : State).setVm s₂.vm := by
      have : s₂ = ({ s₂ with vm := (U.calling g mk a).vm } : State).setVm s₂.vm := rfl
      rw [e2] at this
      exact this
    have hf₂ : s₂.frames = .throwing q :: .java g :: U.frames.tail := hend
    have hW' : U.WarmedH s₂.vm := hW₂
    have hs₂ : s₂ = ((({ U with heap := s₂.heap, slotsUsed := s₂.slotsUsed } : State).setVm s₂.vm).setTop g).pushFrame (.throwing q) := by
      refine e3.trans ?_
      rw [hf₂, State.calling_eq h.top, State.setFrames_setFrames, State.pushFrame, State.frames_setTop _ hr', State.setTop_of_frames _ hr', State.setFrames_setFrames, hr]
      rfl
    have hsame : U.sameButNew ({ U with heap := s₂.heap, slotsUsed := s₂.slotsUsed } : State) L mc ms := by
      refine ⟨?_, q2, q3, q4, q5, q6⟩
      obtain ⟨t, ht, -⟩ := State.frames_cons hr
      show ({ U with heap := s₂.heap, slotsUsed := s₂.slotsUsed } : State) = { U.setFrames U.frames with heap := s₂.heap, slotsUsed := s₂.slotsUsed }
      rw [State.setFrames_self ht]
    subst hg
    refine Or.inr ⟨q, ⟨(({ U with heap := s₂.heap, slotsUsed := s₂.slotsUsed } : State).setVm s₂.vm), Ls ++ L, c0 + mc, s0 + ms⟩,
      ⟨X.admits, X.cas, X.clock, X.frames, X.room, X.hears, X.method, X.code, (X.here.setHeapUsed s₂.heap s₂.slotsUsed).setVm hW'.alike, X.tail, State.WarmedH.trans X.warmed hW', X.limits, X.bytes, X.same.trans (hsame.setVm s.vm)⟩,
      ⟨g, mk, s₂, L, E, ce, rfl, rfl, hx, hce, hcv, hcl, rfl, hL, rfl, rfl⟩, ?_⟩
    show Steps p.tables e below _ (((({ U with heap := s₂.heap, slotsUsed := s₂.slotsUsed } : State).setVm s₂.vm).setTop g).pushFrame (.throwing q))
    rw [← hs₂]
    exact hsteps
end
variable {p : Program} {l : Launch} {e : Env} {R : Room} {s : State} {m : MethodId} {args : Array Value} {below : List Frame} {meth : Method} {c : Code} {T : State} {H : Heap} {locs : List Loc} {cells slots : Nat}
theorem vx_callVX (X : Stand p l e R s m args below meth c T locs cells slots) (hexec : p.tables.exec = Jvm.exec) {own C : String} {index : Nat} {y : MethodName} {bytes : ByteArray} {maxL : Nat} {ret : Option FieldType} {hh : List (Nat × Nat × Nat × Nat)}
    (hown : s.vm.findClass own = some m.cls) (hlink : (Cond.methodLink own index y).before args s = true) (hinst : (Cond.instanceMethod y).before args s = true) (hsel : (Cond.selects C y y).before args s = true)
    (hcode : (Cond.codeWith y bytes maxL ret hh).before args s = true) (hy : y.cls ≠ "java/lang/invoke/MethodHandle" ∧ y.cls ≠ "java/lang/invoke/VarHandle")
    {W9 : Nat} {Pre : Pt → Array Value → Prop} {Post : Pt → Array Value → Option Value → Pt → Prop} {PostX : Pt → Array Value → Addr → Pt → Prop} (hK : vx_Back l R p e below s args y 3 W9 Pre Post PostX)
    {b : Addr} {cellB : Cell} (hcell : T.heap[b]? = some cellB) (hobj : cellB.vm.isStatics = false) (hcls : s.vm.findClass C = some cellB.cls)
    {g : JFrame} (hg : g.method = m) (hsize : g.locals.size = c.maxLocals) {argsL rest : List Value} (hlen : ∀ sig, parseMethodDescriptor y.desc = some sig → argsL.length = sig.parameters.length)
    (hstack : g.stack = argsL.reverse ++ .ref b :: rest) (hW : 2 * g.monitorRoom + (rest.map fun v => v.category).sum ≤ W9) (hdg : decode c.code g.pc = .ok (.invokevirtual index, 3))
    (hpre : ∀ vm₁, s.WarmedH vm₁ → Pre ⟨T.setVm vm₁, locs, cells, slots⟩ (Value.ref b :: argsL).toArray) :
    (∃ (v : Option Value) (vm₁ : Vm) (B : Pt), s.WarmedH vm₁ ∧ Stand p l e R s m args below meth c B.U B.locs B.cells B.slots ∧ Post ⟨T.setVm vm₁, locs, cells, slots⟩ (Value.ref b :: argsL).toArray v B ∧
      ∀ target, Steps p.tables e below (B.U.setTop { g with pc := g.pc + 3, stack := v.toList ++ rest }) target → Steps p.tables e below (T.setTop g) target) ∨
    (∃ (q : Addr) (vm₁ : Vm) (B : Pt), s.WarmedH vm₁ ∧ Stand p l e R s m args below meth c B.U B.locs B.cells B.slots ∧ PostX ⟨T.setVm vm₁, locs, cells, slots⟩ (Value.ref b :: argsL).toArray q B ∧
      Steps p.tables e below (T.setTop g) ((B.U.setTop { g with stack := rest }).pushFrame (.throwing q))) := by
  obtain ⟨mk, methM, hnamed, hmethM, hstM, habM⟩ := Cond.instanceMethod_spec hinst
  obtain ⟨m8, methM', cM, hn8, hmethM', -, -, -, -, -, -, hsigM⟩ := Cond.codeWith_spec hcode
  cases Option.some.inj (hn8.symm.trans hnamed)
  cases hmethM.symm.trans hmethM'
  obtain ⟨c2, r2, m2, q1, q2, q3, q4, kP, hkP, hkPi⟩ := Cond.selects_spec hsel
  cases hcls.symm.trans q1
  cases (State.methodFound?_of_named hnamed hy).symm.trans q2
  cases hnamed.symm.trans q3
  have hselP : selectMethod e.platform s.vm cellB.cls mk = .method mk := by rw [Launch.admits_selectMethod X.admits]; exact q4
  obtain ⟨vm₁, X₁, hstep₁⟩ := X.invokevirtual hexec hown hlink hnamed hmethM hstM hkP hkPi hy (a := b) (cell := cellB) hcell
    (fun z h => by rw [h] at hobj; cases hobj) hselP hmethM habM hkP hkPi (g := g) hg (argsL := argsL) (rest := rest) (hlen _ hsigM) hstack hdg
  rcases hK m meth c ⟨T.setVm vm₁, locs, cells, slots⟩ { g with stack := rest } (.invokevirtual index) mk (Value.ref b :: argsL).toArray X₁ hg hsize hdg hW (X₁.named hnamed) (hpre vm₁ X₁.warmed) with ⟨v, B, X', hpost, hsteps⟩ | ⟨q, B, X', hpost, hsteps⟩
  · exact Or.inl ⟨v, vm₁, B, X₁.warmed, X', hpost, fun target h => hstep₁ _ fun acts => by rw [doInvoke_state]; exact hsteps.trans h⟩
  · exact Or.inr ⟨q, vm₁, B, X₁.warmed, X', hpost, hstep₁ _ fun acts => by rw [doInvoke_state]; exact hsteps⟩
theorem vx_callSX (X : Stand p l e R s m args below meth c T locs cells slots) (hexec : p.tables.exec = Jvm.exec) {own : String} {index : Nat} {y : MethodName} {bytes : ByteArray} {maxL : Nat} {ret : Option FieldType} {hh : List (Nat × Nat × Nat × Nat)}
    (hown : s.vm.findClass own = some m.cls) (hlink : (Cond.methodLink own index y).before args s = true) (hstat : (Cond.static y).before args s = true) (hinit : (Cond.initialized y.cls).before args s = true)
    (hcode : (Cond.codeWith y bytes maxL ret hh).before args s = true) (hy : y.cls ≠ "java/lang/invoke/MethodHandle" ∧ y.cls ≠ "java/lang/invoke/VarHandle")
    {W9 : Nat} {Pre : Pt → Array Value → Prop} {Post : Pt → Array Value → Option Value → Pt → Prop} {PostX : Pt → Array Value → Addr → Pt → Prop} (hK : vx_Back l R p e below s args y 3 W9 Pre Post PostX)
    {g : JFrame} (hg : g.method = m) (hsize : g.locals.size = c.maxLocals) {argsL rest : List Value} (hlen : ∀ sig, parseMethodDescriptor y.desc = some sig → argsL.length = sig.parameters.length)
    (hstack : g.stack = argsL.reverse ++ rest) (hW : 2 * g.monitorRoom + (rest.map fun v => v.category).sum ≤ W9) (hdg : decode c.code g.pc = .ok (.invokestatic index, 3))
    (hpre : ∀ vm₁, s.WarmedH vm₁ → Pre ⟨T.setVm vm₁, locs, cells, slots⟩ argsL.toArray) :
    (∃ (v : Option Value) (vm₁ : Vm) (B : Pt), s.WarmedH vm₁ ∧ Stand p l e R s m args below meth c B.U B.locs B.cells B.slots ∧ Post ⟨T.setVm vm₁, locs, cells, slots⟩ argsL.toArray v B ∧
      ∀ target, Steps p.tables e below (B.U.setTop { g with pc := g.pc + 3, stack := v.toList ++ rest }) target → Steps p.tables e below (T.setTop g) target) ∨
    (∃ (q : Addr) (vm₁ : Vm) (B : Pt), s.WarmedH vm₁ ∧ Stand p l e R s m args below meth c B.U B.locs B.cells B.slots ∧ PostX ⟨T.setVm vm₁, locs, cells, slots⟩ argsL.toArray q B ∧
      Steps p.tables e below (T.setTop g) ((B.U.setTop { g with stack := rest }).pushFrame (.throwing q))) := by
  obtain ⟨mk, methM, cM, hnamed, hmethM, -, -, -, -, -, -, hsigM⟩ := Cond.codeWith_spec hcode
  have hstatic : methM.isStatic = true := Cond.static_spec hnamed hmethM hstat
  obtain ⟨kP, hkP, -⟩ := className_of_methodNamed hnamed
  have hinitP : kP.init = .initialized := Cond.initialized_spec (findClass_of_methodNamed hnamed) hkP hinit
  obtain ⟨vm₁, X₁, hstep₁⟩ := X.invokestatic hexec hown hlink hnamed hmethM hstatic hkP hinitP hy (g := g) hg (argsL := argsL) (rest := rest) (hlen _ hsigM) hstack hdg
  rcases hK m meth c ⟨T.setVm vm₁, locs, cells, slots⟩ { g with stack := rest } (.invokestatic index) mk argsL.toArray X₁ hg hsize hdg hW (X₁.named hnamed) (hpre vm₁ X₁.warmed) with ⟨v, B, X', hpost, hsteps⟩ | ⟨q, B, X', hpost, hsteps⟩
  · exact Or.inl ⟨v, vm₁, B, X₁.warmed, X', hpost, fun target h => hstep₁ _ fun acts => by rw [doInvoke_state]; exact hsteps.trans h⟩
  · exact Or.inr ⟨q, vm₁, B, X₁.warmed, X', hpost, hstep₁ _ fun acts => by rw [doInvoke_state]; exact hsteps⟩
theorem vx_callVW (X : Stand p l e R s m args below meth c T locs cells slots) (hexec : p.tables.exec = Jvm.exec) {own C : String} {index : Nat} {y : MethodName} {bytes : ByteArray} {maxL : Nat} {ret : Option FieldType} {hh : List (Nat × Nat × Nat × Nat)}
    (hown : s.vm.findClass own = some m.cls) (hlink : (Cond.methodLink own index y).before args s = true) (hinst : (Cond.instanceMethod y).before args s = true) (hsel : (Cond.selects C y y).before args s = true)
    (hcode : (Cond.codeWith y bytes maxL ret hh).before args s = true) (hy : y.cls ≠ "java/lang/invoke/MethodHandle" ∧ y.cls ≠ "java/lang/invoke/VarHandle")
    {W9 : Nat} {Pre : Pt → Array Value → Prop} {Post : Pt → Array Value → Option Value → Pt → Prop} (hK : Back l R p e below s args y 3 W9 Pre Post)
    {b : Addr} {cellB : Cell} (hcell : T.heap[b]? = some cellB) (hobj : cellB.vm.isStatics = false) (hcls : s.vm.findClass C = some cellB.cls)
    {g : JFrame} (hg : g.method = m) (hsize : g.locals.size = c.maxLocals) {argsL rest : List Value} (hlen : ∀ sig, parseMethodDescriptor y.desc = some sig → argsL.length = sig.parameters.length)
    (hstack : g.stack = argsL.reverse ++ .ref b :: rest) (hW : 2 * g.monitorRoom + (rest.map fun v => v.category).sum ≤ W9) (hdg : decode c.code g.pc = .ok (.invokevirtual index, 3))
    (hpre : ∀ vm₁, s.WarmedH vm₁ → Pre ⟨T.setVm vm₁, locs, cells, slots⟩ (Value.ref b :: argsL).toArray) :
    ∃ (v : Option Value) (vm₁ : Vm) (B : Pt), s.WarmedH vm₁ ∧ Stand p l e R s m args below meth c B.U B.locs B.cells B.slots ∧ Post ⟨T.setVm vm₁, locs, cells, slots⟩ (Value.ref b :: argsL).toArray v B ∧
      ∀ target, Steps p.tables e below (B.U.setTop { g with pc := g.pc + 3, stack := v.toList ++ rest }) target → Steps p.tables e below (T.setTop g) target := by
  obtain ⟨mk, methM, hnamed, hmethM, hstM, habM⟩ := Cond.instanceMethod_spec hinst
  obtain ⟨m8, methM', cM, hn8, hmethM', -, -, -, -, -, -, hsigM⟩ := Cond.codeWith_spec hcode
  cases Option.some.inj (hn8.symm.trans hnamed)
  cases hmethM.symm.trans hmethM'
  obtain ⟨c2, r2, m2, q1, q2, q3, q4, kP, hkP, hkPi⟩ := Cond.selects_spec hsel
  cases hcls.symm.trans q1
  cases (State.methodFound?_of_named hnamed hy).symm.trans q2
  cases hnamed.symm.trans q3
  have hselP : selectMethod e.platform s.vm cellB.cls mk = .method mk := by rw [Launch.admits_selectMethod X.admits]; exact q4
  obtain ⟨vm₁, X₁, hstep₁⟩ := X.invokevirtual hexec hown hlink hnamed hmethM hstM hkP hkPi hy (a := b) (cell := cellB) hcell
    (fun z h => by rw [h] at hobj; cases hobj) hselP hmethM habM hkP hkPi (g := g) hg (argsL := argsL) (rest := rest) (hlen _ hsigM) hstack hdg
  obtain ⟨v, B, X', hpost, hsteps⟩ := hK m meth c ⟨T.setVm vm₁, locs, cells, slots⟩ { g with stack := rest } (.invokevirtual index) mk (Value.ref b :: argsL).toArray X₁ hg hsize hdg hW (X₁.named hnamed) (hpre vm₁ X₁.warmed)
  exact ⟨v, vm₁, B, X₁.warmed, X', hpost, fun target h => hstep₁ _ fun acts => by rw [doInvoke_state]; exact hsteps.trans h⟩
abbrev vx_CVW (R : Room) (s : State) (args : Array Value) (own C : String) (index : Nat) (y : MethodName) (bytes : ByteArray) (maxL : Nat) (ret : Option FieldType) (hh : List (Nat × Nat × Nat × Nat)) (ws : List Cond) (rm : Room) (mc ms n : Nat) : Prop :=
  (rm.cells = mc ∧ rm.slots = ms ∧ rm.frames + 1 ≤ R.frames ∧ 8 + (maxL + 11) + rm.locals ≤ R.locals ∧ (∀ w ∈ ws, ∀ (a' : Array Value) (U : State), s.WarmedH U.vm → w.before a' U = true) ∧ Cond.codeWith y bytes maxL ret hh ∈ ws) ∧
  (Cond.codeWith y bytes maxL ret hh).before args s = true ∧ (Cond.initialized y.cls).before args s = true ∧ (y.cls ≠ "java/lang/invoke/MethodHandle" ∧ y.cls ≠ "java/lang/invoke/VarHandle") ∧
  (∀ sig, parseMethodDescriptor y.desc = some sig → n = sig.parameters.length) ∧ (Cond.methodLink own index y).before args s = true ∧ (Cond.instanceMethod y).before args s = true ∧ (Cond.selects C y y).before args s = true
theorem vx_cwVW {own C : String} {index maxL mc ms : Nat} {y : MethodName} {bytes : ByteArray} {ret : Option FieldType} {hh : List (Nat × Nat × Nat × Nat)} {Ts ws ws' : List Cond} {rm : Room} (n : Nat) (ht : ∀ w ∈ Ts, w.before args s = true) (hT : GoodIn Ts (wsV own index C y ws)) (hw : ws = Cond.codeWith y bytes maxL ret hh :: ws') (hrc : rm.cells = mc) (hrs : rm.slots = ms)
    (hd : y.cls = C ∧ y.cls ≠ "java/lang/invoke/MethodHandle" ∧ y.cls ≠ "java/lang/invoke/VarHandle" ∧ (parseMethodDescriptor y.desc).map (fun d => d.parameters.length) = some n) (hR : rm.frames + 1 ≤ R.frames ∧ 8 + (maxL + 11) + rm.locals ≤ R.locals) :
    vx_CVW R s args own C index y bytes maxL ret hh ws rm mc ms n := by
  obtain ⟨hC, hd⟩ := hd
  subst hC
  have ok : ∀ w ∈ wsV own index y.cls y ws, w.before args s = true := fun w h => ht w (hT w h).1
  have hG : GoodIn Ts ws := fun w h => hT w (by unfold wsV; exact List.mem_append_right _ h)
  have hc : Cond.codeWith y bytes maxL ret hh ∈ ws := by rw [hw]; exact List.mem_cons_self
  refine ⟨⟨hrc, hrs, hR.1, hR.2, pay_in ht hG, hc⟩, ht _ (hG _ hc).1, ok _ (by simp [wsV]), ⟨hd.1, hd.2.1⟩, fun sig h => ?_, ok _ (by simp [wsV]), ok _ (by simp [wsV]), ok _ (by simp [wsV])⟩
  have h2 := hd.2.2
  rw [h] at h2
  exact (Option.some.inj h2).symm
theorem vx_runVW {y : MethodName} {bytes cc : ByteArray} {maxL nL mc ms n index : Nat} {ret : Option FieldType} {hh : List (Nat × Nat × Nat × Nat)} {ws : List Cond} {rm : Room} {Pc : Array Value → State → Prop} {Qc : Array Value → State → Outcome → State → Prop} {free : Addr → Prop} {Ts : List Cond} {own C : String} {b : Addr} {As rest : List Value} {g : JFrame}
    (S : CallFix p m c cc nL s args Ts own) (hM : Met l y ws rm Pc Qc mc ms free) (cw : vx_CVW R s args own C index y bytes maxL ret hh ws rm mc ms n) (hp : PreV s H C b Pc As)
    (hg : g.method = m) (hn : As.length = n) (hsize : g.locals.size = nL) (hstack : g.stack = As.reverse ++ .ref b :: rest) (hW : 2 * g.monitorRoom + (rest.map fun v => v.category).sum ≤ 8) (hdg : decode cc g.pc = .ok (.invokevirtual index, 3)) (hf : cells + mc ≤ R.cells ∧ slots + ms ≤ R.slots) :
    va_Run p l e R s m args below meth c H locs cells slots mc ms g rest (Qc (Value.ref b :: As).toArray) free := by
  obtain ⟨⟨hrc, hrs, hfr, hlo, hws, hcw⟩, hcode, hini, hy, hlen, hl, hin, hse⟩ := cw
  have hK : Back l R p e below s args y 3 8 (PreOf R mc ms Pc) (PostOf Qc mc ms free) := va_backW (hh := hh) (bytes := bytes) (maxL := maxL) (ret := ret) hM hp.1 hrc hrs hfr hlo hws hcw (fun a' U hW => word_at hW (Or.inl (by first | rfl | simp [Cond.onTables, Cond.keeps, Cond.steady])) hini)
  obtain ⟨hx, hb, hml, ho, -⟩ := S
  obtain ⟨-, ⟨cellB, hcB, hoB, hclB⟩, hPc⟩ := hp
  intro T hT X
  obtain ⟨v, vm₁, ⟨U', l2, c2, s2⟩, hW₁, X', ⟨g', mk, t, L, e1, e2, hq, h1, hL, h2, h3⟩, st⟩ := vx_callVW X hx (C := C) (hh := hh) (bytes := bytes) (maxL := maxL) (ret := ret) ho hl hin hse hcode hy hK (by rw [hT]; exact hcB) hoB hclB hg (hsize.trans hml.symm) (argsL := As) (rest := rest) (fun sig h => hn.trans (hlen sig h)) hstack hW (by rw [hb]; exact hdg)
    (fun vm₁ hW₁ => ⟨hf.1, hf.2, hPc (T.setVm vm₁) hT hW₁⟩)
  dsimp only [Pt.U, Pt.locs, Pt.cells, Pt.slots] at X' e1 e2 h1 h2 h3 st
  subst h1; subst h2; subst h3
  exact ⟨v, (T.setVm vm₁).calling g' mk (Value.ref b :: As).toArray, t, U', L, hT, X', hL, e1, e2, hq, st⟩
section
variable {y : MethodName} {bytes cc : ByteArray} {maxL nL mc ms n index : Nat} {ret : Option FieldType} {ws : List Cond} {rm : Room} {Pc : Array Value → State → Prop} {Qc : Array Value → State → Outcome → State → Prop} {XC : String → State → State → Prop} {free : Addr → Prop} {Ts : List Cond} {own C : String} {b : Addr} {As rest : List Value} {g : JFrame}
theorem vx_runVX {hh : List (Nat × Nat × Nat × Nat)} (S : CallFix p m c cc nL s args Ts own) (hM : vx_Met l y ws rm Pc Qc XC mc ms free) (cw : vx_CVW R s args own C index y bytes maxL ret hh ws rm mc ms n) (hp : PreV s H C b Pc As)
    (hg : g.method = m) (hn : As.length = n) (hsize : g.locals.size = nL) (hstack : g.stack = As.reverse ++ .ref b :: rest) (hW : 2 * g.monitorRoom + (rest.map fun v => v.category).sum ≤ 8) (hdg : decode cc g.pc = .ok (.invokevirtual index, 3)) (hf : cells + mc ≤ R.cells ∧ slots + ms ≤ R.slots) :
    vx_Run p l e R s m args below meth c H locs cells slots mc ms g rest (Qc (Value.ref b :: As).toArray) XC free := by
  obtain ⟨⟨hrc, hrs, hfr, hlo, hws, hcw⟩, hcode, hini, hy, hlen, hl, hin, hse⟩ := cw
  have hK : vx_Back l R p e below s args y 3 8 (PreOf R mc ms Pc) (PostOf Qc mc ms free) (vx_Post XC mc ms free) := vx_backW (hh := hh) (bytes := bytes) (maxL := maxL) (ret := ret) hM hp.1 hrc hrs hfr hlo hws hcw (fun a' U hW => word_at hW (Or.inl (by first | rfl | simp [Cond.onTables, Cond.keeps, Cond.steady])) hini)
  obtain ⟨hx, hb, hml, ho, -⟩ := S
  obtain ⟨-, ⟨cellB, hcB, hoB, hclB⟩, hPc⟩ := hp
  intro T hT X
  rcases vx_callVX X hx (C := C) (hh := hh) (bytes := bytes) (maxL := maxL) (ret := ret) ho hl hin hse hcode hy hK (by rw [hT]; exact hcB) hoB hclB hg (hsize.trans hml.symm) (argsL := As) (rest := rest) (fun sig h => hn.trans (hlen sig h)) hstack hW (by rw [hb]; exact hdg)
    (fun vm₁ hW₁ => ⟨hf.1, hf.2, hPc (T.setVm vm₁) hT hW₁⟩) with ⟨v, vm₁, ⟨U', l2, c2, s2⟩, hW₁, X', ⟨g', mk, t, L, e1, e2, hq, h1, hL, h2, h3⟩, st⟩ | ⟨q, vm₁, ⟨U', l2, c2, s2⟩, hW₁, X', ⟨g', mk, t, L, E, ce, e1, e2, hq, hce, hcv, hcl, h1, hL, h2, h3⟩, st⟩
  · dsimp only [Pt.U, Pt.locs, Pt.cells, Pt.slots] at X' e1 e2 h1 h2 h3 st
    subst h1; subst h2; subst h3
    exact Or.inl ⟨v, (T.setVm vm₁).calling g' mk (Value.ref b :: As).toArray, t, U', L, hT, X', hL, e1, e2, hq, st⟩
  · dsimp only [Pt.U, Pt.locs, Pt.cells, Pt.slots] at X' e1 e2 h1 h2 h3 st hcl
    subst h1; subst h2; subst h3
    exact Or.inr ⟨q, (T.setVm vm₁).calling g' mk (Value.ref b :: As).toArray, t, U', L, E, ce, hT, X', hL, e1, e2, hq, hce, hcv, vx_cls hW₁ hcl, st⟩
theorem vx_runSX {hh : List (Nat × Nat × Nat × Nat)} (S : CallFix p m c cc nL s args Ts own) (hM : vx_Met l y ws rm Pc Qc XC mc ms free) (cw : vx_CSW R s args own index y bytes maxL ret hh ws rm mc ms n) (hp : PreS s H Pc As)
    (hg : g.method = m) (hn : As.length = n) (hsize : g.locals.size = nL) (hstack : g.stack = As.reverse ++ rest) (hW : 2 * g.monitorRoom + (rest.map fun v => v.category).sum ≤ 8) (hdg : decode cc g.pc = .ok (.invokestatic index, 3)) (hf : cells + mc ≤ R.cells ∧ slots + ms ≤ R.slots) :
    vx_Run p l e R s m args below meth c H locs cells slots mc ms g rest (Qc As.toArray) XC free := by
  obtain ⟨⟨hrc, hrs, hfr, hlo, hws, hcw⟩, hcode, hini, hy, hlen, hl, hstt⟩ := cw
  have hK : vx_Back l R p e below s args y 3 8 (PreOf R mc ms Pc) (PostOf Qc mc ms free) (vx_Post XC mc ms free) := vx_backW (hh := hh) (bytes := bytes) (maxL := maxL) (ret := ret) hM hp.1 hrc hrs hfr hlo hws hcw (fun a' U hW => word_at hW (Or.inl (by first | rfl | simp [Cond.onTables, Cond.keeps, Cond.steady])) hini)
  obtain ⟨hx, hb, hml, ho, -⟩ := S
  intro T hT X
  rcases vx_callSX X hx (hh := hh) (bytes := bytes) (maxL := maxL) (ret := ret) ho hl hstt hini hcode hy hK hg (hsize.trans hml.symm) (argsL := As) (rest := rest) (fun sig h => hn.trans (hlen sig h)) hstack hW (by rw [hb]; exact hdg)
    (fun vm₁ hW₁ => ⟨hf.1, hf.2, hp.2 (T.setVm vm₁) hT hW₁⟩) with ⟨v, vm₁, ⟨U', l2, c2, s2⟩, hW₁, X', ⟨g', mk, t, L, e1, e2, hq, h1, hL, h2, h3⟩, st⟩ | ⟨q, vm₁, ⟨U', l2, c2, s2⟩, hW₁, X', ⟨g', mk, t, L, E, ce, e1, e2, hq, hce, hcv, hcl, h1, hL, h2, h3⟩, st⟩
  · dsimp only [Pt.U, Pt.locs, Pt.cells, Pt.slots] at X' e1 e2 h1 h2 h3 st
    subst h1; subst h2; subst h3
    exact Or.inl ⟨v, (T.setVm vm₁).calling g' mk As.toArray, t, U', L, hT, X', hL, e1, e2, hq, st⟩
  · dsimp only [Pt.U, Pt.locs, Pt.cells, Pt.slots] at X' e1 e2 h1 h2 h3 st hcl
    subst h1; subst h2; subst h3
    exact Or.inr ⟨q, (T.setVm vm₁).calling g' mk As.toArray, t, U', L, E, ce, hT, X', hL, e1, e2, hq, hce, hcv, vx_cls hW₁ hcl, st⟩
end
end VXH
theorem vx_ofWH {l : Launch} {y : MethodName} {ws ws' : List Cond} {rm : Room} {Pc : Array Value → State → Prop} {Qc : Array Value → State → Outcome → State → Prop} {XC : String → State → State → Prop} {mc ms : Nat} {free : Addr → Prop} {cc : ByteArray} {maxL : Nat} {ret : Option FieldType} {hh : List (Nat × Nat × Nat × Nat)}
    (hy : plainName y.cls = true) (hw : ws = Cond.codeWith y cc maxL ret hh :: ws')
    (body : ∀ p e s m args below meth c s₁, BodyLoose p l y (headSpec ws rm) cc maxL ret e s m args below meth c s₁ → c.maxLocals = maxL → Pc args s →
      W p l e (headSpec ws rm).room s m args below meth c s.heap [] 0 0 (vx_MQ below Qc XC args s mc ms free) (entryFrame m args maxL)) : vx_Met l y ws rm Pc Qc XC mc ms free := by
  refine MetFree.of_bodyS (code := cc) (maxLocals := maxL) (ret := ret) hy ?_ ?_
  · intro args s m h hn
    obtain ⟨m9, meth, c, hn9, h1, h2, h3, h4, -, h5, h6, -⟩ := Cond.codeWith_spec (atoms_spec (ws := ws) h _ (by rw [hw]; exact List.mem_cons_self))
    cases hn.symm.trans hn9
    exact ⟨meth, c, h1, h2, h3, h4, h5, h6⟩
  · intro p e s m args below meth c s₁ B hml hP _
    have hh0 : s₁.heap = s.heap := by rw [B.state]; rfl
    obtain ⟨t, a1, o, b1, b2, b3⟩ := body p e s m args below meth c s₁ B hml hP s₁ hh0 (Stand.of_body B)
    exact ⟨t, o, a1, b1, b2, b3⟩
/-! ===== END ===== -/
/-! ===== BEGIN what the machine throws by itself, no traces kept ===== -/
section VXM
set_option maxHeartbeats 1000000 in
/-- the machine throws cls with the message text, no traces kept: from its note over the frame g to 'throwing' over the same frame (follows the proofs of Stand.vmThrowsMessage, Shelf/KitTracedVmS.lean, and Stand.throwsMessageColdBareV, StandMessageColdV.lean, without the step out of the frame) -/
theorem vx_vmAt {p : Program} {l : Launch} {e : Env} {R : Room} {s : State} {m₀ : MethodId} {args : Array Value} {below : List Frame} {meth : Method} {c : Code} {W : State} {locs : List Loc} {cells slots : Nat}
    (X : Stand p l e R s m₀ args below meth c W locs cells slots) (hexec : p.tables.exec = Jvm.exec) (htr : e.platform.stackTraces = false) {cls : String} {names : List String} {text : String}
    (hcls : Bundle.fit cls = true) (hnames : ∀ n ∈ names, Bundle.fit n = true) (hsoe : (cls == "java/lang/StackOverflowError") = false) (hoom : (cls == "java/lang/OutOfMemoryError") = false)
    (h : ∀ a ∈ Bundle.messageArmAtoms cls names, a.before args s = true)
    (hlocs : ∀ x ∈ locs, ∀ cell, s.heap[x.base]? = some cell → cell.vm.isStatics = false)
    (htext : (text == notModelled) = false) (hlimit : ¬ (stringBytes (stringToUtf16 text)).size > e.platform.arrayLengthLimit) (hheap : ¬ (stringBytes (stringToUtf16 text)).size * componentBytes .byte > e.platform.maxHeapBytes)
    {g : JFrame} (hg : g.method = m₀) (hsize : g.locals.size = c.maxLocals)
    (hRframes : names.length + 4 < R.frames) (hRlocals : 2 * g.monitorRoom + (g.stack.map fun v => v.category).sum + 10240 ≤ R.locals) (hshort : 13 * names.length + 55 ≤ 10240)
    (hRcells : cells + 3 ≤ R.cells) (hRslots : slots + ((stringBytes (stringToUtf16 text)).size + 4 + 6) ≤ R.slots) (hlocks : meth.locks = false) :
    ∃ (S : State) (q : Addr) (ce : Cell), (∀ target, Steps p.tables e below ((S.setTop g).pushFrame (.throwing q)) target → Steps p.tables e below ((W.setTop g).pushFrame (.throwNew cls (some text) none)) target) ∧
      Stand p l e R s m₀ args below meth c S locs (cells + 3) (slots + ((stringBytes (stringToUtf16 text)).size + 4 + 6)) ∧ S.heap[q]? = some ce ∧ s.vm.findClass cls = some ce.cls ∧ ce.vm = .none := by
  have howns : e.platform.frameOwnsMonitors = true := by rw [X.admits.platform]
  have hfin : e.platform.finalization = false := by rw [X.admits.platform]
  have hpl : e.platform.magicAccessors = ({} : Platform).magicAccessors := by rw [X.admits.platform]
  have a : ∀ x, x ∈ Bundle.messageArmAtoms cls names → x.holds args s none s [] = true := fun x hx => h x hx
  obtain ⟨T, Z0, L, -, Y⟩ := ThrowableC.of_atoms (args := args) howns hfin hpl (fun x hx => h x (by simp [Bundle.messageArmAtoms, hx]))
  obtain ⟨Z, M, LZ, LM, hnZ⟩ := Init0T.ofS_atoms (args := args) hpl L Y (fun x hx => h x (by simp [Bundle.messageArmAtoms, hx]))
  obtain ⟨P1, Ps, hlen, L1, hL, hP1m, hlink1, hlink⟩ := Bundle.chainS (args := args) hpl hnZ names cls hcls hnames (fun x hx => h x (by simp [Bundle.messageArmAtoms, hx]))
  obtain ⟨Zs, LZs, hn4, hfitv, hfitc⟩ := StringT.of_atoms (args := args) (fun x hx => h x (by simp [Bundle.messageArmAtoms, hx]))
  have hfound : s.vm.findClass cls = some P1.m.cls := findClass_of_methodNamed hP1m
  obtain ⟨c1, kX, hc1, hk, hord, -, -, hn6⟩ := Cond.instantiable_spec (a (.instantiable cls 6) (by simp [Bundle.messageArmAtoms]))
  cases Option.some.inj (hc1.symm.trans hfound)
  have hinit := Cond.initialized_spec hfound hk (a (.initialized cls) (by simp [Bundle.messageArmAtoms]))
  have hctor : kX.findMethod "<init>" "(Ljava/lang/String;)V" = some P1.m.idx := findMethod_of_methodNamed hP1m hk
  have hsel0 : selectMethod e.platform s.vm P1.m.cls T.fill0 = .method T.fill0 := by
    obtain ⟨c2, r2, m2, q1, q2, q3, q4, -⟩ := Cond.selects_spec (a (.selects cls Bundle.tFill0 Bundle.tFill0) (by simp [Bundle.messageArmAtoms]))
    cases Option.some.inj (q1.symm.trans hfound)
    cases Option.some.inj (q2.symm.trans (State.methodFound?_of_named Y.fill0 (by decide)))
    cases Option.some.inj (q3.symm.trans Y.fill0)
    rw [Launch.admits_selectMethod X.admits]; exact q4
  have hselF : selectMethod e.platform s.vm P1.m.cls T.fill = .method T.fill := by
    obtain ⟨c2, r2, m2, q1, q2, q3, q4, -⟩ := Cond.selects_spec (a (.selects cls Bundle.tFill Bundle.tFill) (by simp [Bundle.messageArmAtoms]))
    cases Option.some.inj (q1.symm.trans hfound)
    cases Option.some.inj (q2.symm.trans (State.methodFound?_of_named Y.fill (by decide)))
    cases Option.some.inj (q3.symm.trans Y.fill)
    rw [Launch.admits_selectMethod X.admits]; exact q4
  obtain ⟨cellS0, hcS0, hiss⟩ := Y.statics
  obtain ⟨u0, hu0⟩ := Cond.staticRefV Y.unassigned L.unassignedStatic L.statics hcS0 hiss (a (.isRef (.static Bundle.tN "UNASSIGNED_STACK" Bundle.steD)) (by simp [Bundle.messageArmAtoms]))
  obtain ⟨sen, hsen⟩ := Cond.staticRefV Y.sentinel L.sentinelStatic L.statics hcS0 hiss (a (.isRef (.static Bundle.tN "SUPPRESSED_SENTINEL" Bundle.listD)) (by simp [Bundle.messageArmAtoms]))
  obtain ⟨ci198, i198, fB, hk198, hg198, ha198, hsB, -, hnB, htB, hffB⟩ := Cond.ownField (t := .object "java/lang/Object") Y.found L.cls (by decide +kernel) (a (.fieldLink Bundle.tN 198 Bundle.tN "backtrace" "Ljava/lang/Object;") (by simp [Bundle.messageArmAtoms])) (a (.lays Bundle.tN Bundle.tN "backtrace" "Ljava/lang/Object;") (by simp [Bundle.messageArmAtoms])) e.platform hpl
  obtain ⟨cellS, hcS', heS, -, hkeep⟩ := X.same.2.2.2.2.2 T.aS cellS0 hcS0
  have hcellS : W.heap[T.aS]? = some cellS := hcS'
  have hout' : ∀ i, (⟨T.aS, i⟩ : Loc) ∉ locs := fun i hmem => by
    have := hlocs _ hmem cellS0 hcS0
    rw [hiss] at this; cases this
  have hknownS : cellS.vm ≠ .unknown := by
    rw [heS]; intro hu
    rw [show cellS0.vm = .unknown from hu] at hiss
    cases hiss
  have hvU : cellS.slots[T.fUnassigned.slot]? = some u0.v := by rw [hkeep _ (hout' _)]; exact hu0
  have hvSen : cellS.slots[T.fSentinel.slot]? = some sen.v := by rw [hkeep _ (hout' _)]; exact hsen
  obtain ⟨iM, hffM⟩ := Y.msg
  obtain ⟨tyC, dC, hdC, hdnC⟩ := Cond.laysAt hfound hk Y.cause (a (.lays cls Bundle.tN "cause" "Ljava/lang/Throwable;") (by simp [Bundle.messageArmAtoms]))
  obtain ⟨tyS, dS, hdS, hdnS⟩ := Cond.laysAt hfound hk Y.stack (a (.lays cls Bundle.tN "stackTrace" Bundle.steD) (by simp [Bundle.messageArmAtoms]))
  obtain ⟨tyP, dP, hdP, hdnP⟩ := Cond.laysAt hfound hk Y.supp (a (.lays cls Bundle.tN "suppressedExceptions" Bundle.listD) (by simp [Bundle.messageArmAtoms]))
  obtain ⟨tyM, dM, hdM, hdnM⟩ := Cond.laysAt hfound hk hffM (a (.lays cls Bundle.tN "detailMessage" "Ljava/lang/String;") (by simp [Bundle.messageArmAtoms]))
  obtain ⟨tyB, dB, hdB, hdnB⟩ := Cond.laysAt hfound hk hffB (a (.lays cls Bundle.tN "backtrace" "Ljava/lang/Object;") (by simp [Bundle.messageArmAtoms]))
  have bC := Cond.laysApart hdB hdC hdnB hdnC (by rw [hnB, Y.causeName]; decide)
  have bS := Cond.laysApart hdB hdS hdnB hdnS (by rw [hnB, Y.stackName]; decide)
  have bP := Cond.laysApart hdB hdP hdnB hdnP (by rw [hnB, Y.suppName]; decide)
  have hbk : ((preparedCellV T.toThrowableT (freshCell P1.m.cls kX) (W.heap.size + 2) u0 sen).withEntry W.cur).slots[fB.slot]? = some .null := by
    have := fresh_default (c := P1.m.cls) tyB
    rw [htB] at this
    simpa [preparedCellV, Cell.setSlot, Cell.withEntry, Array.getElem?_setIfInBounds, bC, bS, bP, bC.symm, bS.symm, bP.symm, defaultValue] using this
  have tkC := Takes.of_laid (v := .ref (W.heap.size + 2)) hk hord tyC (by rw [Y.causeType]; rfl)
  have tkS := Takes.of_laid (v := u0.v) hk hord tyS (by rw [Y.stackType]; exact fits_refV_array _ u0)
  have tkP := Takes.of_laid (v := sen.v) hk hord tyP (by rw [Y.suppType]; exact fits_refV_object _ sen)
  have tkM := Takes.of_laid (v := .ref (W.heap.size + 1)) hk hord tyM (by rw [Y.msgType]; rfl)
  have hskip : SkipFacts T e.platform s (fun u => u) u0 ((preparedCellV T.toThrowableT (freshCell P1.m.cls kX) (W.heap.size + 2) u0 sen).withEntry W.cur) := ⟨{ ci198 := ci198, i198 := i198, fBack := fB }, ⟨hk198, hg198, ha198, hsB⟩, hbk, fun _ _ => rfl⟩
  have h0 : At W g.method c below := by rw [hg]; exact X.here
  obtain ⟨hbeyond, hfreeW⟩ := X.vmMayThrow hsize (.throwNew cls (some text) none) (fun f hf => by cases hf) rfl hRlocals
  have hfr' : W.frames.length + Ps.length + 4 < (e.platform.stackLimits W.me).1 := by have := X.framesAbove hRframes; omega
  have hwd' : (stackUse (.java g :: W.frames.tail)).2 + 13 * Ps.length + 55 ≤ (e.platform.stackLimits W.me).2 := by have := X.stackAbove hsize (K := 13 * Ps.length + 55) (by omega); omega
  have hslots : W.slotsUsed + (stringBytes (stringToUtf16 text)).size + Zs.kS.instanceTypes.size + kX.instanceTypes.size ≤ e.platform.maxSlots := by
    have := X.slotsAbove hRslots
    rw [hn4, hn6]
    omega
  obtain ⟨vm', hW', st⟩ := Steps.vmThrowsMessageColdByV p (s₀ := s) (S := W) (g := g) h0 hexec T L Z LZ M LM X.warmed (t := W.cur) rfl Zs LZs P1 L1 Ps hL hlink1 hlink hsoe hoom hfound hk hinit hord hctor
    (Launch.admits_hotImplicitExceptions X.admits) hbeyond hfreeW htext hlimit hheap (X.cellsAbove hRcells) hslots (hfitv _) (hfitc _)
    (Nn := fun u => u) heapOnly_id (fun _ _ => rfl) (fun _ => rfl) (fun u x y => setCell_twice _ _ _ _) (fun _ => Nat.le_refl _) (cN := ((preparedCellV T.toThrowableT (freshCell P1.m.cls kX) (W.heap.size + 2) u0 sen).withEntry W.cur))
    hsel0 hcellS hknownS hvU tkS (fun _ hu => hu) (fun _ hu => hu) rfl rfl rfl (by simp [preparedCellV, Cell.setSlot, Cell.withEntry]) hskip (fun _ _ hA hW _ hroom _ hrest => L.nativeOff p htr hA hW hroom hrest) hselF hvSen tkC tkP tkM Y.objLocals rfl hfr' hwd'
  rw [plainBareV_eq T.toThrowableT (W.heap.size + 2) u0 sen (.ref (W.heap.size + 1)) W.cur rfl rfl] at st
  obtain ⟨-, -, w3, w4, -, -, -⟩ := withThrown_facts e.platform W Zs text P1.m.cls kX
  have X3 := ((X.pushed (bytesOf Zs.cB (stringToUtf16 text))).pushed (stringAt Zs.cS Zs.kS Zs.fv Zs.fc (stringToUtf16 text) W.heap.size)).pushed (freshCell P1.m.cls kX)
  rw [← withString_eq] at X3
  have X4 := X3.noted hW'
  have ha : (W.heap.size + 2) < ((withThrown W Zs text P1.m.cls kX).setVm vm').heap.size := by show _ < (withThrown W Zs text P1.m.cls kX).heap.size; rw [w3]; omega
  have hcell : ((withThrown W Zs text P1.m.cls kX).setVm vm').heap[(W.heap.size + 2)]? = some (freshCell P1.m.cls kX) := w4
  have X5 := ((((X4.stored hcell T.fCause.slot (.ref (W.heap.size + 2))).storedAgain ha T.fStack.slot u0.v).storedAgain ha T.fSupp.slot sen.v).storedAgain ha T.fStack.slot u0.v).storedAgain ha T.fMsg.slot (.ref (W.heap.size + 1))
  obtain ⟨g₁, hfrM⟩ := X5.frames_eq
  have hU : ((((withThrown W Zs text P1.m.cls kX).setVm vm').setCell (W.heap.size + 2) (plainBareV T.toThrowableT (freshCell P1.m.cls kX) (W.heap.size + 2) u0 sen (.ref (W.heap.size + 1)))).setTop g).pushFrame (.throwing (W.heap.size + 2)) = (((withThrown W Zs text P1.m.cls kX).setVm vm').setCell (W.heap.size + 2) (plainBareV T.toThrowableT (freshCell P1.m.cls kX) (W.heap.size + 2) u0 sen (.ref (W.heap.size + 1)))).setFrames (.throwing (W.heap.size + 2) :: .java g :: below) := by
    rw [State.pushFrame, State.frames_setTop _ hfrM, State.setTop_of_frames _ hfrM, State.setFrames_setFrames]
  have b1 : (bytesOf Zs.cB (stringToUtf16 text)).slots.size = (stringBytes (stringToUtf16 text)).size := by
    rw [(Cell.writeAll_facts _ _).2.2]; simp [bytes0]
  have b2 : (stringAt Zs.cS Zs.kS Zs.fv Zs.fc (stringToUtf16 text) W.heap.size).slots.size = 4 := by simp [string0, Cell.setSlot, hn4]
  have b3 : (freshCell P1.m.cls kX).slots.size = 6 := by simp [hn6]
  rw [b1, b2, b3] at X5
  have e9 : slots + (stringBytes (stringToUtf16 text)).size + 4 + 6 = slots + ((stringBytes (stringToUtf16 text)).size + 4 + 6) := by omega
  rw [e9] at X5
  simp only [List.append_assoc, List.cons_append, List.nil_append] at X5
  refine ⟨((withThrown W Zs text P1.m.cls kX).setVm vm').setCell (W.heap.size + 2) (plainBareV T.toThrowableT (freshCell P1.m.cls kX) (W.heap.size + 2) u0 sen (.ref (W.heap.size + 1))), W.heap.size + 2, _, fun target ht => st _ (by rw [X.tail, ← hU]; exact ht),
    X5.forget (fun y hy => ?_), heapAt_setCell_self _ ha, hfound, rfl⟩
  simp only [List.mem_cons, List.not_mem_nil, or_false] at hy
  have hge : s.heap.size ≤ W.heap.size := X.same.2.1
  rcases hy with rfl | rfl | rfl | rfl | rfl <;> exact Nat.le_trans hge (Nat.le_add_right _ 2)
set_option maxHeartbeats 1000000 in
/-- the machine throws NullPointerException, no traces kept: from its note over the frame g to 'throwing' over the same frame (follows the proof of Stand.vmThrowsNpe, Shelf42/KT2.lean; throwsNpeColdBareVAt, Shelf42/NT91.lean, called) -/
theorem vx_npeAt {p : Program} {l : Launch} {e : Env} {R : Room} {s : State} {m₀ : MethodId} {args : Array Value} {below : List Frame} {meth : Method} {c : Code} {W : State} {locs : List Loc} {cells slots : Nat}
    (X : Stand p l e R s m₀ args below meth c W locs cells slots) (hexec : p.tables.exec = Jvm.exec) (htr : e.platform.stackTraces = false) {n : Nat}
    (h : ∀ a ∈ Bundle.npeArmAtoms n, a.before args s = true)
    (hlocs : ∀ x ∈ locs, ∀ cell, s.heap[x.base]? = some cell → cell.vm.isStatics = false)
    {g : JFrame} (hg : g.method = m₀) (hsize : g.locals.size = c.maxLocals)
    (hRframes : 7 < R.frames) (hRlocals : 2 * g.monitorRoom + (g.stack.map fun v => v.category).sum + 10240 ≤ R.locals)
    (hRcells : cells + 1 ≤ R.cells) (hRslots : slots + n ≤ R.slots) (hlocks : meth.locks = false) :
    ∃ (S : State) (q : Addr) (ce : Cell), (∀ target, Steps p.tables e below ((S.setTop g).pushFrame (.throwing q)) target → Steps p.tables e below ((W.setTop g).pushFrame (.throwNew "java/lang/NullPointerException" none none)) target) ∧
      Stand p l e R s m₀ args below meth c S locs (cells + 1) (slots + n) ∧ S.heap[q]? = some ce ∧ s.vm.findClass "java/lang/NullPointerException" = some ce.cls ∧ ce.vm = .none := by
  have howns : e.platform.frameOwnsMonitors = true := by rw [X.admits.platform]
  have hfin : e.platform.finalization = false := by rw [X.admits.platform]
  have hpl : e.platform.magicAccessors = ({} : Platform).magicAccessors := by rw [X.admits.platform]
  have hpl2 : e.platform.arrayCloneIsPublic = true := by rw [X.admits.platform]
  have a' : ∀ x, x ∈ Bundle.npeArmAtoms n → x.holds args s none s [] = true := fun x hx => h x hx
  obtain ⟨T, Z, L, LZ, Y⟩ := ThrowableC.of_atoms (args := args) howns hfin hpl (fun x hx => h x (by simp [Bundle.npeArmAtoms, hx]))
  obtain ⟨N, LN, hcN, hnNF, hordN, hffS⟩ := NpeC.of_atoms (args := args) hpl hpl2 L Y (fun x hx => h x (by simp [Bundle.npeArmAtoms, hx]))
  obtain ⟨P1, L1, hP1m, hP1s⟩ := PassC.of_atoms (args := args) (s := s) hpl (X := Bundle.nN) (Y := Bundle.rN) (by decide) (by decide) LibCode.NullPointerException.Init0.at_0 LibCode.NullPointerException.Init0.at_1 LibCode.NullPointerException.Init0.at_4 (fun x hx => h x (by simp [Bundle.npeArmAtoms, hx]))
  obtain ⟨PR, LR, hPRm, hPRs⟩ := PassC.of_atoms (args := args) (s := s) hpl (X := Bundle.rN) (Y := Bundle.eN) (by decide) (by decide) LibCode.RuntimeException.Init0.at_0 LibCode.RuntimeException.Init0.at_1 LibCode.RuntimeException.Init0.at_4 (fun x hx => h x (by simp [Bundle.npeArmAtoms, hx]))
  obtain ⟨PE, LEx, hPEm, hPEs⟩ := PassC.of_atoms (args := args) (s := s) hpl (X := Bundle.eN) (Y := Bundle.tN) (by decide) (by decide) LibCode.Exception.Init0.at_0 LibCode.Exception.Init0.at_1 LibCode.Exception.Init0.at_4 (fun x hx => h x (by simp [Bundle.npeArmAtoms, hx]))
  have hfound : s.vm.findClass Bundle.nN = some P1.m.cls := findClass_of_methodNamed hP1m
  have ecls : N.cN = P1.m.cls := Option.some.inj (hcN.symm.trans hfound)
  have hk : s.vm.classes[P1.m.cls]? = some N.kN := by rw [← ecls]; exact LN.cls
  have hinit := Cond.initialized_spec hfound hk (a' (.initialized Bundle.nN) (by simp [Bundle.npeArmAtoms]))
  have hctor : N.kN.findMethod "<init>" "()V" = some P1.m.idx := findMethod_of_methodNamed hP1m hk
  obtain ⟨c1, k1, hc1, hk1, -, -, -, hn⟩ := Cond.instantiable_spec (a' (.instantiable Bundle.nN n) (by simp [Bundle.npeArmAtoms]))
  cases Option.some.inj (hc1.symm.trans hfound)
  cases Option.some.inj (hk1.symm.trans hk)
  have hfsz : (freshCell P1.m.cls N.kN).slots.size = n := by simp [hn]
  have hlink1 : P1.sup = PR.m := Option.some.inj (hP1s.symm.trans hPRm)
  have hlinkR : PR.sup = PE.m := Option.some.inj (hPRs.symm.trans hPEm)
  have hlinkE : PE.sup = Z.m T.toThrowableT := Option.some.inj (hPEs.symm.trans Y.init0)
  have hLs : ∀ P, P ∈ [PR, PE] → P.Links0 e.platform s := fun P hP => by
    simp only [List.mem_cons, List.not_mem_nil, or_false] at hP
    rcases hP with rfl | rfl
    · exact LR
    · exact LEx
  have hsel0 : selectMethod e.platform s.vm P1.m.cls T.fill0 = .method T.fill0 := by
    obtain ⟨c2, r2, m2, q1, q2, q3, q4, -⟩ := Cond.selects_spec (a' (.selects Bundle.nN Bundle.tFill0 Bundle.tFill0) (by simp [Bundle.npeArmAtoms]))
    cases Option.some.inj (q1.symm.trans hfound)
    cases Option.some.inj (q2.symm.trans (State.methodFound?_of_named Y.fill0 (by decide)))
    cases Option.some.inj (q3.symm.trans Y.fill0)
    rw [Launch.admits_selectMethod X.admits]; exact q4
  have hselF : selectMethod e.platform s.vm P1.m.cls T.fill = .method N.fill := by
    obtain ⟨c2, r2, m2, q1, q2, q3, q4, -⟩ := Cond.selects_spec (a' (.selects Bundle.nN Bundle.tFill Bundle.nFill) (by simp [Bundle.npeArmAtoms]))
    cases Option.some.inj (q1.symm.trans hfound)
    cases Option.some.inj (q2.symm.trans (State.methodFound?_of_named Y.fill (by decide)))
    cases Option.some.inj (q3.symm.trans hnNF)
    rw [Launch.admits_selectMethod X.admits]; exact q4
  obtain ⟨cellS0, hcS0, hiss⟩ := Y.statics
  obtain ⟨u0, hu0⟩ := Cond.staticRefV Y.unassigned L.unassignedStatic L.statics hcS0 hiss (a' (.isRef (.static Bundle.tN "UNASSIGNED_STACK" Bundle.steD)) (by simp [Bundle.npeArmAtoms]))
  obtain ⟨sen, hsen⟩ := Cond.staticRefV Y.sentinel L.sentinelStatic L.statics hcS0 hiss (a' (.isRef (.static Bundle.tN "SUPPRESSED_SENTINEL" Bundle.listD)) (by simp [Bundle.npeArmAtoms]))
  obtain ⟨ci198, i198, fB, hk198, hg198, ha198, hsB, -, hnB, htB, hffB⟩ := Cond.ownField (t := .object "java/lang/Object") Y.found L.cls (by decide +kernel) (a' (.fieldLink Bundle.tN 198 Bundle.tN "backtrace" Bundle.objD) (by simp [Bundle.npeArmAtoms])) (a' (.lays Bundle.tN Bundle.tN "backtrace" Bundle.objD) (by simp [Bundle.npeArmAtoms])) e.platform hpl
  obtain ⟨cellS, hcS', heS, -, hkeep⟩ := X.same.2.2.2.2.2 T.aS cellS0 hcS0
  have hcellS : W.heap[T.aS]? = some cellS := hcS'
  have hout' : ∀ i, (⟨T.aS, i⟩ : Loc) ∉ locs := fun i hmem => by
    have := hlocs _ hmem cellS0 hcS0
    rw [hiss] at this; cases this
  have hknownS : cellS.vm ≠ .unknown := by
    rw [heS]; intro hu
    rw [show cellS0.vm = .unknown from hu] at hiss
    cases hiss
  have hvU : cellS.slots[T.fUnassigned.slot]? = some u0.v := by rw [hkeep _ (hout' _)]; exact hu0
  have hvSen : cellS.slots[T.fSentinel.slot]? = some sen.v := by rw [hkeep _ (hout' _)]; exact hsen
  obtain ⟨tyC, dC, hdC, hdnC⟩ := Cond.laysAt hfound hk Y.cause (a' (.lays Bundle.nN Bundle.tN "cause" "Ljava/lang/Throwable;") (by simp [Bundle.npeArmAtoms]))
  obtain ⟨tyS, dS, hdS, hdnS⟩ := Cond.laysAt hfound hk Y.stack (a' (.lays Bundle.nN Bundle.tN "stackTrace" Bundle.steD) (by simp [Bundle.npeArmAtoms]))
  obtain ⟨tyP, dP, hdP, hdnP⟩ := Cond.laysAt hfound hk Y.supp (a' (.lays Bundle.nN Bundle.tN "suppressedExceptions" Bundle.listD) (by simp [Bundle.npeArmAtoms]))
  obtain ⟨tyX, dX, hdX, hdnX⟩ := Cond.laysAt hfound hk hffS (a' (.lays Bundle.nN Bundle.nN "extendedMessageState" "I") (by simp [Bundle.npeArmAtoms, Bundle.npeAtoms]))
  obtain ⟨hnX, htX⟩ := State.fieldFound?_type hffS (t := .int) (by decide +kernel)
  have xC := Cond.laysApart hdC hdX hdnC hdnX (by rw [hnX, Y.causeName]; decide)
  have xS := Cond.laysApart hdS hdX hdnS hdnX (by rw [hnX, Y.stackName]; decide)
  have xP := Cond.laysApart hdP hdX hdnP hdnX (by rw [hnX, Y.suppName]; decide)
  have hv0 : (freshCell P1.m.cls N.kN).slots[N.fState.slot]? = some (.int 0) := by
    have := fresh_default (c := P1.m.cls) tyX
    rw [htX] at this; exact this
  obtain ⟨tyB, dB, hdB, hdnB⟩ := Cond.laysAt hfound hk hffB (a' (.lays Bundle.nN Bundle.tN "backtrace" Bundle.objD) (by simp [Bundle.npeArmAtoms]))
  have bC := Cond.laysApart hdB hdC hdnB hdnC (by rw [hnB, Y.causeName]; decide)
  have bS := Cond.laysApart hdB hdS hdnB hdnS (by rw [hnB, Y.stackName]; decide)
  have bP := Cond.laysApart hdB hdP hdnB hdnP (by rw [hnB, Y.suppName]; decide)
  have bX := Cond.laysApart hdB hdX hdnB hdnX (by rw [hnB, hnX]; decide)
  have hbk : ((npeCell N.toNpeT (preparedCellV T.toThrowableT (freshCell P1.m.cls N.kN) W.heap.size u0 sen) W.cur).withEntry W.cur).slots[fB.slot]? = some .null := by
    have := fresh_default (c := P1.m.cls) tyB
    rw [htB] at this
    simpa [npeCell, preparedCellV, Cell.setSlot, Cell.withEntry, Array.getElem?_setIfInBounds, bC, bS, bP, bX, bC.symm, bS.symm, bP.symm, bX.symm, defaultValue] using this
  have tkC := Takes.of_laid (v := .ref W.heap.size) hk hordN tyC (by rw [Y.causeType]; rfl)
  have tkS := Takes.of_laid (v := u0.v) hk hordN tyS (by rw [Y.stackType]; exact fits_refV_array _ u0)
  have tkP := Takes.of_laid (v := sen.v) hk hordN tyP (by rw [Y.suppType]; exact fits_refV_object _ sen)
  have tkX := Takes.of_laid (v := .int 1) hk hordN tyX (by rw [htX]; rfl)
  have hskip : SkipFacts T e.platform s (fun u => u) u0 ((npeCell N.toNpeT (preparedCellV T.toThrowableT (freshCell P1.m.cls N.kN) W.heap.size u0 sen) W.cur).withEntry W.cur) := ⟨{ ci198 := ci198, i198 := i198, fBack := fB }, ⟨hk198, hg198, ha198, hsB⟩, hbk, fun _ _ => rfl⟩
  obtain ⟨vm', X3, st, -⟩ := X.throwsNpeColdBareVAt hexec hg hsize T L Z LZ N LN P1 L1 [PR, PE] hLs hlink1 ⟨hlinkR, hlinkE, trivial⟩ hfound hk hinit hordN hctor hsel0 hselF hcellS hknownS hvU hvSen
    hv0 xC xS xP tkC tkS tkP tkX Y.objLocals hskip (fun _ _ hA hW _ hroom _ hrest => L.nativeOff p htr hA hW hroom hrest) (by simpa using hRframes) hRlocals (by simp) hRcells (by rw [hn]; exact hRslots)
  have hlt : W.heap.size < ((W.pushCell (freshCell P1.m.cls N.kN)).setVm vm').heap.size := by
    show W.heap.size < (W.pushCell (freshCell P1.m.cls N.kN)).heap.size
    rw [State.heap_size_pushCell]; omega
  rw [hfsz] at X3
  obtain ⟨g₁, hfrM⟩ := X3.frames_eq
  have hU : ((((W.pushCell (freshCell P1.m.cls N.kN)).setVm vm').setCell W.heap.size (npeBareV T.toThrowableT N.toNpeT (freshCell P1.m.cls N.kN) W.heap.size u0 sen)).setTop g).pushFrame (.throwing W.heap.size) = (((W.pushCell (freshCell P1.m.cls N.kN)).setVm vm').setCell W.heap.size (npeBareV T.toThrowableT N.toNpeT (freshCell P1.m.cls N.kN) W.heap.size u0 sen)).setFrames (.throwing W.heap.size :: .java g :: below) := by
    rw [State.pushFrame, State.frames_setTop _ hfrM, State.setTop_of_frames _ hfrM, State.setFrames_setFrames]
  refine ⟨_, W.heap.size, _, fun target ht => st.trans (by rw [← hU]; exact ht), X3.forget (fun y hy => ?_), heapAt_setCell_self _ hlt, hfound, rfl⟩
  simp only [List.mem_cons, List.not_mem_nil, or_false] at hy
  have hge : s.heap.size ≤ W.heap.size := X.same.2.1
  rcases hy with rfl | rfl | rfl | rfl | rfl <;> exact hge
/-- the words of a machine's NullPointerException, but the four that speak of the heap -/
def vx_atN (n : Nat) : List Cond := (Bundle.npeArmAtoms n).filter vx_no
/-- the words of a machine's throw with a message, but the four that speak of the heap -/
def vx_atM (X : String) (names : List String) : List Cond := (Bundle.messageArmAtoms X names).filter vx_no
section
variable {p : Program} {l : Launch} {e : Env} {R : Room} {s : State} {m : MethodId} {args : Array Value} {below : List Frame} {meth : Method} {c : Code} {H : Heap} {locs : List Loc} {cells slots : Nat}
/-- a frame seen from a rebased start, seen from the first start again -/
theorem vx_back9 {T S : State} {R' : Room} {k n : Nat} (X : Stand p l e R s m args below meth c T locs cells slots) (Y : Stand p l e R' ((T.setVm s.vm).setFrames (.invoking m args :: below)) m args below meth c T [] 0 0) (Z : Stand p l e R' ((T.setVm s.vm).setFrames (.invoking m args :: below)) m args below meth c S [] k n) :
    Stand p l e R s m args below meth c S locs (cells + k) (slots + n) := by
  have hW0 : s.WarmedH ((T.setVm s.vm).setFrames (.invoking m args :: below)).vm := State.WarmedH.refl s
  refine { admits := X.admits, cas := X.cas, clock := X.clock, frames := X.frames, room := X.room, hears := X.hears, method := X.method, code := X.code, here := Z.here, tail := Z.tail, warmed := State.WarmedH.trans hW0 Z.warmed, limits := Z.limits.trans (Y.limits.symm.trans X.limits), bytes := Z.bytes.trans (Y.bytes.symm.trans X.bytes), same := ?_ }
  obtain ⟨e1, e2⟩ := Z.same
  rw [State.setFrames_setFrames] at e1
  have h2 : (T.setVm s.vm).sameButNew (S.setVm s.vm) [] k n := ⟨e1, e2⟩
  have h3 := X.same.trans h2
  rw [List.append_nil] at h3
  exact h3
/-- from the machine's note that E is thrown here with this text -/
def vx_Note (p : Program) (l : Launch) (e : Env) (R : Room) (s : State) (m : MethodId) (args : Array Value) (below : List Frame) (meth : Method) (c : Code) (H : Heap) (locs : List Loc) (cells slots : Nat) (Q : State → Prop) (g : JFrame) (E text : String) : Prop :=
  ∀ T : State, T.heap = H → Stand p l e R s m args below meth c T locs cells slots → ∃ t, Steps p.tables e below ((T.setTop g).pushFrame (.throwNew E (some text) none)) t ∧ Q t
theorem vx_vm {pc : Nat} {ls : Array Slot} {rest : List Value} {Q : State → Prop} (hexec : p.tables.exec = Jvm.exec) (hl : l.stackTraces = false) {cls text : String} {names : List String} {nb : Nat} {A : Nat → Prop}
    (hcls : Bundle.fit cls = true) (hnames : ∀ n ∈ names, Bundle.fit n = true) (hsoe : (cls == "java/lang/StackOverflowError") = false) (hoom : (cls == "java/lang/OutOfMemoryError") = false)
    (hat : ∀ w ∈ vx_atM cls names, w.before args s = true) (hgood : ∀ w ∈ vx_atM cls names, vx_ot w = true)
    (hU : vx_Zq Bundle.tN "UNASSIGNED_STACK" Bundle.steD A s s.heap) (hN : vx_Zq Bundle.tN "SUPPRESSED_SENTINEL" Bundle.listD A s s.heap) (hS : va_S A s.heap H locs) (hsize : ls.size = c.maxLocals)
    (htext : (text == notModelled) = false) (hnb : (stringBytes (stringToUtf16 text)).size ≤ nb) (hnb1 : nb ≤ 1000)
    (hRframes : names.length + 4 < R.frames) (hRlocals : (rest.map fun v => v.category).sum + 10240 ≤ R.locals) (hshort : 13 * names.length + 55 ≤ 10240) (hRcells : cells + 3 ≤ R.cells) (hRslots : slots + (nb + 10) ≤ R.slots) (hlocks : meth.locks = false)
    (k : ∀ (H1 : Heap) (q9 : Addr) (ce : Cell), H.size ≤ H1.size → (∀ q : Nat, q < H.size → H1[q]? = H[q]?) → va_S A s.heap H1 locs → H1[q9]? = some ce → ce.vm = .none → s.vm.findClass cls = some ce.cls → vx_W p l e R s m args below meth c H1 locs (cells + 3) (slots + (nb + 10)) Q (F0 m pc ls rest) q9) :
    vx_Note p l e R s m args below meth c H locs cells slots Q (F0 m pc ls rest) cls text := by
  intro T hT X
  have htr : e.platform.stackTraces = false := (show e.platform.stackTraces = l.stackTraces by rw [X.admits.platform]).trans hl
  have Y := vx_rebase X (R' := { frames := R.frames, locals := R.locals, cells := 3, slots := nb + 10 }) (Nat.le_refl _) (Nat.le_refl _) hRcells hRslots
  have hhp : ((T.setVm s.vm).setFrames (.invoking m args :: below)).heap = H := hT
  have hW0 : s.WarmedH ((T.setVm s.vm).setFrames (.invoking m args :: below)).vm := State.WarmedH.refl s
  have hat' : ∀ w ∈ vx_atM cls names, w.before args ((T.setVm s.vm).setFrames (.invoking m args :: below)) = true := fun w hw => vx_ot_at hW0 rfl (hgood w hw) (hat w hw)
  have hU' : vx_Zq Bundle.tN "UNASSIGNED_STACK" Bundle.steD A ((T.setVm s.vm).setFrames (.invoking m args :: below)) ((T.setVm s.vm).setFrames (.invoking m args :: below)).heap := by rw [hhp]; exact vx_Zq.moved hW0.alike (hU.kept hS.2.1)
  have hN' : vx_Zq Bundle.tN "SUPPRESSED_SENTINEL" Bundle.listD A ((T.setVm s.vm).setFrames (.invoking m args :: below)) ((T.setVm s.vm).setFrames (.invoking m args :: below)).heap := by rw [hhp]; exact vx_Zq.moved hW0.alike (hN.kept hS.2.1)
  obtain ⟨S, q, ce, st, Z, hce, hcl', hv⟩ := vx_vmAt Y hexec htr (cls := cls) (names := names) (text := text) hcls hnames hsoe hoom (vx_own hat' (vx_isRefq hU'.1) (vx_isRefq hN'.1) hU'.2.word hN'.2.word) (fun x hx => nomatch hx) htext
    (by rw [Launch.admits_arrayLengthLimit X.admits]; omega) (by rw [Launch.admits_maxHeapBytes X.admits]; simp only [componentBytes]; omega)
    (g := F0 m pc ls rest) rfl hsize hRframes (by show 2 * 0 + (rest.map fun v => v.category).sum + 10240 ≤ R.locals; omega) hshort (by show 0 + 3 ≤ 3; omega) (by show 0 + (_ + 4 + 6) ≤ nb + 10; omega) hlocks
  obtain ⟨f1, f2⟩ := vx_frame Z.same
  have f1' : H.size ≤ S.heap.size := by rw [← hT]; exact f1
  have f2' : ∀ q : Nat, q < H.size → S.heap[q]? = H[q]? := fun q hq => by
    rw [← hT]
    exact f2 q (by rw [← hT] at hq; exact hq) (fun z hz => nomatch hz)
  have X5 := vx_back9 X Y Z
  have X6 : Stand p l e R s m args below meth c S locs (cells + 3) (slots + (nb + 10)) := { X5 with same := X5.same.mono (by omega) (by omega) }
  obtain ⟨t, a1, b1⟩ := k S.heap q ce f1' f2' ⟨Nat.le_trans hS.1 f1', fun q h1 h2 => (f2' q (Nat.lt_of_lt_of_le h1 hS.1)).trans (hS.2.1 q h1 h2), hS.2.2⟩ hce hv hcl' S rfl X6
  exact ⟨t, st t a1, b1⟩
/-- from the machine's note that NullPointerException is thrown here -/
def vx_NoteN (p : Program) (l : Launch) (e : Env) (R : Room) (s : State) (m : MethodId) (args : Array Value) (below : List Frame) (meth : Method) (c : Code) (H : Heap) (locs : List Loc) (cells slots : Nat) (Q : State → Prop) (g : JFrame) : Prop :=
  ∀ T : State, T.heap = H → Stand p l e R s m args below meth c T locs cells slots → ∃ t, Steps p.tables e below ((T.setTop g).pushFrame (.throwNew "java/lang/NullPointerException" none none)) t ∧ Q t
theorem vx_npe {pc : Nat} {ls : Array Slot} {rest : List Value} {Q : State → Prop} (hexec : p.tables.exec = Jvm.exec) (hl : l.stackTraces = false) {nb : Nat} {A : Nat → Prop}
    (hat : ∀ w ∈ vx_atN nb, w.before args s = true) (hgood : ∀ w ∈ vx_atN nb, vx_ot w = true)
    (hU : vx_Zq Bundle.tN "UNASSIGNED_STACK" Bundle.steD A s s.heap) (hN : vx_Zq Bundle.tN "SUPPRESSED_SENTINEL" Bundle.listD A s s.heap) (hS : va_S A s.heap H locs) (hsize : ls.size = c.maxLocals)
    (hRframes : 7 < R.frames) (hRlocals : (rest.map fun v => v.category).sum + 10240 ≤ R.locals) (hRcells : cells + 1 ≤ R.cells) (hRslots : slots + nb ≤ R.slots) (hlocks : meth.locks = false)
    (k : ∀ (H1 : Heap) (q9 : Addr) (ce : Cell), H.size ≤ H1.size → (∀ q : Nat, q < H.size → H1[q]? = H[q]?) → va_S A s.heap H1 locs → H1[q9]? = some ce → ce.vm = .none → s.vm.findClass "java/lang/NullPointerException" = some ce.cls → vx_W p l e R s m args below meth c H1 locs (cells + 1) (slots + nb) Q (F0 m pc ls rest) q9) :
    vx_NoteN p l e R s m args below meth c H locs cells slots Q (F0 m pc ls rest) := by
  intro T hT X
  have htr : e.platform.stackTraces = false := (show e.platform.stackTraces = l.stackTraces by rw [X.admits.platform]).trans hl
  have Y := vx_rebase X (R' := { frames := R.frames, locals := R.locals, cells := 1, slots := nb }) (Nat.le_refl _) (Nat.le_refl _) hRcells hRslots
  have hhp : ((T.setVm s.vm).setFrames (.invoking m args :: below)).heap = H := hT
  have hW0 : s.WarmedH ((T.setVm s.vm).setFrames (.invoking m args :: below)).vm := State.WarmedH.refl s
  have hat' : ∀ w ∈ vx_atN nb, w.before args ((T.setVm s.vm).setFrames (.invoking m args :: below)) = true := fun w hw => vx_ot_at hW0 rfl (hgood w hw) (hat w hw)
  have hU' : vx_Zq Bundle.tN "UNASSIGNED_STACK" Bundle.steD A ((T.setVm s.vm).setFrames (.invoking m args :: below)) ((T.setVm s.vm).setFrames (.invoking m args :: below)).heap := by rw [hhp]; exact vx_Zq.moved hW0.alike (hU.kept hS.2.1)
  have hN' : vx_Zq Bundle.tN "SUPPRESSED_SENTINEL" Bundle.listD A ((T.setVm s.vm).setFrames (.invoking m args :: below)) ((T.setVm s.vm).setFrames (.invoking m args :: below)).heap := by rw [hhp]; exact vx_Zq.moved hW0.alike (hN.kept hS.2.1)
  obtain ⟨S, q, ce, st, Z, hce, hcl', hv⟩ := vx_npeAt Y hexec htr (n := nb) (vx_own hat' (vx_isRefq hU'.1) (vx_isRefq hN'.1) hU'.2.word hN'.2.word) (fun x hx => nomatch hx)
    (g := F0 m pc ls rest) rfl hsize hRframes (by show 2 * 0 + (rest.map fun v => v.category).sum + 10240 ≤ R.locals; omega) (by show 0 + 1 ≤ 1; omega) (by show 0 + nb ≤ nb; omega) hlocks
  obtain ⟨f1, f2⟩ := vx_frame Z.same
  have f1' : H.size ≤ S.heap.size := by rw [← hT]; exact f1
  have f2' : ∀ q : Nat, q < H.size → S.heap[q]? = H[q]? := fun q hq => by
    rw [← hT]
    exact f2 q (by rw [← hT] at hq; exact hq) (fun z hz => nomatch hz)
  have X5 := vx_back9 X Y Z
  have X6 : Stand p l e R s m args below meth c S locs (cells + 1) (slots + nb) := { X5 with same := X5.same.mono (by omega) (by omega) }
  obtain ⟨t, a1, b1⟩ := k S.heap q ce f1' f2' ⟨Nat.le_trans hS.1 f1', fun q h1 h2 => (f2' q (Nat.lt_of_lt_of_le h1 hS.1)).trans (hS.2.1 q h1 h2), hS.2.2⟩ hce hv hcl' S rfl X6
  exact ⟨t, st t a1, b1⟩
variable {Q : State → Prop} {cc : ByteArray} {pc : Nat} {ls : Array Slot} {rest : List Value}
theorem vx_idivZ (hexec : p.tables.exec = Jvm.exec) (hb : c.code = cc) {a b : Int32} (h0 : b = 0) (d : decode cc pc = .ok (.idiv, 1)) (k : vx_Note p l e R s m args below meth c H locs cells slots Q (F0 m pc ls rest) "java/lang/ArithmeticException" "/ by zero") :
    W p l e R s m args below meth c H locs cells slots Q (F0 m pc ls (.int b :: .int a :: rest)) := by
  intro T hT X
  obtain ⟨t, st, q⟩ := k T hT X
  exact ⟨t, X.idivZero hexec (g := F0 m pc ls (.int b :: .int a :: rest)) rfl (a := a) (rest := rest) (by rw [h0]) (by rw [hb]; exact d) t st, q⟩
theorem vx_iremZ (hexec : p.tables.exec = Jvm.exec) (hb : c.code = cc) {a b : Int32} (h0 : b = 0) (d : decode cc pc = .ok (.irem, 1)) (k : vx_Note p l e R s m args below meth c H locs cells slots Q (F0 m pc ls rest) "java/lang/ArithmeticException" "/ by zero") :
    W p l e R s m args below meth c H locs cells slots Q (F0 m pc ls (.int b :: .int a :: rest)) := by
  intro T hT X
  obtain ⟨t, st, q⟩ := k T hT X
  exact ⟨t, X.iremZero hexec (g := F0 m pc ls (.int b :: .int a :: rest)) rfl (a := a) (rest := rest) (by rw [h0]) (by rw [hb]; exact d) t st, q⟩
theorem vx_ldivZ (hexec : p.tables.exec = Jvm.exec) (hb : c.code = cc) {a b : Int64} (h0 : b = 0) (d : decode cc pc = .ok (.ldiv, 1)) (k : vx_Note p l e R s m args below meth c H locs cells slots Q (F0 m pc ls rest) "java/lang/ArithmeticException" "/ by zero") :
    W p l e R s m args below meth c H locs cells slots Q (F0 m pc ls (.long b :: .long a :: rest)) := by
  intro T hT X
  obtain ⟨t, st, q⟩ := k T hT X
  exact ⟨t, X.ldivZero hexec (g := F0 m pc ls (.long b :: .long a :: rest)) rfl (a := a) (rest := rest) (by rw [h0]) (by rw [hb]; exact d) t st, q⟩
theorem vx_lremZ (hexec : p.tables.exec = Jvm.exec) (hb : c.code = cc) {a b : Int64} (h0 : b = 0) (d : decode cc pc = .ok (.lrem, 1)) (k : vx_Note p l e R s m args below meth c H locs cells slots Q (F0 m pc ls rest) "java/lang/ArithmeticException" "/ by zero") :
    W p l e R s m args below meth c H locs cells slots Q (F0 m pc ls (.long b :: .long a :: rest)) := by
  intro T hT X
  obtain ⟨t, st, q⟩ := k T hT X
  exact ⟨t, X.lremZero hexec (g := F0 m pc ls (.long b :: .long a :: rest)) rfl (a := a) (rest := rest) (by rw [h0]) (by rw [hb]; exact d) t st, q⟩
theorem vx_ialdZ {D : va_G} {cl : List vw_C} {ws : va_W} {tys : List (ClassId × FieldType)} {a : Nat} (hexec : p.tables.exec = Jvm.exec) (hb : c.code = cc) (hK : va_K D cl tys s) (hP : va_P D cl ws H) (q0 t0 : Nat) {cA : ClassId} {n : Nat} {f : Nat → Int32} (ha : ws[q0]? = some (a, .inl (cA, n, .inl f))) (ht : tys[t0]? = some (cA, .int)) {i : Int32} (hout : ¬ vp_in i n) (hdg : decode cc pc = .ok (.iaload, 1))
    (k : ∀ tx : String, tx = (toString "Index " ++ toString i ++ toString " out of bounds for length " ++ toString n : String) → vx_Note p l e R s m args below meth c H locs cells slots Q (F0 m pc ls rest) "java/lang/ArrayIndexOutOfBoundsException" tx) : W p l e R s m args below meth c H locs cells slots Q (F0 m pc ls (.int i :: .ref a :: rest)) := by
  intro T hT X
  obtain ⟨t, st, q⟩ := k _ rfl T hT X
  refine ⟨t, ?_, q⟩
  have h1 := X.ialoadOut hexec (by rw [hT]; exact hP q0 _ ha) ((hK.2 t0 _ ht).1 n (fun j => .int (f j))) (j := i) (by show (i < 0 ∨ (arrV _ _ _).slots.size ≤ _); rw [arrV_size]; exact Classical.byContradiction hout) (g := F0 m pc ls (.int i :: .ref a :: rest)) rfl (rest := rest) rfl (by rw [hb]; exact hdg) t
  simp only [arrV_size] at h1
  exact h1 st
theorem vx_iastZ {D : va_G} {cl : List vw_C} {ws : va_W} {tys : List (ClassId × FieldType)} {a : Nat} (hexec : p.tables.exec = Jvm.exec) (hb : c.code = cc) (hK : va_K D cl tys s) (hP : va_P D cl ws H) (q0 t0 : Nat) {cA : ClassId} {n : Nat} {f : Nat → Int32} (ha : ws[q0]? = some (a, .inl (cA, n, .inl f))) (ht : tys[t0]? = some (cA, .int)) {i : Int32} {x : Int32} (hout : ¬ vp_in i n) (hdg : decode cc pc = .ok (.iastore, 1))
    (k : ∀ tx : String, tx = (toString "Index " ++ toString i ++ toString " out of bounds for length " ++ toString n : String) → vx_Note p l e R s m args below meth c H locs cells slots Q (F0 m pc ls rest) "java/lang/ArrayIndexOutOfBoundsException" tx) : W p l e R s m args below meth c H locs cells slots Q (F0 m pc ls (.int x :: .int i :: .ref a :: rest)) := by
  intro T hT X
  obtain ⟨t, st, q⟩ := k _ rfl T hT X
  refine ⟨t, ?_, q⟩
  have h1 := X.iastoreOut hexec (by rw [hT]; exact hP q0 _ ha) ((hK.2 t0 _ ht).1 n (fun j => .int (f j))) (j := i) (by show (i < 0 ∨ (arrV _ _ _).slots.size ≤ _); rw [arrV_size]; exact Classical.byContradiction hout) (g := F0 m pc ls (.int x :: .int i :: .ref a :: rest)) rfl (rest := rest) rfl (by rw [hb]; exact hdg) t
  simp only [arrV_size] at h1
  exact h1 st
theorem vx_baldZ {D : va_G} {cl : List vw_C} {ws : va_W} {tys : List (ClassId × FieldType)} {a : Nat} (hexec : p.tables.exec = Jvm.exec) (hb : c.code = cc) (hK : va_K D cl tys s) (hP : va_P D cl ws H) (q0 t0 : Nat) {cA : ClassId} {n : Nat} {f : Nat → Int32} (ha : ws[q0]? = some (a, .inl (cA, n, .inl f))) (ht : tys[t0]? = some (cA, .byte)) {i : Int32} (hout : ¬ vp_in i n) (hdg : decode cc pc = .ok (.baload, 1))
    (k : ∀ tx : String, tx = (toString "Index " ++ toString i ++ toString " out of bounds for length " ++ toString n : String) → vx_Note p l e R s m args below meth c H locs cells slots Q (F0 m pc ls rest) "java/lang/ArrayIndexOutOfBoundsException" tx) : W p l e R s m args below meth c H locs cells slots Q (F0 m pc ls (.int i :: .ref a :: rest)) := by
  intro T hT X
  obtain ⟨t, st, q⟩ := k _ rfl T hT X
  refine ⟨t, ?_, q⟩
  have h1 := X.baloadOut hexec (by rw [hT]; exact hP q0 _ ha) ((hK.2 t0 _ ht).1 n (fun j => .int (f j))) (j := i) (by show (i < 0 ∨ (arrV _ _ _).slots.size ≤ _); rw [arrV_size]; exact Classical.byContradiction hout) (g := F0 m pc ls (.int i :: .ref a :: rest)) rfl (rest := rest) rfl (by rw [hb]; exact hdg) t
  simp only [arrV_size] at h1
  exact h1 st
theorem vx_bastZ {D : va_G} {cl : List vw_C} {ws : va_W} {tys : List (ClassId × FieldType)} {a : Nat} (hexec : p.tables.exec = Jvm.exec) (hb : c.code = cc) (hK : va_K D cl tys s) (hP : va_P D cl ws H) (q0 t0 : Nat) {cA : ClassId} {n : Nat} {f : Nat → Int32} (ha : ws[q0]? = some (a, .inl (cA, n, .inl f))) (ht : tys[t0]? = some (cA, .byte)) {i : Int32} {x : Int32} (hout : ¬ vp_in i n) (hdg : decode cc pc = .ok (.bastore, 1))
    (k : ∀ tx : String, tx = (toString "Index " ++ toString i ++ toString " out of bounds for length " ++ toString n : String) → vx_Note p l e R s m args below meth c H locs cells slots Q (F0 m pc ls rest) "java/lang/ArrayIndexOutOfBoundsException" tx) : W p l e R s m args below meth c H locs cells slots Q (F0 m pc ls (.int x :: .int i :: .ref a :: rest)) := by
  intro T hT X
  obtain ⟨t, st, q⟩ := k _ rfl T hT X
  refine ⟨t, ?_, q⟩
  have h1 := X.bastoreOut hexec (by rw [hT]; exact hP q0 _ ha) ((hK.2 t0 _ ht).1 n (fun j => .int (f j))) (j := i) (by show (i < 0 ∨ (arrV _ _ _).slots.size ≤ _); rw [arrV_size]; exact Classical.byContradiction hout) (g := F0 m pc ls (.int x :: .int i :: .ref a :: rest)) rfl (rest := rest) rfl (by rw [hb]; exact hdg) t
  simp only [arrV_size] at h1
  exact h1 st
theorem vx_zaldZ {D : va_G} {cl : List vw_C} {ws : va_W} {tys : List (ClassId × FieldType)} {a : Nat} (hexec : p.tables.exec = Jvm.exec) (hb : c.code = cc) (hK : va_K D cl tys s) (hP : va_P D cl ws H) (q0 t0 : Nat) {cA : ClassId} {n : Nat} {f : Nat → Int32} (ha : ws[q0]? = some (a, .inl (cA, n, .inl f))) (ht : tys[t0]? = some (cA, .boolean)) {i : Int32} (hout : ¬ vp_in i n) (hdg : decode cc pc = .ok (.baload, 1))
    (k : ∀ tx : String, tx = (toString "Index " ++ toString i ++ toString " out of bounds for length " ++ toString n : String) → vx_Note p l e R s m args below meth c H locs cells slots Q (F0 m pc ls rest) "java/lang/ArrayIndexOutOfBoundsException" tx) : W p l e R s m args below meth c H locs cells slots Q (F0 m pc ls (.int i :: .ref a :: rest)) := by
  intro T hT X
  obtain ⟨t, st, q⟩ := k _ rfl T hT X
  refine ⟨t, ?_, q⟩
  have h1 := X.baloadOut hexec (by rw [hT]; exact hP q0 _ ha) ((hK.2 t0 _ ht).1 n (fun j => .int (f j))) (j := i) (by show (i < 0 ∨ (arrV _ _ _).slots.size ≤ _); rw [arrV_size]; exact Classical.byContradiction hout) (g := F0 m pc ls (.int i :: .ref a :: rest)) rfl (rest := rest) rfl (by rw [hb]; exact hdg) t
  simp only [arrV_size] at h1
  exact h1 st
theorem vx_zastZ {D : va_G} {cl : List vw_C} {ws : va_W} {tys : List (ClassId × FieldType)} {a : Nat} (hexec : p.tables.exec = Jvm.exec) (hb : c.code = cc) (hK : va_K D cl tys s) (hP : va_P D cl ws H) (q0 t0 : Nat) {cA : ClassId} {n : Nat} {f : Nat → Int32} (ha : ws[q0]? = some (a, .inl (cA, n, .inl f))) (ht : tys[t0]? = some (cA, .boolean)) {i : Int32} {x : Int32} (hout : ¬ vp_in i n) (hdg : decode cc pc = .ok (.bastore, 1))
    (k : ∀ tx : String, tx = (toString "Index " ++ toString i ++ toString " out of bounds for length " ++ toString n : String) → vx_Note p l e R s m args below meth c H locs cells slots Q (F0 m pc ls rest) "java/lang/ArrayIndexOutOfBoundsException" tx) : W p l e R s m args below meth c H locs cells slots Q (F0 m pc ls (.int x :: .int i :: .ref a :: rest)) := by
  intro T hT X
  obtain ⟨t, st, q⟩ := k _ rfl T hT X
  refine ⟨t, ?_, q⟩
  have h1 := X.bastoreOut hexec (by rw [hT]; exact hP q0 _ ha) ((hK.2 t0 _ ht).1 n (fun j => .int (f j))) (j := i) (by show (i < 0 ∨ (arrV _ _ _).slots.size ≤ _); rw [arrV_size]; exact Classical.byContradiction hout) (g := F0 m pc ls (.int x :: .int i :: .ref a :: rest)) rfl (rest := rest) rfl (by rw [hb]; exact hdg) t
  simp only [arrV_size] at h1
  exact h1 st
theorem vx_caldZ {D : va_G} {cl : List vw_C} {ws : va_W} {tys : List (ClassId × FieldType)} {a : Nat} (hexec : p.tables.exec = Jvm.exec) (hb : c.code = cc) (hK : va_K D cl tys s) (hP : va_P D cl ws H) (q0 t0 : Nat) {cA : ClassId} {n : Nat} {f : Nat → Int32} (ha : ws[q0]? = some (a, .inl (cA, n, .inl f))) (ht : tys[t0]? = some (cA, .char)) {i : Int32} (hout : ¬ vp_in i n) (hdg : decode cc pc = .ok (.caload, 1))
    (k : ∀ tx : String, tx = (toString "Index " ++ toString i ++ toString " out of bounds for length " ++ toString n : String) → vx_Note p l e R s m args below meth c H locs cells slots Q (F0 m pc ls rest) "java/lang/ArrayIndexOutOfBoundsException" tx) : W p l e R s m args below meth c H locs cells slots Q (F0 m pc ls (.int i :: .ref a :: rest)) := by
  intro T hT X
  obtain ⟨t, st, q⟩ := k _ rfl T hT X
  refine ⟨t, ?_, q⟩
  have h1 := X.caloadOut hexec (by rw [hT]; exact hP q0 _ ha) ((hK.2 t0 _ ht).1 n (fun j => .int (f j))) (j := i) (by show (i < 0 ∨ (arrV _ _ _).slots.size ≤ _); rw [arrV_size]; exact Classical.byContradiction hout) (g := F0 m pc ls (.int i :: .ref a :: rest)) rfl (rest := rest) rfl (by rw [hb]; exact hdg) t
  simp only [arrV_size] at h1
  exact h1 st
theorem vx_castZ {D : va_G} {cl : List vw_C} {ws : va_W} {tys : List (ClassId × FieldType)} {a : Nat} (hexec : p.tables.exec = Jvm.exec) (hb : c.code = cc) (hK : va_K D cl tys s) (hP : va_P D cl ws H) (q0 t0 : Nat) {cA : ClassId} {n : Nat} {f : Nat → Int32} (ha : ws[q0]? = some (a, .inl (cA, n, .inl f))) (ht : tys[t0]? = some (cA, .char)) {i : Int32} {x : Int32} (hout : ¬ vp_in i n) (hdg : decode cc pc = .ok (.castore, 1))
    (k : ∀ tx : String, tx = (toString "Index " ++ toString i ++ toString " out of bounds for length " ++ toString n : String) → vx_Note p l e R s m args below meth c H locs cells slots Q (F0 m pc ls rest) "java/lang/ArrayIndexOutOfBoundsException" tx) : W p l e R s m args below meth c H locs cells slots Q (F0 m pc ls (.int x :: .int i :: .ref a :: rest)) := by
  intro T hT X
  obtain ⟨t, st, q⟩ := k _ rfl T hT X
  refine ⟨t, ?_, q⟩
  have h1 := X.castoreOut hexec (by rw [hT]; exact hP q0 _ ha) ((hK.2 t0 _ ht).1 n (fun j => .int (f j))) (j := i) (by show (i < 0 ∨ (arrV _ _ _).slots.size ≤ _); rw [arrV_size]; exact Classical.byContradiction hout) (g := F0 m pc ls (.int x :: .int i :: .ref a :: rest)) rfl (rest := rest) rfl (by rw [hb]; exact hdg) t
  simp only [arrV_size] at h1
  exact h1 st
theorem vx_saldZ {D : va_G} {cl : List vw_C} {ws : va_W} {tys : List (ClassId × FieldType)} {a : Nat} (hexec : p.tables.exec = Jvm.exec) (hb : c.code = cc) (hK : va_K D cl tys s) (hP : va_P D cl ws H) (q0 t0 : Nat) {cA : ClassId} {n : Nat} {f : Nat → Int32} (ha : ws[q0]? = some (a, .inl (cA, n, .inl f))) (ht : tys[t0]? = some (cA, .short)) {i : Int32} (hout : ¬ vp_in i n) (hdg : decode cc pc = .ok (.saload, 1))
    (k : ∀ tx : String, tx = (toString "Index " ++ toString i ++ toString " out of bounds for length " ++ toString n : String) → vx_Note p l e R s m args below meth c H locs cells slots Q (F0 m pc ls rest) "java/lang/ArrayIndexOutOfBoundsException" tx) : W p l e R s m args below meth c H locs cells slots Q (F0 m pc ls (.int i :: .ref a :: rest)) := by
  intro T hT X
  obtain ⟨t, st, q⟩ := k _ rfl T hT X
  refine ⟨t, ?_, q⟩
  have h1 := X.saloadOut hexec (by rw [hT]; exact hP q0 _ ha) ((hK.2 t0 _ ht).1 n (fun j => .int (f j))) (j := i) (by show (i < 0 ∨ (arrV _ _ _).slots.size ≤ _); rw [arrV_size]; exact Classical.byContradiction hout) (g := F0 m pc ls (.int i :: .ref a :: rest)) rfl (rest := rest) rfl (by rw [hb]; exact hdg) t
  simp only [arrV_size] at h1
  exact h1 st
theorem vx_sastZ {D : va_G} {cl : List vw_C} {ws : va_W} {tys : List (ClassId × FieldType)} {a : Nat} (hexec : p.tables.exec = Jvm.exec) (hb : c.code = cc) (hK : va_K D cl tys s) (hP : va_P D cl ws H) (q0 t0 : Nat) {cA : ClassId} {n : Nat} {f : Nat → Int32} (ha : ws[q0]? = some (a, .inl (cA, n, .inl f))) (ht : tys[t0]? = some (cA, .short)) {i : Int32} {x : Int32} (hout : ¬ vp_in i n) (hdg : decode cc pc = .ok (.sastore, 1))
    (k : ∀ tx : String, tx = (toString "Index " ++ toString i ++ toString " out of bounds for length " ++ toString n : String) → vx_Note p l e R s m args below meth c H locs cells slots Q (F0 m pc ls rest) "java/lang/ArrayIndexOutOfBoundsException" tx) : W p l e R s m args below meth c H locs cells slots Q (F0 m pc ls (.int x :: .int i :: .ref a :: rest)) := by
  intro T hT X
  obtain ⟨t, st, q⟩ := k _ rfl T hT X
  refine ⟨t, ?_, q⟩
  have h1 := X.sastoreOut hexec (by rw [hT]; exact hP q0 _ ha) ((hK.2 t0 _ ht).1 n (fun j => .int (f j))) (j := i) (by show (i < 0 ∨ (arrV _ _ _).slots.size ≤ _); rw [arrV_size]; exact Classical.byContradiction hout) (g := F0 m pc ls (.int x :: .int i :: .ref a :: rest)) rfl (rest := rest) rfl (by rw [hb]; exact hdg) t
  simp only [arrV_size] at h1
  exact h1 st
theorem vx_laldZ {D : va_G} {cl : List vw_C} {ws : va_W} {tys : List (ClassId × FieldType)} {a : Nat} (hexec : p.tables.exec = Jvm.exec) (hb : c.code = cc) (hK : va_K D cl tys s) (hP : va_P D cl ws H) (q0 t0 : Nat) {cA : ClassId} {n : Nat} {f : Nat → Int64} (ha : ws[q0]? = some (a, .inl (cA, n, .inr (.inl f)))) (ht : tys[t0]? = some (cA, .long)) {i : Int32} (hout : ¬ vp_in i n) (hdg : decode cc pc = .ok (.laload, 1))
    (k : ∀ tx : String, tx = (toString "Index " ++ toString i ++ toString " out of bounds for length " ++ toString n : String) → vx_Note p l e R s m args below meth c H locs cells slots Q (F0 m pc ls rest) "java/lang/ArrayIndexOutOfBoundsException" tx) : W p l e R s m args below meth c H locs cells slots Q (F0 m pc ls (.int i :: .ref a :: rest)) := by
  intro T hT X
  obtain ⟨t, st, q⟩ := k _ rfl T hT X
  refine ⟨t, ?_, q⟩
  have h1 := X.laloadOut hexec (by rw [hT]; exact hP q0 _ ha) ((hK.2 t0 _ ht).1 n (fun j => .long (f j))) (j := i) (by show (i < 0 ∨ (arrV _ _ _).slots.size ≤ _); rw [arrV_size]; exact Classical.byContradiction hout) (g := F0 m pc ls (.int i :: .ref a :: rest)) rfl (rest := rest) rfl (by rw [hb]; exact hdg) t
  simp only [arrV_size] at h1
  exact h1 st
theorem vx_lastZ {D : va_G} {cl : List vw_C} {ws : va_W} {tys : List (ClassId × FieldType)} {a : Nat} (hexec : p.tables.exec = Jvm.exec) (hb : c.code = cc) (hK : va_K D cl tys s) (hP : va_P D cl ws H) (q0 t0 : Nat) {cA : ClassId} {n : Nat} {f : Nat → Int64} (ha : ws[q0]? = some (a, .inl (cA, n, .inr (.inl f)))) (ht : tys[t0]? = some (cA, .long)) {i : Int32} {x : Int64} (hout : ¬ vp_in i n) (hdg : decode cc pc = .ok (.lastore, 1))
    (k : ∀ tx : String, tx = (toString "Index " ++ toString i ++ toString " out of bounds for length " ++ toString n : String) → vx_Note p l e R s m args below meth c H locs cells slots Q (F0 m pc ls rest) "java/lang/ArrayIndexOutOfBoundsException" tx) : W p l e R s m args below meth c H locs cells slots Q (F0 m pc ls (.long x :: .int i :: .ref a :: rest)) := by
  intro T hT X
  obtain ⟨t, st, q⟩ := k _ rfl T hT X
  refine ⟨t, ?_, q⟩
  have h1 := X.lastoreOut hexec (by rw [hT]; exact hP q0 _ ha) ((hK.2 t0 _ ht).1 n (fun j => .long (f j))) (j := i) (by show (i < 0 ∨ (arrV _ _ _).slots.size ≤ _); rw [arrV_size]; exact Classical.byContradiction hout) (g := F0 m pc ls (.long x :: .int i :: .ref a :: rest)) rfl (rest := rest) rfl (by rw [hb]; exact hdg) t
  simp only [arrV_size] at h1
  exact h1 st
theorem vx_faldZ {D : va_G} {cl : List vw_C} {ws : va_W} {tys : List (ClassId × FieldType)} {a : Nat} (hexec : p.tables.exec = Jvm.exec) (hb : c.code = cc) (hK : va_K D cl tys s) (hP : va_P D cl ws H) (q0 t0 : Nat) {cA : ClassId} {n : Nat} {f : Nat → UInt32} (ha : ws[q0]? = some (a, .inl (cA, n, .inr (.inr (.inl f))))) (ht : tys[t0]? = some (cA, .float)) {i : Int32} (hout : ¬ vp_in i n) (hdg : decode cc pc = .ok (.faload, 1))
    (k : ∀ tx : String, tx = (toString "Index " ++ toString i ++ toString " out of bounds for length " ++ toString n : String) → vx_Note p l e R s m args below meth c H locs cells slots Q (F0 m pc ls rest) "java/lang/ArrayIndexOutOfBoundsException" tx) : W p l e R s m args below meth c H locs cells slots Q (F0 m pc ls (.int i :: .ref a :: rest)) := by
  intro T hT X
  obtain ⟨t, st, q⟩ := k _ rfl T hT X
  refine ⟨t, ?_, q⟩
  have h1 := X.faloadOut hexec (by rw [hT]; exact hP q0 _ ha) ((hK.2 t0 _ ht).1 n (fun j => .float (f j))) (j := i) (by show (i < 0 ∨ (arrV _ _ _).slots.size ≤ _); rw [arrV_size]; exact Classical.byContradiction hout) (g := F0 m pc ls (.int i :: .ref a :: rest)) rfl (rest := rest) rfl (by rw [hb]; exact hdg) t
  simp only [arrV_size] at h1
  exact h1 st
theorem vx_fastZ {D : va_G} {cl : List vw_C} {ws : va_W} {tys : List (ClassId × FieldType)} {a : Nat} (hexec : p.tables.exec = Jvm.exec) (hb : c.code = cc) (hK : va_K D cl tys s) (hP : va_P D cl ws H) (q0 t0 : Nat) {cA : ClassId} {n : Nat} {f : Nat → UInt32} (ha : ws[q0]? = some (a, .inl (cA, n, .inr (.inr (.inl f))))) (ht : tys[t0]? = some (cA, .float)) {i : Int32} {x : UInt32} (hout : ¬ vp_in i n) (hdg : decode cc pc = .ok (.fastore, 1))
    (k : ∀ tx : String, tx = (toString "Index " ++ toString i ++ toString " out of bounds for length " ++ toString n : String) → vx_Note p l e R s m args below meth c H locs cells slots Q (F0 m pc ls rest) "java/lang/ArrayIndexOutOfBoundsException" tx) : W p l e R s m args below meth c H locs cells slots Q (F0 m pc ls (.float x :: .int i :: .ref a :: rest)) := by
  intro T hT X
  obtain ⟨t, st, q⟩ := k _ rfl T hT X
  refine ⟨t, ?_, q⟩
  have h1 := X.fastoreOut hexec (by rw [hT]; exact hP q0 _ ha) ((hK.2 t0 _ ht).1 n (fun j => .float (f j))) (j := i) (by show (i < 0 ∨ (arrV _ _ _).slots.size ≤ _); rw [arrV_size]; exact Classical.byContradiction hout) (g := F0 m pc ls (.float x :: .int i :: .ref a :: rest)) rfl (rest := rest) rfl (by rw [hb]; exact hdg) t
  simp only [arrV_size] at h1
  exact h1 st
theorem vx_daldZ {D : va_G} {cl : List vw_C} {ws : va_W} {tys : List (ClassId × FieldType)} {a : Nat} (hexec : p.tables.exec = Jvm.exec) (hb : c.code = cc) (hK : va_K D cl tys s) (hP : va_P D cl ws H) (q0 t0 : Nat) {cA : ClassId} {n : Nat} {f : Nat → UInt64} (ha : ws[q0]? = some (a, .inl (cA, n, .inr (.inr (.inr (.inl f)))))) (ht : tys[t0]? = some (cA, .double)) {i : Int32} (hout : ¬ vp_in i n) (hdg : decode cc pc = .ok (.daload, 1))
    (k : ∀ tx : String, tx = (toString "Index " ++ toString i ++ toString " out of bounds for length " ++ toString n : String) → vx_Note p l e R s m args below meth c H locs cells slots Q (F0 m pc ls rest) "java/lang/ArrayIndexOutOfBoundsException" tx) : W p l e R s m args below meth c H locs cells slots Q (F0 m pc ls (.int i :: .ref a :: rest)) := by
  intro T hT X
  obtain ⟨t, st, q⟩ := k _ rfl T hT X
  refine ⟨t, ?_, q⟩
  have h1 := X.daloadOut hexec (by rw [hT]; exact hP q0 _ ha) ((hK.2 t0 _ ht).1 n (fun j => .double (f j))) (j := i) (by show (i < 0 ∨ (arrV _ _ _).slots.size ≤ _); rw [arrV_size]; exact Classical.byContradiction hout) (g := F0 m pc ls (.int i :: .ref a :: rest)) rfl (rest := rest) rfl (by rw [hb]; exact hdg) t
  simp only [arrV_size] at h1
  exact h1 st
theorem vx_dastZ {D : va_G} {cl : List vw_C} {ws : va_W} {tys : List (ClassId × FieldType)} {a : Nat} (hexec : p.tables.exec = Jvm.exec) (hb : c.code = cc) (hK : va_K D cl tys s) (hP : va_P D cl ws H) (q0 t0 : Nat) {cA : ClassId} {n : Nat} {f : Nat → UInt64} (ha : ws[q0]? = some (a, .inl (cA, n, .inr (.inr (.inr (.inl f)))))) (ht : tys[t0]? = some (cA, .double)) {i : Int32} {x : UInt64} (hout : ¬ vp_in i n) (hdg : decode cc pc = .ok (.dastore, 1))
    (k : ∀ tx : String, tx = (toString "Index " ++ toString i ++ toString " out of bounds for length " ++ toString n : String) → vx_Note p l e R s m args below meth c H locs cells slots Q (F0 m pc ls rest) "java/lang/ArrayIndexOutOfBoundsException" tx) : W p l e R s m args below meth c H locs cells slots Q (F0 m pc ls (.double x :: .int i :: .ref a :: rest)) := by
  intro T hT X
  obtain ⟨t, st, q⟩ := k _ rfl T hT X
  refine ⟨t, ?_, q⟩
  have h1 := X.dastoreOut hexec (by rw [hT]; exact hP q0 _ ha) ((hK.2 t0 _ ht).1 n (fun j => .double (f j))) (j := i) (by show (i < 0 ∨ (arrV _ _ _).slots.size ≤ _); rw [arrV_size]; exact Classical.byContradiction hout) (g := F0 m pc ls (.double x :: .int i :: .ref a :: rest)) rfl (rest := rest) rfl (by rw [hb]; exact hdg) t
  simp only [arrV_size] at h1
  exact h1 st
theorem vx_arraylengthN (hexec : p.tables.exec = Jvm.exec) (hb : c.code = cc) (hdg : decode cc pc = .ok (.arraylength, 1)) (k : vx_NoteN p l e R s m args below meth c H locs cells slots Q (F0 m pc ls rest)) : W p l e R s m args below meth c H locs cells slots Q (F0 m pc ls (.null :: rest)) := by
  intro T hT X
  obtain ⟨t, st, q⟩ := k T hT X
  exact ⟨t, X.arraylengthNull hexec (g := F0 m pc ls (.null :: rest)) rfl (rest := rest) rfl (by rw [hb]; exact hdg) t st, q⟩
theorem vx_ialoadN (hexec : p.tables.exec = Jvm.exec) (hb : c.code = cc) {i : Int32} (hdg : decode cc pc = .ok (.iaload, 1)) (k : vx_NoteN p l e R s m args below meth c H locs cells slots Q (F0 m pc ls rest)) : W p l e R s m args below meth c H locs cells slots Q (F0 m pc ls (.int i :: .null :: rest)) := by
  intro T hT X
  obtain ⟨t, st, q⟩ := k T hT X
  exact ⟨t, X.ialoadNull hexec (g := F0 m pc ls (.int i :: .null :: rest)) rfl (rest := rest) rfl (by rw [hb]; exact hdg) t st, q⟩
theorem vx_laloadN (hexec : p.tables.exec = Jvm.exec) (hb : c.code = cc) {i : Int32} (hdg : decode cc pc = .ok (.laload, 1)) (k : vx_NoteN p l e R s m args below meth c H locs cells slots Q (F0 m pc ls rest)) : W p l e R s m args below meth c H locs cells slots Q (F0 m pc ls (.int i :: .null :: rest)) := by
  intro T hT X
  obtain ⟨t, st, q⟩ := k T hT X
  exact ⟨t, X.laloadNull hexec (g := F0 m pc ls (.int i :: .null :: rest)) rfl (rest := rest) rfl (by rw [hb]; exact hdg) t st, q⟩
theorem vx_faloadN (hexec : p.tables.exec = Jvm.exec) (hb : c.code = cc) {i : Int32} (hdg : decode cc pc = .ok (.faload, 1)) (k : vx_NoteN p l e R s m args below meth c H locs cells slots Q (F0 m pc ls rest)) : W p l e R s m args below meth c H locs cells slots Q (F0 m pc ls (.int i :: .null :: rest)) := by
  intro T hT X
  obtain ⟨t, st, q⟩ := k T hT X
  exact ⟨t, X.faloadNull hexec (g := F0 m pc ls (.int i :: .null :: rest)) rfl (rest := rest) rfl (by rw [hb]; exact hdg) t st, q⟩
theorem vx_daloadN (hexec : p.tables.exec = Jvm.exec) (hb : c.code = cc) {i : Int32} (hdg : decode cc pc = .ok (.daload, 1)) (k : vx_NoteN p l e R s m args below meth c H locs cells slots Q (F0 m pc ls rest)) : W p l e R s m args below meth c H locs cells slots Q (F0 m pc ls (.int i :: .null :: rest)) := by
  intro T hT X
  obtain ⟨t, st, q⟩ := k T hT X
  exact ⟨t, X.daloadNull hexec (g := F0 m pc ls (.int i :: .null :: rest)) rfl (rest := rest) rfl (by rw [hb]; exact hdg) t st, q⟩
theorem vx_aaloadN (hexec : p.tables.exec = Jvm.exec) (hb : c.code = cc) {i : Int32} (hdg : decode cc pc = .ok (.aaload, 1)) (k : vx_NoteN p l e R s m args below meth c H locs cells slots Q (F0 m pc ls rest)) : W p l e R s m args below meth c H locs cells slots Q (F0 m pc ls (.int i :: .null :: rest)) := by
  intro T hT X
  obtain ⟨t, st, q⟩ := k T hT X
  exact ⟨t, X.aaloadNull hexec (g := F0 m pc ls (.int i :: .null :: rest)) rfl (rest := rest) rfl (by rw [hb]; exact hdg) t st, q⟩
theorem vx_baloadN (hexec : p.tables.exec = Jvm.exec) (hb : c.code = cc) {i : Int32} (hdg : decode cc pc = .ok (.baload, 1)) (k : vx_NoteN p l e R s m args below meth c H locs cells slots Q (F0 m pc ls rest)) : W p l e R s m args below meth c H locs cells slots Q (F0 m pc ls (.int i :: .null :: rest)) := by
  intro T hT X
  obtain ⟨t, st, q⟩ := k T hT X
  exact ⟨t, X.baloadNull hexec (g := F0 m pc ls (.int i :: .null :: rest)) rfl (rest := rest) rfl (by rw [hb]; exact hdg) t st, q⟩
theorem vx_caloadN (hexec : p.tables.exec = Jvm.exec) (hb : c.code = cc) {i : Int32} (hdg : decode cc pc = .ok (.caload, 1)) (k : vx_NoteN p l e R s m args below meth c H locs cells slots Q (F0 m pc ls rest)) : W p l e R s m args below meth c H locs cells slots Q (F0 m pc ls (.int i :: .null :: rest)) := by
  intro T hT X
  obtain ⟨t, st, q⟩ := k T hT X
  exact ⟨t, X.caloadNull hexec (g := F0 m pc ls (.int i :: .null :: rest)) rfl (rest := rest) rfl (by rw [hb]; exact hdg) t st, q⟩
theorem vx_saloadN (hexec : p.tables.exec = Jvm.exec) (hb : c.code = cc) {i : Int32} (hdg : decode cc pc = .ok (.saload, 1)) (k : vx_NoteN p l e R s m args below meth c H locs cells slots Q (F0 m pc ls rest)) : W p l e R s m args below meth c H locs cells slots Q (F0 m pc ls (.int i :: .null :: rest)) := by
  intro T hT X
  obtain ⟨t, st, q⟩ := k T hT X
  exact ⟨t, X.saloadNull hexec (g := F0 m pc ls (.int i :: .null :: rest)) rfl (rest := rest) rfl (by rw [hb]; exact hdg) t st, q⟩
theorem vx_iastoreN (hexec : p.tables.exec = Jvm.exec) (hb : c.code = cc) {x : Int32} {i : Int32} (hdg : decode cc pc = .ok (.iastore, 1)) (k : vx_NoteN p l e R s m args below meth c H locs cells slots Q (F0 m pc ls rest)) : W p l e R s m args below meth c H locs cells slots Q (F0 m pc ls (.int x :: .int i :: .null :: rest)) := by
  intro T hT X
  obtain ⟨t, st, q⟩ := k T hT X
  exact ⟨t, X.iastoreNull hexec (g := F0 m pc ls (.int x :: .int i :: .null :: rest)) rfl (rest := rest) rfl (by rw [hb]; exact hdg) t st, q⟩
theorem vx_lastoreN (hexec : p.tables.exec = Jvm.exec) (hb : c.code = cc) {x : Int64} {i : Int32} (hdg : decode cc pc = .ok (.lastore, 1)) (k : vx_NoteN p l e R s m args below meth c H locs cells slots Q (F0 m pc ls rest)) : W p l e R s m args below meth c H locs cells slots Q (F0 m pc ls (.long x :: .int i :: .null :: rest)) := by
  intro T hT X
  obtain ⟨t, st, q⟩ := k T hT X
  exact ⟨t, X.lastoreNull hexec (g := F0 m pc ls (.long x :: .int i :: .null :: rest)) rfl (rest := rest) rfl (by rw [hb]; exact hdg) t st, q⟩
theorem vx_fastoreN (hexec : p.tables.exec = Jvm.exec) (hb : c.code = cc) {x : UInt32} {i : Int32} (hdg : decode cc pc = .ok (.fastore, 1)) (k : vx_NoteN p l e R s m args below meth c H locs cells slots Q (F0 m pc ls rest)) : W p l e R s m args below meth c H locs cells slots Q (F0 m pc ls (.float x :: .int i :: .null :: rest)) := by
  intro T hT X
  obtain ⟨t, st, q⟩ := k T hT X
  exact ⟨t, X.fastoreNull hexec (g := F0 m pc ls (.float x :: .int i :: .null :: rest)) rfl (rest := rest) rfl (by rw [hb]; exact hdg) t st, q⟩
theorem vx_dastoreN (hexec : p.tables.exec = Jvm.exec) (hb : c.code = cc) {x : UInt64} {i : Int32} (hdg : decode cc pc = .ok (.dastore, 1)) (k : vx_NoteN p l e R s m args below meth c H locs cells slots Q (F0 m pc ls rest)) : W p l e R s m args below meth c H locs cells slots Q (F0 m pc ls (.double x :: .int i :: .null :: rest)) := by
  intro T hT X
  obtain ⟨t, st, q⟩ := k T hT X
  exact ⟨t, X.dastoreNull hexec (g := F0 m pc ls (.double x :: .int i :: .null :: rest)) rfl (rest := rest) rfl (by rw [hb]; exact hdg) t st, q⟩
theorem vx_bastoreN (hexec : p.tables.exec = Jvm.exec) (hb : c.code = cc) {x : Int32} {i : Int32} (hdg : decode cc pc = .ok (.bastore, 1)) (k : vx_NoteN p l e R s m args below meth c H locs cells slots Q (F0 m pc ls rest)) : W p l e R s m args below meth c H locs cells slots Q (F0 m pc ls (.int x :: .int i :: .null :: rest)) := by
  intro T hT X
  obtain ⟨t, st, q⟩ := k T hT X
  exact ⟨t, X.bastoreNull hexec (g := F0 m pc ls (.int x :: .int i :: .null :: rest)) rfl (rest := rest) rfl (by rw [hb]; exact hdg) t st, q⟩
theorem vx_castoreN (hexec : p.tables.exec = Jvm.exec) (hb : c.code = cc) {x : Int32} {i : Int32} (hdg : decode cc pc = .ok (.castore, 1)) (k : vx_NoteN p l e R s m args below meth c H locs cells slots Q (F0 m pc ls rest)) : W p l e R s m args below meth c H locs cells slots Q (F0 m pc ls (.int x :: .int i :: .null :: rest)) := by
  intro T hT X
  obtain ⟨t, st, q⟩ := k T hT X
  exact ⟨t, X.castoreNull hexec (g := F0 m pc ls (.int x :: .int i :: .null :: rest)) rfl (rest := rest) rfl (by rw [hb]; exact hdg) t st, q⟩
theorem vx_sastoreN (hexec : p.tables.exec = Jvm.exec) (hb : c.code = cc) {x : Int32} {i : Int32} (hdg : decode cc pc = .ok (.sastore, 1)) (k : vx_NoteN p l e R s m args below meth c H locs cells slots Q (F0 m pc ls rest)) : W p l e R s m args below meth c H locs cells slots Q (F0 m pc ls (.int x :: .int i :: .null :: rest)) := by
  intro T hT X
  obtain ⟨t, st, q⟩ := k T hT X
  exact ⟨t, X.sastoreNull hexec (g := F0 m pc ls (.int x :: .int i :: .null :: rest)) rfl (rest := rest) rfl (by rw [hb]; exact hdg) t st, q⟩
theorem vx_invokeN {own C : String} {index maxL : Nat} {y : MethodName} {bytes : ByteArray} {ret : Option FieldType} (hexec : p.tables.exec = Jvm.exec) (hb : c.code = cc) (hown : s.vm.findClass own = some m.cls) (hlink : (Cond.methodLink own index y).before args s = true) (hinst : (Cond.instanceMethod y).before args s = true) (hcode : (Cond.code y bytes maxL ret).before args s = true) (hsel : (Cond.selects C y y).before args s = true)
    (hx : y.cls ≠ "java/lang/invoke/MethodHandle" ∧ y.cls ≠ "java/lang/invoke/VarHandle") {As : List Value} (hlen : (parseMethodDescriptor y.desc).map (fun d => d.parameters.length) = some As.length) (hdg : decode cc pc = .ok (.invokevirtual index, 3))
    (k : vx_NoteN p l e R s m args below meth c H locs cells slots Q (F0 m pc ls rest)) {st0 : List Value} (hst : st0 = As.reverse ++ .null :: rest) : W p l e R s m args below meth c H locs cells slots Q (F0 m pc ls st0) := by
  intro T hT X
  obtain ⟨r0, r, hn, hrm, hstR, hsigR⟩ := va_Decl.of hinst hcode
  obtain ⟨c2, r2, m2, q1, q2, q3, q4, kP, hkP, hkPi⟩ := Cond.selects_spec hsel
  cases hn.symm.trans q3
  have hl9 : As.length = r.sig.parameters.length := by
    rw [hsigR] at hlen
    exact (Option.some.inj hlen).symm
  obtain ⟨vm', X1, st1⟩ := X.invokevirtualNull hexec hown hlink hn hrm hstR hkP hkPi hx (g := F0 m pc ls st0) rfl (argsL := As) (rest := rest) hl9 hst (by rw [hb]; exact hdg)
  obtain ⟨t, st, q⟩ := k (T.setVm vm') hT X1
  exact ⟨t, st1 t st, q⟩
theorem vx_newarrayZ {atype : ArrayType} (hexec : p.tables.exec = Jvm.exec) (hb : c.code = cc) {n : Int32} (h0 : n < 0) (hdg : decode cc pc = .ok (.newarray atype, 2)) (k : ∀ tx : String, tx = toString n → vx_Note p l e R s m args below meth c H locs cells slots Q (F0 m pc ls rest) "java/lang/NegativeArraySizeException" tx) : W p l e R s m args below meth c H locs cells slots Q (F0 m pc ls (.int n :: rest)) := by
  intro T hT X
  obtain ⟨t, st, q⟩ := k _ rfl T hT X
  exact ⟨t, X.newarrayNegative hexec (g := F0 m pc ls (.int n :: rest)) rfl h0 (rest := rest) rfl (by rw [hb]; exact hdg) t st, q⟩
end
end VXM
/-! ===== END ===== -/
/-! ===== BEGIN an exception as an object: made, kept, thrown later (no traces kept) ===== -/
section VXK
variable {p : Program} {l : Launch} {e : Env} {R : Room} {s : State} {m₀ : MethodId} {args : Array Value} {below : List Frame} {meth : Method} {c : Code} {W : State} {locs : List Loc} {cells slots : Nat}
set_option maxHeartbeats 1000000 in
theorem vx_ctorMadeS (X : Stand p l e R s m₀ args below meth c W locs cells slots) (hexec : p.tables.exec = Jvm.exec) (htr : e.platform.stackTraces = false) {own cls : String} {names : List String} {ic : Nat}
    (hown : s.vm.findClass own = some m₀.cls) (hcls : Bundle.fit cls = true) (hnames : ∀ n ∈ names, Bundle.fit n = true)
    (h : ∀ a ∈ Bundle.ownAtoms own ic cls names, a.before args s = true)
    (hlocs : ∀ x ∈ locs, ∀ cell, s.heap[x.base]? = some cell → cell.vm.isStatics = false)
    {a : Addr} {cX : ClassId} {kX : Class} (hfoundX : s.vm.findClass cls = some cX) (hkX : s.vm.classes[cX]? = some kX) (hcell : W.heap[a]? = some (freshCell cX kX)) (hnew : s.heap.size ≤ a)
    {msg : Value} (hmsg : msg.isRef = true)
    {g : JFrame} (hg : g.method = m₀) (hsize : g.locals.size = c.maxLocals) {rest : List Value} (hstack : g.stack = msg :: .ref a :: .ref a :: rest)
    (hd6 : decode c.code g.pc = .ok (.invokespecial ic, 3))
    (hRframes : names.length + 3 < R.frames) (hRlocals : 2 * g.monitorRoom + ((Value.ref a :: rest).map fun v => v.category).sum + (13 * (names.length + 1) + 42) ≤ R.locals) :
    ∃ (V : State) (ce : Cell) (L : List Loc), Stand p l e R s m₀ args below meth c (V.setCell a ce) (locs ++ L) cells slots ∧ (∀ y ∈ L, y.base = a) ∧ a < V.heap.size ∧ ce.cls = cX ∧ ce.vm = .none ∧
      ∀ target, Steps p.tables e below ((V.setCell a ce).setTop { g with stack := .ref a :: rest, pc := g.pc + 3 }) target → Steps p.tables e below (W.setTop g) target := by
  have howns : e.platform.frameOwnsMonitors = true := by rw [X.admits.platform]
  have hfin : e.platform.finalization = false := by rw [X.admits.platform]
  have hpl : e.platform.magicAccessors = ({} : Platform).magicAccessors := by rw [X.admits.platform]
  have a' : ∀ x, x ∈ Bundle.ownAtoms own ic cls names → x.holds args s none s [] = true := fun x hx => h x hx
  obtain ⟨T, Z0, L, -, Y⟩ := ThrowableC.of_atoms (args := args) howns hfin hpl (fun x hx => h x (by simp [Bundle.ownAtoms, hx]))
  obtain ⟨Z, M, LZ, LM, hnZ⟩ := Init0T.ofS_atoms (args := args) hpl L Y (fun x hx => h x (by simp [Bundle.ownAtoms, hx]))
  obtain ⟨P1, Ps, hlen, L1, hL, hP1m, hlink1, hlink⟩ := Bundle.chainS (args := args) hpl hnZ names cls hcls hnames (fun x hx => h x (by simp [Bundle.ownAtoms, hx]))
  have hfound : s.vm.findClass cls = some P1.m.cls := findClass_of_methodNamed hP1m
  cases Option.some.inj (hfoundX.symm.trans hfound)
  obtain ⟨c1, kX', hc1, hk, hord, -, -, hn6⟩ := Cond.instantiable_spec (a' (.instantiable cls 6) (by simp [Bundle.ownAtoms]))
  cases Option.some.inj (hc1.symm.trans hfound)
  cases Option.some.inj (hkX.symm.trans hk)
  have hsel0 : selectMethod e.platform s.vm P1.m.cls T.fill0 = .method T.fill0 := by
    obtain ⟨c2, r2, m2, q1, q2, q3, q4, -⟩ := Cond.selects_spec (a' (.selects cls Bundle.tFill0 Bundle.tFill0) (by simp [Bundle.ownAtoms]))
    cases Option.some.inj (q1.symm.trans hfound)
    cases Option.some.inj (q2.symm.trans (State.methodFound?_of_named Y.fill0 (by decide)))
    cases Option.some.inj (q3.symm.trans Y.fill0)
    rw [Launch.admits_selectMethod X.admits]; exact q4
  have hselF : selectMethod e.platform s.vm P1.m.cls T.fill = .method T.fill := by
    obtain ⟨c2, r2, m2, q1, q2, q3, q4, -⟩ := Cond.selects_spec (a' (.selects cls Bundle.tFill Bundle.tFill) (by simp [Bundle.ownAtoms]))
    cases Option.some.inj (q1.symm.trans hfound)
    cases Option.some.inj (q2.symm.trans (State.methodFound?_of_named Y.fill (by decide)))
    cases Option.some.inj (q3.symm.trans Y.fill)
    rw [Launch.admits_selectMethod X.admits]; exact q4
  obtain ⟨cellS0, hcS0, hiss⟩ := Y.statics
  obtain ⟨u0, hu0⟩ := Cond.staticRefV Y.unassigned L.unassignedStatic L.statics hcS0 hiss (a' (.isRef (.static Bundle.tN "UNASSIGNED_STACK" Bundle.steD)) (by simp [Bundle.ownAtoms]))
  obtain ⟨sen, hsen⟩ := Cond.staticRefV Y.sentinel L.sentinelStatic L.statics hcS0 hiss (a' (.isRef (.static Bundle.tN "SUPPRESSED_SENTINEL" Bundle.listD)) (by simp [Bundle.ownAtoms]))
  obtain ⟨ci198, i198, fB, hk198, hg198, ha198, hsB, -, hnB, htB, hffB⟩ := Cond.ownField (t := .object "java/lang/Object") Y.found L.cls (by decide +kernel) (a' (.fieldLink Bundle.tN 198 Bundle.tN "backtrace" "Ljava/lang/Object;") (by simp [Bundle.ownAtoms])) (a' (.lays Bundle.tN Bundle.tN "backtrace" "Ljava/lang/Object;") (by simp [Bundle.ownAtoms])) e.platform hpl
  obtain ⟨cellS, hcS', heS, -, hkeep⟩ := X.same.2.2.2.2.2 T.aS cellS0 hcS0
  have hcellS : W.heap[T.aS]? = some cellS := hcS'
  have hout' : ∀ i, (⟨T.aS, i⟩ : Loc) ∉ locs := fun i hmem => by
    have := hlocs _ hmem cellS0 hcS0
    rw [hiss] at this; cases this
  have hknownS : cellS.vm ≠ .unknown := by
    rw [heS]; intro hu
    rw [show cellS0.vm = .unknown from hu] at hiss
    cases hiss
  have hneS : T.aS ≠ a := Nat.ne_of_lt (Nat.lt_of_lt_of_le (Array.getElem?_eq_some_iff.mp hcS0).1 hnew)
  obtain ⟨iM, hffM⟩ := Y.msg
  obtain ⟨tyC, dC, hdC, hdnC⟩ := Cond.laysAt hfound hk Y.cause (a' (.lays cls Bundle.tN "cause" "Ljava/lang/Throwable;") (by simp [Bundle.ownAtoms]))
  obtain ⟨tyS, dS, hdS, hdnS⟩ := Cond.laysAt hfound hk Y.stack (a' (.lays cls Bundle.tN "stackTrace" Bundle.steD) (by simp [Bundle.ownAtoms]))
  obtain ⟨tyP, dP, hdP, hdnP⟩ := Cond.laysAt hfound hk Y.supp (a' (.lays cls Bundle.tN "suppressedExceptions" Bundle.listD) (by simp [Bundle.ownAtoms]))
  obtain ⟨tyM, dM, hdM, hdnM⟩ := Cond.laysAt hfound hk hffM (a' (.lays cls Bundle.tN "detailMessage" "Ljava/lang/String;") (by simp [Bundle.ownAtoms]))
  obtain ⟨tyB, dB, hdB, hdnB⟩ := Cond.laysAt hfound hk hffB (a' (.lays cls Bundle.tN "backtrace" "Ljava/lang/Object;") (by simp [Bundle.ownAtoms]))
  have bC := Cond.laysApart hdB hdC hdnB hdnC (by rw [hnB, Y.causeName]; decide)
  have bS := Cond.laysApart hdB hdS hdnB hdnS (by rw [hnB, Y.stackName]; decide)
  have bP := Cond.laysApart hdB hdP hdnB hdnP (by rw [hnB, Y.suppName]; decide)
  have hskip : SkipFacts T e.platform s (fun u => u) u0 ((preparedCellV T.toThrowableT (freshCell P1.m.cls kX) a u0 sen).withEntry W.cur) :=
    ⟨{ ci198 := ci198, i198 := i198, fBack := fB }, ⟨hk198, hg198, ha198, hsB⟩, by
      have := fresh_default (c := P1.m.cls) tyB
      rw [htB] at this
      simpa [preparedCellV, Cell.setSlot, Cell.withEntry, Array.getElem?_setIfInBounds, bC, bS, bP, bC.symm, bS.symm, bP.symm, defaultValue] using this, fun _ _ => rfl⟩
  obtain ⟨tm, methC, cdC, kC, vm₁, hnC, -, -, -, -, -, -, -, hW₁, st1⟩ := Steps.initColdS (tb := p.tables) (e := e) (below := below) (s := s) (U := W) X.here hexec X.warmed hpl hown (t := Bundle.initS cls) rfl rfl (Bundle.fit_spec hcls).2
    (a' (.methodLink own ic (Bundle.initS cls)) (by simp [Bundle.ownAtoms])) (h (.instanceMethod (Bundle.initS cls)) (by cases names <;> simp [Bundle.ownAtoms, Bundle.chainSAtoms, Bundle.passSAtoms])) (bytes := Bundle.six) (maxL := 2) (h (.code (Bundle.initS cls) Bundle.six 2 none) (by cases names <;> simp [Bundle.ownAtoms, Bundle.chainSAtoms, Bundle.passSAtoms]))
    (f := g) hg (a := a) (msg := msg) (rest := .ref a :: rest) hstack hd6
  cases Option.some.inj (hnC.symm.trans hP1m)
  have X₁ := X.noted hW₁
  obtain ⟨vm₂, X₂, st2⟩ := X₁.ctorMessageOffV hexec (g := { g with stack := .ref a :: rest }) hg hsize T L Z LZ M LM (P1 :: Ps)
    (fun P hP => by rcases List.mem_cons.mp hP with rfl | hP; exact L1; exact hL P hP) ⟨hlink1, hlink⟩ (u0 := u0) (sen := sen) (self := a) hmsg (cell := freshCell P1.m.cls kX) (cellS := cellS)
    hcell (fun _ => by simp) (by simp) rfl rfl hsel0 hselF hcellS hneS hknownS (by rw [hkeep _ (hout' _)]; exact hu0) (by rw [hkeep _ (hout' _)]; exact hsen)
    (Takes.of_laid hk hord tyC (by rw [Y.causeType]; rfl)) (Takes.of_laid hk hord tyS (by rw [Y.stackType]; exact fits_refV_array _ u0)) (Takes.of_laid hk hord tyP (by rw [Y.suppType]; exact fits_refV_object _ sen))
    (Takes.of_laid hk hord tyM (by rw [Y.msgType]; exact fits_refV_object _ ⟨msg, hmsg⟩)) Y.objLocals hskip htr [] hd6
    (by simp only [List.length_cons, hlen]; omega) (by simp only [List.length_cons, hlen]; exact hRlocals)
  have hlt : a < ((W.setVm vm₁).setVm vm₂).heap.size := (Array.getElem?_eq_some_iff.mp hcell).1
  refine ⟨(W.setVm vm₁).setVm vm₂, _, _, X₂, fun y hy => ?_, hlt, rfl, rfl, fun target hwalk => st1 _ (fun acts => ?_)⟩
  · simp only [List.mem_cons, List.not_mem_nil, or_false] at hy
    rcases hy with rfl | rfl | rfl | rfl | rfl <;> rfl
  · rw [doInvoke_state]
    exact st2 _ hwalk
set_option maxHeartbeats 1000000 in
theorem vx_ctorMade0 (X : Stand p l e R s m₀ args below meth c W locs cells slots) (hexec : p.tables.exec = Jvm.exec) (htr : e.platform.stackTraces = false) {own cls : String} {names : List String} {ic : Nat}
    (hown : s.vm.findClass own = some m₀.cls) (hcls : Bundle.fit cls = true) (hnames : ∀ n ∈ names, Bundle.fit n = true)
    (h : ∀ a ∈ Bundle.ownAtoms0 own ic cls names, a.before args s = true)
    (hlocs : ∀ x ∈ locs, ∀ cell, s.heap[x.base]? = some cell → cell.vm.isStatics = false)
    {a : Addr} {cX : ClassId} {kX : Class} (hfoundX : s.vm.findClass cls = some cX) (hkX : s.vm.classes[cX]? = some kX) (hcell : W.heap[a]? = some (freshCell cX kX)) (hnew : s.heap.size ≤ a)
    {g : JFrame} (hg : g.method = m₀) (hsize : g.locals.size = c.maxLocals) {rest : List Value} (hstack : g.stack = .ref a :: .ref a :: rest)
    (hd6 : decode c.code g.pc = .ok (.invokespecial ic, 3))
    (hRframes : names.length + 3 < R.frames) (hRlocals : 2 * g.monitorRoom + ((Value.ref a :: rest).map fun v => v.category).sum + (13 * (names.length + 1) + 41) ≤ R.locals) :
    ∃ (V : State) (ce : Cell) (L : List Loc), Stand p l e R s m₀ args below meth c (V.setCell a ce) (locs ++ L) cells slots ∧ (∀ y ∈ L, y.base = a) ∧ a < V.heap.size ∧ ce.cls = cX ∧ ce.vm = .none ∧
      ∀ target, Steps p.tables e below ((V.setCell a ce).setTop { g with stack := .ref a :: rest, pc := g.pc + 3 }) target → Steps p.tables e below (W.setTop g) target := by
  have howns : e.platform.frameOwnsMonitors = true := by rw [X.admits.platform]
  have hfin : e.platform.finalization = false := by rw [X.admits.platform]
  have hpl : e.platform.magicAccessors = ({} : Platform).magicAccessors := by rw [X.admits.platform]
  have a' : ∀ x, x ∈ Bundle.ownAtoms0 own ic cls names → x.holds args s none s [] = true := fun x hx => h x hx
  obtain ⟨T, Z, L, LZ, Y⟩ := ThrowableC.of_atoms (args := args) howns hfin hpl (fun x hx => h x (by simp [Bundle.ownAtoms0, hx]))
  obtain ⟨P1, Ps, hlen, L1, hL, hP1m, hlink1, hlink⟩ := Bundle.chain0 (args := args) hpl Y.init0 names cls hcls hnames (fun x hx => h x (by simp [Bundle.ownAtoms0, hx]))
  have hfound : s.vm.findClass cls = some P1.m.cls := findClass_of_methodNamed hP1m
  cases Option.some.inj (hfoundX.symm.trans hfound)
  obtain ⟨c1, kX', hc1, hk, hord, -, -, hn6⟩ := Cond.instantiable_spec (a' (.instantiable cls 6) (by simp [Bundle.ownAtoms0]))
  cases Option.some.inj (hc1.symm.trans hfound)
  cases Option.some.inj (hkX.symm.trans hk)
  have hsel0 : selectMethod e.platform s.vm P1.m.cls T.fill0 = .method T.fill0 := by
    obtain ⟨c2, r2, m2, q1, q2, q3, q4, -⟩ := Cond.selects_spec (a' (.selects cls Bundle.tFill0 Bundle.tFill0) (by simp [Bundle.ownAtoms0]))
    cases Option.some.inj (q1.symm.trans hfound)
    cases Option.some.inj (q2.symm.trans (State.methodFound?_of_named Y.fill0 (by decide)))
    cases Option.some.inj (q3.symm.trans Y.fill0)
    rw [Launch.admits_selectMethod X.admits]; exact q4
  have hselF : selectMethod e.platform s.vm P1.m.cls T.fill = .method T.fill := by
    obtain ⟨c2, r2, m2, q1, q2, q3, q4, -⟩ := Cond.selects_spec (a' (.selects cls Bundle.tFill Bundle.tFill) (by simp [Bundle.ownAtoms0]))
    cases Option.some.inj (q1.symm.trans hfound)
    cases Option.some.inj (q2.symm.trans (State.methodFound?_of_named Y.fill (by decide)))
    cases Option.some.inj (q3.symm.trans Y.fill)
    rw [Launch.admits_selectMethod X.admits]; exact q4
  obtain ⟨cellS0, hcS0, hiss⟩ := Y.statics
  obtain ⟨u0, hu0⟩ := Cond.staticRefV Y.unassigned L.unassignedStatic L.statics hcS0 hiss (a' (.isRef (.static Bundle.tN "UNASSIGNED_STACK" Bundle.steD)) (by simp [Bundle.ownAtoms0]))
  obtain ⟨sen, hsen⟩ := Cond.staticRefV Y.sentinel L.sentinelStatic L.statics hcS0 hiss (a' (.isRef (.static Bundle.tN "SUPPRESSED_SENTINEL" Bundle.listD)) (by simp [Bundle.ownAtoms0]))
  obtain ⟨ci198, i198, fB, hk198, hg198, ha198, hsB, -, hnB, htB, hffB⟩ := Cond.ownField (t := .object "java/lang/Object") Y.found L.cls (by decide +kernel) (a' (.fieldLink Bundle.tN 198 Bundle.tN "backtrace" "Ljava/lang/Object;") (by simp [Bundle.ownAtoms0])) (a' (.lays Bundle.tN Bundle.tN "backtrace" "Ljava/lang/Object;") (by simp [Bundle.ownAtoms0])) e.platform hpl
  obtain ⟨cellS, hcS', heS, -, hkeep⟩ := X.same.2.2.2.2.2 T.aS cellS0 hcS0
  have hcellS : W.heap[T.aS]? = some cellS := hcS'
  have hout' : ∀ i, (⟨T.aS, i⟩ : Loc) ∉ locs := fun i hmem => by
    have := hlocs _ hmem cellS0 hcS0
    rw [hiss] at this; cases this
  have hknownS : cellS.vm ≠ .unknown := by
    rw [heS]; intro hu
    rw [show cellS0.vm = .unknown from hu] at hiss
    cases hiss
  have hneS : T.aS ≠ a := Nat.ne_of_lt (Nat.lt_of_lt_of_le (Array.getElem?_eq_some_iff.mp hcS0).1 hnew)
  obtain ⟨iM, hffM⟩ := Y.msg
  obtain ⟨tyC, dC, hdC, hdnC⟩ := Cond.laysAt hfound hk Y.cause (a' (.lays cls Bundle.tN "cause" "Ljava/lang/Throwable;") (by simp [Bundle.ownAtoms0]))
  obtain ⟨tyS, dS, hdS, hdnS⟩ := Cond.laysAt hfound hk Y.stack (a' (.lays cls Bundle.tN "stackTrace" Bundle.steD) (by simp [Bundle.ownAtoms0]))
  obtain ⟨tyP, dP, hdP, hdnP⟩ := Cond.laysAt hfound hk Y.supp (a' (.lays cls Bundle.tN "suppressedExceptions" Bundle.listD) (by simp [Bundle.ownAtoms0]))
  obtain ⟨tyM, dM, hdM, hdnM⟩ := Cond.laysAt hfound hk hffM (a' (.lays cls Bundle.tN "detailMessage" "Ljava/lang/String;") (by simp [Bundle.ownAtoms0]))
  obtain ⟨tyB, dB, hdB, hdnB⟩ := Cond.laysAt hfound hk hffB (a' (.lays cls Bundle.tN "backtrace" "Ljava/lang/Object;") (by simp [Bundle.ownAtoms0]))
  have bC := Cond.laysApart hdB hdC hdnB hdnC (by rw [hnB, Y.causeName]; decide)
  have bS := Cond.laysApart hdB hdS hdnB hdnS (by rw [hnB, Y.stackName]; decide)
  have bP := Cond.laysApart hdB hdP hdnB hdnP (by rw [hnB, Y.suppName]; decide)
  have hskip : SkipFacts T e.platform s (fun u => u) u0 ((preparedCellV T.toThrowableT (freshCell P1.m.cls kX) a u0 sen).withEntry W.cur) :=
    ⟨{ ci198 := ci198, i198 := i198, fBack := fB }, ⟨hk198, hg198, ha198, hsB⟩, by
      have := fresh_default (c := P1.m.cls) tyB
      rw [htB] at this
      simpa [preparedCellV, Cell.setSlot, Cell.withEntry, Array.getElem?_setIfInBounds, bC, bS, bP, bC.symm, bS.symm, bP.symm, defaultValue] using this, fun _ _ => rfl⟩
  obtain ⟨tm, methC, cdC, kC, vm₁, hnC, -, -, -, -, -, -, -, hW₁, st1⟩ := Steps.initCold (tb := p.tables) (e := e) (below := below) (s := s) (U := W) X.here hexec X.warmed hpl hown (t := Bundle.init0 cls) rfl rfl (Bundle.fit_spec hcls).2
    (a' (.methodLink own ic (Bundle.init0 cls)) (by simp [Bundle.ownAtoms0])) (h (.instanceMethod (Bundle.init0 cls)) (by cases names <;> simp [Bundle.ownAtoms0, Bundle.chain0Atoms, Bundle.passAtoms])) (bytes := Bundle.five) (maxL := 1) (h (.code (Bundle.init0 cls) Bundle.five 1 none) (by cases names <;> simp [Bundle.ownAtoms0, Bundle.chain0Atoms, Bundle.passAtoms]))
    (f := g) hg (a := a) (rest := .ref a :: rest) hstack hd6
  cases Option.some.inj (hnC.symm.trans hP1m)
  have X₁ := X.noted hW₁
  obtain ⟨vm₂, X₂, st2⟩ := X₁.ctorPlainOffV hexec (g := { g with stack := .ref a :: rest }) hg hsize T L Z LZ (P1 :: Ps)
    (fun P hP => by rcases List.mem_cons.mp hP with rfl | hP; exact L1; exact hL P hP) ⟨hlink1, hlink⟩ (u0 := u0) (sen := sen) (self := a) (cell := freshCell P1.m.cls kX) (cellS := cellS)
    hcell (fun _ => by simp) (by simp) rfl rfl hsel0 hselF hcellS hneS hknownS (by rw [hkeep _ (hout' _)]; exact hu0) (by rw [hkeep _ (hout' _)]; exact hsen)
    (Takes.of_laid hk hord tyC (by rw [Y.causeType]; rfl)) (Takes.of_laid hk hord tyS (by rw [Y.stackType]; exact fits_refV_array _ u0)) (Takes.of_laid hk hord tyP (by rw [Y.suppType]; exact fits_refV_object _ sen)) Y.objLocals hskip htr [] hd6
    (by simp only [List.length_cons, hlen]; omega) (by simp only [List.length_cons, hlen]; exact hRlocals)
  have hlt : a < ((W.setVm vm₁).setVm vm₂).heap.size := (Array.getElem?_eq_some_iff.mp hcell).1
  refine ⟨(W.setVm vm₁).setVm vm₂, _, _, X₂, fun y hy => ?_, hlt, rfl, rfl, fun target hwalk => st1 _ (fun acts => ?_)⟩
  · simp only [List.mem_cons, List.not_mem_nil, or_false] at hy
    rcases hy with rfl | rfl | rfl | rfl <;> rfl
  · rw [doInvoke_state]
    exact st2 _ hwalk
end VXK
section VXK2
variable {p : Program} {l : Launch} {e : Env} {R : Room} {s : State} {m : MethodId} {args : Array Value} {below : List Frame} {meth : Method} {c : Code} {H : Heap} {locs : List Loc} {cells slots : Nat} {Q : State → Prop}
variable {ls : Array Slot} {rest : List Value} {D : va_G} {cl : List vw_C} {tys : List (ClassId × FieldType)} {ws : va_W}
/-- 'new E("text")' that isn't thrown at once: the object goes on the stack -/
theorem vx_makeS {cc : ByteArray} {pc : Nat} (hexec : p.tables.exec = Jvm.exec) (hb : c.code = cc) (hl : l.stackTraces = false) {own cls text : String} {names : List String} {ik is ic sa ci : Nat} {A : Nat → Prop} {T0 : u_T}
    (hown : s.vm.findClass own = some m.cls) (hcls : Bundle.fit cls = true) (hnames : ∀ n ∈ names, Bundle.fit n = true)
    (hk : (Cond.classLink own ik cls).before args s = true) (hini : (Cond.initialized cls).before args s = true) (hstr : vk_R own is text sa s) (hat : ∀ w ∈ vx_atS own ic cls names, w.before args s = true)
    (hgood : ∀ w ∈ Cond.classLink own ik cls :: Cond.initialized cls :: vx_atS own ic cls names, vx_ot w = true)
    (hU : vx_Zq Bundle.tN "UNASSIGNED_STACK" Bundle.steD A s s.heap) (hN : vx_Zq Bundle.tN "SUPPRESSED_SENTINEL" Bundle.listD A s s.heap) (hS : va_S A s.heap H locs) (hsize : ls.size = c.maxLocals)
    (d0 : decode cc pc = .ok (.new ik, 3)) (d3 : decode cc (pc + 3) = .ok (.dup, 1)) (d4 : decode cc (pc + 4) = .ok (.ldc is, 2)) (d6 : decode cc (pc + 6) = .ok (.invokespecial ic, 3))
    (hK : va_K D cl tys s) (hP : va_P D cl ws H) (hD : va_D A ws) (hA : ∀ q, s.heap.size ≤ q → A q) (hc : cl[ci]? = some (cls, T0, 0))
    (hRframes : names.length + 3 < R.frames) (hRlocals : (rest.map fun v => v.category).sum + (13 * (names.length + 1) + 43) ≤ R.locals) (hRcells : cells + 1 ≤ R.cells) (hRslots : slots + 6 ≤ R.slots)
    (kk : ∀ (q : Nat) (H1 : Heap), va_P D cl (ws ++ [(q, .inr (ci, []))]) H1 → va_D A (ws ++ [(q, .inr (ci, []))]) → va_S A s.heap H1 locs → W p l e R s m args below meth c H1 locs (cells + 1) (slots + 6) Q (F0 m (pc + 9) ls (.ref q :: rest))) :
    W p l e R s m args below meth c H locs cells slots Q (F0 m pc ls rest) := by
  intro T hT X
  subst hT
  have htr : e.platform.stackTraces = false := (show e.platform.stackTraces = l.stackTraces by rw [X.admits.platform]).trans hl
  have Y := vx_rebase X (R' := { frames := R.frames, locals := R.locals, cells := 1, slots := 6 }) (Nat.le_refl _) (Nat.le_refl _) hRcells hRslots
  obtain ⟨s', hA'⟩ : ∃ z, z = (T.setVm s.vm).setFrames (.invoking m args :: below) := ⟨_, rfl⟩
  rw [← hA'] at Y
  have hvm : s'.vm = s.vm := by rw [hA']; rfl
  have hhp : s'.heap = T.heap := by rw [hA']; rfl
  have hW0 : s.WarmedH s'.vm := by rw [hvm]; exact State.WarmedH.refl s
  have hat' : ∀ w ∈ vx_atS own ic cls names, w.before args s' = true := fun w hw => vx_ot_at hW0 hvm.symm (hgood w (List.mem_cons_of_mem _ (List.mem_cons_of_mem _ hw))) (hat w hw)
  have hk' : (Cond.classLink own ik cls).before args s' = true := vx_ot_at hW0 hvm.symm (hgood _ List.mem_cons_self) hk
  have hini' : (Cond.initialized cls).before args s' = true := vx_ot_at hW0 hvm.symm (hgood _ (List.mem_cons_of_mem _ List.mem_cons_self)) hini
  have hU' : vx_Zq Bundle.tN "UNASSIGNED_STACK" Bundle.steD A s' s'.heap := by rw [hhp]; exact vx_Zq.moved hW0.alike (hU.kept hS.2.1)
  have hN' : vx_Zq Bundle.tN "SUPPRESSED_SENTINEL" Bundle.listD A s' s'.heap := by rw [hhp]; exact vx_Zq.moved hW0.alike (hN.kept hS.2.1)
  have h : ∀ w ∈ Bundle.ownAtoms own ic cls names, w.before args s' = true := vx_own hat' (vx_isRefq hU'.1) (vx_isRefq hN'.1) hU'.2.word hN'.2.word
  have hown' : s'.vm.findClass own = some m.cls := by rw [hvm]; exact hown
  have hins : (Cond.instantiable cls 6).before args s' = true := h _ (by simp [Bundle.ownAtoms])
  obtain ⟨vm₁, cX, kX, hfX, hkX, -, -, X₁, st1⟩ := Y.newCold hexec (own := own) (C := cls) (index := ik) (n := 6) hown' hk' hins hini'
    (g := F0 m pc ls rest) rfl (by rw [hb]; exact d0) (Nat.le_refl _) (Nat.le_refl _)
  generalize hT1 : (T.setVm vm₁).pushCell { cls := cX, slots := kX.instanceTypes.map defaultValue, vm := .none } = T1 at X₁ st1
  have hcat : (Value.ref T.heap.size).category = 1 := rfl
  have hcellA : T1.heap[T.heap.size]? = some (freshCell cX kX) := by rw [← hT1]; exact State.heap_pushCell_size _ _
  have d3' : decode c.code (pc + 3) = .ok (.dup, 1) := by rw [hb]; exact d3
  have d4' : decode c.code (pc + 4) = .ok (.ldc is, 2) := by rw [hb]; exact d4
  have hstr' : vk_R own is text sa s' := vk_R.warm hW0 hstr
  obtain ⟨V, ce, L, Z, hL, hlt, hcl9, hvm9, st⟩ := vx_ctorMadeS X₁ hexec htr (own := own) (cls := cls) (names := names) (ic := ic) hown' hcls hnames h (fun x hx => nomatch hx) hfX hkX hcellA (by rw [hhp]; exact Nat.le_refl _) (msg := .ref sa) rfl
    (g := { method := m, pc := pc + 6, locals := ls, stack := .ref sa :: .ref T.heap.size :: .ref T.heap.size :: rest, locked := none }) rfl hsize (rest := rest) rfl
    (by rw [hb]; exact d6) hRframes (by simp only [List.map_cons, List.sum_cons, hcat]; omega)
  have Z0 := Stand.forget (locs := []) Z (fun y hy => by rw [hL y hy, hhp]; exact Nat.le_refl _)
  obtain ⟨f1, f2⟩ := vx_frame Z0.same
  rw [hhp] at f1 f2
  have hcid : ce.cls = D.1 ci := by
    rw [hcl9]
    have h1 := (hK.1 ci _ hc).2.1
    rw [hvm] at hfX
    exact Option.some.inj (hfX.symm.trans h1)
  have hh : (V.setCell T.heap.size ce).heap[T.heap.size]? = some ce := heapAt_setCell_self (s := V) ce hlt
  subst hA'
  have X5 := vx_back9 X Y Z0
  have X6 : Stand p l e R s m args below meth c (V.setCell T.heap.size ce) locs (cells + 1) (slots + 6) := { X5 with same := X5.same.mono (by omega) (by omega) }
  have hk9 : ∀ (k : Nat) (x : Nat × va_E), ws[k]? = some x → (V.setCell T.heap.size ce).heap[x.1]? = T.heap[x.1]? := fun k x hx => f2 x.1 ((hP k x hx).lt) (fun z hz => nomatch hz)
  obtain ⟨t, a1, b1⟩ := kk T.heap.size (V.setCell T.heap.size ce).heap ((hP.kept hk9).app (fun k x hx => by
      have hz : k < 1 := (List.getElem?_eq_some_iff.mp hx).1
      rw [show k = 0 by omega] at hx
      cases hx
      exact ⟨_, hc, ce, hh, hcid, hvm9, fun k hk => absurd hk (Nat.not_lt_zero k)⟩)) (hD.push hP rfl (hA _ hS.1)) ⟨Nat.le_trans hS.1 f1, fun q h1 h2 => (f2 q (Nat.lt_of_lt_of_le h1 hS.1) (fun z hz => nomatch hz)).trans (hS.2.1 q h1 h2), hS.2.2⟩ _ rfl X6
  refine ⟨t, st1 _ ?_, b1⟩
  show Steps p.tables e below (T1.setTop { method := m, pc := pc + 3, locals := ls, stack := .ref T.heap.size :: rest, locked := none }) _
  jvm_step X₁.here [X₁.here.top, hexec, d3', Value.category]
  exact X₁.ldcString hexec (own := own) (text := text) (index := is) (a := sa) hown' hstr'.1 hstr'.2
    (g := { method := m, pc := pc + 4, locals := ls, stack := .ref T.heap.size :: .ref T.heap.size :: rest, locked := none }) rfl d4' _ (st _ a1)
/-- 'new E()' that isn't thrown at once: the object goes on the stack -/
theorem vx_make0 {cc : ByteArray} {pc : Nat} (hexec : p.tables.exec = Jvm.exec) (hb : c.code = cc) (hl : l.stackTraces = false) {own cls : String} {names : List String} {ik ic ci : Nat} {A : Nat → Prop} {T0 : u_T}
    (hown : s.vm.findClass own = some m.cls) (hcls : Bundle.fit cls = true) (hnames : ∀ n ∈ names, Bundle.fit n = true)
    (hk : (Cond.classLink own ik cls).before args s = true) (hini : (Cond.initialized cls).before args s = true) (hat : ∀ w ∈ vx_at0 own ic cls names, w.before args s = true)
    (hgood : ∀ w ∈ Cond.classLink own ik cls :: Cond.initialized cls :: vx_at0 own ic cls names, vx_ot w = true)
    (hU : vx_Zq Bundle.tN "UNASSIGNED_STACK" Bundle.steD A s s.heap) (hN : vx_Zq Bundle.tN "SUPPRESSED_SENTINEL" Bundle.listD A s s.heap) (hS : va_S A s.heap H locs) (hsize : ls.size = c.maxLocals)
    (d0 : decode cc pc = .ok (.new ik, 3)) (d3 : decode cc (pc + 3) = .ok (.dup, 1)) (d4 : decode cc (pc + 4) = .ok (.invokespecial ic, 3))
    (hK : va_K D cl tys s) (hP : va_P D cl ws H) (hD : va_D A ws) (hA : ∀ q, s.heap.size ≤ q → A q) (hc : cl[ci]? = some (cls, T0, 0))
    (hRframes : names.length + 3 < R.frames) (hRlocals : (rest.map fun v => v.category).sum + (13 * (names.length + 1) + 42) ≤ R.locals) (hRcells : cells + 1 ≤ R.cells) (hRslots : slots + 6 ≤ R.slots)
    (kk : ∀ (q : Nat) (H1 : Heap), va_P D cl (ws ++ [(q, .inr (ci, []))]) H1 → va_D A (ws ++ [(q, .inr (ci, []))]) → va_S A s.heap H1 locs → W p l e R s m args below meth c H1 locs (cells + 1) (slots + 6) Q (F0 m (pc + 7) ls (.ref q :: rest))) :
    W p l e R s m args below meth c H locs cells slots Q (F0 m pc ls rest) := by
  intro T hT X
  subst hT
  have htr : e.platform.stackTraces = false := (show e.platform.stackTraces = l.stackTraces by rw [X.admits.platform]).trans hl
  have Y := vx_rebase X (R' := { frames := R.frames, locals := R.locals, cells := 1, slots := 6 }) (Nat.le_refl _) (Nat.le_refl _) hRcells hRslots
  obtain ⟨s', hA'⟩ : ∃ z, z = (T.setVm s.vm).setFrames (.invoking m args :: below) := ⟨_, rfl⟩
  rw [← hA'] at Y
  have hvm : s'.vm = s.vm := by rw [hA']; rfl
  have hhp : s'.heap = T.heap := by rw [hA']; rfl
  have hW0 : s.WarmedH s'.vm := by rw [hvm]; exact State.WarmedH.refl s
  have hat' : ∀ w ∈ vx_at0 own ic cls names, w.before args s' = true := fun w hw => vx_ot_at hW0 hvm.symm (hgood w (List.mem_cons_of_mem _ (List.mem_cons_of_mem _ hw))) (hat w hw)
  have hk' : (Cond.classLink own ik cls).before args s' = true := vx_ot_at hW0 hvm.symm (hgood _ List.mem_cons_self) hk
  have hini' : (Cond.initialized cls).before args s' = true := vx_ot_at hW0 hvm.symm (hgood _ (List.mem_cons_of_mem _ List.mem_cons_self)) hini
  have hU' : vx_Zq Bundle.tN "UNASSIGNED_STACK" Bundle.steD A s' s'.heap := by rw [hhp]; exact vx_Zq.moved hW0.alike (hU.kept hS.2.1)
  have hN' : vx_Zq Bundle.tN "SUPPRESSED_SENTINEL" Bundle.listD A s' s'.heap := by rw [hhp]; exact vx_Zq.moved hW0.alike (hN.kept hS.2.1)
  have h : ∀ w ∈ Bundle.ownAtoms0 own ic cls names, w.before args s' = true := vx_own hat' (vx_isRefq hU'.1) (vx_isRefq hN'.1) hU'.2.word hN'.2.word
  have hown' : s'.vm.findClass own = some m.cls := by rw [hvm]; exact hown
  have hins : (Cond.instantiable cls 6).before args s' = true := h _ (by simp [Bundle.ownAtoms0])
  obtain ⟨vm₁, cX, kX, hfX, hkX, -, -, X₁, st1⟩ := Y.newCold hexec (own := own) (C := cls) (index := ik) (n := 6) hown' hk' hins hini'
    (g := F0 m pc ls rest) rfl (by rw [hb]; exact d0) (Nat.le_refl _) (Nat.le_refl _)
  generalize hT1 : (T.setVm vm₁).pushCell { cls := cX, slots := kX.instanceTypes.map defaultValue, vm := .none } = T1 at X₁ st1
  have hcat : (Value.ref T.heap.size).category = 1 := rfl
  have hcellA : T1.heap[T.heap.size]? = some (freshCell cX kX) := by rw [← hT1]; exact State.heap_pushCell_size _ _
  have d3' : decode c.code (pc + 3) = .ok (.dup, 1) := by rw [hb]; exact d3
  obtain ⟨V, ce, L, Z, hL, hlt, hcl9, hvm9, st⟩ := vx_ctorMade0 X₁ hexec htr (own := own) (cls := cls) (names := names) (ic := ic) hown' hcls hnames h (fun x hx => nomatch hx) hfX hkX hcellA (by rw [hhp]; exact Nat.le_refl _)
    (g := { method := m, pc := pc + 4, locals := ls, stack := .ref T.heap.size :: .ref T.heap.size :: rest, locked := none }) rfl hsize (rest := rest) rfl
    (by rw [hb]; exact d4) hRframes (by simp only [List.map_cons, List.sum_cons, hcat]; omega)
  have Z0 := Stand.forget (locs := []) Z (fun y hy => by rw [hL y hy, hhp]; exact Nat.le_refl _)
  obtain ⟨f1, f2⟩ := vx_frame Z0.same
  rw [hhp] at f1 f2
  have hcid : ce.cls = D.1 ci := by
    rw [hcl9]
    have h1 := (hK.1 ci _ hc).2.1
    rw [hvm] at hfX
    exact Option.some.inj (hfX.symm.trans h1)
  have hh : (V.setCell T.heap.size ce).heap[T.heap.size]? = some ce := heapAt_setCell_self (s := V) ce hlt
  subst hA'
  have X5 := vx_back9 X Y Z0
  have X6 : Stand p l e R s m args below meth c (V.setCell T.heap.size ce) locs (cells + 1) (slots + 6) := { X5 with same := X5.same.mono (by omega) (by omega) }
  have hk9 : ∀ (k : Nat) (x : Nat × va_E), ws[k]? = some x → (V.setCell T.heap.size ce).heap[x.1]? = T.heap[x.1]? := fun k x hx => f2 x.1 ((hP k x hx).lt) (fun z hz => nomatch hz)
  obtain ⟨t, a1, b1⟩ := kk T.heap.size (V.setCell T.heap.size ce).heap ((hP.kept hk9).app (fun k x hx => by
      have hz : k < 1 := (List.getElem?_eq_some_iff.mp hx).1
      rw [show k = 0 by omega] at hx
      cases hx
      exact ⟨_, hc, ce, hh, hcid, hvm9, fun k hk => absurd hk (Nat.not_lt_zero k)⟩)) (hD.push hP rfl (hA _ hS.1)) ⟨Nat.le_trans hS.1 f1, fun q h1 h2 => (f2 q (Nat.lt_of_lt_of_le h1 hS.1) (fun z hz => nomatch hz)).trans (hS.2.1 q h1 h2), hS.2.2⟩ _ rfl X6
  refine ⟨t, st1 _ ?_, b1⟩
  show Steps p.tables e below (T1.setTop { method := m, pc := pc + 3, locals := ls, stack := .ref T.heap.size :: rest, locked := none }) _
  jvm_step X₁.here [X₁.here.top, hexec, d3', Value.category]
  exact st _ a1
/-- 'throw x' of an object that was made before -/
theorem vx_athrow {cc : ByteArray} {pc : Nat} (hexec : p.tables.exec = Jvm.exec) (hb : c.code = cc) {q : Addr} (hdg : decode cc pc = .ok (.athrow, 1)) (k : vx_W p l e R s m args below meth c H locs cells slots Q (F0 m pc ls rest) q) : W p l e R s m args below meth c H locs cells slots Q (F0 m pc ls (.ref q :: rest)) := by
  intro T hT X
  obtain ⟨t, st, hq⟩ := k T hT X
  refine ⟨t, ?_, hq⟩
  have hdg' : decode c.code pc = .ok (.athrow, 1) := by rw [hb]; exact hdg
  jvm_step X.here [X.here.top, hexec, hdg', athrow.wp_sem]
  exact st
end VXK2
/-! ===== END ===== -/
/-! ===== BEGIN a constructor that throws (launches without stack traces) ===== -/
section VXIA
variable {p : Program} {l : Launch} {e : Env} {R : Room} {s : State} {m : MethodId} {args : Array Value} {below : List Frame} {meth : Method} {c : Code} {T : State} {locs : List Loc} {cells slots : Nat}
theorem vx_callI (X : Stand p l e R s m args below meth c T locs cells slots) (hexec : p.tables.exec = Jvm.exec) {own : String} {index : Nat} {y : MethodName} {bytes : ByteArray} {maxL : Nat}
    (hown : s.vm.findClass own = some m.cls) (hy1 : y.name = "<init>") (hlink : (Cond.methodLink own index y).before args s = true) (hinst : (Cond.instanceMethod y).before args s = true)
    (hcode : (Cond.code y bytes maxL none).before args s = true) (hy : y.cls ≠ "java/lang/invoke/MethodHandle" ∧ y.cls ≠ "java/lang/invoke/VarHandle")
    {W9 : Nat} {Pre : Pt → Array Value → Prop} {Post : Pt → Array Value → Option Value → Pt → Prop} {PostX : Pt → Array Value → Addr → Pt → Prop} (hK : vx_Back l R p e below s args y 3 W9 Pre Post PostX)
    {g : JFrame} (hg : g.method = m) (hsize : g.locals.size = c.maxLocals) {a : Addr} {argsL rest : List Value} (hlen : ∀ sig, parseMethodDescriptor y.desc = some sig → argsL.length = sig.parameters.length)
    (hstack : g.stack = argsL.reverse ++ .ref a :: rest) (hW : 2 * g.monitorRoom + (rest.map fun v => v.category).sum ≤ W9) (hdg : decode c.code g.pc = .ok (.invokespecial index, 3))
    (hpre : ∀ vm₁, s.WarmedH vm₁ → Pre ⟨T.setVm vm₁, locs, cells, slots⟩ (Value.ref a :: argsL).toArray) :
    (∃ (v : Option Value) (vm₁ : Vm) (B : Pt), s.WarmedH vm₁ ∧ Stand p l e R s m args below meth c B.U B.locs B.cells B.slots ∧ Post ⟨T.setVm vm₁, locs, cells, slots⟩ (Value.ref a :: argsL).toArray v B ∧
      ∀ target, Steps p.tables e below (B.U.setTop { g with pc := g.pc + 3, stack := v.toList ++ rest }) target → Steps p.tables e below (T.setTop g) target) ∨
    (∃ (q : Addr) (vm₁ : Vm) (B : Pt), s.WarmedH vm₁ ∧ Stand p l e R s m args below meth c B.U B.locs B.cells B.slots ∧ PostX ⟨T.setVm vm₁, locs, cells, slots⟩ (Value.ref a :: argsL).toArray q B ∧
      Steps p.tables e below (T.setTop g) ((B.U.setTop { g with stack := rest }).pushFrame (.throwing q))) := by
  subst hg
  have hpl : e.platform.magicAccessors = ({} : Platform).magicAccessors := by rw [X.admits.platform]
  obtain ⟨mk, methM, cM, kP, vm₁, hnamed, hmethM, hcodeM, -, hlocalsM, -, hkP, -, hW₁, hstep₁⟩ := Steps.initColdArgs (e := e) X.here hexec X.warmed hpl hown hy1 hy hlink hinst hcode (f := g) rfl hlen hstack hdg
  have X₁ := X.noted hW₁
  rcases hK g.method meth c ⟨T.setVm vm₁, locs, cells, slots⟩ { g with stack := rest } (.invokespecial index) mk (Value.ref a :: argsL).toArray X₁ rfl hsize hdg hW (X₁.named hnamed) (hpre vm₁ X₁.warmed) with ⟨v, B, X', hpost, hsteps⟩ | ⟨q, B, X', hpost, hsteps⟩
  · exact Or.inl ⟨v, vm₁, B, X₁.warmed, X', hpost, fun target h => hstep₁ _ fun acts => by rw [doInvoke_state]; exact hsteps.trans h⟩
  · exact Or.inr ⟨q, vm₁, B, X₁.warmed, X', hpost, hstep₁ _ fun acts => by rw [doInvoke_state]; exact hsteps⟩
end VXIA
section VXIB
variable {p : Program} {l : Launch} {e : Env} {R : Room} {s : State} {m : MethodId} {args : Array Value} {below : List Frame} {meth : Method} {c : Code} {H : Heap} {locs : List Loc} {cells slots : Nat}
variable {y : MethodName} {bytes cc : ByteArray} {maxL nL mc ms n index : Nat} {ret : Option FieldType} {ws : List Cond} {rm : Room} {Pc : Array Value → State → Prop} {Qc : Array Value → State → Outcome → State → Prop} {XC : String → State → State → Prop} {free : Addr → Prop} {Ts : List Cond} {own C : String} {b : Addr} {As rest : List Value} {g : JFrame}
theorem vx_runI (S : CallFix p m c cc nL s args Ts own) (hM : vx_Met l y ws rm Pc Qc XC mc ms free) (cw : CallB R s args own index y bytes maxL none ws rm mc ms n ∧ y.name = "<init>" ∧ (Cond.instanceMethod y).before args s = true) (hp : PreS s H Pc (.ref b :: As))
    (hg : g.method = m) (hn : As.length = n) (hsize : g.locals.size = nL) (hstack : g.stack = As.reverse ++ .ref b :: rest) (hW : 2 * g.monitorRoom + (rest.map fun v => v.category).sum ≤ 8) (hdg : decode cc g.pc = .ok (.invokespecial index, 3)) (hf : cells + mc ≤ R.cells ∧ slots + ms ≤ R.slots) :
    vx_Run p l e R s m args below meth c H locs cells slots mc ms g rest (Qc (Value.ref b :: As).toArray) XC free := by
  have hK : vx_Back l R p e below s args y 3 8 (PreOf R mc ms Pc) (PostOf Qc mc ms free) (vx_Post XC mc ms free) := vx_callBack cw.1 hM hp.1
  obtain ⟨⟨-, -, -, -, -, -, hcode, -, hy, hlen, hl⟩, hy1, hin⟩ := cw
  obtain ⟨hx, hb, hml, ho, -⟩ := S
  have hPc := hp.2
  intro T hT X
  rcases vx_callI X hx (bytes := bytes) (maxL := maxL) ho hy1 hl hin hcode hy hK hg (hsize.trans hml.symm) (a := b) (argsL := As) (rest := rest) (fun sig h => hn.trans (hlen sig h)) hstack hW (by rw [hb]; exact hdg)
    (fun vm₁ hW₁ => ⟨hf.1, hf.2, hPc (T.setVm vm₁) hT hW₁⟩) with ⟨v, vm₁, ⟨U', l2, c2, s2⟩, hW₁, X', ⟨g', mk, t, L, e1, e2, hq, h1, hL, h2, h3⟩, st⟩ | ⟨q, vm₁, ⟨U', l2, c2, s2⟩, hW₁, X', ⟨g', mk, t, L, E, ce, e1, e2, hq, hce, hcv, hcl, h1, hL, h2, h3⟩, st⟩
  · dsimp only [Pt.U, Pt.locs, Pt.cells, Pt.slots] at X' e1 e2 h1 h2 h3 st
    subst h1; subst h2; subst h3
    exact Or.inl ⟨v, (T.setVm vm₁).calling g' mk (Value.ref b :: As).toArray, t, U', L, hT, X', hL, e1, e2, hq, st⟩
  · dsimp only [Pt.U, Pt.locs, Pt.cells, Pt.slots] at X' e1 e2 h1 h2 h3 st hcl
    subst h1; subst h2; subst h3
    exact Or.inr ⟨q, (T.setVm vm₁).calling g' mk (Value.ref b :: As).toArray, t, U', L, E, ce, hT, X', hL, e1, e2, hq, hce, hcv, vx_cls hW₁ hcl, st⟩
end VXIB
/-! ===== END ===== -/
/-! ===== BEGIN a private constructor of a nest mate that throws ===== -/
section VXIC
variable {p : Program} {l : Launch} {e : Env} {R : Room} {s : State} {m : MethodId} {args : Array Value} {below : List Frame} {meth : Method} {c : Code} {T : State} {locs : List Loc} {cells slots : Nat}
theorem vx_callIN (X : Stand p l e R s m args below meth c T locs cells slots) (hexec : p.tables.exec = Jvm.exec) {own : String} {index : Nat} {host : String} {y : MethodName} {bytes : ByteArray} {maxL : Nat}
    (hown : s.vm.findClass own = some m.cls) (hy1 : y.name = "<init>") (hlink : (Cond.methodLinkNest own index y host).before args s = true) (hinst : (Cond.instanceMethod y).before args s = true)
    (hcode : (Cond.code y bytes maxL none).before args s = true) (hy : y.cls ≠ "java/lang/invoke/MethodHandle" ∧ y.cls ≠ "java/lang/invoke/VarHandle")
    {W9 : Nat} {Pre : Pt → Array Value → Prop} {Post : Pt → Array Value → Option Value → Pt → Prop} {PostX : Pt → Array Value → Addr → Pt → Prop} (hK : vx_Back l R p e below s args y 3 W9 Pre Post PostX)
    {g : JFrame} (hg : g.method = m) (hsize : g.locals.size = c.maxLocals) {a : Addr} {argsL rest : List Value} (hlen : ∀ sig, parseMethodDescriptor y.desc = some sig → argsL.length = sig.parameters.length)
    (hstack : g.stack = argsL.reverse ++ .ref a :: rest) (hW : 2 * g.monitorRoom + (rest.map fun v => v.category).sum ≤ W9) (hdg : decode c.code g.pc = .ok (.invokespecial index, 3))
    (hpre : ∀ vm₁, s.WarmedH vm₁ → Pre ⟨T.setVm vm₁, locs, cells, slots⟩ (Value.ref a :: argsL).toArray) :
    (∃ (v : Option Value) (vm₁ : Vm) (B : Pt), s.WarmedH vm₁ ∧ Stand p l e R s m args below meth c B.U B.locs B.cells B.slots ∧ Post ⟨T.setVm vm₁, locs, cells, slots⟩ (Value.ref a :: argsL).toArray v B ∧
      ∀ target, Steps p.tables e below (B.U.setTop { g with pc := g.pc + 3, stack := v.toList ++ rest }) target → Steps p.tables e below (T.setTop g) target) ∨
    (∃ (q : Addr) (vm₁ : Vm) (B : Pt), s.WarmedH vm₁ ∧ Stand p l e R s m args below meth c B.U B.locs B.cells B.slots ∧ PostX ⟨T.setVm vm₁, locs, cells, slots⟩ (Value.ref a :: argsL).toArray q B ∧
      Steps p.tables e below (T.setTop g) ((B.U.setTop { g with stack := rest }).pushFrame (.throwing q))) := by
  subst hg
  have hpl : e.platform.magicAccessors = ({} : Platform).magicAccessors := by rw [X.admits.platform]
  obtain ⟨mk, methM, cM, kP, vm₁, hnamed, hmethM, hcodeM, -, hlocalsM, -, hkP, -, hW₁, hstep₁⟩ := Steps.initColdArgsNest (e := e) X.here hexec X.warmed hpl hown hy1 hy hlink hinst hcode (f := g) rfl hlen hstack hdg
  have X₁ := X.noted hW₁
  rcases hK g.method meth c ⟨T.setVm vm₁, locs, cells, slots⟩ { g with stack := rest } (.invokespecial index) mk (Value.ref a :: argsL).toArray X₁ rfl hsize hdg hW (X₁.named hnamed) (hpre vm₁ X₁.warmed) with ⟨v, B, X', hpost, hsteps⟩ | ⟨q, B, X', hpost, hsteps⟩
  · exact Or.inl ⟨v, vm₁, B, X₁.warmed, X', hpost, fun target h => hstep₁ _ fun acts => by rw [doInvoke_state]; exact hsteps.trans h⟩
  · exact Or.inr ⟨q, vm₁, B, X₁.warmed, X', hpost, hstep₁ _ fun acts => by rw [doInvoke_state]; exact hsteps⟩
end VXIC
section VXID
variable {p : Program} {l : Launch} {e : Env} {R : Room} {s : State} {m : MethodId} {args : Array Value} {below : List Frame} {meth : Method} {c : Code} {H : Heap} {locs : List Loc} {cells slots : Nat}
theorem vx_runIN {y : MethodName} {bytes cc : ByteArray} {maxL nL mc ms n index : Nat} {ws : List Cond} {rm : Room} {Pc : Array Value → State → Prop} {Qc : Array Value → State → Outcome → State → Prop} {XC : String → State → State → Prop} {free : Addr → Prop} {Ts : List Cond} {own host : String} {b : Addr} {As rest : List Value} {g : JFrame}
    (S : CallFix p m c cc nL s args Ts own) (hM : vx_Met l y ws rm Pc Qc XC mc ms free) (cw : va_CN R s args own index y host bytes maxL none ws rm mc ms n ∧ y.name = "<init>" ∧ (Cond.instanceMethod y).before args s = true) (hp : PreS s H Pc (.ref b :: As))
    (hg : g.method = m) (hn : As.length = n) (hsize : g.locals.size = nL) (hstack : g.stack = As.reverse ++ .ref b :: rest) (hW : 2 * g.monitorRoom + (rest.map fun v => v.category).sum ≤ 8) (hdg : decode cc g.pc = .ok (.invokespecial index, 3)) (hf : cells + mc ≤ R.cells ∧ slots + ms ≤ R.slots) :
    vx_Run p l e R s m args below meth c H locs cells slots mc ms g rest (Qc (Value.ref b :: As).toArray) XC free := by
  obtain ⟨⟨⟨hrc, hrs, hfr, hlo, hws, hcw⟩, hcode, hini, hy, hlen, hl⟩, hx1, hx2⟩ := cw
  have hK : vx_Back l R p e below s args y 3 8 (PreOf R mc ms Pc) (PostOf Qc mc ms free) (vx_Post XC mc ms free) := vx_back (bytes := bytes) (maxL := maxL) (ret := none) hM hp.1 hrc hrs hfr hlo hws hcw (fun a' U hW => word_at hW (Or.inl (by first | rfl | simp [Cond.onTables, Cond.keeps, Cond.steady])) hini)
  obtain ⟨hx, hb, hml, ho, -⟩ := S
  have hPc := hp.2
  intro T hT X
  rcases vx_callIN X hx (bytes := bytes) (maxL := maxL) ho hx1 hl hx2 hcode hy hK hg (hsize.trans hml.symm) (a := b) (argsL := As) (rest := rest) (fun sig h => hn.trans (hlen sig h)) hstack hW (by rw [hb]; exact hdg)
    (fun vm₁ hW₁ => ⟨hf.1, hf.2, hPc (T.setVm vm₁) hT hW₁⟩) with ⟨v, vm₁, ⟨U', l2, c2, s2⟩, hW₁, X', ⟨g', mk, t, L, e1, e2, hq, h1, hL, h2, h3⟩, st⟩ | ⟨q, vm₁, ⟨U', l2, c2, s2⟩, hW₁, X', ⟨g', mk, t, L, E, ce, e1, e2, hq, hce, hcv, hcl, h1, hL, h2, h3⟩, st⟩
  · dsimp only [Pt.U, Pt.locs, Pt.cells, Pt.slots] at X' e1 e2 h1 h2 h3 st
    subst h1; subst h2; subst h3
    exact Or.inl ⟨v, (T.setVm vm₁).calling g' mk (Value.ref b :: As).toArray, t, U', L, hT, X', hL, e1, e2, hq, st⟩
  · dsimp only [Pt.U, Pt.locs, Pt.cells, Pt.slots] at X' e1 e2 h1 h2 h3 st hcl
    subst h1; subst h2; subst h3
    exact Or.inr ⟨q, (T.setVm vm₁).calling g' mk (Value.ref b :: As).toArray, t, U', L, E, ce, hT, X', hL, e1, e2, hq, hce, hcv, vx_cls hW₁ hcl, st⟩
end VXID
/-! ===== END ===== -/
/-! ===== BEGIN a method of a class above, found by the receiver, that may throw (follows va_callVU, va_runU of this kit) ===== -/
section
variable {p : Program} {l : Launch} {e : Env} {R : Room} {s : State} {m : MethodId} {args : Array Value} {below : List Frame} {meth : Method} {c : Code} {H : Heap} {locs : List Loc} {cells slots : Nat}
theorem vx_callVU {T : State} {locs : List Loc} {cells slots : Nat} (X : Stand p l e R s m args below meth c T locs cells slots) (hexec : p.tables.exec = Jvm.exec) {own C owner : String} {index : Nat} {x y : MethodName} {bytes : ByteArray} {maxL : Nat} {ret : Option FieldType}
    (hown : s.vm.findClass own = some m.cls) (hlink : (Cond.methodLink own index x).before args s = true) (hsame : (Cond.sameMethod x.cls owner x.name x.desc).before args s = true)
    (hd0 : va_Decl s ⟨owner, x.name, x.desc⟩) (howner : owner ≠ "java/lang/invoke/MethodHandle" ∧ owner ≠ "java/lang/invoke/VarHandle")
    (hsel : (Cond.selects C x y).before args s = true) (hinst : (Cond.instanceMethod y).before args s = true) (hcode : (Cond.code y bytes maxL ret).before args s = true)
    {W : Nat} {Pre : Pt → Array Value → Prop} {Post : Pt → Array Value → Option Value → Pt → Prop} {PostX : Pt → Array Value → Addr → Pt → Prop} (hK : vx_Back l R p e below s args y 3 W Pre Post PostX)
    {b : Addr} {cellB : Cell} (hcell : T.heap[b]? = some cellB) (hobj : cellB.vm.isStatics = false) (hcls : s.vm.findClass C = some cellB.cls)
    {g : JFrame} (hg : g.method = m) (hsize : g.locals.size = c.maxLocals) {argsL rest : List Value} (hlen : ∀ sig, parseMethodDescriptor x.desc = some sig → argsL.length = sig.parameters.length)
    (hstack : g.stack = argsL.reverse ++ .ref b :: rest) (hW : 2 * g.monitorRoom + (rest.map fun v => v.category).sum ≤ W) (hdg : decode c.code g.pc = .ok (.invokevirtual index, 3))
    (hpre : ∀ vm₁, s.WarmedH vm₁ → Pre ⟨T.setVm vm₁, locs, cells, slots⟩ (Value.ref b :: argsL).toArray) :
    (∃ (v : Option Value) (vm₁ : Vm) (B : Pt), s.WarmedH vm₁ ∧ Stand p l e R s m args below meth c B.U B.locs B.cells B.slots ∧ Post ⟨T.setVm vm₁, locs, cells, slots⟩ (Value.ref b :: argsL).toArray v B ∧
      ∀ target, Steps p.tables e below (B.U.setTop { g with pc := g.pc + 3, stack := v.toList ++ rest }) target → Steps p.tables e below (T.setTop g) target) ∨
    (∃ (q : Addr) (vm₁ : Vm) (B : Pt), s.WarmedH vm₁ ∧ Stand p l e R s m args below meth c B.U B.locs B.cells B.slots ∧ PostX ⟨T.setVm vm₁, locs, cells, slots⟩ (Value.ref b :: argsL).toArray q B ∧
      Steps p.tables e below (T.setTop g) ((B.U.setTop { g with stack := rest }).pushFrame (.throwing q))) := by
  obtain ⟨r0, r, hn, hrm, hstR, hsigR⟩ := hd0
  obtain ⟨cn, ck, r1, hcn, hck, hni, hf, hn1⟩ := Cond.sameMethod_found hsame
  cases hn.symm.trans hn1
  obtain ⟨mk, methM, hnamed, hmethM, -, habM⟩ := Cond.instanceMethod_spec hinst
  obtain ⟨c2, r2, m2, q1, q2, q3, q4, kP, hkP, hkPi⟩ := Cond.selects_spec hsel
  cases hcls.symm.trans q1
  cases hf.symm.trans q2
  cases hnamed.symm.trans q3
  have hselP : selectMethod e.platform s.vm cellB.cls r0 = .method mk := by rw [Launch.admits_selectMethod X.admits]; exact q4
  obtain ⟨vm₁, X₁, hstep₁⟩ := X.invokevirtualUp hexec hown hlink hsame howner hn hrm hstR (a := b) (cell := cellB) hcell
    (fun z h => by rw [h] at hobj; cases hobj) hselP hmethM habM hkP hkPi (g := g) hg (argsL := argsL) (rest := rest) (hlen _ hsigR) hstack hdg
  rcases hK m meth c ⟨T.setVm vm₁, locs, cells, slots⟩ { g with stack := rest } (.invokevirtual index) mk (Value.ref b :: argsL).toArray X₁ hg hsize hdg hW (X₁.named hnamed) (hpre vm₁ X₁.warmed) with ⟨v, B, X', hpost, hsteps⟩ | ⟨q, B, X', hpost, hsteps⟩
  · exact Or.inl ⟨v, vm₁, B, X₁.warmed, X', hpost, fun target h => hstep₁ _ fun acts => by rw [doInvoke_state]; exact hsteps.trans h⟩
  · exact Or.inr ⟨q, vm₁, B, X₁.warmed, X', hpost, hstep₁ _ fun acts => by rw [doInvoke_state]; exact hsteps⟩
theorem vx_runU {x y : MethodName} {bytes cc : ByteArray} {maxL nL mc ms n index : Nat} {ret : Option FieldType} {ws : List Cond} {rm : Room} {Pc : Array Value → State → Prop} {Qc : Array Value → State → Outcome → State → Prop} {XC : String → State → State → Prop} {free : Addr → Prop} {Ts : List Cond} {own C owner : String} {b : Addr} {As rest : List Value} {g : JFrame}
    (S : CallFix p m c cc nL s args Ts own) (hM : vx_Met l y ws rm Pc Qc XC mc ms free) (cw : va_CU R s args own C owner index x y bytes maxL ret ws rm mc ms n) (hp : PreV s H C b Pc As)
    (hg : g.method = m) (hn : As.length = n) (hsize : g.locals.size = nL) (hstack : g.stack = As.reverse ++ .ref b :: rest) (hW : 2 * g.monitorRoom + (rest.map fun v => v.category).sum ≤ 8) (hdg : decode cc g.pc = .ok (.invokevirtual index, 3)) (hf : cells + mc ≤ R.cells ∧ slots + ms ≤ R.slots) :
    vx_Run p l e R s m args below meth c H locs cells slots mc ms g rest (Qc (Value.ref b :: As).toArray) XC free := by
  obtain ⟨hrc, hrs, hfr, hlo, hws, hcw⟩ := cw.back
  have hini := cw.init
  have hK : vx_Back l R p e below s args y 3 8 (PreOf R mc ms Pc) (PostOf Qc mc ms free) (vx_Post XC mc ms free) := vx_back (bytes := bytes) (maxL := maxL) (ret := ret) hM hp.1 hrc hrs hfr hlo hws hcw (fun a' U hW => word_at hW (Or.inl (by first | rfl | simp [Cond.onTables, Cond.keeps, Cond.steady])) hini)
  obtain ⟨hx, hb, hml, ho, -⟩ := S
  obtain ⟨-, ⟨cellB, hcB, hoB, hclB⟩, hPc⟩ := hp
  intro T hT X
  rcases vx_callVU X hx (C := C) (owner := owner) (bytes := bytes) (maxL := maxL) (ret := ret) ho cw.link cw.same cw.decl cw.notMH cw.sel cw.inst cw.code hK (by rw [hT]; exact hcB) hoB hclB hg (hsize.trans hml.symm) (argsL := As) (rest := rest) (fun sig h => hn.trans (cw.len sig h)) hstack hW (by rw [hb]; exact hdg)
    (fun vm₁ hW₁ => ⟨hf.1, hf.2, hPc (T.setVm vm₁) hT hW₁⟩) with ⟨v, vm₁, ⟨U', l2, c2, s2⟩, hW₁, X', ⟨g', mk, t, L, e1, e2, hq, h1, hL, h2, h3⟩, st⟩ | ⟨q, vm₁, ⟨U', l2, c2, s2⟩, hW₁, X', ⟨g', mk, t, L, E, ce, e1, e2, hq, hce, hcv, hcl, h1, hL, h2, h3⟩, st⟩
  · dsimp only [Pt.U, Pt.locs, Pt.cells, Pt.slots] at X' e1 e2 h1 h2 h3 st
    subst h1; subst h2; subst h3
    exact Or.inl ⟨v, (T.setVm vm₁).calling g' mk (Value.ref b :: As).toArray, t, U', L, hT, X', hL, e1, e2, hq, st⟩
  · dsimp only [Pt.U, Pt.locs, Pt.cells, Pt.slots] at X' e1 e2 h1 h2 h3 st hcl
    subst h1; subst h2; subst h3
    exact Or.inr ⟨q, (T.setVm vm₁).calling g' mk (Value.ref b :: As).toArray, t, U', L, E, ce, hT, X', hL, e1, e2, hq, hce, hcv, vx_cls hW₁ hcl, st⟩
end
/-! ===== END ===== -/
/-! ===== BEGIN super.m(..) that may throw (follows va_callSU, va_runSU) ===== -/
section
variable {p : Program} {l : Launch} {e : Env} {R : Room} {s : State} {m : MethodId} {args : Array Value} {below : List Frame} {meth : Method} {c : Code} {H : Heap} {locs : List Loc} {cells slots : Nat}
theorem vx_callSU {T : State} {locs : List Loc} {cells slots : Nat} (X : Stand p l e R s m args below meth c T locs cells slots) (hexec : p.tables.exec = Jvm.exec) {own : String} {index : Nat} {y : MethodName} {bytes : ByteArray} {maxL : Nat} {ret : Option FieldType}
    (hown : s.vm.findClass own = some m.cls) (hlink : (Cond.methodLink own index y).before args s = true) (hsame : (Cond.sameMethod y.cls y.cls y.name y.desc).before args s = true) (hsup : (Cond.superclass own y.cls).before args s = true)
    (hinst : (Cond.instanceMethod y).before args s = true) (hcode : (Cond.code y bytes maxL ret).before args s = true) (hno : y.name ≠ "<init>")
    {W : Nat} {Pre : Pt → Array Value → Prop} {Post : Pt → Array Value → Option Value → Pt → Prop} {PostX : Pt → Array Value → Addr → Pt → Prop} (hK : vx_Back l R p e below s args y 3 W Pre Post PostX)
    {b : Addr} {cellB : Cell} {kB : Class} (hcell : T.heap[b]? = some cellB) (hobj : cellB.vm.isStatics = false) (hkB : s.vm.classes[cellB.cls]? = some kB)
    {g : JFrame} (hg : g.method = m) (hsize : g.locals.size = c.maxLocals) {argsL rest : List Value} (hlen : ∀ sig, parseMethodDescriptor y.desc = some sig → argsL.length = sig.parameters.length)
    (hstack : g.stack = argsL.reverse ++ .ref b :: rest) (hW : 2 * g.monitorRoom + (rest.map fun v => v.category).sum ≤ W) (hdg : decode c.code g.pc = .ok (.invokespecial index, 3))
    (hpre : ∀ vm₁, s.WarmedH vm₁ → Pre ⟨T.setVm vm₁, locs, cells, slots⟩ (Value.ref b :: argsL).toArray) :
    (∃ (v : Option Value) (vm₁ : Vm) (B : Pt), s.WarmedH vm₁ ∧ Stand p l e R s m args below meth c B.U B.locs B.cells B.slots ∧ Post ⟨T.setVm vm₁, locs, cells, slots⟩ (Value.ref b :: argsL).toArray v B ∧
      ∀ target, Steps p.tables e below (B.U.setTop { g with pc := g.pc + 3, stack := v.toList ++ rest }) target → Steps p.tables e below (T.setTop g) target) ∨
    (∃ (q : Addr) (vm₁ : Vm) (B : Pt), s.WarmedH vm₁ ∧ Stand p l e R s m args below meth c B.U B.locs B.cells B.slots ∧ PostX ⟨T.setVm vm₁, locs, cells, slots⟩ (Value.ref b :: argsL).toArray q B ∧
      Steps p.tables e below (T.setTop g) ((B.U.setTop { g with stack := rest }).pushFrame (.throwing q))) := by
  obtain ⟨mk, methM, hnamed, hmethM, hstM, habM⟩ := Cond.instanceMethod_spec hinst
  obtain ⟨methM', cM, hmethM', -, -, -, -, -, -, hsigM⟩ := Cond.code_spec hnamed hcode
  cases hmethM.symm.trans hmethM'
  obtain ⟨ps, dk, kp, hps, hdk, hkp, hsuper, -, -, hnid⟩ := Cond.superclass_spec hown hsup
  have hn : s.methodNamed? ⟨y.cls, y.name, y.desc⟩ = some mk := hnamed
  have hpm : ps = mk.cls := Option.some.inj (hps.symm.trans (findClass_of_methodNamed hnamed))
  have hsub : s.vm.isSubclass ps mk.cls = true := by rw [hpm]; simp [Vm.isSubclass, Vm.isSubclassAux]
  obtain ⟨vm₁, X₁, hstep₁⟩ := X.invokespecialUp hexec hown hlink hsame hn hmethM hstM habM hno hdk hnid hps hsuper hsub (a := b) (cell := cellB) hcell
    (fun z h => by rw [h] at hobj; cases hobj) hkB (g := g) hg (argsL := argsL) (rest := rest) (hlen _ hsigM) hstack hdg
  rcases hK m meth c ⟨T.setVm vm₁, locs, cells, slots⟩ { g with stack := rest } (.invokespecial index) mk (Value.ref b :: argsL).toArray X₁ hg hsize hdg hW (X₁.named hnamed) (hpre vm₁ X₁.warmed) with ⟨v, B, X', hpost, hsteps⟩ | ⟨q, B, X', hpost, hsteps⟩
  · exact Or.inl ⟨v, vm₁, B, X₁.warmed, X', hpost, fun target h => hstep₁ _ (by rw [doInvoke_state]; exact hsteps.trans h)⟩
  · exact Or.inr ⟨q, vm₁, B, X₁.warmed, X', hpost, hstep₁ _ (by rw [doInvoke_state]; exact hsteps)⟩
theorem vx_runSU {y : MethodName} {bytes cc : ByteArray} {maxL nL mc ms n index : Nat} {ret : Option FieldType} {ws : List Cond} {rm : Room} {Pc : Array Value → State → Prop} {Qc : Array Value → State → Outcome → State → Prop} {XC : String → State → State → Prop} {free : Addr → Prop} {Ts : List Cond} {own C : String} {cC : ClassId} {b : Addr} {As rest : List Value} {g : JFrame}
    (hat : ClassAt s C cC) (S : CallFix p m c cc nL s args Ts own) (hM : vx_Met l y ws rm Pc Qc XC mc ms free) (cw : va_CS R s args own index y bytes maxL ret ws rm mc ms n) (hp : PreV s H C b Pc As)
    (hg : g.method = m) (hn : As.length = n) (hsize : g.locals.size = nL) (hstack : g.stack = As.reverse ++ .ref b :: rest) (hW : 2 * g.monitorRoom + (rest.map fun v => v.category).sum ≤ 8) (hdg : decode cc g.pc = .ok (.invokespecial index, 3)) (hf : cells + mc ≤ R.cells ∧ slots + ms ≤ R.slots) :
    vx_Run p l e R s m args below meth c H locs cells slots mc ms g rest (Qc (Value.ref b :: As).toArray) XC free := by
  obtain ⟨⟨hrc, hrs, hfr, hlo, hws, hcw⟩, hl1, hl2, hl3, hl4, hini, hcode, hno, hlen⟩ := cw
  have hK : vx_Back l R p e below s args y 3 8 (PreOf R mc ms Pc) (PostOf Qc mc ms free) (vx_Post XC mc ms free) := vx_back (bytes := bytes) (maxL := maxL) (ret := ret) hM hp.1 hrc hrs hfr hlo hws hcw (fun a' U hW => word_at hW (Or.inl (by first | rfl | simp [Cond.onTables, Cond.keeps, Cond.steady])) hini)
  obtain ⟨hx, hb, hml, ho, -⟩ := S
  obtain ⟨-, ⟨cellB, hcB, hoB, hclB⟩, hPc⟩ := hp
  obtain ⟨hfc, kB, hkB, -⟩ := hat
  cases hfc.symm.trans hclB
  intro T hT X
  rcases vx_callSU X hx (bytes := bytes) (maxL := maxL) (ret := ret) ho hl1 hl2 hl3 hl4 hcode hno hK (by rw [hT]; exact hcB) hoB hkB hg (hsize.trans hml.symm) (argsL := As) (rest := rest) (fun sig h => hn.trans (hlen sig h)) hstack hW (by rw [hb]; exact hdg)
    (fun vm₁ hW₁ => ⟨hf.1, hf.2, hPc (T.setVm vm₁) hT hW₁⟩) with ⟨v, vm₁, ⟨U', l2, c2, s2⟩, hW₁, X', ⟨g', mk, t, L, e1, e2, hq, h1, hL, h2, h3⟩, st⟩ | ⟨q, vm₁, ⟨U', l2, c2, s2⟩, hW₁, X', ⟨g', mk, t, L, E, ce, e1, e2, hq, hce, hcv, hcl, h1, hL, h2, h3⟩, st⟩
  · dsimp only [Pt.U, Pt.locs, Pt.cells, Pt.slots] at X' e1 e2 h1 h2 h3 st
    subst h1; subst h2; subst h3
    exact Or.inl ⟨v, (T.setVm vm₁).calling g' mk (Value.ref b :: As).toArray, t, U', L, hT, X', hL, e1, e2, hq, st⟩
  · dsimp only [Pt.U, Pt.locs, Pt.cells, Pt.slots] at X' e1 e2 h1 h2 h3 st hcl
    subst h1; subst h2; subst h3
    exact Or.inr ⟨q, (T.setVm vm₁).calling g' mk (Value.ref b :: As).toArray, t, U', L, E, ce, hT, X', hL, e1, e2, hq, hce, hcv, vx_cls hW₁ hcl, st⟩
end
/-! ===== END ===== -/
/-! ===== BEGIN a private method of a nest mate that may throw (follows va_callVN, va_callSN, va_runVN, va_runSN) ===== -/
section
variable {p : Program} {l : Launch} {e : Env} {R : Room} {s : State} {m : MethodId} {args : Array Value} {below : List Frame} {meth : Method} {c : Code} {H : Heap} {locs : List Loc} {cells slots : Nat}
variable {T : State}
theorem vx_callVN (X : Stand p l e R s m args below meth c T locs cells slots) (hexec : p.tables.exec = Jvm.exec) {own C : String} {index : Nat} {host : String} {y : MethodName} {bytes : ByteArray} {maxL : Nat} {ret : Option FieldType}
    (hown : s.vm.findClass own = some m.cls) (hlink : (Cond.methodLinkNest own index y host).before args s = true) (hinst : (Cond.instanceMethod y).before args s = true) (hsel : (Cond.selects C y y).before args s = true)
    (hcode : (Cond.code y bytes maxL ret).before args s = true) (hy : y.cls ≠ "java/lang/invoke/MethodHandle" ∧ y.cls ≠ "java/lang/invoke/VarHandle")
    {W : Nat} {Pre : Pt → Array Value → Prop} {Post : Pt → Array Value → Option Value → Pt → Prop} {PostX : Pt → Array Value → Addr → Pt → Prop} (hK : vx_Back l R p e below s args y 3 W Pre Post PostX)
    {b : Addr} {cellB : Cell} (hcell : T.heap[b]? = some cellB) (hobj : cellB.vm.isStatics = false) (hcls : s.vm.findClass C = some cellB.cls)
    {g : JFrame} (hg : g.method = m) (hsize : g.locals.size = c.maxLocals) {argsL rest : List Value} (hlen : ∀ sig, parseMethodDescriptor y.desc = some sig → argsL.length = sig.parameters.length)
    (hstack : g.stack = argsL.reverse ++ .ref b :: rest) (hW : 2 * g.monitorRoom + (rest.map fun v => v.category).sum ≤ W) (hdg : decode c.code g.pc = .ok (.invokevirtual index, 3))
    (hpre : ∀ vm₁, s.WarmedH vm₁ → Pre ⟨T.setVm vm₁, locs, cells, slots⟩ (Value.ref b :: argsL).toArray) :
    (∃ (v : Option Value) (vm₁ : Vm) (B : Pt), s.WarmedH vm₁ ∧ Stand p l e R s m args below meth c B.U B.locs B.cells B.slots ∧ Post ⟨T.setVm vm₁, locs, cells, slots⟩ (Value.ref b :: argsL).toArray v B ∧
      ∀ target, Steps p.tables e below (B.U.setTop { g with pc := g.pc + 3, stack := v.toList ++ rest }) target → Steps p.tables e below (T.setTop g) target) ∨
    (∃ (q : Addr) (vm₁ : Vm) (B : Pt), s.WarmedH vm₁ ∧ Stand p l e R s m args below meth c B.U B.locs B.cells B.slots ∧ PostX ⟨T.setVm vm₁, locs, cells, slots⟩ (Value.ref b :: argsL).toArray q B ∧
      Steps p.tables e below (T.setTop g) ((B.U.setTop { g with stack := rest }).pushFrame (.throwing q))) := by
  obtain ⟨mk, methM, hnamed, hmethM, hstM, habM⟩ := Cond.instanceMethod_spec hinst
  obtain ⟨methM', cM, hmethM', -, -, -, -, -, -, hsigM⟩ := Cond.code_spec hnamed hcode
  cases hmethM.symm.trans hmethM'
  obtain ⟨c2, r2, m2, q1, q2, q3, q4, kP, hkP, hkPi⟩ := Cond.selects_spec hsel
  cases hcls.symm.trans q1
  cases (State.methodFound?_of_named hnamed hy).symm.trans q2
  cases hnamed.symm.trans q3
  have hselP : selectMethod e.platform s.vm cellB.cls mk = .method mk := by rw [Launch.admits_selectMethod X.admits]; exact q4
  obtain ⟨vm₁, X₁, hstep₁⟩ := X.invokevirtualNest hexec hown hlink hnamed hmethM hstM hkP hkPi hy (a := b) (cell := cellB) hcell
    (fun z h => by rw [h] at hobj; cases hobj) hselP hmethM habM hkP hkPi (g := g) hg (argsL := argsL) (rest := rest) (hlen _ hsigM) hstack hdg
  rcases hK m meth c ⟨T.setVm vm₁, locs, cells, slots⟩ { g with stack := rest } (.invokevirtual index) mk (Value.ref b :: argsL).toArray X₁ hg hsize hdg hW (X₁.named hnamed) (hpre vm₁ X₁.warmed) with ⟨v, B, X', hpost, hsteps⟩ | ⟨q, B, X', hpost, hsteps⟩
  · exact Or.inl ⟨v, vm₁, B, X₁.warmed, X', hpost, fun target h => hstep₁ _ fun acts => by rw [doInvoke_state]; exact hsteps.trans h⟩
  · exact Or.inr ⟨q, vm₁, B, X₁.warmed, X', hpost, hstep₁ _ fun acts => by rw [doInvoke_state]; exact hsteps⟩
theorem vx_callSN (X : Stand p l e R s m args below meth c T locs cells slots) (hexec : p.tables.exec = Jvm.exec) {own : String} {index : Nat} {host : String} {y : MethodName} {bytes : ByteArray} {maxL : Nat} {ret : Option FieldType}
    (hown : s.vm.findClass own = some m.cls) (hlink : (Cond.methodLinkNest own index y host).before args s = true) (hstat : (Cond.static y).before args s = true) (hinit : (Cond.initialized y.cls).before args s = true)
    (hcode : (Cond.code y bytes maxL ret).before args s = true) (hy : y.cls ≠ "java/lang/invoke/MethodHandle" ∧ y.cls ≠ "java/lang/invoke/VarHandle")
    {W : Nat} {Pre : Pt → Array Value → Prop} {Post : Pt → Array Value → Option Value → Pt → Prop} {PostX : Pt → Array Value → Addr → Pt → Prop} (hK : vx_Back l R p e below s args y 3 W Pre Post PostX)
    {g : JFrame} (hg : g.method = m) (hsize : g.locals.size = c.maxLocals) {argsL rest : List Value} (hlen : ∀ sig, parseMethodDescriptor y.desc = some sig → argsL.length = sig.parameters.length)
    (hstack : g.stack = argsL.reverse ++ rest) (hW : 2 * g.monitorRoom + (rest.map fun v => v.category).sum ≤ W) (hdg : decode c.code g.pc = .ok (.invokestatic index, 3))
    (hpre : ∀ vm₁, s.WarmedH vm₁ → Pre ⟨T.setVm vm₁, locs, cells, slots⟩ argsL.toArray) :
    (∃ (v : Option Value) (vm₁ : Vm) (B : Pt), s.WarmedH vm₁ ∧ Stand p l e R s m args below meth c B.U B.locs B.cells B.slots ∧ Post ⟨T.setVm vm₁, locs, cells, slots⟩ argsL.toArray v B ∧
      ∀ target, Steps p.tables e below (B.U.setTop { g with pc := g.pc + 3, stack := v.toList ++ rest }) target → Steps p.tables e below (T.setTop g) target) ∨
    (∃ (q : Addr) (vm₁ : Vm) (B : Pt), s.WarmedH vm₁ ∧ Stand p l e R s m args below meth c B.U B.locs B.cells B.slots ∧ PostX ⟨T.setVm vm₁, locs, cells, slots⟩ argsL.toArray q B ∧
      Steps p.tables e below (T.setTop g) ((B.U.setTop { g with stack := rest }).pushFrame (.throwing q))) := by
  obtain ⟨mk, hnamed⟩ := Cond.code_named hcode
  obtain ⟨methM, cM, hmethM, -, -, -, -, -, -, hsigM⟩ := Cond.code_spec hnamed hcode
  have hstatic : methM.isStatic = true := Cond.static_spec hnamed hmethM hstat
  obtain ⟨kP, hkP, -⟩ := className_of_methodNamed hnamed
  have hinitP : kP.init = .initialized := Cond.initialized_spec (findClass_of_methodNamed hnamed) hkP hinit
  obtain ⟨vm₁, X₁, hstep₁⟩ := X.invokestaticNest hexec hown hlink hnamed hmethM hstatic hkP hinitP hy (g := g) hg (argsL := argsL) (rest := rest) (hlen _ hsigM) hstack hdg
  rcases hK m meth c ⟨T.setVm vm₁, locs, cells, slots⟩ { g with stack := rest } (.invokestatic index) mk argsL.toArray X₁ hg hsize hdg hW (X₁.named hnamed) (hpre vm₁ X₁.warmed) with ⟨v, B, X', hpost, hsteps⟩ | ⟨q, B, X', hpost, hsteps⟩
  · exact Or.inl ⟨v, vm₁, B, X₁.warmed, X', hpost, fun target h => hstep₁ _ fun acts => by rw [doInvoke_state]; exact hsteps.trans h⟩
  · exact Or.inr ⟨q, vm₁, B, X₁.warmed, X', hpost, hstep₁ _ fun acts => by rw [doInvoke_state]; exact hsteps⟩
theorem vx_runVN {y : MethodName} {bytes cc : ByteArray} {maxL nL mc ms n index : Nat} {ret : Option FieldType} {ws : List Cond} {rm : Room} {Pc : Array Value → State → Prop} {Qc : Array Value → State → Outcome → State → Prop} {XC : String → State → State → Prop} {free : Addr → Prop} {Ts : List Cond} {own C host : String} {b : Addr} {As rest : List Value} {g : JFrame}
    (S : CallFix p m c cc nL s args Ts own) (hM : vx_Met l y ws rm Pc Qc XC mc ms free) (cw : va_CN R s args own index y host bytes maxL ret ws rm mc ms n ∧ (Cond.instanceMethod y).before args s = true ∧ (Cond.selects C y y).before args s = true) (hp : PreV s H C b Pc As)
    (hg : g.method = m) (hn : As.length = n) (hsize : g.locals.size = nL) (hstack : g.stack = As.reverse ++ .ref b :: rest) (hW : 2 * g.monitorRoom + (rest.map fun v => v.category).sum ≤ 8) (hdg : decode cc g.pc = .ok (.invokevirtual index, 3)) (hf : cells + mc ≤ R.cells ∧ slots + ms ≤ R.slots) :
    vx_Run p l e R s m args below meth c H locs cells slots mc ms g rest (Qc (Value.ref b :: As).toArray) XC free := by
  obtain ⟨⟨⟨hrc, hrs, hfr, hlo, hws, hcw⟩, hcode, hini, hy, hlen, hl⟩, hx1, hx2⟩ := cw
  have hK : vx_Back l R p e below s args y 3 8 (PreOf R mc ms Pc) (PostOf Qc mc ms free) (vx_Post XC mc ms free) := vx_back (bytes := bytes) (maxL := maxL) (ret := ret) hM hp.1 hrc hrs hfr hlo hws hcw (fun a' U hW => word_at hW (Or.inl (by first | rfl | simp [Cond.onTables, Cond.keeps, Cond.steady])) hini)
  obtain ⟨hx, hb, hml, ho, -⟩ := S
  obtain ⟨-, ⟨cellB, hcB, hoB, hclB⟩, hPc⟩ := hp
  intro T hT X
  rcases vx_callVN X hx (C := C) (bytes := bytes) (maxL := maxL) (ret := ret) ho hl hx1 hx2 hcode hy hK (by rw [hT]; exact hcB) hoB hclB hg (hsize.trans hml.symm) (argsL := As) (rest := rest) (fun sig h => hn.trans (hlen sig h)) hstack hW (by rw [hb]; exact hdg)
    (fun vm₁ hW₁ => ⟨hf.1, hf.2, hPc (T.setVm vm₁) hT hW₁⟩) with ⟨v, vm₁, ⟨U', l2, c2, s2⟩, hW₁, X', ⟨g', mk, t, L, e1, e2, hq, h1, hL, h2, h3⟩, st⟩ | ⟨q, vm₁, ⟨U', l2, c2, s2⟩, hW₁, X', ⟨g', mk, t, L, E, ce, e1, e2, hq, hce, hcv, hcl, h1, hL, h2, h3⟩, st⟩
  · dsimp only [Pt.U, Pt.locs, Pt.cells, Pt.slots] at X' e1 e2 h1 h2 h3 st
    subst h1; subst h2; subst h3
    exact Or.inl ⟨v, (T.setVm vm₁).calling g' mk (Value.ref b :: As).toArray, t, U', L, hT, X', hL, e1, e2, hq, st⟩
  · dsimp only [Pt.U, Pt.locs, Pt.cells, Pt.slots] at X' e1 e2 h1 h2 h3 st hcl
    subst h1; subst h2; subst h3
    exact Or.inr ⟨q, (T.setVm vm₁).calling g' mk (Value.ref b :: As).toArray, t, U', L, E, ce, hT, X', hL, e1, e2, hq, hce, hcv, vx_cls hW₁ hcl, st⟩
theorem vx_runSN {y : MethodName} {bytes cc : ByteArray} {maxL nL mc ms n index : Nat} {ret : Option FieldType} {ws : List Cond} {rm : Room} {Pc : Array Value → State → Prop} {Qc : Array Value → State → Outcome → State → Prop} {XC : String → State → State → Prop} {free : Addr → Prop} {Ts : List Cond} {own host : String} {As rest : List Value} {g : JFrame}
    (S : CallFix p m c cc nL s args Ts own) (hM : vx_Met l y ws rm Pc Qc XC mc ms free) (cw : va_CN R s args own index y host bytes maxL ret ws rm mc ms n ∧ (Cond.static y).before args s = true ∧ True) (hp : PreS s H Pc As)
    (hg : g.method = m) (hn : As.length = n) (hsize : g.locals.size = nL) (hstack : g.stack = As.reverse ++ rest) (hW : 2 * g.monitorRoom + (rest.map fun v => v.category).sum ≤ 8) (hdg : decode cc g.pc = .ok (.invokestatic index, 3)) (hf : cells + mc ≤ R.cells ∧ slots + ms ≤ R.slots) :
    vx_Run p l e R s m args below meth c H locs cells slots mc ms g rest (Qc As.toArray) XC free := by
  obtain ⟨⟨⟨hrc, hrs, hfr, hlo, hws, hcw⟩, hcode, hini, hy, hlen, hl⟩, hx1, hx2⟩ := cw
  have hK : vx_Back l R p e below s args y 3 8 (PreOf R mc ms Pc) (PostOf Qc mc ms free) (vx_Post XC mc ms free) := vx_back (bytes := bytes) (maxL := maxL) (ret := ret) hM hp.1 hrc hrs hfr hlo hws hcw (fun a' U hW => word_at hW (Or.inl (by first | rfl | simp [Cond.onTables, Cond.keeps, Cond.steady])) hini)
  obtain ⟨hx, hb, hml, ho, -⟩ := S
  have hPc := hp.2
  intro T hT X
  rcases vx_callSN X hx (bytes := bytes) (maxL := maxL) (ret := ret) ho hl hx1 hini hcode hy hK hg (hsize.trans hml.symm) (argsL := As) (rest := rest) (fun sig h => hn.trans (hlen sig h)) hstack hW (by rw [hb]; exact hdg)
    (fun vm₁ hW₁ => ⟨hf.1, hf.2, hPc (T.setVm vm₁) hT hW₁⟩) with ⟨v, vm₁, ⟨U', l2, c2, s2⟩, hW₁, X', ⟨g', mk, t, L, e1, e2, hq, h1, hL, h2, h3⟩, st⟩ | ⟨q, vm₁, ⟨U', l2, c2, s2⟩, hW₁, X', ⟨g', mk, t, L, E, ce, e1, e2, hq, hce, hcv, hcl, h1, hL, h2, h3⟩, st⟩
  · dsimp only [Pt.U, Pt.locs, Pt.cells, Pt.slots] at X' e1 e2 h1 h2 h3 st
    subst h1; subst h2; subst h3
    exact Or.inl ⟨v, (T.setVm vm₁).calling g' mk As.toArray, t, U', L, hT, X', hL, e1, e2, hq, st⟩
  · dsimp only [Pt.U, Pt.locs, Pt.cells, Pt.slots] at X' e1 e2 h1 h2 h3 st hcl
    subst h1; subst h2; subst h3
    exact Or.inr ⟨q, (T.setVm vm₁).calling g' mk As.toArray, t, U', L, E, ce, hT, X', hL, e1, e2, hq, hce, hcv, vx_cls hW₁ hcl, st⟩
end
/-! ===== END ===== -/
/-! ===== BEGIN calls by an interface of methods that may throw (vx_callIF, vx_runF follow va_callIF, va_runF of this kit) ===== -/
section
variable {p : Program} {l : Launch} {e : Env} {R : Room} {s : State} {m : MethodId} {args : Array Value} {below : List Frame} {meth : Method} {c : Code} {H : Heap} {locs : List Loc} {cells slots : Nat} {Q : State → Prop}
variable {mc ms : Nat} {free : Addr → Prop} {A0 A1 : Nat → Prop} {H0 : Heap} {a : Array Value} {pc : Nat} {ls : Array Slot} {st0 rest : List Value}
def vx_Run5 (p : Program) (l : Launch) (e : Env) (R : Room) (s : State) (m : MethodId) (args : Array Value) (below : List Frame) (meth : Method) (c : Code) (H : Heap) (locs : List Loc) (cells slots mc ms : Nat) (g : JFrame) (rest : List Value) (Qa : State → Outcome → State → Prop) (XC : String → State → State → Prop) (free : Addr → Prop) : Prop :=
  ∀ T : State, T.heap = H → Stand p l e R s m args below meth c T locs cells slots →
    (∃ (v : Option Value) (st₀ t T' : State) (L : List Loc), st₀.heap = H ∧ Stand p l e R s m args below meth c T' (locs ++ L) (cells + mc) (slots + ms) ∧ (∀ q ∈ L, free q.base) ∧ T'.heap = t.heap ∧ T'.vm = t.vm ∧ Qa st₀ (.returned v) t ∧
      Goes p e below T g T' { g with pc := g.pc + 5, stack := v.toList ++ rest }) ∨
    (∃ (q : Addr) (st₀ t T' : State) (L : List Loc) (E : String) (ce : Cell), st₀.heap = H ∧ Stand p l e R s m args below meth c T' (locs ++ L) (cells + mc) (slots + ms) ∧ (∀ z ∈ L, free z.base) ∧ T'.heap = t.heap ∧ T'.vm = t.vm ∧ XC E st₀ t ∧ t.heap[q]? = some ce ∧ ce.vm = .none ∧ s.vm.findClass E = some ce.cls ∧
      Steps p.tables e below (T.setTop g) ((T'.setTop { g with stack := rest }).pushFrame (.throwing q)))
theorem vx_callIF {T : State} (X : Stand p l e R s m args below meth c T locs cells slots) (hexec : p.tables.exec = Jvm.exec) {own C : String} {index count : Nat} {x y : MethodName} {bytes : ByteArray} {maxL : Nat} {ret : Option FieldType}
    (hown : s.vm.findClass own = some m.cls) (hlink : (Cond.methodLink own index x).before args s = true) (hdecl : (Cond.declares x).before args s = true) (hface : (Cond.interfaceMethod x.cls x.cls x.name x.desc).before args s = true)
    (hsel : (Cond.selects C x y).before args s = true) (hinst : (Cond.instanceMethod y).before args s = true) (hpub : (Cond.publicMethod y).before args s = true) (hunh : (Cond.unhidden C x.name x.desc).before args s = true)
    (hcast : (Cond.castable C x.cls).before args s = true) (hcode : (Cond.code y bytes maxL ret).before args s = true) (hx : x.cls ≠ "java/lang/invoke/MethodHandle" ∧ x.cls ≠ "java/lang/invoke/VarHandle")
    {W9 : Nat} {Pre : Pt → Array Value → Prop} {Post : Pt → Array Value → Option Value → Pt → Prop} {PostX : Pt → Array Value → Addr → Pt → Prop} (hK : vx_Back l R p e below s args y 5 W9 Pre Post PostX)
    {b : Addr} {cellB : Cell} {kB : Class} (hcell : T.heap[b]? = some cellB) (hobj : cellB.vm.isStatics = false) (hcls : s.vm.findClass C = some cellB.cls) (hkB : s.vm.classes[cellB.cls]? = some kB)
    {g : JFrame} (hg : g.method = m) (hsize : g.locals.size = c.maxLocals) {argsL rest : List Value} (hlen : ∀ sig, parseMethodDescriptor x.desc = some sig → argsL.length = sig.parameters.length)
    (hstack : g.stack = argsL.reverse ++ .ref b :: rest) (hW : 2 * g.monitorRoom + (rest.map fun v => v.category).sum ≤ W9) (hdg : decode c.code g.pc = .ok (.invokeinterface index count, 5))
    (hpre : ∀ vm₁, s.WarmedH vm₁ → Pre ⟨T.setVm vm₁, locs, cells, slots⟩ (Value.ref b :: argsL).toArray) :
    (∃ (v : Option Value) (vm₁ : Vm) (B : Pt), s.WarmedH vm₁ ∧ Stand p l e R s m args below meth c B.U B.locs B.cells B.slots ∧ Post ⟨T.setVm vm₁, locs, cells, slots⟩ (Value.ref b :: argsL).toArray v B ∧
      ∀ target, Steps p.tables e below (B.U.setTop { g with pc := g.pc + 5, stack := v.toList ++ rest }) target → Steps p.tables e below (T.setTop g) target) ∨
    (∃ (q : Addr) (vm₁ : Vm) (B : Pt), s.WarmedH vm₁ ∧ Stand p l e R s m args below meth c B.U B.locs B.cells B.slots ∧ PostX ⟨T.setVm vm₁, locs, cells, slots⟩ (Value.ref b :: argsL).toArray q B ∧
      Steps p.tables e below (T.setTop g) ((B.U.setTop { g with stack := rest }).pushFrame (.throwing q))) := by
  obtain ⟨r0, r, hn, hrm, hstR, hsigR⟩ := Cond.declares_spec hdecl
  obtain ⟨cL, kL, r1, hcL, hkL, hiL, hfoundL, hn1⟩ := Cond.interfaceMethod_spec hface
  cases hn.symm.trans hn1
  have hr0cls : r0.cls = cL := Option.some.inj ((findClass_of_methodNamed hn).symm.trans hcL)
  obtain ⟨hnameR, hdescR⟩ := name_of_methodNamed hn hrm
  obtain ⟨mk, methM, hnamed, hmethM, -, habM⟩ := Cond.instanceMethod_spec hinst
  obtain ⟨c2, r2, m2, q1, q2, q3, q4, -⟩ := Cond.selects_spec hsel
  cases hcls.symm.trans q1
  cases hfoundL.symm.trans q2
  cases hnamed.symm.trans q3
  have hselP : selectMethod e.platform s.vm cellB.cls r0 = .method mk := by rw [Launch.admits_selectMethod X.admits]; exact q4
  have hpubM : hasFlag methM.accessFlags Acc.public_ = true := Cond.publicMethod_spec hnamed hmethM hpub
  have hway : ((cellB.cls :: s.vm.superclasses cellB.cls).any fun k => (declaredIn s.vm r.name r.desc k).any fun (_, z) => z.isPrivate || z.isStatic) = false := by
    rw [hnameR, hdescR]; exact Cond.unhidden_spec hcls hunh
  obtain ⟨c3, t3, w1, w2, w3⟩ := Cond.castable_spec hcast
  cases hcls.symm.trans w1
  cases hcL.symm.trans w2
  obtain ⟨vm₁, X₁, hstep₁⟩ := X.invokeinterface hexec hown hlink hn hrm hstR (by rw [hr0cls]; exact hkL) hiL hx (a := b) (cell := cellB) (kcell := kB) hcell
    (fun z h => by rw [h] at hobj; cases hobj) hkB (by rw [hr0cls]; exact w3) hselP hmethM hway hpubM habM (g := g) hg (argsL := argsL) (rest := rest) (hlen _ hsigR) hstack hdg
  rcases hK m meth c ⟨T.setVm vm₁, locs, cells, slots⟩ { g with stack := rest } (.invokeinterface index count) mk (Value.ref b :: argsL).toArray X₁ hg hsize hdg hW (X₁.named hnamed) (hpre vm₁ X₁.warmed) with ⟨v, B, X', hpost, hsteps⟩ | ⟨q, B, X', hpost, hsteps⟩
  · exact Or.inl ⟨v, vm₁, B, X₁.warmed, X', hpost, fun target h => hstep₁ _ fun acts => by rw [doInvoke_state]; exact hsteps.trans h⟩
  · exact Or.inr ⟨q, vm₁, B, X₁.warmed, X', hpost, hstep₁ _ fun acts => by rw [doInvoke_state]; exact hsteps⟩
theorem vx_runF {x y : MethodName} {bytes cc : ByteArray} {maxL nL mc ms n index count : Nat} {ret : Option FieldType} {ws : List Cond} {rm : Room} {Pc : Array Value → State → Prop} {Qc : Array Value → State → Outcome → State → Prop} {XC : String → State → State → Prop} {free : Addr → Prop} {Ts : List Cond} {own C : String} {cC : ClassId} {b : Addr} {As rest : List Value} {g : JFrame}
    (hat : ClassAt s C cC) (S : CallFix p m c cc nL s args Ts own) (hM : vx_Met l y ws rm Pc Qc XC mc ms free) (cw : va_CI R s args own C index x y bytes maxL ret ws rm mc ms n) (hp : PreV s H C b Pc As)
    (hg : g.method = m) (hn : As.length = n) (hsize : g.locals.size = nL) (hstack : g.stack = As.reverse ++ .ref b :: rest) (hW : 2 * g.monitorRoom + (rest.map fun v => v.category).sum ≤ 8) (hdg : decode cc g.pc = .ok (.invokeinterface index count, 5)) (hf : cells + mc ≤ R.cells ∧ slots + ms ≤ R.slots) :
    vx_Run5 p l e R s m args below meth c H locs cells slots mc ms g rest (Qc (Value.ref b :: As).toArray) XC free := by
  obtain ⟨hrc, hrs, hfr, hlo, hws, hcw⟩ := cw.back
  have hini := cw.init
  have hK : vx_Back l R p e below s args y 5 8 (PreOf R mc ms Pc) (PostOf Qc mc ms free) (vx_Post XC mc ms free) := vx_back (bytes := bytes) (maxL := maxL) (ret := ret) hM hp.1 hrc hrs hfr hlo hws hcw (fun a' U hW => word_at hW (Or.inl (by first | rfl | simp [Cond.onTables, Cond.keeps, Cond.steady])) hini)
  obtain ⟨hx, hb, hml, ho, -⟩ := S
  obtain ⟨-, ⟨cellB, hcB, hoB, hclB⟩, hPc⟩ := hp
  obtain ⟨hfc, kB, hkB, -⟩ := hat
  cases hfc.symm.trans hclB
  intro T hT X
  rcases vx_callIF X hx (C := C) (bytes := bytes) (maxL := maxL) (ret := ret) ho cw.link cw.decl cw.face cw.sel cw.inst cw.pub cw.unh cw.cast cw.code cw.notMH hK (by rw [hT]; exact hcB) hoB hclB hkB hg (hsize.trans hml.symm) (argsL := As) (rest := rest) (fun sig h => hn.trans (cw.len sig h)) hstack hW (by rw [hb]; exact hdg)
    (fun vm₁ hW₁ => ⟨hf.1, hf.2, hPc (T.setVm vm₁) hT hW₁⟩) with ⟨v, vm₁, ⟨U', l2, c2, s2⟩, hW₁, X', ⟨g', mk, t, L, e1, e2, hq, h1, hL, h2, h3⟩, st⟩ | ⟨q, vm₁, ⟨U', l2, c2, s2⟩, hW₁, X', ⟨g', mk, t, L, E, ce, e1, e2, hq, hce, hcv, hcl, h1, hL, h2, h3⟩, st⟩
  · dsimp only [Pt.U, Pt.locs, Pt.cells, Pt.slots] at X' e1 e2 h1 h2 h3 st
    subst h1; subst h2; subst h3
    exact Or.inl ⟨v, (T.setVm vm₁).calling g' mk (Value.ref b :: As).toArray, t, U', L, hT, X', hL, e1, e2, hq, st⟩
  · dsimp only [Pt.U, Pt.locs, Pt.cells, Pt.slots] at X' e1 e2 h1 h2 h3 st hcl
    subst h1; subst h2; subst h3
    exact Or.inr ⟨q, (T.setVm vm₁).calling g' mk (Value.ref b :: As).toArray, t, U', L, E, ce, hT, X', hL, e1, e2, hq, hce, hcv, vx_cls hW₁ hcl, st⟩
theorem vx_callFv {S SX : Type} {post : S → Prop} {px : SX → Prop} {B : S → State → Prop} {BX : String → SX → State → Prop} {AX : Nat → Prop} (hr : vx_Run5 p l e R s m args below meth c H locs cells slots mc ms (F0 m pc ls st0) rest (va_Qv post B A1 a) (vx_X px BX AX) free) (hS : va_S A0 H0 H locs) (hA : ∀ q, q < H.size → A1 q → A0 q) (hf : ∀ q, free q → A0 q) (hAX : ∀ q, q < H.size → AX q → A0 q)
    (kx : ∀ (E : String) (ce : Cell) (q9 : Addr) (u : SX) (t : State) (H1 : Heap) (locs1 : List Loc), t.heap = H1 → s.vm.Alike t.vm → px u → BX E u t → H.size ≤ H1.size → (∀ q : Nat, q < H.size → ¬ AX q → H1[q]? = H[q]?) → va_S A0 H0 H1 locs1 → H1[q9]? = some ce → ce.vm = .none → s.vm.findClass E = some ce.cls → vx_W p l e R s m args below meth c H1 locs1 (cells + mc) (slots + ms) Q (F0 m pc ls rest) q9)
    (kk : ∀ (u : S) (t : State) (H1 : Heap) (locs1 : List Loc), t.heap = H1 → s.vm.Alike t.vm → post u → B u t → H.size ≤ H1.size → (∀ q : Nat, q < H.size → ¬ A1 q → H1[q]? = H[q]?) → va_S A0 H0 H1 locs1 → W p l e R s m args below meth c H1 locs1 (cells + mc) (slots + ms) Q (F0 m (pc + 5) ls (rest))) : W p l e R s m args below meth c H locs cells slots Q (F0 m pc ls st0) := by
  intro T hT X
  rcases hr T hT X with ⟨v, st₀, t, T', L, h0, X', hL, e1, e2, ⟨⟨u, hv, hp, hb⟩, hF⟩, st⟩ | ⟨q, st₀, t, T', L, E, ce, h0, X', hL, e1, e2, ⟨u, hp, hb, hF⟩, hce, hcv, hcl, st⟩
  · cases hv
    obtain ⟨k1, k2, k3⟩ := vx_keep h0 e1 hS hA hf hL hF
    obtain ⟨t2, a1, b1⟩ := kk u t T'.heap (locs ++ L) e1.symm (by rw [← e2]; exact X'.warmed.alike) hp hb k1 k2 k3 T' rfl X'
    exact ⟨t2, st t2 a1, b1⟩
  · obtain ⟨k1, k2, k3⟩ := vx_keep h0 e1 hS hAX hf hL hF
    obtain ⟨t2, a1, b1⟩ := kx E ce q u t T'.heap (locs ++ L) e1.symm (by rw [← e2]; exact X'.warmed.alike) hp hb k1 k2 k3 (by rw [e1]; exact hce) hcv hcl T' rfl X'
    exact ⟨t2, st.trans a1, b1⟩
theorem vx_callFi {S SX : Type} {post : Int32 → S → Prop} {px : SX → Prop} {B : S → State → Prop} {BX : String → SX → State → Prop} {AX : Nat → Prop} (hr : vx_Run5 p l e R s m args below meth c H locs cells slots mc ms (F0 m pc ls st0) rest (va_Qi post B A1 a) (vx_X px BX AX) free) (hS : va_S A0 H0 H locs) (hA : ∀ q, q < H.size → A1 q → A0 q) (hf : ∀ q, free q → A0 q) (hAX : ∀ q, q < H.size → AX q → A0 q)
    (kx : ∀ (E : String) (ce : Cell) (q9 : Addr) (u : SX) (t : State) (H1 : Heap) (locs1 : List Loc), t.heap = H1 → s.vm.Alike t.vm → px u → BX E u t → H.size ≤ H1.size → (∀ q : Nat, q < H.size → ¬ AX q → H1[q]? = H[q]?) → va_S A0 H0 H1 locs1 → H1[q9]? = some ce → ce.vm = .none → s.vm.findClass E = some ce.cls → vx_W p l e R s m args below meth c H1 locs1 (cells + mc) (slots + ms) Q (F0 m pc ls rest) q9)
    (kk : ∀ (r : Int32) (u : S) (t : State) (H1 : Heap) (locs1 : List Loc), t.heap = H1 → s.vm.Alike t.vm → post r u → B u t → H.size ≤ H1.size → (∀ q : Nat, q < H.size → ¬ A1 q → H1[q]? = H[q]?) → va_S A0 H0 H1 locs1 → W p l e R s m args below meth c H1 locs1 (cells + mc) (slots + ms) Q (F0 m (pc + 5) ls (.int r :: rest))) : W p l e R s m args below meth c H locs cells slots Q (F0 m pc ls st0) := by
  intro T hT X
  rcases hr T hT X with ⟨v, st₀, t, T', L, h0, X', hL, e1, e2, ⟨⟨r, u, hv, hp, hb⟩, hF⟩, st⟩ | ⟨q, st₀, t, T', L, E, ce, h0, X', hL, e1, e2, ⟨u, hp, hb, hF⟩, hce, hcv, hcl, st⟩
  · cases hv
    obtain ⟨k1, k2, k3⟩ := vx_keep h0 e1 hS hA hf hL hF
    obtain ⟨t2, a1, b1⟩ := kk r u t T'.heap (locs ++ L) e1.symm (by rw [← e2]; exact X'.warmed.alike) hp hb k1 k2 k3 T' rfl X'
    exact ⟨t2, st t2 a1, b1⟩
  · obtain ⟨k1, k2, k3⟩ := vx_keep h0 e1 hS hAX hf hL hF
    obtain ⟨t2, a1, b1⟩ := kx E ce q u t T'.heap (locs ++ L) e1.symm (by rw [← e2]; exact X'.warmed.alike) hp hb k1 k2 k3 (by rw [e1]; exact hce) hcv hcl T' rfl X'
    exact ⟨t2, st.trans a1, b1⟩
theorem vx_callFl {S SX : Type} {post : Int64 → S → Prop} {px : SX → Prop} {B : S → State → Prop} {BX : String → SX → State → Prop} {AX : Nat → Prop} (hr : vx_Run5 p l e R s m args below meth c H locs cells slots mc ms (F0 m pc ls st0) rest (va_Ql post B A1 a) (vx_X px BX AX) free) (hS : va_S A0 H0 H locs) (hA : ∀ q, q < H.size → A1 q → A0 q) (hf : ∀ q, free q → A0 q) (hAX : ∀ q, q < H.size → AX q → A0 q)
    (kx : ∀ (E : String) (ce : Cell) (q9 : Addr) (u : SX) (t : State) (H1 : Heap) (locs1 : List Loc), t.heap = H1 → s.vm.Alike t.vm → px u → BX E u t → H.size ≤ H1.size → (∀ q : Nat, q < H.size → ¬ AX q → H1[q]? = H[q]?) → va_S A0 H0 H1 locs1 → H1[q9]? = some ce → ce.vm = .none → s.vm.findClass E = some ce.cls → vx_W p l e R s m args below meth c H1 locs1 (cells + mc) (slots + ms) Q (F0 m pc ls rest) q9)
    (kk : ∀ (r : Int64) (u : S) (t : State) (H1 : Heap) (locs1 : List Loc), t.heap = H1 → s.vm.Alike t.vm → post r u → B u t → H.size ≤ H1.size → (∀ q : Nat, q < H.size → ¬ A1 q → H1[q]? = H[q]?) → va_S A0 H0 H1 locs1 → W p l e R s m args below meth c H1 locs1 (cells + mc) (slots + ms) Q (F0 m (pc + 5) ls (.long r :: rest))) : W p l e R s m args below meth c H locs cells slots Q (F0 m pc ls st0) := by
  intro T hT X
  rcases hr T hT X with ⟨v, st₀, t, T', L, h0, X', hL, e1, e2, ⟨⟨r, u, hv, hp, hb⟩, hF⟩, st⟩ | ⟨q, st₀, t, T', L, E, ce, h0, X', hL, e1, e2, ⟨u, hp, hb, hF⟩, hce, hcv, hcl, st⟩
  · cases hv
    obtain ⟨k1, k2, k3⟩ := vx_keep h0 e1 hS hA hf hL hF
    obtain ⟨t2, a1, b1⟩ := kk r u t T'.heap (locs ++ L) e1.symm (by rw [← e2]; exact X'.warmed.alike) hp hb k1 k2 k3 T' rfl X'
    exact ⟨t2, st t2 a1, b1⟩
  · obtain ⟨k1, k2, k3⟩ := vx_keep h0 e1 hS hAX hf hL hF
    obtain ⟨t2, a1, b1⟩ := kx E ce q u t T'.heap (locs ++ L) e1.symm (by rw [← e2]; exact X'.warmed.alike) hp hb k1 k2 k3 (by rw [e1]; exact hce) hcv hcl T' rfl X'
    exact ⟨t2, st.trans a1, b1⟩
theorem vx_callFf {S SX : Type} {post : UInt32 → S → Prop} {px : SX → Prop} {B : S → State → Prop} {BX : String → SX → State → Prop} {AX : Nat → Prop} (hr : vx_Run5 p l e R s m args below meth c H locs cells slots mc ms (F0 m pc ls st0) rest (va_Qf post B A1 a) (vx_X px BX AX) free) (hS : va_S A0 H0 H locs) (hA : ∀ q, q < H.size → A1 q → A0 q) (hf : ∀ q, free q → A0 q) (hAX : ∀ q, q < H.size → AX q → A0 q)
    (kx : ∀ (E : String) (ce : Cell) (q9 : Addr) (u : SX) (t : State) (H1 : Heap) (locs1 : List Loc), t.heap = H1 → s.vm.Alike t.vm → px u → BX E u t → H.size ≤ H1.size → (∀ q : Nat, q < H.size → ¬ AX q → H1[q]? = H[q]?) → va_S A0 H0 H1 locs1 → H1[q9]? = some ce → ce.vm = .none → s.vm.findClass E = some ce.cls → vx_W p l e R s m args below meth c H1 locs1 (cells + mc) (slots + ms) Q (F0 m pc ls rest) q9)
    (kk : ∀ (r : UInt32) (u : S) (t : State) (H1 : Heap) (locs1 : List Loc), t.heap = H1 → s.vm.Alike t.vm → post r u → B u t → H.size ≤ H1.size → (∀ q : Nat, q < H.size → ¬ A1 q → H1[q]? = H[q]?) → va_S A0 H0 H1 locs1 → W p l e R s m args below meth c H1 locs1 (cells + mc) (slots + ms) Q (F0 m (pc + 5) ls (.float r :: rest))) : W p l e R s m args below meth c H locs cells slots Q (F0 m pc ls st0) := by
  intro T hT X
  rcases hr T hT X with ⟨v, st₀, t, T', L, h0, X', hL, e1, e2, ⟨⟨r, u, hv, hp, hb⟩, hF⟩, st⟩ | ⟨q, st₀, t, T', L, E, ce, h0, X', hL, e1, e2, ⟨u, hp, hb, hF⟩, hce, hcv, hcl, st⟩
  · cases hv
    obtain ⟨k1, k2, k3⟩ := vx_keep h0 e1 hS hA hf hL hF
    obtain ⟨t2, a1, b1⟩ := kk r u t T'.heap (locs ++ L) e1.symm (by rw [← e2]; exact X'.warmed.alike) hp hb k1 k2 k3 T' rfl X'
    exact ⟨t2, st t2 a1, b1⟩
  · obtain ⟨k1, k2, k3⟩ := vx_keep h0 e1 hS hAX hf hL hF
    obtain ⟨t2, a1, b1⟩ := kx E ce q u t T'.heap (locs ++ L) e1.symm (by rw [← e2]; exact X'.warmed.alike) hp hb k1 k2 k3 (by rw [e1]; exact hce) hcv hcl T' rfl X'
    exact ⟨t2, st.trans a1, b1⟩
theorem vx_callFd {S SX : Type} {post : UInt64 → S → Prop} {px : SX → Prop} {B : S → State → Prop} {BX : String → SX → State → Prop} {AX : Nat → Prop} (hr : vx_Run5 p l e R s m args below meth c H locs cells slots mc ms (F0 m pc ls st0) rest (va_Qd post B A1 a) (vx_X px BX AX) free) (hS : va_S A0 H0 H locs) (hA : ∀ q, q < H.size → A1 q → A0 q) (hf : ∀ q, free q → A0 q) (hAX : ∀ q, q < H.size → AX q → A0 q)
    (kx : ∀ (E : String) (ce : Cell) (q9 : Addr) (u : SX) (t : State) (H1 : Heap) (locs1 : List Loc), t.heap = H1 → s.vm.Alike t.vm → px u → BX E u t → H.size ≤ H1.size → (∀ q : Nat, q < H.size → ¬ AX q → H1[q]? = H[q]?) → va_S A0 H0 H1 locs1 → H1[q9]? = some ce → ce.vm = .none → s.vm.findClass E = some ce.cls → vx_W p l e R s m args below meth c H1 locs1 (cells + mc) (slots + ms) Q (F0 m pc ls rest) q9)
    (kk : ∀ (r : UInt64) (u : S) (t : State) (H1 : Heap) (locs1 : List Loc), t.heap = H1 → s.vm.Alike t.vm → post r u → B u t → H.size ≤ H1.size → (∀ q : Nat, q < H.size → ¬ A1 q → H1[q]? = H[q]?) → va_S A0 H0 H1 locs1 → W p l e R s m args below meth c H1 locs1 (cells + mc) (slots + ms) Q (F0 m (pc + 5) ls (.double r :: rest))) : W p l e R s m args below meth c H locs cells slots Q (F0 m pc ls st0) := by
  intro T hT X
  rcases hr T hT X with ⟨v, st₀, t, T', L, h0, X', hL, e1, e2, ⟨⟨r, u, hv, hp, hb⟩, hF⟩, st⟩ | ⟨q, st₀, t, T', L, E, ce, h0, X', hL, e1, e2, ⟨u, hp, hb, hF⟩, hce, hcv, hcl, st⟩
  · cases hv
    obtain ⟨k1, k2, k3⟩ := vx_keep h0 e1 hS hA hf hL hF
    obtain ⟨t2, a1, b1⟩ := kk r u t T'.heap (locs ++ L) e1.symm (by rw [← e2]; exact X'.warmed.alike) hp hb k1 k2 k3 T' rfl X'
    exact ⟨t2, st t2 a1, b1⟩
  · obtain ⟨k1, k2, k3⟩ := vx_keep h0 e1 hS hAX hf hL hF
    obtain ⟨t2, a1, b1⟩ := kx E ce q u t T'.heap (locs ++ L) e1.symm (by rw [← e2]; exact X'.warmed.alike) hp hb k1 k2 k3 (by rw [e1]; exact hce) hcv hcl T' rfl X'
    exact ⟨t2, st.trans a1, b1⟩
end
/-! ===== END ===== -/
/-! ===== BEGIN by an interface, a method with a table of its own that may throw (follows va_callIFW, va_runFW) ===== -/
section
variable {p : Program} {l : Launch} {e : Env} {R : Room} {s : State} {m : MethodId} {args : Array Value} {below : List Frame} {meth : Method} {c : Code} {H : Heap} {locs : List Loc} {cells slots : Nat}
theorem vx_callIFW {T : State} (X : Stand p l e R s m args below meth c T locs cells slots) (hexec : p.tables.exec = Jvm.exec) {own C : String} {index count : Nat} {x y : MethodName} {bytes : ByteArray} {maxL : Nat} {ret : Option FieldType} {hh : List (Nat × Nat × Nat × Nat)}
    (hown : s.vm.findClass own = some m.cls) (hlink : (Cond.methodLink own index x).before args s = true) (hdecl : (Cond.declares x).before args s = true) (hface : (Cond.interfaceMethod x.cls x.cls x.name x.desc).before args s = true)
    (hsel : (Cond.selects C x y).before args s = true) (hinst : (Cond.instanceMethod y).before args s = true) (hpub : (Cond.publicMethod y).before args s = true) (hunh : (Cond.unhidden C x.name x.desc).before args s = true)
    (hcast : (Cond.castable C x.cls).before args s = true) (hcode : (Cond.codeWith y bytes maxL ret hh).before args s = true) (hx : x.cls ≠ "java/lang/invoke/MethodHandle" ∧ x.cls ≠ "java/lang/invoke/VarHandle")
    {W : Nat} {Pre : Pt → Array Value → Prop} {Post : Pt → Array Value → Option Value → Pt → Prop} {PostX : Pt → Array Value → Addr → Pt → Prop} (hK : vx_Back l R p e below s args y 5 W Pre Post PostX)
    {b : Addr} {cellB : Cell} {kB : Class} (hcell : T.heap[b]? = some cellB) (hobj : cellB.vm.isStatics = false) (hcls : s.vm.findClass C = some cellB.cls) (hkB : s.vm.classes[cellB.cls]? = some kB)
    {g : JFrame} (hg : g.method = m) (hsize : g.locals.size = c.maxLocals) {argsL rest : List Value} (hlen : ∀ sig, parseMethodDescriptor x.desc = some sig → argsL.length = sig.parameters.length)
    (hstack : g.stack = argsL.reverse ++ .ref b :: rest) (hW : 2 * g.monitorRoom + (rest.map fun v => v.category).sum ≤ W) (hdg : decode c.code g.pc = .ok (.invokeinterface index count, 5))
    (hpre : ∀ vm₁, s.WarmedH vm₁ → Pre ⟨T.setVm vm₁, locs, cells, slots⟩ (Value.ref b :: argsL).toArray) :
    (∃ (v : Option Value) (vm₁ : Vm) (B : Pt), s.WarmedH vm₁ ∧ Stand p l e R s m args below meth c B.U B.locs B.cells B.slots ∧ Post ⟨T.setVm vm₁, locs, cells, slots⟩ (Value.ref b :: argsL).toArray v B ∧
      ∀ target, Steps p.tables e below (B.U.setTop { g with pc := g.pc + 5, stack := v.toList ++ rest }) target → Steps p.tables e below (T.setTop g) target) ∨
    (∃ (q : Addr) (vm₁ : Vm) (B : Pt), s.WarmedH vm₁ ∧ Stand p l e R s m args below meth c B.U B.locs B.cells B.slots ∧ PostX ⟨T.setVm vm₁, locs, cells, slots⟩ (Value.ref b :: argsL).toArray q B ∧
      Steps p.tables e below (T.setTop g) ((B.U.setTop { g with stack := rest }).pushFrame (.throwing q))) := by
  obtain ⟨r0, r, hn, hrm, hstR, hsigR⟩ := Cond.declares_spec hdecl
  obtain ⟨cL, kL, r1, hcL, hkL, hiL, hfoundL, hn1⟩ := Cond.interfaceMethod_spec hface
  cases hn.symm.trans hn1
  have hr0cls : r0.cls = cL := Option.some.inj ((findClass_of_methodNamed hn).symm.trans hcL)
  obtain ⟨hnameR, hdescR⟩ := name_of_methodNamed hn hrm
  obtain ⟨mk, methM, hnamed, hmethM, -, habM⟩ := Cond.instanceMethod_spec hinst
  obtain ⟨c2, r2, m2, q1, q2, q3, q4, -⟩ := Cond.selects_spec hsel
  cases hcls.symm.trans q1
  cases hfoundL.symm.trans q2
  cases hnamed.symm.trans q3
  have hselP : selectMethod e.platform s.vm cellB.cls r0 = .method mk := by rw [Launch.admits_selectMethod X.admits]; exact q4
  have hpubM : hasFlag methM.accessFlags Acc.public_ = true := Cond.publicMethod_spec hnamed hmethM hpub
  have hway : ((cellB.cls :: s.vm.superclasses cellB.cls).any fun k => (declaredIn s.vm r.name r.desc k).any fun (_, z) => z.isPrivate || z.isStatic) = false := by
    rw [hnameR, hdescR]; exact Cond.unhidden_spec hcls hunh
  obtain ⟨c3, t3, w1, w2, w3⟩ := Cond.castable_spec hcast
  cases hcls.symm.trans w1
  cases hcL.symm.trans w2
  obtain ⟨vm₁, X₁, hstep₁⟩ := X.invokeinterface hexec hown hlink hn hrm hstR (by rw [hr0cls]; exact hkL) hiL hx (a := b) (cell := cellB) (kcell := kB) hcell
    (fun z h => by rw [h] at hobj; cases hobj) hkB (by rw [hr0cls]; exact w3) hselP hmethM hway hpubM habM (g := g) hg (argsL := argsL) (rest := rest) (hlen _ hsigR) hstack hdg
  rcases hK m meth c ⟨T.setVm vm₁, locs, cells, slots⟩ { g with stack := rest } (.invokeinterface index count) mk (Value.ref b :: argsL).toArray X₁ hg hsize hdg hW (X₁.named hnamed) (hpre vm₁ X₁.warmed) with ⟨v, B, X', hpost, hsteps⟩ | ⟨q, B, X', hpost, hsteps⟩
  · exact Or.inl ⟨v, vm₁, B, X₁.warmed, X', hpost, fun target h => hstep₁ _ fun acts => by rw [doInvoke_state]; exact hsteps.trans h⟩
  · exact Or.inr ⟨q, vm₁, B, X₁.warmed, X', hpost, hstep₁ _ fun acts => by rw [doInvoke_state]; exact hsteps⟩
theorem vx_runFW {x y : MethodName} {bytes cc : ByteArray} {maxL nL mc ms n index count : Nat} {ret : Option FieldType} {hh : List (Nat × Nat × Nat × Nat)} {ws : List Cond} {rm : Room} {Pc : Array Value → State → Prop} {Qc : Array Value → State → Outcome → State → Prop} {XC : String → State → State → Prop} {free : Addr → Prop} {Ts : List Cond} {own C : String} {cC : ClassId} {b : Addr} {As rest : List Value} {g : JFrame}
    (hat : ClassAt s C cC) (S : CallFix p m c cc nL s args Ts own) (hM : vx_Met l y ws rm Pc Qc XC mc ms free) (cw : va_CIW R s args own C index x y bytes maxL ret hh ws rm mc ms n) (hp : PreV s H C b Pc As)
    (hg : g.method = m) (hn : As.length = n) (hsize : g.locals.size = nL) (hstack : g.stack = As.reverse ++ .ref b :: rest) (hW : 2 * g.monitorRoom + (rest.map fun v => v.category).sum ≤ 8) (hdg : decode cc g.pc = .ok (.invokeinterface index count, 5)) (hf : cells + mc ≤ R.cells ∧ slots + ms ≤ R.slots) :
    vx_Run5 p l e R s m args below meth c H locs cells slots mc ms g rest (Qc (Value.ref b :: As).toArray) XC free := by
  obtain ⟨hrc, hrs, hfr, hlo, hws, hcw⟩ := cw.back
  have hini := cw.init
  have hK : vx_Back l R p e below s args y 5 8 (PreOf R mc ms Pc) (PostOf Qc mc ms free) (vx_Post XC mc ms free) := vx_backW (hh := hh) (bytes := bytes) (maxL := maxL) (ret := ret) hM hp.1 hrc hrs hfr hlo hws hcw (fun a' U hW => word_at hW (Or.inl (by first | rfl | simp [Cond.onTables, Cond.keeps, Cond.steady])) hini)
  obtain ⟨hx, hb, hml, ho, -⟩ := S
  obtain ⟨-, ⟨cellB, hcB, hoB, hclB⟩, hPc⟩ := hp
  obtain ⟨hfc, kB, hkB, -⟩ := hat
  cases hfc.symm.trans hclB
  intro T hT X
  rcases vx_callIFW X hx (C := C) (hh := hh) (bytes := bytes) (maxL := maxL) (ret := ret) ho cw.link cw.decl cw.face cw.sel cw.inst cw.pub cw.unh cw.cast cw.code cw.notMH hK (by rw [hT]; exact hcB) hoB hclB hkB hg (hsize.trans hml.symm) (argsL := As) (rest := rest) (fun sig h => hn.trans (cw.len sig h)) hstack hW (by rw [hb]; exact hdg)
    (fun vm₁ hW₁ => ⟨hf.1, hf.2, hPc (T.setVm vm₁) hT hW₁⟩) with ⟨v, vm₁, ⟨U', l2, c2, s2⟩, hW₁, X', ⟨g', mk, t, L, e1, e2, hq, h1, hL, h2, h3⟩, st⟩ | ⟨q, vm₁, ⟨U', l2, c2, s2⟩, hW₁, X', ⟨g', mk, t, L, E, ce, e1, e2, hq, hce, hcv, hcl, h1, hL, h2, h3⟩, st⟩
  · dsimp only [Pt.U, Pt.locs, Pt.cells, Pt.slots] at X' e1 e2 h1 h2 h3 st
    subst h1; subst h2; subst h3
    exact Or.inl ⟨v, (T.setVm vm₁).calling g' mk (Value.ref b :: As).toArray, t, U', L, hT, X', hL, e1, e2, hq, st⟩
  · dsimp only [Pt.U, Pt.locs, Pt.cells, Pt.slots] at X' e1 e2 h1 h2 h3 st hcl
    subst h1; subst h2; subst h3
    exact Or.inr ⟨q, (T.setVm vm₁).calling g' mk (Value.ref b :: As).toArray, t, U', L, E, ce, hT, X', hL, e1, e2, hq, hce, hcv, vx_cls hW₁ hcl, st⟩
end
/-! ===== END ===== -/
/-! ===== BEGIN .. of methods that hand back an object of the pool ===== -/
section
variable {p : Program} {l : Launch} {e : Env} {R : Room} {s : State} {m : MethodId} {args : Array Value} {below : List Frame} {meth : Method} {c : Code} {H : Heap} {locs : List Loc} {cells slots : Nat} {Q : State → Prop}
variable {mc ms : Nat} {free : Addr → Prop} {A0 A1 : Nat → Prop} {H0 : Heap} {a : Array Value} {pc : Nat} {ls : Array Slot} {st0 rest : List Value}
theorem vx_callq {S SX : Type} {post : Option Nat → S → Prop} {px : SX → Prop} {B : S → State → Prop} {BX : String → SX → State → Prop} {AX : Nat → Prop} (hr : vx_Run p l e R s m args below meth c H locs cells slots mc ms (F0 m pc ls st0) rest (va_Qq post B A1 a) (vx_X px BX AX) free) (hS : va_S A0 H0 H locs) (hA : ∀ q, q < H.size → A1 q → A0 q) (hf : ∀ q, free q → A0 q) (hAX : ∀ q, q < H.size → AX q → A0 q)
    (kx : ∀ (E : String) (ce : Cell) (q9 : Addr) (u : SX) (t : State) (H1 : Heap) (locs1 : List Loc), t.heap = H1 → s.vm.Alike t.vm → px u → BX E u t → H.size ≤ H1.size → (∀ q : Nat, q < H.size → ¬ AX q → H1[q]? = H[q]?) → va_S A0 H0 H1 locs1 → H1[q9]? = some ce → ce.vm = .none → s.vm.findClass E = some ce.cls → vx_W p l e R s m args below meth c H1 locs1 (cells + mc) (slots + ms) Q (F0 m pc ls rest) q9)
    (kk : ∀ (r : Option Nat) (u : S) (t : State) (H1 : Heap) (locs1 : List Loc), t.heap = H1 → s.vm.Alike t.vm → post r u → B u t → H.size ≤ H1.size → (∀ q : Nat, q < H.size → ¬ A1 q → H1[q]? = H[q]?) → va_S A0 H0 H1 locs1 → W p l e R s m args below meth c H1 locs1 (cells + mc) (slots + ms) Q (F0 m (pc + 3) ls (va_rf r :: rest))) : W p l e R s m args below meth c H locs cells slots Q (F0 m pc ls st0) := by
  intro T hT X
  rcases hr T hT X with ⟨v, st₀, t, T', L, h0, X', hL, e1, e2, ⟨⟨r, u, hv, hp, hb⟩, hF⟩, st⟩ | ⟨q, st₀, t, T', L, E, ce, h0, X', hL, e1, e2, ⟨u, hp, hb, hF⟩, hce, hcv, hcl, st⟩
  · cases hv
    obtain ⟨k1, k2, k3⟩ := vx_keep h0 e1 hS hA hf hL hF
    obtain ⟨t2, a1, b1⟩ := kk r u t T'.heap (locs ++ L) e1.symm (by rw [← e2]; exact X'.warmed.alike) hp hb k1 k2 k3 T' rfl X'
    exact ⟨t2, st t2 a1, b1⟩
  · obtain ⟨k1, k2, k3⟩ := vx_keep h0 e1 hS hAX hf hL hF
    obtain ⟨t2, a1, b1⟩ := kx E ce q u t T'.heap (locs ++ L) e1.symm (by rw [← e2]; exact X'.warmed.alike) hp hb k1 k2 k3 (by rw [e1]; exact hce) hcv hcl T' rfl X'
    exact ⟨t2, st.trans a1, b1⟩
end
/-! ===== END ===== -/
/-! ===== BEGIN .. a constant ===== -/
section
variable {p : Program} {l : Launch} {e : Env} {R : Room} {s : State} {m : MethodId} {args : Array Value} {below : List Frame} {meth : Method} {c : Code} {H : Heap} {locs : List Loc} {cells slots : Nat} {Q : State → Prop}
variable {mc ms : Nat} {free : Addr → Prop} {A0 A1 : Nat → Prop} {H0 : Heap} {a : Array Value} {pc : Nat} {ls : Array Slot} {st0 rest : List Value}
theorem vx_calle {ad : Nat → Nat} {S SX : Type} {post : Option Nat → S → Prop} {px : SX → Prop} {B : S → State → Prop} {BX : String → SX → State → Prop} {AX : Nat → Prop} (hr : vx_Run p l e R s m args below meth c H locs cells slots mc ms (F0 m pc ls st0) rest (va_Qe ad post B A1 a) (vx_X px BX AX) free) (hS : va_S A0 H0 H locs) (hA : ∀ q, q < H.size → A1 q → A0 q) (hf : ∀ q, free q → A0 q) (hAX : ∀ q, q < H.size → AX q → A0 q)
    (kx : ∀ (E : String) (ce : Cell) (q9 : Addr) (u : SX) (t : State) (H1 : Heap) (locs1 : List Loc), t.heap = H1 → s.vm.Alike t.vm → px u → BX E u t → H.size ≤ H1.size → (∀ q : Nat, q < H.size → ¬ AX q → H1[q]? = H[q]?) → va_S A0 H0 H1 locs1 → H1[q9]? = some ce → ce.vm = .none → s.vm.findClass E = some ce.cls → vx_W p l e R s m args below meth c H1 locs1 (cells + mc) (slots + ms) Q (F0 m pc ls rest) q9)
    (kk : ∀ (r : Option Nat) (u : S) (t : State) (H1 : Heap) (locs1 : List Loc), t.heap = H1 → s.vm.Alike t.vm → post r u → B u t → H.size ≤ H1.size → (∀ q : Nat, q < H.size → ¬ A1 q → H1[q]? = H[q]?) → va_S A0 H0 H1 locs1 → W p l e R s m args below meth c H1 locs1 (cells + mc) (slots + ms) Q (F0 m (pc + 3) ls (va_re ad r :: rest))) : W p l e R s m args below meth c H locs cells slots Q (F0 m pc ls st0) := by
  intro T hT X
  rcases hr T hT X with ⟨v, st₀, t, T', L, h0, X', hL, e1, e2, ⟨⟨r, u, hv, hp, hb⟩, hF⟩, st⟩ | ⟨q, st₀, t, T', L, E, ce, h0, X', hL, e1, e2, ⟨u, hp, hb, hF⟩, hce, hcv, hcl, st⟩
  · cases hv
    obtain ⟨k1, k2, k3⟩ := vx_keep h0 e1 hS hA hf hL hF
    obtain ⟨t2, a1, b1⟩ := kk r u t T'.heap (locs ++ L) e1.symm (by rw [← e2]; exact X'.warmed.alike) hp hb k1 k2 k3 T' rfl X'
    exact ⟨t2, st t2 a1, b1⟩
  · obtain ⟨k1, k2, k3⟩ := vx_keep h0 e1 hS hAX hf hL hF
    obtain ⟨t2, a1, b1⟩ := kx E ce q u t T'.heap (locs ++ L) e1.symm (by rw [← e2]; exact X'.warmed.alike) hp hb k1 k2 k3 (by rw [e1]; exact hce) hcv hcl T' rfl X'
    exact ⟨t2, st.trans a1, b1⟩
end
/-! ===== END ===== -/
/-! ===== BEGIN .. by an interface, an object ===== -/
section
variable {p : Program} {l : Launch} {e : Env} {R : Room} {s : State} {m : MethodId} {args : Array Value} {below : List Frame} {meth : Method} {c : Code} {H : Heap} {locs : List Loc} {cells slots : Nat} {Q : State → Prop}
variable {mc ms : Nat} {free : Addr → Prop} {A0 A1 : Nat → Prop} {H0 : Heap} {a : Array Value} {pc : Nat} {ls : Array Slot} {st0 rest : List Value}
theorem vx_callFq {S SX : Type} {post : Option Nat → S → Prop} {px : SX → Prop} {B : S → State → Prop} {BX : String → SX → State → Prop} {AX : Nat → Prop} (hr : vx_Run5 p l e R s m args below meth c H locs cells slots mc ms (F0 m pc ls st0) rest (va_Qq post B A1 a) (vx_X px BX AX) free) (hS : va_S A0 H0 H locs) (hA : ∀ q, q < H.size → A1 q → A0 q) (hf : ∀ q, free q → A0 q) (hAX : ∀ q, q < H.size → AX q → A0 q)
    (kx : ∀ (E : String) (ce : Cell) (q9 : Addr) (u : SX) (t : State) (H1 : Heap) (locs1 : List Loc), t.heap = H1 → s.vm.Alike t.vm → px u → BX E u t → H.size ≤ H1.size → (∀ q : Nat, q < H.size → ¬ AX q → H1[q]? = H[q]?) → va_S A0 H0 H1 locs1 → H1[q9]? = some ce → ce.vm = .none → s.vm.findClass E = some ce.cls → vx_W p l e R s m args below meth c H1 locs1 (cells + mc) (slots + ms) Q (F0 m pc ls rest) q9)
    (kk : ∀ (r : Option Nat) (u : S) (t : State) (H1 : Heap) (locs1 : List Loc), t.heap = H1 → s.vm.Alike t.vm → post r u → B u t → H.size ≤ H1.size → (∀ q : Nat, q < H.size → ¬ A1 q → H1[q]? = H[q]?) → va_S A0 H0 H1 locs1 → W p l e R s m args below meth c H1 locs1 (cells + mc) (slots + ms) Q (F0 m (pc + 5) ls (va_rf r :: rest))) : W p l e R s m args below meth c H locs cells slots Q (F0 m pc ls st0) := by
  intro T hT X
  rcases hr T hT X with ⟨v, st₀, t, T', L, h0, X', hL, e1, e2, ⟨⟨r, u, hv, hp, hb⟩, hF⟩, st⟩ | ⟨q, st₀, t, T', L, E, ce, h0, X', hL, e1, e2, ⟨u, hp, hb, hF⟩, hce, hcv, hcl, st⟩
  · cases hv
    obtain ⟨k1, k2, k3⟩ := vx_keep h0 e1 hS hA hf hL hF
    obtain ⟨t2, a1, b1⟩ := kk r u t T'.heap (locs ++ L) e1.symm (by rw [← e2]; exact X'.warmed.alike) hp hb k1 k2 k3 T' rfl X'
    exact ⟨t2, st t2 a1, b1⟩
  · obtain ⟨k1, k2, k3⟩ := vx_keep h0 e1 hS hAX hf hL hF
    obtain ⟨t2, a1, b1⟩ := kx E ce q u t T'.heap (locs ++ L) e1.symm (by rw [← e2]; exact X'.warmed.alike) hp hb k1 k2 k3 (by rw [e1]; exact hce) hcv hcl T' rfl X'
    exact ⟨t2, st.trans a1, b1⟩
end
/-! ===== END ===== -/
/-! ===== BEGIN .. by an interface, a constant ===== -/
section
variable {p : Program} {l : Launch} {e : Env} {R : Room} {s : State} {m : MethodId} {args : Array Value} {below : List Frame} {meth : Method} {c : Code} {H : Heap} {locs : List Loc} {cells slots : Nat} {Q : State → Prop}
variable {mc ms : Nat} {free : Addr → Prop} {A0 A1 : Nat → Prop} {H0 : Heap} {a : Array Value} {pc : Nat} {ls : Array Slot} {st0 rest : List Value}
theorem vx_callFe {ad : Nat → Nat} {S SX : Type} {post : Option Nat → S → Prop} {px : SX → Prop} {B : S → State → Prop} {BX : String → SX → State → Prop} {AX : Nat → Prop} (hr : vx_Run5 p l e R s m args below meth c H locs cells slots mc ms (F0 m pc ls st0) rest (va_Qe ad post B A1 a) (vx_X px BX AX) free) (hS : va_S A0 H0 H locs) (hA : ∀ q, q < H.size → A1 q → A0 q) (hf : ∀ q, free q → A0 q) (hAX : ∀ q, q < H.size → AX q → A0 q)
    (kx : ∀ (E : String) (ce : Cell) (q9 : Addr) (u : SX) (t : State) (H1 : Heap) (locs1 : List Loc), t.heap = H1 → s.vm.Alike t.vm → px u → BX E u t → H.size ≤ H1.size → (∀ q : Nat, q < H.size → ¬ AX q → H1[q]? = H[q]?) → va_S A0 H0 H1 locs1 → H1[q9]? = some ce → ce.vm = .none → s.vm.findClass E = some ce.cls → vx_W p l e R s m args below meth c H1 locs1 (cells + mc) (slots + ms) Q (F0 m pc ls rest) q9)
    (kk : ∀ (r : Option Nat) (u : S) (t : State) (H1 : Heap) (locs1 : List Loc), t.heap = H1 → s.vm.Alike t.vm → post r u → B u t → H.size ≤ H1.size → (∀ q : Nat, q < H.size → ¬ A1 q → H1[q]? = H[q]?) → va_S A0 H0 H1 locs1 → W p l e R s m args below meth c H1 locs1 (cells + mc) (slots + ms) Q (F0 m (pc + 5) ls (va_re ad r :: rest))) : W p l e R s m args below meth c H locs cells slots Q (F0 m pc ls st0) := by
  intro T hT X
  rcases hr T hT X with ⟨v, st₀, t, T', L, h0, X', hL, e1, e2, ⟨⟨r, u, hv, hp, hb⟩, hF⟩, st⟩ | ⟨q, st₀, t, T', L, E, ce, h0, X', hL, e1, e2, ⟨u, hp, hb, hF⟩, hce, hcv, hcl, st⟩
  · cases hv
    obtain ⟨k1, k2, k3⟩ := vx_keep h0 e1 hS hA hf hL hF
    obtain ⟨t2, a1, b1⟩ := kk r u t T'.heap (locs ++ L) e1.symm (by rw [← e2]; exact X'.warmed.alike) hp hb k1 k2 k3 T' rfl X'
    exact ⟨t2, st t2 a1, b1⟩
  · obtain ⟨k1, k2, k3⟩ := vx_keep h0 e1 hS hAX hf hL hF
    obtain ⟨t2, a1, b1⟩ := kx E ce q u t T'.heap (locs ++ L) e1.symm (by rw [← e2]; exact X'.warmed.alike) hp hb k1 k2 k3 (by rw [e1]; exact hce) hcv hcl T' rfl X'
    exact ⟨t2, st.trans a1, b1⟩
end
/-! ===== END ===== -/
/-! ===== BEGIN what the machine throws by itself: null at a field, at athrow ===== -/
section VXM2
variable {p : Program} {l : Launch} {e : Env} {R : Room} {s : State} {m : MethodId} {args : Array Value} {below : List Frame} {meth : Method} {c : Code} {H : Heap} {locs : List Loc} {cells slots : Nat}
variable {Q : State → Prop} {cc : ByteArray} {pc : Nat} {ls : Array Slot} {rest : List Value}
theorem vx_getfN {D cl tys} {own ref C : String} {T : u_T} {N ci index : Nat} {Ts : List Cond} (hexec : p.tables.exec = Jvm.exec) (hb : c.code = cc) (hts : ∀ w ∈ Ts, w.before args s = true) (hin : ∀ w ∈ u_ws C T N, w ∈ Ts) (hown : s.vm.findClass own = some m.cls) (hK : va_K D cl tys s) (hc : cl[ci]? = some (C, T, N)) (k : Nat) (hk : k < N) (hlink : (Cond.fieldLink own index ref (T k).2.1 (T k).2.2.1).before args s = true) (hsame : ∀ x, s.fieldFound? (T k).1 (T k).2.1 (T k).2.2.1 = some x → s.fieldFound? ref (T k).2.1 (T k).2.2.1 = some x) (hdg : decode cc pc = .ok (.getfield index, 3)) (kk : vx_NoteN p l e R s m args below meth c H locs cells slots Q (F0 m pc ls rest)) : W p l e R s m args below meth c H locs cells slots Q (F0 m pc ls (.null :: rest)) := by
  obtain ⟨hS, hfc, kC, hkC, -⟩ := hK.1 ci _ hc
  obtain ⟨cf, kf, fi, f, hi, -⟩ := hS k hk
  intro U hU X
  obtain ⟨vm', X1, st1⟩ := X.getfieldNull hexec hown hlink (hsame _ hi) (u_facts hfc hkC (u_lays hts hin hk) hi).1 (g := F0 m pc ls (.null :: rest)) rfl (rest := rest) rfl (by rw [hb]; exact hdg)
  obtain ⟨t, st, q⟩ := kk (U.setVm vm') hU X1
  exact ⟨t, st1 t st, q⟩
theorem vx_getfNN {D cl tys} {own ref C host : String} {T : u_T} {N ci index : Nat} {Ts : List Cond} (hexec : p.tables.exec = Jvm.exec) (hb : c.code = cc) (hts : ∀ w ∈ Ts, w.before args s = true) (hin : ∀ w ∈ u_ws C T N, w ∈ Ts) (hown : s.vm.findClass own = some m.cls) (hK : va_K D cl tys s) (hc : cl[ci]? = some (C, T, N)) (k : Nat) (hk : k < N) (hlink : (Cond.fieldLinkNest own index ref (T k).2.1 (T k).2.2.1 host).before args s = true) (hsame : ∀ x, s.fieldFound? (T k).1 (T k).2.1 (T k).2.2.1 = some x → s.fieldFound? ref (T k).2.1 (T k).2.2.1 = some x) (hdg : decode cc pc = .ok (.getfield index, 3)) (kk : vx_NoteN p l e R s m args below meth c H locs cells slots Q (F0 m pc ls rest)) : W p l e R s m args below meth c H locs cells slots Q (F0 m pc ls (.null :: rest)) := by
  obtain ⟨hS, hfc, kC, hkC, -⟩ := hK.1 ci _ hc
  obtain ⟨cf, kf, fi, f, hi, -⟩ := hS k hk
  intro U hU X
  obtain ⟨vm', X1, st1⟩ := X.getfieldNullNest hexec hown hlink (hsame _ hi) (u_facts hfc hkC (u_lays hts hin hk) hi).1 (g := F0 m pc ls (.null :: rest)) rfl (rest := rest) rfl (by rw [hb]; exact hdg)
  obtain ⟨t, st, q⟩ := kk (U.setVm vm') hU X1
  exact ⟨t, st1 t st, q⟩
theorem vx_putfN {D cl tys} {own ref C : String} {T : u_T} {N ci index : Nat} {Ts : List Cond} (hexec : p.tables.exec = Jvm.exec) (hb : c.code = cc) (hts : ∀ w ∈ Ts, w.before args s = true) (hin : ∀ w ∈ u_ws C T N, w ∈ Ts) (hown : s.vm.findClass own = some m.cls) (hK : va_K D cl tys s) (hc : cl[ci]? = some (C, T, N)) (k : Nat) (hk : k < N) (hlink : (Cond.fieldLink own index ref (T k).2.1 (T k).2.2.1).before args s = true) (hsame : ∀ x, s.fieldFound? (T k).1 (T k).2.1 (T k).2.2.1 = some x → s.fieldFound? ref (T k).2.1 (T k).2.2.1 = some x) (hfin : (T k).2.2.2 = false) {v : Value} (hdg : decode cc pc = .ok (.putfield index, 3)) (kk : vx_NoteN p l e R s m args below meth c H locs cells slots Q (F0 m pc ls rest)) : W p l e R s m args below meth c H locs cells slots Q (F0 m pc ls (v :: .null :: rest)) := by
  obtain ⟨hS, hfc, kC, hkC, -⟩ := hK.1 ci _ hc
  obtain ⟨cf, kf, fi, f, hi, -⟩ := hS k hk
  have hlay := hts _ (hin _ (u_in_lay hk))
  unfold u_lay at hlay
  rw [if_neg (by rw [hfin]; decide)] at hlay
  obtain ⟨c9, k9, cf9, kf9, fi9, f9, -, -, hi9, hst9, hnf9, -⟩ := Cond.lays_spec hlay
  cases hi.symm.trans hi9
  intro U hU X
  obtain ⟨vm', X1, st1⟩ := X.putfieldNull hexec hown hlink (hsame _ hi) hst9 hnf9 (g := F0 m pc ls (v :: .null :: rest)) rfl (v := v) (rest := rest) rfl (by rw [hb]; exact hdg)
  obtain ⟨t, st, q⟩ := kk (U.setVm vm') hU X1
  exact ⟨t, st1 t st, q⟩
theorem vx_putfNN {D cl tys} {own ref C host : String} {T : u_T} {N ci index : Nat} {Ts : List Cond} (hexec : p.tables.exec = Jvm.exec) (hb : c.code = cc) (hts : ∀ w ∈ Ts, w.before args s = true) (hin : ∀ w ∈ u_ws C T N, w ∈ Ts) (hown : s.vm.findClass own = some m.cls) (hK : va_K D cl tys s) (hc : cl[ci]? = some (C, T, N)) (k : Nat) (hk : k < N) (hlink : (Cond.fieldLinkNest own index ref (T k).2.1 (T k).2.2.1 host).before args s = true) (hsame : ∀ x, s.fieldFound? (T k).1 (T k).2.1 (T k).2.2.1 = some x → s.fieldFound? ref (T k).2.1 (T k).2.2.1 = some x) (hfin : (T k).2.2.2 = false) {v : Value} (hdg : decode cc pc = .ok (.putfield index, 3)) (kk : vx_NoteN p l e R s m args below meth c H locs cells slots Q (F0 m pc ls rest)) : W p l e R s m args below meth c H locs cells slots Q (F0 m pc ls (v :: .null :: rest)) := by
  obtain ⟨hS, hfc, kC, hkC, -⟩ := hK.1 ci _ hc
  obtain ⟨cf, kf, fi, f, hi, -⟩ := hS k hk
  have hlay := hts _ (hin _ (u_in_lay hk))
  unfold u_lay at hlay
  rw [if_neg (by rw [hfin]; decide)] at hlay
  obtain ⟨c9, k9, cf9, kf9, fi9, f9, -, -, hi9, hst9, hnf9, -⟩ := Cond.lays_spec hlay
  cases hi.symm.trans hi9
  intro U hU X
  obtain ⟨vm', X1, st1⟩ := X.putfieldNullNest hexec hown hlink (hsame _ hi) hst9 hnf9 (g := F0 m pc ls (v :: .null :: rest)) rfl (v := v) (rest := rest) rfl (by rw [hb]; exact hdg)
  obtain ⟨t, st, q⟩ := kk (U.setVm vm') hU X1
  exact ⟨t, st1 t st, q⟩
theorem vx_athrowN (hexec : p.tables.exec = Jvm.exec) (hb : c.code = cc) (hdg : decode cc pc = .ok (.athrow, 1)) (k : vx_NoteN p l e R s m args below meth c H locs cells slots Q (F0 m pc ls rest)) : W p l e R s m args below meth c H locs cells slots Q (F0 m pc ls (.null :: rest)) := by
  intro T hT X
  obtain ⟨t, st, q⟩ := k T hT X
  exact ⟨t, X.athrowNull hexec (g := F0 m pc ls (.null :: rest)) rfl (rest := rest) rfl (by rw [hb]; exact hdg) t st, q⟩
end VXM2
/-! ===== END ===== -/
end
section
/-! THE ABSTRACT MACHINE: a flat memory of typed cells (kinds, ints, longs, references by number), values whose references are numbers of cells (0: null), a predicate transformer am_one for one instruction (of a resolved code), am_W its least fixpoint, am_C the calls by depth. What it says is tied to the machine in part 05. -/
/-- memory: kind (1,ci) object of class ci; (2,n) int[]; (3,n) byte[]; (4,n) boolean[]; (5,n) long[]; (6,n) an array of references; ints; longs; references; next cell (cells made), slots made -/
abbrev am_H : Type := (Nat → Nat × Nat) × (Nat → Nat → Int32) × (Nat → Nat → Int64) × (Nat → Nat → Nat) × Nat × Nat
def am_k (h : am_H) (a : Nat) : Nat × Nat := h.1 a
def am_i (h : am_H) (a k : Nat) : Int32 := h.2.1 a k
def am_l (h : am_H) (a k : Nat) : Int64 := h.2.2.1 a k
def am_r (h : am_H) (a k : Nat) : Nat := h.2.2.2.1 a k
def am_n (h : am_H) : Nat := h.2.2.2.2.1
def am_cs (h : am_H) : Nat := h.2.2.2.2.2
def am_pi (h : am_H) (a k : Nat) (v : Int32) : am_H := (h.1, va_up h.2.1 a (upd (h.2.1 a) k v), h.2.2)
def am_pl (h : am_H) (a k : Nat) (v : Int64) : am_H := (h.1, h.2.1, va_up h.2.2.1 a (vp_updL (h.2.2.1 a) k v), h.2.2.2)
def am_pr (h : am_H) (a k : Nat) (v : Nat) : am_H := (h.1, h.2.1, h.2.2.1, va_up h.2.2.2.1 a (va_up (h.2.2.2.1 a) k v), h.2.2.2.2)
def am_cp (h : am_H) (b sp a dp n : Nat) : am_H := (h.1, va_up h.2.1 a (va_cpy (h.2.1 b) (h.2.1 a) sp dp n), h.2.2)
def am_new (h : am_H) (t n w : Nat) : am_H := (va_up h.1 (am_n h) (t, n), va_up h.2.1 (am_n h) (fun _ => 0), va_up h.2.2.1 (am_n h) (fun _ => 0), va_up h.2.2.2.1 (am_n h) (fun _ => 0), am_n h + 1, am_cs h + w)
def am_thr (h : am_H) : am_H := (h.1, h.2.1, h.2.2.1, h.2.2.2.1, am_n h + 1, am_cs h + 6)
/-- numbers from here on aren't cells: String constants, the script -/
abbrev am_top : Nat := 1000000
abbrev am_S0 : Nat := 2000000
abbrev am_scr : Nat := 3000000
abbrev am_J : Value := .retAddr 0
abbrev am_R : Type := Option Value ⊕ Nat
abbrev am_Q : Type := am_R → am_H → Prop
abbrev am_K : Type := Nat → List Value → List Value → am_H → Prop
abbrev am_Cal : Type := Nat → List Value → am_H → am_Q → Prop
def am_set (L : List Value) (i : Nat) (v : Value) : List Value :=
  match i with
  | 0 => L.set 0 v
  | j + 1 => match L[j]? with
    | some (.long _) => (L.set j am_J).set (j + 1) v
    | some (.double _) => (L.set j am_J).set (j + 1) v
    | _ => L.set (j + 1) v
def am_set2 (L : List Value) (i : Nat) (v : Value) : List Value := (am_set L i v).set (i + 1) am_J
def am_strs : List (List Nat) := [[103, 114, 97, 112, 104], [116, 101, 114, 109, 105, 110, 97, 108], [101, 100, 103, 101], [108, 111, 97, 100], [99, 111, 115, 116], [119, 101, 105, 103, 104, 116], [108, 111, 119], [104, 105, 103, 104]]
def am_cond (c : Jvm.ClassFile.Cond) (x y : Int32) : Prop := match c with
  | .eq => x = y
  | .ne => x ≠ y
  | .lt => x < y
  | .ge => y ≤ x
  | .gt => y < x
  | .le => x ≤ y
def am_inc (x : Int32) (n : Int) : Int32 := match n with
  | .ofNat k => x + nI k
  | .negSucc k => x - nI (k + 1)
def am_tsw (d lo hi : Int) (offs : Array Int) (x : Int32) : Nat := if x.toInt < lo ∨ hi < x.toInt then d.toNat else (offs.getD (x.toInt - lo).toNat 0).toNat
def am_arr (h : am_H) (a t : Nat) (i : Int32) : Prop := (am_k h a).1 = t ∧ vp_in i (am_k h a).2
/-- what an instruction does that touches no local: next; check and next; branch; end; call -/
abbrev am_SC : Type := Nat × List Value × am_H
abbrev am_SO : Type := Option (am_SC ⊕ (Prop × am_SC) ⊕ (Prop × Nat × Nat × List Value) ⊕ (Prop × am_R × am_H) ⊕ (Prop × Nat × List Value × List Value))
abbrev am_nx (p : Nat) (S : List Value) (h : am_H) : am_SO := some (.inl (p, S, h))
abbrev am_ck (c : Prop) (p : Nat) (S : List Value) (h : am_H) : am_SO := some (.inr (.inl (c, p, S, h)))
abbrev am_br (c : Prop) (p q : Nat) (S : List Value) : am_SO := some (.inr (.inr (.inl (c, p, q, S))))
abbrev am_end (c : Prop) (r : am_R) (h : am_H) : am_SO := some (.inr (.inr (.inr (.inl (c, r, h)))))
abbrev am_call (c : Prop) (m : Nat) (as rest : List Value) : am_SO := some (.inr (.inr (.inr (.inr (c, m, as, rest)))))
/-- the script: its length and its ints -/
abbrev am_X : Type := Nat × (Nat → Int32)
/-- at most four values -/
def am_sh (S : List Value) : Bool := match S with
  | _ :: _ :: _ :: _ :: _ :: _ => false
  | _ => true
def am_stp (xs : am_X) (op : Instr) (nx : Nat) (S : List Value) (h : am_H) : am_SO :=
  match op with
  | .nop => am_nx nx S h
  | .ldc k => am_nx nx (.int (nI k) :: S) h
  | .ldc_w k => am_nx nx (.int (-nI k) :: S) h
  | .ldc2_w k => am_nx nx (.long (lN k) :: S) h
  | .goto_w k => am_nx nx (.long (Int64.ofInt k) :: S) h
  | .invokedynamic k => am_nx nx (.float (UInt32.ofNat k) :: S) h
  | .invokeinterface j _ => am_nx nx (.ref (am_S0 + j) :: S) h
  | .aconst_null => am_nx nx (.ref 0 :: S) h
  | .iadd => match S with | .int y :: .int x :: S => am_nx nx (.int (x + y) :: S) h | _ => none
  | .isub => match S with | .int y :: .int x :: S => am_nx nx (.int (x - y) :: S) h | _ => none
  | .imul => match S with | .int y :: .int x :: S => am_nx nx (.int (x * y) :: S) h | _ => none
  | .idiv => match S with | .int y :: .int x :: S => am_ck (¬ y = 0) nx (.int (x / y) :: S) h | _ => none
  | .irem => match S with | .int y :: .int x :: S => am_ck (¬ y = 0) nx (.int (x - x / y * y) :: S) h | _ => none
  | .iand => match S with | .int y :: .int x :: S => am_nx nx (.int (x &&& y) :: S) h | _ => none
  | .ior => match S with | .int y :: .int x :: S => am_nx nx (.int (x ||| y) :: S) h | _ => none
  | .ixor => match S with | .int y :: .int x :: S => am_nx nx (.int (x ^^^ y) :: S) h | _ => none
  | .ishl => match S with | .int y :: .int x :: S => am_nx nx (.int (x <<< (y &&& 31)) :: S) h | _ => none
  | .ishr => match S with | .int y :: .int x :: S => am_nx nx (.int (x >>> (y &&& 31)) :: S) h | _ => none
  | .iushr => match S with | .int y :: .int x :: S => am_nx nx (.int ((x.toUInt32 >>> (y.toUInt32 &&& Int32.toUInt32 31)).toInt32) :: S) h | _ => none
  | .i2l => match S with | .int x :: S => am_nx nx (.long x.toInt64 :: S) h | _ => none
  | .l2i => match S with | .long x :: S => am_nx nx (.int x.toInt32 :: S) h | _ => none
  | .i2b => match S with | .int x :: S => am_nx nx (.int x.toInt8.toInt32 :: S) h | _ => none
  | .i2f => match S with | .int x :: S => am_nx nx (.float (FP.i2f x) :: S) h | _ => none
  | .ladd => match S with | .long y :: .long x :: S => am_nx nx (.long (x + y) :: S) h | _ => none
  | .lsub => match S with | .long y :: .long x :: S => am_nx nx (.long (x - y) :: S) h | _ => none
  | .lmul => match S with | .long y :: .long x :: S => am_nx nx (.long (x * y) :: S) h | _ => none
  | .ldiv => match S with | .long y :: .long x :: S => am_ck (¬ y = 0) nx (.long (x / y) :: S) h | _ => none
  | .lneg => match S with | .long x :: S => am_nx nx (.long (-x) :: S) h | _ => none
  | .lcmp => match S with | .long y :: .long x :: S => am_nx nx (.int (lg_cmp x y) :: S) h | _ => none
  | .fadd => match S with | .float y :: .float x :: S => am_ck (vf_n32 (FP.fadd x y)) nx (.float (FP.fadd x y) :: S) h | _ => none
  | .fmul => match S with | .float y :: .float x :: S => am_ck (vf_n32 (FP.fmul x y)) nx (.float (FP.fmul x y) :: S) h | _ => none
  | .fdiv => match S with | .float y :: .float x :: S => am_ck (vf_n32 (FP.fdiv x y)) nx (.float (FP.fdiv x y) :: S) h | _ => none
  | .f2d => match S with | .float x :: S => am_ck (vf_n64 (FP.f2d x)) nx (.double (FP.f2d x) :: S) h | _ => none
  | .dcmp c => match S with | .double y :: .double x :: S => am_nx nx (.int (Op.cmpValue (FP.dcmp x y) c) :: S) h | _ => none
  | .dup => match S with
    | .int x :: S => am_nx nx (.int x :: .int x :: S) h
    | .ref x :: S => am_nx nx (.ref x :: .ref x :: S) h
    | _ => none
  | .dup2 => match S with | .int x :: .ref y :: S => am_nx nx (.int x :: .ref y :: .int x :: .ref y :: S) h | _ => none
  | .pop => match S with
    | .int _ :: S => am_nx nx S h
    | .ref _ :: S => am_nx nx S h
    | _ => none
  | .pop2 => match S with | [.ref a] => am_ck (a ≠ 0) nx [] h | _ => none
  | .dadd => match S with | .int y :: .int x :: S => bif am_sh S then am_nx nx (.int (if x < y then y else x) :: S) h else none | _ => none
  | .dsub => match S with | .int y :: .int x :: S => bif am_sh S then am_nx nx (.int (if y < x then y else x) :: S) h else none | _ => none
  | .dmul => match S with | .long y :: .long x :: S => bif am_sh S then am_nx nx (.long (if y < x then x else y) :: S) h else none | _ => none
  | .ddiv => match S with | .long y :: .long x :: S => bif am_sh S then am_nx nx (.long (if y < x then y else x) :: S) h else none | _ => none
  | .goto t => am_nx t.toNat S h
  | .if_icmp c t => match S with | .int y :: .int x :: S => am_br (am_cond c x y) t.toNat nx S | _ => none
  | .ifCond c t => match S with | .int x :: S => am_br (am_cond c x 0) t.toNat nx S | _ => none
  | .ifnull t => match S with | .ref a :: S => am_br (a = 0) t.toNat nx S | _ => none
  | .tableswitch d lo hi offs => match S with | .int x :: S => am_nx (am_tsw d lo hi offs x) S h | _ => none
  | .getfield e => match S with | .ref a :: S => am_ck (am_k h a = (1, e / 64)) nx (.int (am_i h a (e % 64)) :: S) h | _ => none
  | .getstatic e => match S with | .ref a :: S => am_ck (am_k h a = (1, e / 64)) nx (.ref (am_r h a (e % 64)) :: S) h | _ => none
  | .putfield e => match S with | .int x :: .ref a :: S => am_ck (am_k h a = (1, e / 64)) nx S (am_pi h a (e % 64) x) | _ => none
  | .putstatic e => match S with | .int x :: .ref a :: S => am_ck (am_k h a = (1, e / 64) ∧ (x = 0 ∨ x = 1)) nx S (am_pi h a (e % 64) x) | _ => none
  | .checkcast e => match S with | .ref b :: .ref a :: S => am_ck (am_k h a = (1, e / 64)) nx S (am_pr h a (e % 64) b) | _ => none
  | .iaload => match S with | .int i :: .ref a :: S => am_ck (am_arr h a 2 i) nx (.int (am_i h a i.toNatClampNeg) :: S) h | _ => none
  | .baload => match S with | .int i :: .ref a :: S => am_ck (am_arr h a 3 i) nx (.int (am_i h a i.toNatClampNeg) :: S) h | _ => none
  | .saload => match S with | .int i :: .ref a :: S => am_ck (am_arr h a 4 i) nx (.int (am_i h a i.toNatClampNeg) :: S) h | _ => none
  | .laload => match S with | .int i :: .ref a :: S => am_ck (am_arr h a 5 i) nx (.long (am_l h a i.toNatClampNeg) :: S) h | _ => none
  | .aaload => match S with | .int i :: .ref a :: S => am_ck (am_arr h a 6 i) nx (.ref (am_r h a i.toNatClampNeg) :: S) h | _ => none
  | .daload => match S with | .int i :: .ref a :: S => am_ck (a = am_scr ∧ vp_in i xs.1) nx (.int (xs.2 i.toNatClampNeg) :: S) h | _ => none
  | .monitorenter => match S with | .ref a :: S => am_ck (a = am_scr) nx (.int (nI xs.1) :: S) h | _ => none
  | .iastore => match S with | .int x :: .int i :: .ref a :: S => am_ck (am_arr h a 2 i) nx S (am_pi h a i.toNatClampNeg x) | _ => none
  | .bastore => match S with | .int x :: .int i :: .ref a :: S => am_ck (am_arr h a 3 i) nx S (am_pi h a i.toNatClampNeg (vp_nar .byte x)) | _ => none
  | .sastore => match S with | .int x :: .int i :: .ref a :: S => am_ck (am_arr h a 4 i) nx S (am_pi h a i.toNatClampNeg (vp_nar .boolean x)) | _ => none
  | .lastore => match S with | .long x :: .int i :: .ref a :: S => am_ck (am_arr h a 5 i) nx S (am_pl h a i.toNatClampNeg x) | _ => none
  | .aastore => match S with | .ref b :: .int i :: .ref a :: S => am_ck (am_arr h a 6 i ∧ am_k h b = (1, 2)) nx S (am_pr h a i.toNatClampNeg b) | _ => none
  | .arraylength => match S with | .ref a :: S => am_ck (2 ≤ (am_k h a).1 ∧ (am_k h a).1 ≤ 6) nx (.int (nI (am_k h a).2) :: S) h | _ => none
  | .new e => am_ck (am_n h < am_top) nx (.ref (am_n h) :: S) (am_new h 1 (e / 64) (e % 64))
  | .anewarray t => match S with | .int n :: S => am_ck (am_n h < am_top ∧ ¬ n < 0 ∧ n.toNatClampNeg ≤ 100000) nx (.ref (am_n h) :: S) (am_new h t n.toNatClampNeg n.toNatClampNeg) | _ => none
  | .multianewarray _ _ => match S with
    | .int n :: .int dp :: .ref a :: .int sp :: .ref b :: S => bif am_sh S then am_ck (((am_k h a).1 = 2 ∧ (am_k h b).1 = 2) ∧ (¬ sp < 0 ∧ ¬ dp < 0 ∧ ¬ n < 0) ∧ sp.toNatClampNeg + n.toNatClampNeg ≤ (am_k h b).2 ∧ dp.toNatClampNeg + n.toNatClampNeg ≤ (am_k h a).2) nx S (am_cp h b sp.toNatClampNeg a dp.toNatClampNeg n.toNatClampNeg) else none
    | _ => none
  | .monitorexit => match S with | .ref a :: S => bif am_sh S then am_ck (am_S0 ≤ a ∧ a - am_S0 < am_strs.length) nx (.int (nI (am_strs.getD (a - am_S0) []).length) :: S) h else none | _ => none
  | .instanceof _ => match S with | .int i :: .ref a :: S => bif am_sh S then am_ck ((am_S0 ≤ a ∧ a - am_S0 < am_strs.length) ∧ vp_in i (am_strs.getD (a - am_S0) []).length) nx (.int (nI ((am_strs.getD (a - am_S0) []).getD i.toNatClampNeg 0)) :: S) h else none | _ => none
  | .ireturn => match S with | [.int x] => am_end True (.inl (some (.int x))) h | _ => none
  | .areturn => match S with | [.int x] => am_end (x = 0 ∨ x = 1) (.inl (some (.int x))) h | _ => none
  | .dreturn => match S with | [.ref x] => am_end True (.inl (some (.ref x))) h | _ => none
  | .lreturn => match S with | [.long x] => am_end True (.inl (some (.long x))) h | _ => none
  | .freturn => match S with | [.float x] => am_end True (.inl (some (.float x))) h | _ => none
  | .return_ => match S with | [] => am_end True (.inl none) h | _ => none
  | .jsr k => bif am_sh S then am_end (am_n h < am_top) (.inr k.toNat) (am_thr h) else none
  | .invokestatic e => bif am_sh (S.drop (e % 16)) && Nat.beq (S.take (e % 16)).length (e % 16) then am_call True (e / 16) (S.take (e % 16)).reverse (S.drop (e % 16)) else none
  | .invokevirtual e => match S.drop (e % 16) with
    | .ref a :: S' => bif am_sh S' then am_call (am_k h a = (1, e / 8192)) (e / 16 % 512) (.ref a :: (S.take (e % 16)).reverse) S' else none
    | _ => none
  | _ => none
def am_out (rec : am_K) (cal : am_Cal) (hdl : Nat → Nat → Option (Nat × Nat)) (Q : am_Q) (pc nx : Nat) (L : List Value) (h : am_H) (o : am_SO) : Prop :=
  match o with
  | none => False
  | some (.inl (p, S, h)) => rec p L S h
  | some (.inr (.inl (c, p, S, h))) => c ∧ rec p L S h
  | some (.inr (.inr (.inl (c, p, q, S)))) => (c → rec p L S h) ∧ (¬ c → rec q L S h)
  | some (.inr (.inr (.inr (.inl (c, r, h))))) => c ∧ Q r h
  | some (.inr (.inr (.inr (.inr (c, m, as, S))))) => c ∧ cal m as h (fun r h => match r with
    | .inl none => rec nx L S h
    | .inl (some v) => rec nx L (v :: S) h
    | .inr E => match hdl pc E with
      | none => Q (.inr E) h
      | some (p, i) => rec p (am_set L i am_J) [] h)
/-- what an instruction does that touches the locals (none: another one; some none: it doesn't go) -/
def am_lop (op : Instr) (L S : List Value) : Option (Option (List Value × List Value)) :=
  match op with
  | .iload i => some (match L[i]? with | some (.int x) => some (L, .int x :: S) | _ => none)
  | .aload i => some (match L[i]? with | some (.ref x) => some (L, .ref x :: S) | _ => none)
  | .lload i => some (match L[i]? with | some (.long x) => some (L, .long x :: S) | _ => none)
  | .fload i => some (match L[i]? with | some (.float x) => some (L, .float x :: S) | _ => none)
  | .dload i => some (match L[i]? with | some (.double x) => some (L, .double x :: S) | _ => none)
  | .istore i => some (match S, L[i]? with | .int x :: S, some _ => some (am_set L i (.int x), S) | _, _ => none)
  | .astore i => some (match S, L[i]? with | .ref x :: S, some _ => some (am_set L i (.ref x), S) | _, _ => none)
  | .fstore i => some (match S, L[i]? with | .float x :: S, some _ => some (am_set L i (.float x), S) | _, _ => none)
  | .lstore i => some (match S, L[i + 1]? with | .long x :: S, some _ => some (am_set2 L i (.long x), S) | _, _ => none)
  | .dstore i => some (match S, L[i + 1]? with | .double x :: S, some _ => some (am_set2 L i (.double x), S) | _, _ => none)
  | .iinc i n => some (match L[i]? with | some (.int x) => some (am_set L i (.int (am_inc x n)), S) | _ => none)
  | _ => none
/-- one instruction -/
def am_one (xs : am_X) (code : Nat → Option (Instr × Nat)) (hdl : Nat → Nat → Option (Nat × Nat)) (rec : am_K) (cal : am_Cal) (Q : am_Q) : am_K := fun pc L S h =>
  match code pc with
  | none => False
  | some (op, nx) => match am_lop op L S with
    | some (some (L', S')) => rec nx L' S' h
    | some none => False
    | none => am_out rec cal hdl Q pc nx L h (am_stp xs op nx S h)
/-- its least fixpoint -/
def am_W (xs : am_X) (code : Nat → Option (Instr × Nat)) (hdl : Nat → Nat → Option (Nat × Nat)) (cal : am_Cal) (Q : am_Q) : am_K := fun pc L S h =>
  ∀ P : am_K, (∀ pc L S h, am_one xs code hdl P cal Q pc L S h → P pc L S h) → P pc L S h
def am_pad : List Value → List Value
  | [] => []
  | .long x :: l => .long x :: am_J :: am_pad l
  | .double x :: l => .double x :: am_J :: am_pad l
  | v :: l => v :: am_pad l
def am_loc (args : List Value) (n : Nat) : List Value := am_pad args ++ List.replicate (n - (am_pad args).length) am_J
abbrev am_P : Type := Nat → Option ((Nat → Option (Instr × Nat)) × (Nat → Nat → Option (Nat × Nat)) × Nat)
/-- a call at depth d: the method's code from its entry -/
def am_C (xs : am_X) (P : am_P) : Nat → am_Cal
  | 0 => fun _ _ _ _ => False
  | d + 1 => fun m as h Q => match P m with
    | none => False
    | some (code, hdl, n) => Nat.ble (am_pad as).length n = true ∧ am_W xs code hdl (am_C xs P d) Q 0 (am_loc as n) [] h
/-- code as chunks of 16 bytes -/
abbrev am_T : Type := List (List (Nat × Instr × Nat))
def am_find : List (Nat × Instr × Nat) → Nat → Option (Instr × Nat)
  | [], _ => none
  | (q, x) :: l, pc => bif Nat.beq q pc then some x else am_find l pc
def am_code (t : am_T) (pc : Nat) : Option (Instr × Nat) := match t[pc / 16]? with
  | none => none
  | some l => am_find l pc
/-- the same up to some stops, there a continuation -/
def am_ev (xs : am_X) (code : Nat → Option (Instr × Nat)) (hdl : Nat → Nat → Option (Nat × Nat)) (stop : Nat → Bool) (K : am_K) (cal : am_Cal) (Q : am_Q) : Nat → am_K
  | 0 => fun _ _ _ _ => False
  | n + 1 => fun pc L S h => bif stop pc then K pc L S h else am_one xs code hdl (am_ev xs code hdl stop K cal Q n) cal Q pc L S h
end
section
/-! rules of the abstract machine -/
theorem am_out_mono {hdl : Nat → Nat → Option (Nat × Nat)} {rec1 rec2 : am_K} {cal1 cal2 : am_Cal} {Q1 Q2 : am_Q} (hr : ∀ pc L S h, rec1 pc L S h → rec2 pc L S h) (hc : ∀ m as h (q1 q2 : am_Q), (∀ r h, q1 r h → q2 r h) → cal1 m as h q1 → cal2 m as h q2) (hQ : ∀ r h, Q1 r h → Q2 r h) (pc nx : Nat) (L : List Value) (h : am_H) (o : am_SO) (H : am_out rec1 cal1 hdl Q1 pc nx L h o) : am_out rec2 cal2 hdl Q2 pc nx L h o := by
  match o, H with
  | some (.inl (p, S, h)), H => exact hr _ _ _ _ H
  | some (.inr (.inl (c, p, S, h))), H => exact ⟨H.1, hr _ _ _ _ H.2⟩
  | some (.inr (.inr (.inl (c, p, q, S)))), H => exact ⟨fun hc => hr _ _ _ _ (H.1 hc), fun hc => hr _ _ _ _ (H.2 hc)⟩
  | some (.inr (.inr (.inr (.inl (c, r, h))))), H => exact ⟨H.1, hQ _ _ H.2⟩
  | some (.inr (.inr (.inr (.inr (c, m, as, S))))), H =>
    refine ⟨H.1, hc _ _ _ _ _ (fun r h' k => ?_) H.2⟩
    match r, k with
    | .inl none, k => exact hr _ _ _ _ k
    | .inl (some v), k => exact hr _ _ _ _ k
    | .inr E, k =>
      dsimp only at k ⊢
      cases e : hdl pc E with
      | none => rw [e] at k; exact hQ _ _ k
      | some z => rw [e] at k; exact hr _ _ _ _ k
theorem am_one_mono {xs : am_X} {code : Nat → Option (Instr × Nat)} {hdl : Nat → Nat → Option (Nat × Nat)} {rec1 rec2 : am_K} {cal1 cal2 : am_Cal} {Q1 Q2 : am_Q} (hr : ∀ pc L S h, rec1 pc L S h → rec2 pc L S h) (hc : ∀ m as h (q1 q2 : am_Q), (∀ r h, q1 r h → q2 r h) → cal1 m as h q1 → cal2 m as h q2) (hQ : ∀ r h, Q1 r h → Q2 r h) (pc : Nat) (L S : List Value) (h : am_H) (H : am_one xs code hdl rec1 cal1 Q1 pc L S h) : am_one xs code hdl rec2 cal2 Q2 pc L S h := by
  unfold am_one at H ⊢
  cases e : code pc with
  | none => rw [e] at H; exact H
  | some z =>
    rw [e] at H
    dsimp only at H ⊢
    cases e2 : am_lop z.1 L S with
    | none => rw [e2] at H; exact am_out_mono hr hc hQ _ _ _ _ _ H
    | some y =>
      rw [e2] at H
      cases y with
      | none => exact H
      | some w => exact hr _ _ _ _ H
theorem am_W_fold {xs : am_X} {code : Nat → Option (Instr × Nat)} {hdl : Nat → Nat → Option (Nat × Nat)} {cal : am_Cal} {Q : am_Q} (hc : ∀ m as h (q1 q2 : am_Q), (∀ r h, q1 r h → q2 r h) → cal m as h q1 → cal m as h q2) {pc : Nat} {L S : List Value} {h : am_H} (H : am_one xs code hdl (am_W xs code hdl cal Q) cal Q pc L S h) : am_W xs code hdl cal Q pc L S h :=
  fun P hP => hP _ _ _ _ (am_one_mono (fun _ _ _ _ w => w P hP) hc (fun _ _ q => q) _ _ _ _ H)
theorem am_W_mono {xs : am_X} {code : Nat → Option (Instr × Nat)} {hdl : Nat → Nat → Option (Nat × Nat)} {cal1 cal2 : am_Cal} {Q1 Q2 : am_Q} (hc : ∀ m as h (q1 q2 : am_Q), (∀ r h, q1 r h → q2 r h) → cal1 m as h q1 → cal2 m as h q2) (hQ : ∀ r h, Q1 r h → Q2 r h) {pc : Nat} {L S : List Value} {h : am_H} (H : am_W xs code hdl cal1 Q1 pc L S h) : am_W xs code hdl cal2 Q2 pc L S h :=
  fun P hP => H P (fun _ _ _ _ k => hP _ _ _ _ (am_one_mono (fun _ _ _ _ w => w) hc hQ _ _ _ _ k))
theorem am_C_eq (xs : am_X) (P : am_P) (d m : Nat) (as : List Value) (h : am_H) (Q : am_Q) : am_C xs P (d + 1) m as h Q = (match P m with | none => False | some (code, hdl, n) => Nat.ble (am_pad as).length n = true ∧ am_W xs code hdl (am_C xs P d) Q 0 (am_loc as n) [] h) := rfl
theorem am_C_mono {xs : am_X} {P : am_P} : ∀ (d m : Nat) (as : List Value) (h : am_H) (q1 q2 : am_Q), (∀ r h, q1 r h → q2 r h) → am_C xs P d m as h q1 → am_C xs P d m as h q2
  | 0, _, _, _, _, _, _, H => H
  | d + 1, m, as, h, q1, q2, hq, H => by
    unfold am_C at H ⊢
    cases e : P m with
    | none => rw [e] at H; exact H
    | some z => rw [e] at H; exact ⟨H.1, am_W_mono (am_C_mono d) hq H.2⟩
theorem am_C_up {xs : am_X} {P : am_P} : ∀ (d m : Nat) (as : List Value) (h : am_H) (q1 q2 : am_Q), (∀ r h, q1 r h → q2 r h) → am_C xs P d m as h q1 → am_C xs P (d + 1) m as h q2
  | 0, _, _, _, _, _, _, H => H.elim
  | d + 1, m, as, h, q1, q2, hq, H => by
    rw [am_C_eq] at H ⊢
    cases e : P m with
    | none => rw [e] at H; exact H
    | some z => rw [e] at H; exact ⟨H.1, am_W_mono (am_C_up d) hq H.2⟩
theorem am_C_le {xs : am_X} {P : am_P} {d e m : Nat} {as : List Value} {h : am_H} {q1 q2 : am_Q} (hde : d ≤ e) (H : am_C xs P d m as h q1) (hq : ∀ r h, q1 r h → q2 r h) : am_C xs P e m as h q2 := by
  induction hde with
  | refl => exact am_C_mono _ _ _ _ _ _ hq H
  | step _ ih => exact am_C_up _ _ _ _ _ _ (fun _ _ k => k) ih
theorem am_ev_W {xs : am_X} {P : am_P} {d : Nat} {code : Nat → Option (Instr × Nat)} {hdl : Nat → Nat → Option (Nat × Nat)} {Q : am_Q} {stop : Nat → Bool} : ∀ (n pc : Nat) (L S : List Value) (h : am_H), am_ev xs code hdl stop (am_W xs code hdl (am_C xs P d) Q) (am_C xs P d) Q n pc L S h → am_W xs code hdl (am_C xs P d) Q pc L S h
  | 0, _, _, _, _, H => H.elim
  | n + 1, pc, L, S, h, H => by
    rw [am_ev] at H
    cases e : stop pc with
    | true => rw [e] at H; exact H
    | false =>
      rw [e] at H
      exact am_W_fold (am_C_mono d) (am_one_mono (am_ev_W n) (am_C_mono d) (fun _ _ q => q) _ _ _ _ H)
/-- walk from here up to the stops -/
theorem am_go {xs : am_X} {P : am_P} {d : Nat} {code : Nat → Option (Instr × Nat)} {hdl : Nat → Nat → Option (Nat × Nat)} {Q : am_Q} (stop : Nat → Bool) {pc : Nat} {L S : List Value} {h : am_H}
    (H : ∀ (K : am_K) (cal : am_Cal) (Q' : am_Q), (∀ pc L S h, am_W xs code hdl (am_C xs P d) Q pc L S h → K pc L S h) → (∀ m as h q, am_C xs P d m as h q → cal m as h q) → (∀ r h, Q r h → Q' r h) → am_one xs code hdl (am_ev xs code hdl stop K cal Q' 2000) cal Q' pc L S h) : am_W xs code hdl (am_C xs P d) Q pc L S h :=
  am_W_fold (am_C_mono d) (am_one_mono (am_ev_W 2000) (am_C_mono d) (fun _ _ q => q) _ _ _ _ (H _ _ _ (fun _ _ _ _ w => w) (fun _ _ _ _ w => w) (fun _ _ q => q)))
theorem am_enter {xs : am_X} {P : am_P} {d m n : Nat} {code : Nat → Option (Instr × Nat)} {hdl : Nat → Nat → Option (Nat × Nat)} {Q : am_Q} {as : List Value} {h : am_H} (e : P m = some (code, hdl, n)) (hb : Nat.ble (am_pad as).length n = true) (H : am_W xs code hdl (am_C xs P d) Q 0 (am_loc as n) [] h) : am_C xs P (d + 1) m as h Q := by
  rw [am_C_eq, e]
  exact ⟨hb, H⟩
theorem am_use {xs : am_X} {P : am_P} {d e m : Nat} {as : List Value} {h : am_H} {q1 q2 : am_Q} {cal : am_Cal} (hC : ∀ m as h q, am_C xs P d m as h q → cal m as h q) (H : am_C xs P e m as h q1) (hde : e ≤ d) (k : ∀ r h, q1 r h → q2 r h) : cal m as h q2 := hC _ _ _ _ (am_C_le hde H k)
/-- forgetting locals -/
def am_fg : List Value → List Value → Prop
  | [], [] => True
  | x :: l, y :: k => (x = am_J ∨ x = y) ∧ am_fg l k
  | _, _ => False
end
section
/-! THE NAMES: classes, their fields, the links of the constant pools by number; written by wip/whole/gen.py out of the printed claim -/
def RX1 : String := "MultiwayCut$ExactSearch"
def TX1 : u_T := fun k => match k with
  | 0 => ("MultiwayCut$ExactSearch", "best", "[I", true)
  | 1 => ("MultiwayCut$ExactSearch", "bestCost", "I", false)
  | _ => ("MultiwayCut$ExactSearch", "trial", "[I", true)
def tyX1 : Nat → FieldType := fun k => match k with
  | 0 => .array .int
  | 1 => .int
  | _ => .array .int
theorem nmX1 : ∀ a, a < 3 → ∀ b, b < 3 → a ≠ b → (TX1 a).2.1 ≠ (TX1 b).2.1 := by decide +kernel
theorem tyX1_ok : ∀ k, k < 3 → parseFieldDescriptor (TX1 k).2.2.1 = some (tyX1 k) := by decide +kernel
def RX2 : String := "MultiwayCut$Formula"
def TX2 : u_T := fun k => match k with
  | 0 => ("MultiwayCut$Formula", "codes", "[I", true)
  | _ => ("MultiwayCut$Formula", "waiting", "[I", true)
def tyX2 : Nat → FieldType := fun k => match k with
  | 0 => .array .int
  | _ => .array .int
theorem nmX2 : ∀ a, a < 2 → ∀ b, b < 2 → a ≠ b → (TX2 a).2.1 ≠ (TX2 b).2.1 := by decide +kernel
theorem tyX2_ok : ∀ k, k < 2 → parseFieldDescriptor (TX2 k).2.2.1 = some (tyX2 k) := by decide +kernel
def RX3 : String := "MultiwayCut$Graph"
def TX3 : u_T := fun k => match k with
  | 0 => ("MultiwayCut$Graph", "vertexTotal", "I", false)
  | 1 => ("MultiwayCut$Graph", "edgeTotal", "I", false)
  | 2 => ("MultiwayCut$Graph", "terminalSet", "I", false)
  | 3 => ("MultiwayCut$Graph", "loads", "[I", true)
  | 4 => ("MultiwayCut$Graph", "labels", "[I", true)
  | 5 => ("MultiwayCut$Graph", "lowEnds", "[I", true)
  | 6 => ("MultiwayCut$Graph", "highEnds", "[I", true)
  | 7 => ("MultiwayCut$Graph", "weights", "[I", true)
  | 8 => ("MultiwayCut$Graph", "costs", "[I", true)
  | _ => ("MultiwayCut$Graph", "formula", "LMultiwayCut$Formula;", false)
def tyX3 : Nat → FieldType := fun k => match k with
  | 0 => .int
  | 1 => .int
  | 2 => .int
  | 3 => .array .int
  | 4 => .array .int
  | 5 => .array .int
  | 6 => .array .int
  | 7 => .array .int
  | 8 => .array .int
  | _ => .object "MultiwayCut$Formula"
theorem nmX3 : ∀ a, a < 10 → ∀ b, b < 10 → a ≠ b → (TX3 a).2.1 ≠ (TX3 b).2.1 := by decide +kernel
theorem tyX3_ok : ∀ k, k < 10 → parseFieldDescriptor (TX3 k).2.2.1 = some (tyX3 k) := by decide +kernel
def RX4 : String := "MultiwayCut$Grouping"
def TX4 : u_T := fun k => match k with
  | 0 => ("MultiwayCut$Grouping", "made", "I", false)
  | _ => ("MultiwayCut$Grouping", "groups", "[I", true)
def tyX4 : Nat → FieldType := fun k => match k with
  | 0 => .int
  | _ => .array .int
theorem nmX4 : ∀ a, a < 2 → ∀ b, b < 2 → a ≠ b → (TX4 a).2.1 ≠ (TX4 b).2.1 := by decide +kernel
theorem tyX4_ok : ∀ k, k < 2 → parseFieldDescriptor (TX4 k).2.2.1 = some (tyX4 k) := by decide +kernel
def RX5 : String := "MultiwayCut$History"
def TX5 : u_T := fun k => match k with
  | 0 => ("MultiwayCut$History", "saved", "[LMultiwayCut$Graph;", true)
  | 1 => ("MultiwayCut$History", "next", "I", false)
  | _ => ("MultiwayCut$History", "count", "I", false)
def tyX5 : Nat → FieldType := fun k => match k with
  | 0 => .array (.object "MultiwayCut$Graph")
  | 1 => .int
  | _ => .int
theorem nmX5 : ∀ a, a < 3 → ∀ b, b < 3 → a ≠ b → (TX5 a).2.1 ≠ (TX5 b).2.1 := by decide +kernel
theorem tyX5_ok : ∀ k, k < 3 → parseFieldDescriptor (TX5 k).2.2.1 = some (tyX5 k) := by decide +kernel
def RX6 : String := "MultiwayCut$MoveSearch"
def TX6 : u_T := fun k => match k with
  | 0 => ("MultiwayCut$MoveSearch", "vertex", "I", false)
  | 1 => ("MultiwayCut$MoveSearch", "terminal", "I", false)
  | _ => ("MultiwayCut$MoveSearch", "costThen", "I", false)
def tyX6 : Nat → FieldType := fun k => match k with
  | 0 => .int
  | 1 => .int
  | _ => .int
theorem nmX6 : ∀ a, a < 3 → ∀ b, b < 3 → a ≠ b → (TX6 a).2.1 ≠ (TX6 b).2.1 := by decide +kernel
theorem tyX6_ok : ∀ k, k < 3 → parseFieldDescriptor (TX6 k).2.2.1 = some (tyX6 k) := by decide +kernel
def RX7 : String := "MultiwayCut$NearestSearch"
def TX7 : u_T := fun k => match k with
  | 0 => ("MultiwayCut$NearestSearch", "goals", "[I", true)
  | _ => ("MultiwayCut$NearestSearch", "lengths", "[I", true)
def tyX7 : Nat → FieldType := fun k => match k with
  | 0 => .array .int
  | _ => .array .int
theorem nmX7 : ∀ a, a < 2 → ∀ b, b < 2 → a ≠ b → (TX7 a).2.1 ≠ (TX7 b).2.1 := by decide +kernel
theorem tyX7_ok : ∀ k, k < 2 → parseFieldDescriptor (TX7 k).2.2.1 = some (tyX7 k) := by decide +kernel
def RX8 : String := "MultiwayCut$SetupReader"
def TX8 : u_T := fun k => match k with
  | 0 => ("MultiwayCut$SetupReader", "graph", "LMultiwayCut$Graph;", true)
  | 1 => ("MultiwayCut$SetupReader", "errorCode", "I", false)
  | 2 => ("MultiwayCut$SetupReader", "errorStart", "I", false)
  | 3 => ("MultiwayCut$SetupReader", "text", "[B", false)
  | 4 => ("MultiwayCut$SetupReader", "length", "I", false)
  | 5 => ("MultiwayCut$SetupReader", "tokenKind", "I", false)
  | 6 => ("MultiwayCut$SetupReader", "tokenStart", "I", false)
  | 7 => ("MultiwayCut$SetupReader", "tokenEnd", "I", false)
  | 8 => ("MultiwayCut$SetupReader", "tokenValue", "I", false)
  | 9 => ("MultiwayCut$SetupReader", "loadedSet", "I", false)
  | 10 => ("MultiwayCut$SetupReader", "costSeen", "Z", false)
  | 11 => ("MultiwayCut$SetupReader", "codes", "[I", true)
  | _ => ("MultiwayCut$SetupReader", "codeTotal", "I", false)
def tyX8 : Nat → FieldType := fun k => match k with
  | 0 => .object "MultiwayCut$Graph"
  | 1 => .int
  | 2 => .int
  | 3 => .array .byte
  | 4 => .int
  | 5 => .int
  | 6 => .int
  | 7 => .int
  | 8 => .int
  | 9 => .int
  | 10 => .boolean
  | 11 => .array .int
  | _ => .int
theorem nmX8 : ∀ a, a < 13 → ∀ b, b < 13 → a ≠ b → (TX8 a).2.1 ≠ (TX8 b).2.1 := by decide +kernel
theorem tyX8_ok : ∀ k, k < 13 → parseFieldDescriptor (TX8 k).2.2.1 = some (tyX8 k) := by decide +kernel
def RX9 : String := "MultiwayCut"
def TX9 : u_T := fun k => match k with
  | 0 => ("MultiwayCut", "buffer", "[B", true)
  | 1 => ("MultiwayCut", "bufferLength", "I", false)
  | 2 => ("MultiwayCut", "errorAt", "I", false)
  | 3 => ("MultiwayCut", "graph", "LMultiwayCut$Graph;", true)
  | 4 => ("MultiwayCut", "history", "LMultiwayCut$History;", true)
  | 5 => ("MultiwayCut", "reader", "LMultiwayCut$SetupReader;", true)
  | 6 => ("MultiwayCut", "grouping", "LMultiwayCut$Grouping;", true)
  | 7 => ("MultiwayCut", "exactSearch", "LMultiwayCut$ExactSearch;", true)
  | 8 => ("MultiwayCut", "nearestSearch", "LMultiwayCut$NearestSearch;", true)
  | _ => ("MultiwayCut", "moveSearch", "LMultiwayCut$MoveSearch;", true)
def tyX9 : Nat → FieldType := fun k => match k with
  | 0 => .array .byte
  | 1 => .int
  | 2 => .int
  | 3 => .object "MultiwayCut$Graph"
  | 4 => .object "MultiwayCut$History"
  | 5 => .object "MultiwayCut$SetupReader"
  | 6 => .object "MultiwayCut$Grouping"
  | 7 => .object "MultiwayCut$ExactSearch"
  | 8 => .object "MultiwayCut$NearestSearch"
  | _ => .object "MultiwayCut$MoveSearch"
theorem nmX9 : ∀ a, a < 10 → ∀ b, b < 10 → a ≠ b → (TX9 a).2.1 ≠ (TX9 b).2.1 := by decide +kernel
theorem tyX9_ok : ∀ k, k < 10 → parseFieldDescriptor (TX9 k).2.2.1 = some (tyX9 k) := by decide +kernel
def RX10 : String := "MultiwayCutModel"
def TX10 : u_T := fun k => match k with
  | 0 => ("MultiwayCutModel", "thrown", "I", false)
  | 1 => ("MultiwayCutModel", "rows", "[I", true)
  | 2 => ("MultiwayCutModel", "read", "[I", true)
  | 3 => ("MultiwayCutModel", "now", "I", false)
  | 4 => ("MultiwayCutModel", "undoable", "I", false)
  | 5 => ("MultiwayCutModel", "text", "[I", true)
  | 6 => ("MultiwayCutModel", "hasLoad", "[Z", true)
  | 7 => ("MultiwayCutModel", "bytes", "I", false)
  | 8 => ("MultiwayCutModel", "errorAt", "I", false)
  | 9 => ("MultiwayCutModel", "size", "I", false)
  | 10 => ("MultiwayCutModel", "next", "I", false)
  | 11 => ("MultiwayCutModel", "error", "I", false)
  | 12 => ("MultiwayCutModel", "place", "I", false)
  | 13 => ("MultiwayCutModel", "began", "I", false)
  | 14 => ("MultiwayCutModel", "nested", "I", false)
  | 15 => ("MultiwayCutModel", "hasCost", "Z", false)
  | 16 => ("MultiwayCutModel", "pile", "[J", true)
  | 17 => ("MultiwayCutModel", "costs", "[I", true)
  | 18 => ("MultiwayCutModel", "cheapest", "I", false)
  | 19 => ("MultiwayCutModel", "values", "[I", true)
  | 20 => ("MultiwayCutModel", "sets", "[I", true)
  | 21 => ("MultiwayCutModel", "groups", "[I", true)
  | 22 => ("MultiwayCutModel", "roundMany", "I", false)
  | 23 => ("MultiwayCutModel", "trial", "[I", true)
  | 24 => ("MultiwayCutModel", "exactly", "[I", true)
  | 25 => ("MultiwayCutModel", "kinds", "[I", true)
  | 26 => ("MultiwayCutModel", "kindMany", "I", false)
  | 27 => ("MultiwayCutModel", "exactly0", "I", false)
  | 28 => ("MultiwayCutModel", "labels", "[I", true)
  | 29 => ("MultiwayCutModel", "far", "[I", true)
  | 30 => ("MultiwayCutModel", "nears", "[I", true)
  | 31 => ("MultiwayCutModel", "nearFar", "[I", true)
  | 32 => ("MultiwayCutModel", "moveVertex", "I", false)
  | 33 => ("MultiwayCutModel", "moveTerminal", "I", false)
  | _ => ("MultiwayCutModel", "moveCost", "I", false)
def tyX10 : Nat → FieldType := fun k => match k with
  | 0 => .int
  | 1 => .array .int
  | 2 => .array .int
  | 3 => .int
  | 4 => .int
  | 5 => .array .int
  | 6 => .array .boolean
  | 7 => .int
  | 8 => .int
  | 9 => .int
  | 10 => .int
  | 11 => .int
  | 12 => .int
  | 13 => .int
  | 14 => .int
  | 15 => .boolean
  | 16 => .array .long
  | 17 => .array .int
  | 18 => .int
  | 19 => .array .int
  | 20 => .array .int
  | 21 => .array .int
  | 22 => .int
  | 23 => .array .int
  | 24 => .array .int
  | 25 => .array .int
  | 26 => .int
  | 27 => .int
  | 28 => .array .int
  | 29 => .array .int
  | 30 => .array .int
  | 31 => .array .int
  | 32 => .int
  | 33 => .int
  | _ => .int
theorem nmX10 : ∀ a, a < 35 → ∀ b, b < 35 → a ≠ b → (TX10 a).2.1 ≠ (TX10 b).2.1 := by decide +kernel
theorem tyX10_ok : ∀ k, k < 35 → parseFieldDescriptor (TX10 k).2.2.1 = some (tyX10 k) := by decide +kernel
abbrev am_cl : List vw_C := [(RX1, TX1, 3), (RX2, TX2, 2), (RX3, TX3, 10), (RX4, TX4, 2), (RX5, TX5, 3), (RX6, TX6, 3), (RX7, TX7, 2), (RX8, TX8, 13), (RX9, TX9, 10), (RX10, TX10, 35)]
def am_cn (k : Nat) : String := match k with
  | 0 => "MultiwayCut$ExactSearch"
  | 1 => "MultiwayCut$Formula"
  | 2 => "MultiwayCut$Graph"
  | 3 => "MultiwayCut$Grouping"
  | 4 => "MultiwayCut$History"
  | 5 => "MultiwayCut$MoveSearch"
  | 6 => "MultiwayCut$NearestSearch"
  | 7 => "MultiwayCut$SetupReader"
  | 8 => "MultiwayCut"
  | 9 => "MultiwayCutModel"
  | 10 => "MultiwayCut$Cuts"
  | 11 => "MultiwayCutLaw"
  | 12 => "java/lang/Integer"
  | _ => "java/util/Arrays"
def am_tf (k : Nat) : u_T := match k with
  | 0 => TX1
  | 1 => TX2
  | 2 => TX3
  | 3 => TX4
  | 4 => TX5
  | 5 => TX6
  | 6 => TX7
  | 7 => TX8
  | 8 => TX9
  | _ => TX10
def am_ty (k : Nat) : Nat → FieldType := match k with
  | 0 => tyX1
  | 1 => tyX2
  | 2 => tyX3
  | 3 => tyX4
  | 4 => tyX5
  | 5 => tyX6
  | 6 => tyX7
  | 7 => tyX8
  | 8 => tyX9
  | _ => tyX10
def am_nf (k : Nat) : Nat := match k with
  | 0 => 3
  | 1 => 2
  | 2 => 10
  | 3 => 2
  | 4 => 3
  | 5 => 3
  | 6 => 2
  | 7 => 13
  | 8 => 10
  | _ => 35
/-- the words that hold in every method: the tables' that are kept -/
def am_TT : List Cond := lw_tbl.filter goodWord
theorem am_TT_of {w : Cond} (h : w ∈ lw_tbl) (g : goodWord w = true) : w ∈ am_TT := List.mem_filter.mpr ⟨h, g⟩
def am_fl_ : List (Nat × Nat × Nat) := [(0, 9, 0), (0, 15, 2), (0, 18, 1), (0, 35, 128), (0, 50, 129), (0, 53, 134), (0, 56, 133), (0, 59, 136), (1, 11, 65), (1, 15, 64), (2, 9, 131), (2, 15, 132), (2, 18, 133), (2, 21, 134), (2, 24, 135), (2, 27, 136), (2, 30, 128), (2, 34, 129), (2, 37, 130), (2, 40, 137), (3, 9, 193), (3, 15, 192), (3, 25, 130), (3, 32, 128), (4, 11, 256), (4, 18, 257), (4, 26, 258), (5, 9, 320), (5, 15, 321), (5, 18, 322), (5, 21, 128), (5, 30, 132), (6, 9, 384), (6, 15, 385), (6, 24, 128), (6, 28, 129), (6, 31, 133), (6, 34, 134), (7, 12, 448), (7, 18, 451), (7, 22, 459), (7, 35, 452), (7, 39, 455), (7, 42, 457), (7, 45, 458), (7, 49, 460), (7, 59, 453), (7, 83, 137), (7, 87, 128), (7, 90, 132), (7, 96, 129), (7, 137, 130), (7, 158, 131), (7, 176, 456), (7, 179, 454), (7, 190, 449), (7, 193, 450), (8, 9, 512), (8, 13, 514), (8, 20, 515), (8, 27, 516), (8, 34, 517), (8, 41, 518), (8, 48, 519), (8, 55, 520), (8, 62, 521), (8, 66, 513), (8, 84, 450), (8, 87, 449), (8, 94, 448), (8, 98, 129), (8, 101, 128), (8, 104, 130), (8, 110, 131), (8, 117, 133), (8, 120, 134), (8, 123, 135), (8, 126, 136), (8, 182, 192), (8, 191, 1), (8, 194, 0), (8, 198, 384), (8, 201, 385), (8, 204, 132), (8, 222, 320), (8, 225, 321), (8, 228, 322), (9, 7, 577), (9, 13, 578), (9, 16, 581), (9, 19, 582), (9, 23, 584), (9, 27, 592), (9, 31, 593), (9, 34, 595), (9, 37, 596), (9, 40, 597), (9, 43, 599), (9, 46, 600), (9, 49, 601), (9, 52, 604), (9, 55, 605), (9, 58, 606), (9, 61, 607), (9, 64, 576), (9, 67, 579), (9, 74, 580), (9, 77, 583), (9, 80, 587), (9, 83, 588), (9, 86, 586), (9, 89, 585), (9, 113, 589), (9, 136, 590), (9, 189, 591), (9, 240, 594), (9, 262, 598), (9, 268, 602), (9, 275, 603), (9, 323, 608), (9, 326, 609), (9, 329, 610), (10, 9, 128), (10, 21, 130), (10, 28, 129), (10, 65, 132)]
def am_cl_ : List (Nat × Nat × Nat) := [(4, 9, 138), (7, 9, 138), (7, 72, 66), (8, 17, 138), (8, 24, 259), (8, 31, 461), (8, 38, 194), (8, 45, 3), (8, 52, 386), (8, 59, 323), (11, 8, 522), (11, 94, 611)]
def am_ml_ : List (Nat × Nat × Nat) := [(0, 22, 217), (0, 31, 11), (0, 46, 12), (1, 18, 16), (1, 22, 15), (2, 44, 217), (2, 56, 20), (2, 60, 24), (2, 73, 14), (2, 79, 32), (2, 82, 33), (2, 85, 35), (3, 19, 21), (3, 28, 39), (3, 35, 22), (3, 39, 40), (3, 42, 2), (4, 22, 19), (5, 26, 21), (5, 34, 47), (5, 38, 36), (5, 42, 46), (6, 18, 21), (6, 37, 25), (6, 41, 51), (7, 26, 18), (7, 52, 70), (7, 55, 55), (7, 62, 56), (7, 65, 65), (7, 69, 54), (7, 74, 218), (7, 80, 13), (7, 93, 21), (7, 99, 27), (7, 104, 68), (7, 108, 69), (7, 111, 67), (7, 116, 57), (7, 121, 58), (7, 126, 59), (7, 131, 60), (7, 134, 61), (7, 140, 216), (7, 146, 66), (7, 150, 23), (7, 154, 26), (7, 161, 62), (7, 164, 64), (7, 167, 63), (8, 26, 42), (8, 69, 73), (8, 80, 53), (8, 90, 43), (8, 95, 19), (8, 107, 113), (8, 114, 114), (8, 129, 25), (8, 135, 22), (8, 141, 34), (8, 146, 0), (8, 152, 115), (8, 155, 4), (8, 159, 3), (8, 162, 21), (8, 166, 116), (8, 169, 5), (8, 173, 6), (8, 176, 33), (8, 179, 38), (8, 185, 41), (8, 188, 10), (8, 197, 50), (8, 207, 36), (8, 210, 35), (8, 214, 216), (8, 221, 46), (8, 236, 31), (8, 240, 7), (8, 245, 48), (8, 249, 117), (8, 252, 27), (8, 257, 23), (8, 263, 26), (8, 267, 28), (8, 272, 29), (8, 275, 30), (8, 278, 44), (8, 283, 20), (9, 70, 121), (9, 92, 127), (9, 105, 126), (9, 109, 130), (9, 123, 120), (9, 127, 134), (9, 130, 132), (9, 133, 135), (9, 139, 133), (9, 142, 129), (9, 146, 131), (9, 151, 128), (9, 159, 138), (9, 162, 136), (9, 168, 139), (9, 174, 137), (9, 179, 140), (9, 184, 141), (9, 195, 142), (9, 198, 124), (9, 202, 143), (9, 205, 123), (9, 208, 122), (9, 211, 154), (9, 217, 146), (9, 223, 150), (9, 226, 147), (9, 229, 153), (9, 232, 149), (9, 235, 151), (9, 237, 152), (9, 243, 155), (9, 246, 156), (9, 249, 157), (9, 253, 148), (9, 256, 158), (9, 259, 161), (9, 265, 162), (9, 271, 164), (9, 278, 165), (9, 281, 166), (9, 284, 169), (9, 287, 170), (9, 290, 175), (9, 295, 180), (9, 298, 159), (9, 301, 184), (9, 304, 160), (9, 307, 186), (9, 310, 163), (9, 313, 167), (9, 316, 171), (9, 319, 168), (9, 334, 201), (9, 339, 208), (9, 344, 210), (10, 15, 1), (10, 24, 21), (10, 31, 24), (10, 35, 34), (10, 38, 216), (10, 43, 22), (10, 47, 2), (10, 51, 3), (10, 55, 4), (10, 58, 5), (10, 62, 32), (10, 69, 217), (10, 75, 8), (11, 7, 74), (11, 15, 79), (11, 20, 80), (11, 24, 81), (11, 27, 82), (11, 31, 83), (11, 34, 84), (11, 37, 86), (11, 43, 87), (11, 46, 88), (11, 49, 90), (11, 52, 92), (11, 55, 93), (11, 58, 94), (11, 61, 95), (11, 64, 96), (11, 67, 101), (11, 70, 102), (11, 73, 104), (11, 76, 106), (11, 79, 107), (11, 82, 108), (11, 86, 109), (11, 89, 110), (11, 93, 71), (11, 96, 118), (11, 97, 72), (11, 101, 125), (11, 102, 219), (11, 107, 144), (11, 108, 119), (11, 111, 75), (11, 114, 145), (11, 115, 76), (11, 118, 172), (11, 119, 77), (11, 122, 173), (11, 123, 78), (11, 126, 174), (11, 127, 220), (11, 129, 176), (11, 130, 221), (11, 133, 177), (11, 134, 222), (11, 136, 178), (11, 137, 223), (11, 139, 179), (11, 140, 224), (11, 142, 181), (11, 143, 225), (11, 145, 182), (11, 146, 85), (11, 149, 183), (11, 150, 226), (11, 153, 185), (11, 154, 227), (11, 156, 187), (11, 157, 228), (11, 159, 188), (11, 160, 89), (11, 163, 189), (11, 164, 229), (11, 166, 190), (11, 167, 91), (11, 170, 191), (11, 171, 230), (11, 173, 192), (11, 174, 231), (11, 176, 193), (11, 177, 232), (11, 179, 194), (11, 180, 233), (11, 182, 195), (11, 183, 234), (11, 185, 196), (11, 186, 97), (11, 189, 197), (11, 190, 98), (11, 193, 198), (11, 194, 99), (11, 198, 199), (11, 199, 100), (11, 202, 200), (11, 203, 235), (11, 205, 202), (11, 206, 236), (11, 208, 203), (11, 209, 103), (11, 212, 204), (11, 213, 237), (11, 215, 205), (11, 216, 105), (11, 219, 206), (11, 220, 238), (11, 222, 207), (11, 223, 239), (11, 225, 209), (11, 226, 240), (11, 229, 211), (11, 230, 241), (11, 232, 212), (11, 233, 242), (11, 236, 213), (11, 237, 111), (11, 240, 214), (11, 241, 112), (11, 245, 215)]
def am_nl_ : List (Nat × Nat × Nat) := [(4, 17, 17), (7, 11, 17), (8, 19, 17), (8, 33, 52), (8, 40, 37), (8, 47, 9), (8, 54, 49), (8, 61, 45)]
def am_ol_ : List (Nat × Nat) := [(0, 3), (1, 3), (2, 3), (3, 3), (4, 3), (5, 3), (6, 3), (7, 3), (8, 1), (9, 1)]
def am_il_ : List (Nat × Nat × Int) := [(0, 30, 2147483647), (7, 196, 100000), (9, 116, 1000000), (9, 239, 1000000000), (12, 265, 1431655765), (12, 266, 858993459), (12, 267, 252645135)]
def am_ll_ : List (Nat × Nat × Int) := [(1, 26, -1000000), (1, 28, 1000000), (8, 281, 31), (9, 215, 1000000), (9, 221, 9999), (9, 293, 4), (9, 332, 2), (9, 337, 20), (9, 342, 99), (9, 347, 31)]
def am_ff_ : List (Nat × Nat × Nat) := [(8, 213, 3212836864), (9, 322, 3212836864)]
abbrev am_I : Type := MethodName × Nat × ByteArray × Nat × Option FieldType × List (Nat × Nat × Nat × Nat) × Nat
def am_i_Cu_keepsApart : am_I := (⟨"MultiwayCut$Cuts", "keepsApart", "(LMultiwayCut$Graph;I)Z"⟩, 10, prog_2_method_2_code, 4, (some .boolean), [], 1)
def am_i_Cu_reachedFrom : am_I := (⟨"MultiwayCut$Cuts", "reachedFrom", "(LMultiwayCut$Graph;II)I"⟩, 10, prog_2_method_3_code, 7, (some .int), [], 1)
def am_i_Cu_cheapestSet : am_I := (⟨"MultiwayCut$Cuts", "cheapestSet", "(LMultiwayCut$Graph;IIZ)I"⟩, 10, prog_2_method_4_code, 10, (some .int), [], 1)
def am_i_Cu_setOf : am_I := (⟨"MultiwayCut$Cuts", "setOf", "(LMultiwayCut$Graph;I)I"⟩, 10, prog_2_method_5_code, 3, (some .int), [], 1)
def am_i_Cu_valueOf : am_I := (⟨"MultiwayCut$Cuts", "valueOf", "(LMultiwayCut$Graph;I)I"⟩, 10, prog_2_method_6_code, 2, (some .int), [], 1)
def am_i_Cu_dearestOf : am_I := (⟨"MultiwayCut$Cuts", "dearestOf", "(LMultiwayCut$Graph;)I"⟩, 10, prog_2_method_7_code, 5, (some .int), [], 1)
def am_i_Cu_unionOf : am_I := (⟨"MultiwayCut$Cuts", "unionOf", "(LMultiwayCut$Graph;)I"⟩, 10, prog_2_method_8_code, 4, (some .int), [], 1)
def am_i_Cu_labelByUnion : am_I := (⟨"MultiwayCut$Cuts", "labelByUnion", "(LMultiwayCut$Graph;)V"⟩, 10, prog_2_method_9_code, 3, none, [], 1)
def am_i_Cu_labelSet : am_I := (⟨"MultiwayCut$Cuts", "labelSet", "(LMultiwayCut$Graph;II)V"⟩, 10, prog_2_method_10_code, 4, none, [], 1)
def am_i_Ex_init : am_I := (⟨"MultiwayCut$ExactSearch", "<init>", "()V"⟩, 0, prog_3_method_1_code, 1, none, [], 2)
def am_i_Ex_run : am_I := (⟨"MultiwayCut$ExactSearch", "run", "(LMultiwayCut$Graph;I)V"⟩, 0, prog_3_method_2_code, 3, none, [], 0)
def am_i_Ex_extend : am_I := (⟨"MultiwayCut$ExactSearch", "extend", "(LMultiwayCut$ExactSearch;LMultiwayCut$Graph;III)V"⟩, 0, prog_3_method_3_code, 8, none, [], 1)
def am_i_Ex_costToEarlier : am_I := (⟨"MultiwayCut$ExactSearch", "costToEarlier", "(LMultiwayCut$Graph;I)I"⟩, 0, prog_3_method_4_code, 5, (some .int), [], 0)
def am_i_Fo_init : am_I := (⟨"MultiwayCut$Formula", "<init>", "([I)V"⟩, 1, prog_4_method_1_code, 2, none, [], 2)
def am_i_Fo_evaluate : am_I := (⟨"MultiwayCut$Formula", "evaluate", "(III)I"⟩, 1, prog_4_method_2_code, 7, (some .int), [], 0)
def am_i_Fo_operand : am_I := (⟨"MultiwayCut$Formula", "operand", "(IIII)I"⟩, 1, prog_4_method_3_code, 4, (some .int), [], 1)
def am_i_Fo_combine : am_I := (⟨"MultiwayCut$Formula", "combine", "(III)I"⟩, 1, prog_4_method_4_code, 5, (some .int), [], 1)
def am_i_Gr_init : am_I := (⟨"MultiwayCut$Graph", "<init>", "()V"⟩, 2, prog_5_method_1_code, 1, none, [], 2)
def am_i_Gr_clear : am_I := (⟨"MultiwayCut$Graph", "clear", "()V"⟩, 2, prog_5_method_2_code, 1, none, [], 0)
def am_i_Gr_copyFrom : am_I := (⟨"MultiwayCut$Graph", "copyFrom", "(LMultiwayCut$Graph;)V"⟩, 2, prog_5_method_3_code, 2, none, [], 0)
def am_i_Gr_hasVertex : am_I := (⟨"MultiwayCut$Graph", "hasVertex", "(I)Z"⟩, 2, prog_5_method_4_code, 2, (some .boolean), [], 0)
def am_i_Gr_isTerminal : am_I := (⟨"MultiwayCut$Graph", "isTerminal", "(I)Z"⟩, 2, prog_5_method_5_code, 2, (some .boolean), [], 0)
def am_i_Gr_allVertices : am_I := (⟨"MultiwayCut$Graph", "allVertices", "()I"⟩, 2, prog_5_method_6_code, 1, (some .int), [], 0)
def am_i_Gr_hasEdgeBetween : am_I := (⟨"MultiwayCut$Graph", "hasEdgeBetween", "(II)Z"⟩, 2, prog_5_method_7_code, 5, (some .boolean), [], 0)
def am_i_Gr_endsOf : am_I := (⟨"MultiwayCut$Graph", "endsOf", "(I)I"⟩, 2, prog_5_method_8_code, 2, (some .int), [], 0)
def am_i_Gr_lengthOf : am_I := (⟨"MultiwayCut$Graph", "lengthOf", "(I)I"⟩, 2, prog_5_method_9_code, 2, (some .int), [], 0)
def am_i_Gr_putEdge : am_I := (⟨"MultiwayCut$Graph", "putEdge", "(III)V"⟩, 2, prog_5_method_10_code, 4, none, [], 0)
def am_i_Gr_updateCost : am_I := (⟨"MultiwayCut$Graph", "updateCost", "(I)V"⟩, 2, prog_5_method_11_code, 3, none, [], 0)
def am_i_Gr_dropEdge : am_I := (⟨"MultiwayCut$Graph", "dropEdge", "(I)V"⟩, 2, prog_5_method_12_code, 3, none, [], 0)
def am_i_Gr_startTerminal : am_I := (⟨"MultiwayCut$Graph", "startTerminal", "(I)V"⟩, 2, prog_5_method_13_code, 2, none, [], 0)
def am_i_Gr_endTerminal : am_I := (⟨"MultiwayCut$Graph", "endTerminal", "(I)V"⟩, 2, prog_5_method_14_code, 3, none, [], 0)
def am_i_Gr_takeLabels : am_I := (⟨"MultiwayCut$Graph", "takeLabels", "([I)V"⟩, 2, prog_5_method_15_code, 3, none, [], 0)
def am_i_Gr_borderOf : am_I := (⟨"MultiwayCut$Graph", "borderOf", "(I)I"⟩, 2, prog_5_method_16_code, 4, (some .int), [], 0)
def am_i_Gr_costOfEdges : am_I := (⟨"MultiwayCut$Graph", "costOfEdges", "(I)I"⟩, 2, prog_5_method_17_code, 4, (some .int), [], 0)
def am_i_Gr_costOfSet : am_I := (⟨"MultiwayCut$Graph", "costOfSet", "(I)I"⟩, 2, prog_5_method_18_code, 2, (some .int), [], 0)
def am_i_Gr_presentCut : am_I := (⟨"MultiwayCut$Graph", "presentCut", "()I"⟩, 2, prog_5_method_19_code, 3, (some .int), [], 0)
def am_i_Gr_presentCost : am_I := (⟨"MultiwayCut$Graph", "presentCost", "()I"⟩, 2, prog_5_method_20_code, 1, (some .int), [], 0)
def am_i_Gp_init : am_I := (⟨"MultiwayCut$Grouping", "<init>", "()V"⟩, 3, prog_6_method_1_code, 1, none, [], 2)
def am_i_Gp_run : am_I := (⟨"MultiwayCut$Grouping", "run", "(LMultiwayCut$Graph;)V"⟩, 3, prog_6_method_2_code, 3, none, [], 0)
def am_i_Gp_makeRound : am_I := (⟨"MultiwayCut$Grouping", "makeRound", "(LMultiwayCut$Graph;)Z"⟩, 3, prog_6_method_3_code, 6, (some .boolean), [], 0)
def am_i_Gp_grouped : am_I := (⟨"MultiwayCut$Grouping", "grouped", "()I"⟩, 3, prog_6_method_4_code, 3, (some .int), [], 0)
def am_i_Gp_ownerOf : am_I := (⟨"MultiwayCut$Grouping", "ownerOf", "(I)I"⟩, 3, prog_6_method_5_code, 3, (some .int), [], 0)
def am_i_Hi_init : am_I := (⟨"MultiwayCut$History", "<init>", "()V"⟩, 4, prog_7_method_1_code, 2, none, [], 2)
def am_i_Hi_save : am_I := (⟨"MultiwayCut$History", "save", "(LMultiwayCut$Graph;)V"⟩, 4, prog_7_method_2_code, 2, none, [], 0)
def am_i_Hi_restore : am_I := (⟨"MultiwayCut$History", "restore", "(LMultiwayCut$Graph;)I"⟩, 4, prog_7_method_3_code, 2, (some .int), [], 0)
def am_i_Mv_init : am_I := (⟨"MultiwayCut$MoveSearch", "<init>", "()V"⟩, 5, prog_8_method_1_code, 1, none, [], 2)
def am_i_Mv_run : am_I := (⟨"MultiwayCut$MoveSearch", "run", "(LMultiwayCut$Graph;)V"⟩, 5, prog_8_method_2_code, 4, none, [], 0)
def am_i_Mv_consider : am_I := (⟨"MultiwayCut$MoveSearch", "consider", "(LMultiwayCut$Graph;II)V"⟩, 5, prog_8_method_3_code, 6, none, [], 0)
def am_i_Mv_makeImprovement : am_I := (⟨"MultiwayCut$MoveSearch", "makeImprovement", "(LMultiwayCut$Graph;)Z"⟩, 5, prog_8_method_4_code, 2, (some .boolean), [], 0)
def am_i_Ne_init : am_I := (⟨"MultiwayCut$NearestSearch", "<init>", "()V"⟩, 6, prog_9_method_1_code, 1, none, [], 2)
def am_i_Ne_run : am_I := (⟨"MultiwayCut$NearestSearch", "run", "(LMultiwayCut$Graph;)V"⟩, 6, prog_9_method_2_code, 4, none, [], 0)
def am_i_Ne_offer : am_I := (⟨"MultiwayCut$NearestSearch", "offer", "(III)V"⟩, 6, prog_9_method_3_code, 6, none, [], 0)
def am_i_Rd_init : am_I := (⟨"MultiwayCut$SetupReader", "<init>", "()V"⟩, 7, prog_10_method_1_code, 1, none, [], 2)
def am_i_Rd_read : am_I := (⟨"MultiwayCut$SetupReader", "read", "([BI)Z"⟩, 7, prog_10_method_2_code, 5, (some .boolean), [], 0)
def am_i_Rd_finish : am_I := (⟨"MultiwayCut$SetupReader", "finish", "()V"⟩, 7, prog_10_method_3_code, 2, none, [], 0)
def am_i_Rd_readGraph : am_I := (⟨"MultiwayCut$SetupReader", "readGraph", "()Z"⟩, 7, prog_10_method_4_code, 2, (some .boolean), [], 0)
def am_i_Rd_readStatement : am_I := (⟨"MultiwayCut$SetupReader", "readStatement", "()Z"⟩, 7, prog_10_method_5_code, 1, (some .boolean), [], 0)
def am_i_Rd_readTerminal : am_I := (⟨"MultiwayCut$SetupReader", "readTerminal", "()Z"⟩, 7, prog_10_method_6_code, 2, (some .boolean), [], 0)
def am_i_Rd_readEdge : am_I := (⟨"MultiwayCut$SetupReader", "readEdge", "()Z"⟩, 7, prog_10_method_7_code, 4, (some .boolean), [], 0)
def am_i_Rd_readLoad : am_I := (⟨"MultiwayCut$SetupReader", "readLoad", "()Z"⟩, 7, prog_10_method_8_code, 3, (some .boolean), [], 0)
def am_i_Rd_startCost : am_I := (⟨"MultiwayCut$SetupReader", "startCost", "()Z"⟩, 7, prog_10_method_9_code, 1, (some .boolean), [], 0)
def am_i_Rd_readSum : am_I := (⟨"MultiwayCut$SetupReader", "readSum", "(I)Z"⟩, 7, prog_10_method_10_code, 5, (some .boolean), [], 0)
def am_i_Rd_readTerm : am_I := (⟨"MultiwayCut$SetupReader", "readTerm", "(I)Z"⟩, 7, prog_10_method_11_code, 5, (some .boolean), [], 0)
def am_i_Rd_readFactor : am_I := (⟨"MultiwayCut$SetupReader", "readFactor", "(I)Z"⟩, 7, prog_10_method_12_code, 3, (some .boolean), [], 0)
def am_i_Rd_putCode : am_I := (⟨"MultiwayCut$SetupReader", "putCode", "(I)V"⟩, 7, prog_10_method_13_code, 2, none, [], 0)
def am_i_Rd_readSymbol : am_I := (⟨"MultiwayCut$SetupReader", "readSymbol", "(I)Z"⟩, 7, prog_10_method_14_code, 2, (some .boolean), [], 0)
def am_i_Rd_vertexHere : am_I := (⟨"MultiwayCut$SetupReader", "vertexHere", "()I"⟩, 7, prog_10_method_15_code, 1, (some .int), [], 0)
def am_i_Rd_numberHere : am_I := (⟨"MultiwayCut$SetupReader", "numberHere", "(II)I"⟩, 7, prog_10_method_16_code, 3, (some .int), [], 0)
def am_i_Rd_isWord : am_I := (⟨"MultiwayCut$SetupReader", "isWord", "(Ljava/lang/String;)Z"⟩, 7, prog_10_method_17_code, 3, (some .boolean), [], 0)
def am_i_Rd_fail : am_I := (⟨"MultiwayCut$SetupReader", "fail", "(I)Z"⟩, 7, prog_10_method_18_code, 2, (some .boolean), [], 0)
def am_i_Rd_advance : am_I := (⟨"MultiwayCut$SetupReader", "advance", "()V"⟩, 7, prog_10_method_19_code, 2, none, [], 0)
def am_i_Mc_init : am_I := (⟨"MultiwayCut", "<init>", "()V"⟩, 8, prog_1_method_1_code, 1, none, [], 2)
def am_i_Mc_append : am_I := (⟨"MultiwayCut", "append", "(IIIII)I"⟩, 8, prog_1_method_2_code, 6, (some .int), [], 0)
def am_i_Mc_putWord : am_I := (⟨"MultiwayCut", "putWord", "(I)V"⟩, 8, prog_1_method_3_code, 3, none, [], 0)
def am_i_Mc_load : am_I := (⟨"MultiwayCut", "load", "(I)I"⟩, 8, prog_1_method_4_code, 3, (some .int), [], 0)
def am_i_Mc_errorOffset : am_I := (⟨"MultiwayCut", "errorOffset", "()I"⟩, 8, prog_1_method_5_code, 1, (some .int), [], 0)
def am_i_Mc_size : am_I := (⟨"MultiwayCut", "size", "()I"⟩, 8, prog_1_method_6_code, 1, (some .int), [], 0)
def am_i_Mc_edgeCount : am_I := (⟨"MultiwayCut", "edgeCount", "()I"⟩, 8, prog_1_method_7_code, 1, (some .int), [], 0)
def am_i_Mc_terminals : am_I := (⟨"MultiwayCut", "terminals", "()I"⟩, 8, prog_1_method_8_code, 1, (some .int), [], 0)
def am_i_Mc_burden : am_I := (⟨"MultiwayCut", "burden", "(I)I"⟩, 8, prog_1_method_9_code, 2, (some .int), [], 0)
def am_i_Mc_edge : am_I := (⟨"MultiwayCut", "edge", "(II)I"⟩, 8, prog_1_method_10_code, 3, (some .int), [], 0)
def am_i_Mc_cutCost : am_I := (⟨"MultiwayCut", "cutCost", "(I)I"⟩, 8, prog_1_method_11_code, 2, (some .int), [], 0)
def am_i_Mc_separates : am_I := (⟨"MultiwayCut", "separates", "(I)Z"⟩, 8, prog_1_method_12_code, 2, (some .boolean), [], 0)
def am_i_Mc_isolatingValue : am_I := (⟨"MultiwayCut", "isolatingValue", "(I)I"⟩, 8, prog_1_method_13_code, 2, (some .int), [], 0)
def am_i_Mc_isolatingSet : am_I := (⟨"MultiwayCut", "isolatingSet", "(I)I"⟩, 8, prog_1_method_14_code, 2, (some .int), [], 0)
def am_i_Mc_lowerBound : am_I := (⟨"MultiwayCut", "lowerBound", "()I"⟩, 8, prog_1_method_15_code, 3, (some .int), [], 0)
def am_i_Mc_dearest : am_I := (⟨"MultiwayCut", "dearest", "()I"⟩, 8, prog_1_method_16_code, 1, (some .int), [], 0)
def am_i_Mc_unionCut : am_I := (⟨"MultiwayCut", "unionCut", "()I"⟩, 8, prog_1_method_17_code, 1, (some .int), [], 0)
def am_i_Mc_unionCost : am_I := (⟨"MultiwayCut", "unionCost", "()I"⟩, 8, prog_1_method_18_code, 1, (some .int), [], 0)
def am_i_Mc_rounds : am_I := (⟨"MultiwayCut", "rounds", "()I"⟩, 8, prog_1_method_19_code, 1, (some .int), [], 0)
def am_i_Mc_fixed : am_I := (⟨"MultiwayCut", "fixed", "(I)I"⟩, 8, prog_1_method_20_code, 2, (some .int), [], 0)
def am_i_Mc_exactCost : am_I := (⟨"MultiwayCut", "exactCost", "()I"⟩, 8, prog_1_method_21_code, 1, (some .int), [], 0)
def am_i_Mc_exact : am_I := (⟨"MultiwayCut", "exact", "(I)I"⟩, 8, prog_1_method_22_code, 2, (some .int), [], 0)
def am_i_Mc_price : am_I := (⟨"MultiwayCut", "price", "(I)I"⟩, 8, prog_1_method_23_code, 3, (some .int), [], 0)
def am_i_Mc_nearest : am_I := (⟨"MultiwayCut", "nearest", "(I)I"⟩, 8, prog_1_method_24_code, 2, (some .int), [], 0)
def am_i_Mc_distance : am_I := (⟨"MultiwayCut", "distance", "(I)I"⟩, 8, prog_1_method_25_code, 2, (some .int), [], 0)
def am_i_Mc_label : am_I := (⟨"MultiwayCut", "label", "(I)I"⟩, 8, prog_1_method_26_code, 2, (some .int), [], 0)
def am_i_Mc_cost : am_I := (⟨"MultiwayCut", "cost", "()I"⟩, 8, prog_1_method_27_code, 1, (some .int), [], 0)
def am_i_Mc_cut : am_I := (⟨"MultiwayCut", "cut", "()I"⟩, 8, prog_1_method_28_code, 1, (some .int), [], 0)
def am_i_Mc_ratio : am_I := (⟨"MultiwayCut", "ratio", "()F"⟩, 8, prog_1_method_29_code, 3, (some .float), [], 0)
def am_i_Mc_meanCost : am_I := (⟨"MultiwayCut", "meanCost", "()F"⟩, 8, prog_1_method_30_code, 5, (some .float), [], 0)
def am_i_Mc_bestMove : am_I := (⟨"MultiwayCut", "bestMove", "(I)I"⟩, 8, prog_1_method_31_code, 2, (some .int), [], 0)
def am_i_Mc_setLabel : am_I := (⟨"MultiwayCut", "setLabel", "(II)I"⟩, 8, prog_1_method_32_code, 3, (some .int), [], 0)
def am_i_Mc_useNearest : am_I := (⟨"MultiwayCut", "useNearest", "()I"⟩, 8, prog_1_method_33_code, 1, (some .int), [], 0)
def am_i_Mc_useUnion : am_I := (⟨"MultiwayCut", "useUnion", "()I"⟩, 8, prog_1_method_34_code, 1, (some .int), [], 0)
def am_i_Mc_useExact : am_I := (⟨"MultiwayCut", "useExact", "()I"⟩, 8, prog_1_method_35_code, 1, (some .int), [], 0)
def am_i_Mc_improve : am_I := (⟨"MultiwayCut", "improve", "(I)I"⟩, 8, prog_1_method_36_code, 3, (some .int), [], 0)
def am_i_Mc_setWeight : am_I := (⟨"MultiwayCut", "setWeight", "(II)I"⟩, 8, prog_1_method_37_code, 4, (some .int), [], 0)
def am_i_Mc_addEdge : am_I := (⟨"MultiwayCut", "addEdge", "(III)I"⟩, 8, prog_1_method_38_code, 4, (some .int), [], 0)
def am_i_Mc_removeEdge : am_I := (⟨"MultiwayCut", "removeEdge", "(I)I"⟩, 8, prog_1_method_39_code, 2, (some .int), [], 0)
def am_i_Mc_setTerminal : am_I := (⟨"MultiwayCut", "setTerminal", "(IZ)I"⟩, 8, prog_1_method_40_code, 4, (some .int), [], 0)
def am_i_Mc_undo : am_I := (⟨"MultiwayCut", "undo", "()I"⟩, 8, prog_1_method_41_code, 1, (some .int), [], 0)
def am_i_Mc_checksum : am_I := (⟨"MultiwayCut", "checksum", "()J"⟩, 8, prog_1_method_42_code, 4, (some .long), [], 0)
def am_i_Mc_requireVertex : am_I := (⟨"MultiwayCut", "requireVertex", "(I)V"⟩, 8, prog_1_method_43_code, 2, none, [], 0)
def am_i_Mc_requireEdge : am_I := (⟨"MultiwayCut", "requireEdge", "(I)V"⟩, 8, prog_1_method_44_code, 2, none, [], 0)
def am_i_Mc_requireTerminal : am_I := (⟨"MultiwayCut", "requireTerminal", "(I)V"⟩, 8, prog_1_method_45_code, 2, none, [], 0)
def am_i_Mc_requireSomeTerminal : am_I := (⟨"MultiwayCut", "requireSomeTerminal", "()V"⟩, 8, prog_1_method_46_code, 1, none, [], 0)
def am_i_Mc_requireWeight : am_I := (⟨"MultiwayCut", "requireWeight", "(I)V"⟩, 8, prog_1_method_47_code, 2, none, [], 0)
def am_i_Mo_init : am_I := (⟨"MultiwayCutModel", "<init>", "()V"⟩, 9, prog_12_method_1_code, 1, none, [], 2)
def am_i_Mo_thrown : am_I := (⟨"MultiwayCutModel", "thrown", "()I"⟩, 9, prog_12_method_2_code, 1, (some .int), [], 0)
def am_i_Mo_isIn : am_I := (⟨"MultiwayCutModel", "isIn", "(JJJ)Z"⟩, 9, prog_12_method_3_code, 6, (some .boolean), [], 1)
def am_i_Mo_get : am_I := (⟨"MultiwayCutModel", "get", "(I)I"⟩, 9, prog_12_method_4_code, 2, (some .int), [], 0)
def am_i_Mo_put : am_I := (⟨"MultiwayCutModel", "put", "(II)V"⟩, 9, prog_12_method_5_code, 3, none, [], 0)
def am_i_Mo_change : am_I := (⟨"MultiwayCutModel", "change", "()V"⟩, 9, prog_12_method_6_code, 3, none, [], 0)
def am_i_Mo_right : am_I := (⟨"MultiwayCutModel", "right", "(ZI)Z"⟩, 9, prog_12_method_7_code, 3, (some .boolean), [], 0)
def am_i_Mo_append : am_I := (⟨"MultiwayCutModel", "append", "(IIIII)I"⟩, 9, prog_12_method_8_code, 8, (some .int), [], 0)
def am_i_Mo_fails : am_I := (⟨"MultiwayCutModel", "fails", "(II)V"⟩, 9, prog_12_method_9_code, 3, none, [], 0)
def am_i_Mo_sees : am_I := (⟨"MultiwayCutModel", "sees", "()I"⟩, 9, prog_12_method_10_code, 1, (some .int), [], 0)
def am_i_Mo_takes : am_I := (⟨"MultiwayCutModel", "takes", "(Ljava/lang/String;)Z"⟩, 9, prog_12_method_11_code, 5, (some .boolean), [], 0)
def am_i_Mo_wants : am_I := (⟨"MultiwayCutModel", "wants", "(I)V"⟩, 9, prog_12_method_12_code, 2, none, [], 0)
def am_i_Mo_isDigit : am_I := (⟨"MultiwayCutModel", "isDigit", "()Z"⟩, 9, prog_12_method_13_code, 1, (some .boolean), [], 0)
def am_i_Mo_reads : am_I := (⟨"MultiwayCutModel", "reads", "(II)I"⟩, 9, prog_12_method_14_code, 4, (some .int), [], 0)
def am_i_Mo_codes : am_I := (⟨"MultiwayCutModel", "codes", "(II)V"⟩, 9, prog_12_method_15_code, 4, none, [], 0)
def am_i_Mo_sum : am_I := (⟨"MultiwayCutModel", "sum", "()V"⟩, 9, prog_12_method_16_code, 2, none, [], 0)
def am_i_Mo_term : am_I := (⟨"MultiwayCutModel", "term", "()V"⟩, 9, prog_12_method_17_code, 2, none, [], 0)
def am_i_Mo_factor : am_I := (⟨"MultiwayCutModel", "factor", "()V"⟩, 9, prog_12_method_18_code, 2, none, [], 0)
def am_i_Mo_readsVertex : am_I := (⟨"MultiwayCutModel", "readsVertex", "()I"⟩, 9, prog_12_method_19_code, 1, (some .int), [], 0)
def am_i_Mo_terminalLine : am_I := (⟨"MultiwayCutModel", "terminalLine", "(I)V"⟩, 9, prog_12_method_20_code, 3, none, [], 0)
def am_i_Mo_bitsOf : am_I := (⟨"MultiwayCutModel", "bitsOf", "(I)I"⟩, 9, prog_12_method_21_code, 3, (some .int), [], 1)
def am_i_Mo_isJoined : am_I := (⟨"MultiwayCutModel", "isJoined", "(II)Z"⟩, 9, prog_12_method_22_code, 4, (some .boolean), [], 0)
def am_i_Mo_edgeLine : am_I := (⟨"MultiwayCutModel", "edgeLine", "(I)V"⟩, 9, prog_12_method_23_code, 6, none, [], 0)
def am_i_Mo_loadLine : am_I := (⟨"MultiwayCutModel", "loadLine", "()V"⟩, 9, prog_12_method_24_code, 3, none, [], 0)
def am_i_Mo_statement : am_I := (⟨"MultiwayCutModel", "statement", "()V"⟩, 9, prog_12_method_25_code, 2, none, [], 0)
def am_i_Mo_texts : am_I := (⟨"MultiwayCutModel", "texts", "()V"⟩, 9, prog_12_method_26_code, 2, none, [], 0)
def am_i_Mo_load : am_I := (⟨"MultiwayCutModel", "load", "(I)I"⟩, 9, prog_12_method_27_code, 3, (some .int), [], 0)
def am_i_Mo_errorOffset : am_I := (⟨"MultiwayCutModel", "errorOffset", "()I"⟩, 9, prog_12_method_28_code, 1, (some .int), [], 0)
def am_i_Mo_within : am_I := (⟨"MultiwayCutModel", "within", "(JJ)J"⟩, 9, prog_12_method_29_code, 4, (some .long), [], 1)
def am_i_Mo_costOf : am_I := (⟨"MultiwayCutModel", "costOf", "(I)I"⟩, 9, prog_12_method_30_code, 11, (some .int), [], 0)
def am_i_Mo_laysCosts : am_I := (⟨"MultiwayCutModel", "laysCosts", "()V"⟩, 9, prog_12_method_31_code, 2, none, [], 0)
def am_i_Mo_count : am_I := (⟨"MultiwayCutModel", "count", "()I"⟩, 9, prog_12_method_32_code, 1, (some .int), [], 0)
def am_i_Mo_edges : am_I := (⟨"MultiwayCutModel", "edges", "()I"⟩, 9, prog_12_method_33_code, 1, (some .int), [], 0)
def am_i_Mo_low : am_I := (⟨"MultiwayCutModel", "low", "(I)I"⟩, 9, prog_12_method_34_code, 2, (some .int), [], 0)
def am_i_Mo_high : am_I := (⟨"MultiwayCutModel", "high", "(I)I"⟩, 9, prog_12_method_35_code, 2, (some .int), [], 0)
def am_i_Mo_has : am_I := (⟨"MultiwayCutModel", "has", "(II)Z"⟩, 9, prog_12_method_36_code, 2, (some .boolean), [], 1)
def am_i_Mo_isTerminal : am_I := (⟨"MultiwayCutModel", "isTerminal", "(I)Z"⟩, 9, prog_12_method_37_code, 2, (some .boolean), [], 0)
def am_i_Mo_all : am_I := (⟨"MultiwayCutModel", "all", "()I"⟩, 9, prog_12_method_38_code, 1, (some .int), [], 0)
def am_i_Mo_cutOf : am_I := (⟨"MultiwayCutModel", "cutOf", "(I)I"⟩, 9, prog_12_method_39_code, 4, (some .int), [], 0)
def am_i_Mo_bestSet : am_I := (⟨"MultiwayCutModel", "bestSet", "(IIZ)I"⟩, 9, prog_12_method_40_code, 8, (some .int), [], 0)
def am_i_Mo_isolating : am_I := (⟨"MultiwayCutModel", "isolating", "(I)I"⟩, 9, prog_12_method_41_code, 2, (some .int), [], 0)
def am_i_Mo_laysIsolating : am_I := (⟨"MultiwayCutModel", "laysIsolating", "()V"⟩, 9, prog_12_method_42_code, 2, none, [], 0)
def am_i_Mo_dearestNow : am_I := (⟨"MultiwayCutModel", "dearestNow", "()I"⟩, 9, prog_12_method_43_code, 3, (some .int), [], 0)
def am_i_Mo_othersOf : am_I := (⟨"MultiwayCutModel", "othersOf", "(I)I"⟩, 9, prog_12_method_44_code, 4, (some .int), [], 0)
def am_i_Mo_goesRound : am_I := (⟨"MultiwayCutModel", "goesRound", "()Z"⟩, 9, prog_12_method_45_code, 4, (some .boolean), [], 0)
def am_i_Mo_laysGroups : am_I := (⟨"MultiwayCutModel", "laysGroups", "()V"⟩, 9, prog_12_method_46_code, 2, none, [], 0)
def am_i_Mo_costBy : am_I := (⟨"MultiwayCutModel", "costBy", "([I)I"⟩, 9, prog_12_method_47_code, 4, (some .int), [], 0)
def am_i_Mo_goesOn : am_I := (⟨"MultiwayCutModel", "goesOn", "(I)Z"⟩, 9, prog_12_method_48_code, 4, (some .boolean), [], 0)
def am_i_Mo_laysExact : am_I := (⟨"MultiwayCutModel", "laysExact", "(I)I"⟩, 9, prog_12_method_49_code, 4, (some .int), [], 0)
def am_i_Mo_exactNow : am_I := (⟨"MultiwayCutModel", "exactNow", "()I"⟩, 9, prog_12_method_50_code, 1, (some .int), [], 0)
def am_i_Mo_costNow : am_I := (⟨"MultiwayCutModel", "costNow", "()I"⟩, 9, prog_12_method_51_code, 2, (some .int), [], 0)
def am_i_Mo_lengthOf : am_I := (⟨"MultiwayCutModel", "lengthOf", "(I)I"⟩, 9, prog_12_method_52_code, 2, (some .int), [], 0)
def am_i_Mo_laysFar : am_I := (⟨"MultiwayCutModel", "laysFar", "(I)V"⟩, 9, prog_12_method_53_code, 6, none, [], 0)
def am_i_Mo_laysNear : am_I := (⟨"MultiwayCutModel", "laysNear", "()V"⟩, 9, prog_12_method_54_code, 3, none, [], 0)
def am_i_Mo_size : am_I := (⟨"MultiwayCutModel", "size", "()I"⟩, 9, prog_12_method_55_code, 1, (some .int), [], 0)
def am_i_Mo_edgeCount : am_I := (⟨"MultiwayCutModel", "edgeCount", "()I"⟩, 9, prog_12_method_56_code, 1, (some .int), [], 0)
def am_i_Mo_terminals : am_I := (⟨"MultiwayCutModel", "terminals", "()I"⟩, 9, prog_12_method_57_code, 1, (some .int), [], 0)
def am_i_Mo_isVertex : am_I := (⟨"MultiwayCutModel", "isVertex", "(I)Z"⟩, 9, prog_12_method_58_code, 2, (some .boolean), [], 0)
def am_i_Mo_burden : am_I := (⟨"MultiwayCutModel", "burden", "(I)I"⟩, 9, prog_12_method_59_code, 2, (some .int), [], 0)
def am_i_Mo_edge : am_I := (⟨"MultiwayCutModel", "edge", "(II)I"⟩, 9, prog_12_method_60_code, 3, (some .int), [], 0)
def am_i_Mo_cutCost : am_I := (⟨"MultiwayCutModel", "cutCost", "(I)I"⟩, 9, prog_12_method_61_code, 2, (some .int), [], 0)
def am_i_Mo_separates : am_I := (⟨"MultiwayCutModel", "separates", "(I)Z"⟩, 9, prog_12_method_62_code, 5, (some .boolean), [], 0)
def am_i_Mo_mustBe : am_I := (⟨"MultiwayCutModel", "mustBe", "(I)Z"⟩, 9, prog_12_method_63_code, 2, (some .boolean), [], 0)
def am_i_Mo_isolatingValue : am_I := (⟨"MultiwayCutModel", "isolatingValue", "(I)I"⟩, 9, prog_12_method_64_code, 3, (some .int), [], 0)
def am_i_Mo_isolatingSet : am_I := (⟨"MultiwayCutModel", "isolatingSet", "(I)I"⟩, 9, prog_12_method_65_code, 2, (some .int), [], 0)
def am_i_Mo_lowerBound : am_I := (⟨"MultiwayCutModel", "lowerBound", "()I"⟩, 9, prog_12_method_66_code, 3, (some .int), [], 0)
def am_i_Mo_hasTerminal : am_I := (⟨"MultiwayCutModel", "hasTerminal", "()Z"⟩, 9, prog_12_method_67_code, 1, (some .boolean), [], 0)
def am_i_Mo_dearest : am_I := (⟨"MultiwayCutModel", "dearest", "()I"⟩, 9, prog_12_method_68_code, 1, (some .int), [], 0)
def am_i_Mo_unionNow : am_I := (⟨"MultiwayCutModel", "unionNow", "()I"⟩, 9, prog_12_method_69_code, 5, (some .int), [], 0)
def am_i_Mo_unionCut : am_I := (⟨"MultiwayCutModel", "unionCut", "()I"⟩, 9, prog_12_method_70_code, 1, (some .int), [], 0)
def am_i_Mo_unionCost : am_I := (⟨"MultiwayCutModel", "unionCost", "()I"⟩, 9, prog_12_method_71_code, 4, (some .int), [], 0)
def am_i_Mo_rounds : am_I := (⟨"MultiwayCutModel", "rounds", "()I"⟩, 9, prog_12_method_72_code, 1, (some .int), [], 0)
def am_i_Mo_fixed : am_I := (⟨"MultiwayCutModel", "fixed", "(I)I"⟩, 9, prog_12_method_73_code, 3, (some .int), [], 0)
def am_i_Mo_exactCost : am_I := (⟨"MultiwayCutModel", "exactCost", "()I"⟩, 9, prog_12_method_74_code, 1, (some .int), [], 0)
def am_i_Mo_exact : am_I := (⟨"MultiwayCutModel", "exact", "(I)I"⟩, 9, prog_12_method_75_code, 3, (some .int), [], 0)
def am_i_Mo_price : am_I := (⟨"MultiwayCutModel", "price", "(I)I"⟩, 9, prog_12_method_76_code, 3, (some .int), [], 0)
def am_i_Mo_nearest : am_I := (⟨"MultiwayCutModel", "nearest", "(I)I"⟩, 9, prog_12_method_77_code, 2, (some .int), [], 0)
def am_i_Mo_distance : am_I := (⟨"MultiwayCutModel", "distance", "(I)I"⟩, 9, prog_12_method_78_code, 2, (some .int), [], 0)
def am_i_Mo_label : am_I := (⟨"MultiwayCutModel", "label", "(I)I"⟩, 9, prog_12_method_79_code, 2, (some .int), [], 0)
def am_i_Mo_cost : am_I := (⟨"MultiwayCutModel", "cost", "()I"⟩, 9, prog_12_method_80_code, 1, (some .int), [], 0)
def am_i_Mo_cut : am_I := (⟨"MultiwayCutModel", "cut", "()I"⟩, 9, prog_12_method_81_code, 3, (some .int), [], 0)
def am_i_Mo_ratio : am_I := (⟨"MultiwayCutModel", "ratio", "()F"⟩, 9, prog_12_method_82_code, 3, (some .float), [], 0)
def am_i_Mo_meanCost : am_I := (⟨"MultiwayCutModel", "meanCost", "()F"⟩, 9, prog_12_method_83_code, 5, (some .float), [], 0)
def am_i_Mo_laysMove : am_I := (⟨"MultiwayCutModel", "laysMove", "()V"⟩, 9, prog_12_method_84_code, 5, none, [], 0)
def am_i_Mo_bestMove : am_I := (⟨"MultiwayCutModel", "bestMove", "(I)I"⟩, 9, prog_12_method_85_code, 2, (some .int), [], 0)
def am_i_Mo_setLabel : am_I := (⟨"MultiwayCutModel", "setLabel", "(II)I"⟩, 9, prog_12_method_86_code, 4, (some .int), [], 0)
def am_i_Mo_useNearest : am_I := (⟨"MultiwayCutModel", "useNearest", "()I"⟩, 9, prog_12_method_87_code, 2, (some .int), [], 0)
def am_i_Mo_useUnion : am_I := (⟨"MultiwayCutModel", "useUnion", "()I"⟩, 9, prog_12_method_88_code, 5, (some .int), [], 0)
def am_i_Mo_useExact : am_I := (⟨"MultiwayCutModel", "useExact", "()I"⟩, 9, prog_12_method_89_code, 3, (some .int), [], 0)
def am_i_Mo_improve : am_I := (⟨"MultiwayCutModel", "improve", "(I)I"⟩, 9, prog_12_method_90_code, 3, (some .int), [], 0)
def am_i_Mo_isEdge : am_I := (⟨"MultiwayCutModel", "isEdge", "(I)Z"⟩, 9, prog_12_method_91_code, 2, (some .boolean), [], 0)
def am_i_Mo_setWeight : am_I := (⟨"MultiwayCutModel", "setWeight", "(II)I"⟩, 9, prog_12_method_92_code, 4, (some .int), [], 0)
def am_i_Mo_areJoined : am_I := (⟨"MultiwayCutModel", "areJoined", "(II)Z"⟩, 9, prog_12_method_93_code, 4, (some .boolean), [], 0)
def am_i_Mo_addEdge : am_I := (⟨"MultiwayCutModel", "addEdge", "(III)I"⟩, 9, prog_12_method_94_code, 5, (some .int), [], 0)
def am_i_Mo_removeEdge : am_I := (⟨"MultiwayCutModel", "removeEdge", "(I)I"⟩, 9, prog_12_method_95_code, 4, (some .int), [], 0)
def am_i_Mo_setTerminal : am_I := (⟨"MultiwayCutModel", "setTerminal", "(IZ)I"⟩, 9, prog_12_method_96_code, 5, (some .int), [], 0)
def am_i_Mo_undo : am_I := (⟨"MultiwayCutModel", "undo", "()I"⟩, 9, prog_12_method_97_code, 1, (some .int), [], 0)
def am_i_Mo_checksum : am_I := (⟨"MultiwayCutModel", "checksum", "()J"⟩, 9, prog_12_method_98_code, 5, (some .long), [], 0)
def am_i_JI_bitCount : am_I := (⟨"java/lang/Integer", "bitCount", "(I)I"⟩, 12, prog_18_method_49_code, 1, (some .int), [], 1)
def am_i_JA_fill : am_I := (⟨"java/util/Arrays", "fill", "([II)V"⟩, 13, prog_26_method_103_code, 4, none, [], 1)
def am_i_JA_copyOf : am_I := (⟨"java/util/Arrays", "copyOf", "([II)[I"⟩, 13, prog_26_method_123_code, 3, (some (.array .int)), [], 1)
def am_i_La_load : am_I := (⟨"MultiwayCutLaw", "load", "(LMultiwayCut;I[J)I"⟩, 11, method_3_code, 4, (some .int), [(0, 9, 12, 13)], 1)
def am_i_La_burden : am_I := (⟨"MultiwayCutLaw", "burden", "(LMultiwayCut;I[J)I"⟩, 11, method_4_code, 4, (some .int), [(0, 9, 12, 18)], 1)
def am_i_La_edge : am_I := (⟨"MultiwayCutLaw", "edge", "(LMultiwayCut;II[J)I"⟩, 11, method_5_code, 5, (some .int), [(0, 10, 13, 18), (0, 10, 17, 13)], 1)
def am_i_La_cutCost : am_I := (⟨"MultiwayCutLaw", "cutCost", "(LMultiwayCut;I[J)I"⟩, 11, method_6_code, 4, (some .int), [(0, 9, 12, 13)], 1)
def am_i_La_separates : am_I := (⟨"MultiwayCutLaw", "separates", "(LMultiwayCut;I[J)I"⟩, 11, method_7_code, 4, (some .int), [(0, 16, 19, 13)], 1)
def am_i_La_isolatingValue : am_I := (⟨"MultiwayCutLaw", "isolatingValue", "(LMultiwayCut;I[J)I"⟩, 11, method_8_code, 4, (some .int), [(0, 9, 12, 13)], 1)
def am_i_La_isolatingSet : am_I := (⟨"MultiwayCutLaw", "isolatingSet", "(LMultiwayCut;I[J)I"⟩, 11, method_9_code, 4, (some .int), [(0, 9, 12, 13)], 1)
def am_i_La_dearest : am_I := (⟨"MultiwayCutLaw", "dearest", "(LMultiwayCut;[J)I"⟩, 11, method_10_code, 3, (some .int), [(0, 8, 11, 41)], 1)
def am_i_La_unionCut : am_I := (⟨"MultiwayCutLaw", "unionCut", "(LMultiwayCut;[J)I"⟩, 11, method_11_code, 3, (some .int), [(0, 8, 11, 41)], 1)
def am_i_La_unionCost : am_I := (⟨"MultiwayCutLaw", "unionCost", "(LMultiwayCut;[J)I"⟩, 11, method_12_code, 3, (some .int), [(0, 8, 11, 41)], 1)
def am_i_La_fixed : am_I := (⟨"MultiwayCutLaw", "fixed", "(LMultiwayCut;I[J)I"⟩, 11, method_13_code, 4, (some .int), [(0, 9, 12, 18)], 1)
def am_i_La_exact : am_I := (⟨"MultiwayCutLaw", "exact", "(LMultiwayCut;I[J)I"⟩, 11, method_14_code, 4, (some .int), [(0, 9, 12, 18)], 1)
def am_i_La_price : am_I := (⟨"MultiwayCutLaw", "price", "(LMultiwayCut;I[J)I"⟩, 11, method_15_code, 4, (some .int), [(0, 9, 12, 13)], 1)
def am_i_La_nearest : am_I := (⟨"MultiwayCutLaw", "nearest", "(LMultiwayCut;I[J)I"⟩, 11, method_16_code, 4, (some .int), [(0, 9, 12, 18)], 1)
def am_i_La_distance : am_I := (⟨"MultiwayCutLaw", "distance", "(LMultiwayCut;I[J)I"⟩, 11, method_17_code, 4, (some .int), [(0, 9, 12, 18)], 1)
def am_i_La_label : am_I := (⟨"MultiwayCutLaw", "label", "(LMultiwayCut;I[J)I"⟩, 11, method_18_code, 4, (some .int), [(0, 9, 12, 18)], 1)
def am_i_La_bestMove : am_I := (⟨"MultiwayCutLaw", "bestMove", "(LMultiwayCut;I[J)I"⟩, 11, method_19_code, 4, (some .int), [(0, 9, 12, 13)], 1)
def am_i_La_setLabel : am_I := (⟨"MultiwayCutLaw", "setLabel", "(LMultiwayCut;II[J)I"⟩, 11, method_20_code, 5, (some .int), [(0, 10, 13, 18), (0, 10, 17, 13), (0, 10, 21, 41)], 1)
def am_i_La_useUnion : am_I := (⟨"MultiwayCutLaw", "useUnion", "(LMultiwayCut;[J)I"⟩, 11, method_21_code, 3, (some .int), [(0, 8, 11, 41)], 1)
def am_i_La_improve : am_I := (⟨"MultiwayCutLaw", "improve", "(LMultiwayCut;I[J)I"⟩, 11, method_22_code, 4, (some .int), [(0, 9, 12, 13)], 1)
def am_i_La_setWeight : am_I := (⟨"MultiwayCutLaw", "setWeight", "(LMultiwayCut;II[J)I"⟩, 11, method_23_code, 5, (some .int), [(0, 10, 13, 18), (0, 10, 17, 13)], 1)
def am_i_La_addEdge : am_I := (⟨"MultiwayCutLaw", "addEdge", "(LMultiwayCut;III[J)I"⟩, 11, method_24_code, 6, (some .int), [(0, 12, 15, 18), (0, 12, 19, 13), (0, 12, 23, 41)], 1)
def am_i_La_removeEdge : am_I := (⟨"MultiwayCutLaw", "removeEdge", "(LMultiwayCut;I[J)I"⟩, 11, method_25_code, 4, (some .int), [(0, 9, 12, 18)], 1)
def am_i_La_setTerminal : am_I := (⟨"MultiwayCutLaw", "setTerminal", "(LMultiwayCut;IZ[J)I"⟩, 11, method_26_code, 5, (some .int), [(0, 10, 13, 18), (0, 10, 17, 41)], 1)
def am_i_La_law : am_I := (⟨"MultiwayCutLaw", "law", "([I)Z"⟩, 11, code, 9, (some .boolean), [], 1)
def am_inf : List am_I := [am_i_Cu_keepsApart, am_i_Cu_reachedFrom, am_i_Cu_cheapestSet, am_i_Cu_setOf, am_i_Cu_valueOf, am_i_Cu_dearestOf, am_i_Cu_unionOf, am_i_Cu_labelByUnion, am_i_Cu_labelSet, am_i_Ex_init, am_i_Ex_run, am_i_Ex_extend, am_i_Ex_costToEarlier, am_i_Fo_init, am_i_Fo_evaluate, am_i_Fo_operand, am_i_Fo_combine, am_i_Gr_init, am_i_Gr_clear, am_i_Gr_copyFrom, am_i_Gr_hasVertex, am_i_Gr_isTerminal, am_i_Gr_allVertices, am_i_Gr_hasEdgeBetween, am_i_Gr_endsOf, am_i_Gr_lengthOf, am_i_Gr_putEdge, am_i_Gr_updateCost, am_i_Gr_dropEdge, am_i_Gr_startTerminal, am_i_Gr_endTerminal, am_i_Gr_takeLabels, am_i_Gr_borderOf, am_i_Gr_costOfEdges, am_i_Gr_costOfSet, am_i_Gr_presentCut, am_i_Gr_presentCost, am_i_Gp_init, am_i_Gp_run, am_i_Gp_makeRound, am_i_Gp_grouped, am_i_Gp_ownerOf, am_i_Hi_init, am_i_Hi_save, am_i_Hi_restore, am_i_Mv_init, am_i_Mv_run, am_i_Mv_consider, am_i_Mv_makeImprovement, am_i_Ne_init, am_i_Ne_run, am_i_Ne_offer, am_i_Rd_init, am_i_Rd_read, am_i_Rd_finish, am_i_Rd_readGraph, am_i_Rd_readStatement, am_i_Rd_readTerminal, am_i_Rd_readEdge, am_i_Rd_readLoad, am_i_Rd_startCost, am_i_Rd_readSum, am_i_Rd_readTerm, am_i_Rd_readFactor, am_i_Rd_putCode, am_i_Rd_readSymbol, am_i_Rd_vertexHere, am_i_Rd_numberHere, am_i_Rd_isWord, am_i_Rd_fail, am_i_Rd_advance, am_i_Mc_init, am_i_Mc_append, am_i_Mc_putWord, am_i_Mc_load, am_i_Mc_errorOffset, am_i_Mc_size, am_i_Mc_edgeCount, am_i_Mc_terminals, am_i_Mc_burden, am_i_Mc_edge, am_i_Mc_cutCost, am_i_Mc_separates, am_i_Mc_isolatingValue, am_i_Mc_isolatingSet, am_i_Mc_lowerBound, am_i_Mc_dearest, am_i_Mc_unionCut, am_i_Mc_unionCost, am_i_Mc_rounds, am_i_Mc_fixed, am_i_Mc_exactCost, am_i_Mc_exact, am_i_Mc_price, am_i_Mc_nearest, am_i_Mc_distance, am_i_Mc_label, am_i_Mc_cost, am_i_Mc_cut, am_i_Mc_ratio, am_i_Mc_meanCost, am_i_Mc_bestMove, am_i_Mc_setLabel, am_i_Mc_useNearest, am_i_Mc_useUnion, am_i_Mc_useExact, am_i_Mc_improve, am_i_Mc_setWeight, am_i_Mc_addEdge, am_i_Mc_removeEdge, am_i_Mc_setTerminal, am_i_Mc_undo, am_i_Mc_checksum, am_i_Mc_requireVertex, am_i_Mc_requireEdge, am_i_Mc_requireTerminal, am_i_Mc_requireSomeTerminal, am_i_Mc_requireWeight, am_i_Mo_init, am_i_Mo_thrown, am_i_Mo_isIn, am_i_Mo_get, am_i_Mo_put, am_i_Mo_change, am_i_Mo_right, am_i_Mo_append, am_i_Mo_fails, am_i_Mo_sees, am_i_Mo_takes, am_i_Mo_wants, am_i_Mo_isDigit, am_i_Mo_reads, am_i_Mo_codes, am_i_Mo_sum, am_i_Mo_term, am_i_Mo_factor, am_i_Mo_readsVertex, am_i_Mo_terminalLine, am_i_Mo_bitsOf, am_i_Mo_isJoined, am_i_Mo_edgeLine, am_i_Mo_loadLine, am_i_Mo_statement, am_i_Mo_texts, am_i_Mo_load, am_i_Mo_errorOffset, am_i_Mo_within, am_i_Mo_costOf, am_i_Mo_laysCosts, am_i_Mo_count, am_i_Mo_edges, am_i_Mo_low, am_i_Mo_high, am_i_Mo_has, am_i_Mo_isTerminal, am_i_Mo_all, am_i_Mo_cutOf, am_i_Mo_bestSet, am_i_Mo_isolating, am_i_Mo_laysIsolating, am_i_Mo_dearestNow, am_i_Mo_othersOf, am_i_Mo_goesRound, am_i_Mo_laysGroups, am_i_Mo_costBy, am_i_Mo_goesOn, am_i_Mo_laysExact, am_i_Mo_exactNow, am_i_Mo_costNow, am_i_Mo_lengthOf, am_i_Mo_laysFar, am_i_Mo_laysNear, am_i_Mo_size, am_i_Mo_edgeCount, am_i_Mo_terminals, am_i_Mo_isVertex, am_i_Mo_burden, am_i_Mo_edge, am_i_Mo_cutCost, am_i_Mo_separates, am_i_Mo_mustBe, am_i_Mo_isolatingValue, am_i_Mo_isolatingSet, am_i_Mo_lowerBound, am_i_Mo_hasTerminal, am_i_Mo_dearest, am_i_Mo_unionNow, am_i_Mo_unionCut, am_i_Mo_unionCost, am_i_Mo_rounds, am_i_Mo_fixed, am_i_Mo_exactCost, am_i_Mo_exact, am_i_Mo_price, am_i_Mo_nearest, am_i_Mo_distance, am_i_Mo_label, am_i_Mo_cost, am_i_Mo_cut, am_i_Mo_ratio, am_i_Mo_meanCost, am_i_Mo_laysMove, am_i_Mo_bestMove, am_i_Mo_setLabel, am_i_Mo_useNearest, am_i_Mo_useUnion, am_i_Mo_useExact, am_i_Mo_improve, am_i_Mo_isEdge, am_i_Mo_setWeight, am_i_Mo_areJoined, am_i_Mo_addEdge, am_i_Mo_removeEdge, am_i_Mo_setTerminal, am_i_Mo_undo, am_i_Mo_checksum, am_i_JI_bitCount, am_i_JA_fill, am_i_JA_copyOf, am_i_La_load, am_i_La_burden, am_i_La_edge, am_i_La_cutCost, am_i_La_separates, am_i_La_isolatingValue, am_i_La_isolatingSet, am_i_La_dearest, am_i_La_unionCut, am_i_La_unionCost, am_i_La_fixed, am_i_La_exact, am_i_La_price, am_i_La_nearest, am_i_La_distance, am_i_La_label, am_i_La_bestMove, am_i_La_setLabel, am_i_La_useUnion, am_i_La_improve, am_i_La_setWeight, am_i_La_addEdge, am_i_La_removeEdge, am_i_La_setTerminal, am_i_La_law]
def am_mm_ : List (Nat × Nat × Nat) := [(1, 30, 3), (1, 36, 2), (2, 64, 1), (2, 70, 0), (4, 29, 1), (7, 29, 1), (9, 117, 1), (9, 165, 0), (13, 304, 1)]
def am_sl_ : List (Nat × Nat × Nat) := [(7, 103, 0), (7, 114, 1), (7, 119, 2), (7, 124, 3), (7, 129, 4), (7, 170, 5), (7, 172, 6), (7, 174, 7), (9, 149, 5), (9, 155, 6), (9, 157, 7), (9, 172, 1), (9, 177, 2), (9, 182, 3), (9, 187, 4), (9, 193, 0)]
def am_xl_ : List (Nat × Nat × Nat × Nat × Nat × String) := [(8, 73, 75, 77, 1, "length is not within the input buffer"), (8, 73, 133, 77, 1, "what is not 0 to 4"), (8, 73, 139, 77, 1, "this is no set of vertices"), (8, 73, 144, 77, 1, "this is no set of edges"), (8, 73, 219, 77, 1, "what is not 0 to 2"), (8, 73, 243, 77, 1, "most is not 1 to 20"), (8, 73, 255, 77, 1, "an edge has two different ends"), (8, 73, 293, 77, 1, "this is no terminal"), (8, 73, 297, 77, 1, "weight is not 1 to 99"), (8, 231, 233, 235, 3, "a terminal keeps itself"), (8, 231, 261, 235, 3, "there is no room for this edge"), (8, 231, 270, 235, 3, "there are 5 terminals already"), (8, 231, 295, 235, 3, "there is no terminal"), (8, 286, 288, 290, 2, "there is no such vertex"), (8, 286, 291, 290, 2, "there is no such edge")]
def am_al_ : List (Nat × Nat) := [(0, 40), (2, 50), (13, 150)]
def am_s1_ : List (Nat × Nat) := [(7, 182), (9, 96)]
def am_s2_ : List (Nat × Nat) := [(7, 186), (9, 101)]
def am_txt (j : Nat) : String := match j with
  | 0 => "graph"
  | 1 => "terminal"
  | 2 => "edge"
  | 3 => "load"
  | 4 => "cost"
  | 5 => "weight"
  | 6 => "low"
  | _ => "high"
end
section
/-! THE PROGRAM, resolved: a method by its number, its code by chunks of 16 bytes; written by wip/whole/gen.py out of the printed claim -/
def at_Cu_keepsApart : am_T := [[(0, .ldc 0, 1), (1, .istore 2, 2), (2, .iload 2, 3), (3, .aload 0, 4), (4, .getfield 128, 7), (7, .if_icmp .ge (Int.ofNat 45), 10), (10, .aload 0, 11), (11, .iload 2, 12), (12, .iload 1, 13), (13, .invokestatic 19, 16)], [(16, .aload 0, 17), (17, .getfield 130, 20), (20, .iand, 21), (21, .istore 3, 22), (22, .aload 0, 23), (23, .iload 2, 24), (24, .invokevirtual 16721, 27), (27, .ifCond .eq (Int.ofNat 39), 30), (30, .iload 3, 31), (31, .ldc 1, 32)], [(32, .iload 2, 33), (33, .ishl, 34), (34, .if_icmp .eq (Int.ofNat 39), 37), (37, .ldc 0, 38), (38, .areturn, 39), (39, .iinc 2 (Int.ofNat 1), 42), (42, .goto (Int.ofNat 2), 45), (45, .ldc 1, 46), (46, .areturn, 47)]]
abbrev m_Cu_keepsApart : Nat := 0
def ah_Cu_keepsApart : List (Nat × Nat × Nat × Nat × Nat × Nat) := []
def at_Cu_reachedFrom : am_T := [[(0, .ldc 1, 1), (1, .iload 1, 2), (2, .ishl, 3), (3, .istore 3, 4), (4, .ldc 1, 5), (5, .istore 4, 7), (7, .iload 4, 9), (9, .aload 0, 10), (10, .getfield 128, 13), (13, .if_icmp .ge (Int.ofNat 69), 16)], [(16, .ldc 0, 17), (17, .istore 5, 19), (19, .iload 5, 21), (21, .aload 0, 22), (22, .getfield 129, 25), (25, .if_icmp .ge (Int.ofNat 63), 28), (28, .aload 0, 29), (29, .iload 5, 31), (31, .invokevirtual 16769, 34)], [(34, .istore 6, 36), (36, .iload 2, 37), (37, .iload 5, 39), (39, .ishr, 40), (40, .ldc 1, 41), (41, .iand, 42), (42, .ifCond .ne (Int.ofNat 57), 45), (45, .iload 6, 47), (47, .iload 3, 48)], [(48, .iand, 49), (49, .ifCond .eq (Int.ofNat 57), 52), (52, .iload 3, 53), (53, .iload 6, 55), (55, .ior, 56), (56, .istore 3, 57), (57, .iinc 5 (Int.ofNat 1), 60), (60, .goto (Int.ofNat 19), 63), (63, .iinc 4 (Int.ofNat 1), 66)], [(66, .goto (Int.ofNat 7), 69), (69, .iload 3, 70), (70, .ireturn, 71)]]
abbrev m_Cu_reachedFrom : Nat := 1
def ah_Cu_reachedFrom : List (Nat × Nat × Nat × Nat × Nat × Nat) := []
def at_Cu_cheapestSet : am_T := [[(0, .iload 1, 1), (1, .istore 4, 3), (3, .aload 0, 4), (4, .iload 1, 5), (5, .invokevirtual 16929, 8), (8, .istore 5, 10), (10, .ldc 1, 11), (11, .istore 6, 13), (13, .iload 6, 15), (15, .iload 2, 16)], [(16, .if_icmp .gt (Int.ofNat 103), 19), (19, .iload 6, 21), (21, .iload 2, 22), (22, .ldc_w 1, 23), (23, .ixor, 24), (24, .iand, 25), (25, .ifCond .eq (Int.ofNat 31), 28), (28, .goto (Int.ofNat 97), 31), (31, .iload 1, 32)], [(32, .iload 6, 34), (34, .ior, 35), (35, .istore 7, 37), (37, .aload 0, 38), (38, .iload 7, 40), (40, .invokevirtual 16929, 43), (43, .istore 8, 45), (45, .iload 7, 47), (47, .invokestatic 3457, 50)], [(50, .iload 4, 52), (52, .invokestatic 3457, 55), (55, .isub, 56), (56, .istore 9, 58), (58, .iload 8, 60), (60, .iload 5, 62), (62, .if_icmp .lt (Int.ofNat 89), 65)], [(65, .iload 8, 67), (67, .iload 5, 69), (69, .if_icmp .ne (Int.ofNat 97), 72), (72, .iload 3, 73), (73, .ifCond .eq (Int.ofNat 84), 76), (76, .iload 9, 78), (78, .ifCond .le (Int.ofNat 97), 81)], [(81, .goto (Int.ofNat 89), 84), (84, .iload 9, 86), (86, .ifCond .ge (Int.ofNat 97), 89), (89, .iload 7, 91), (91, .istore 4, 93), (93, .iload 8, 95), (95, .istore 5, 97)], [(97, .iinc 6 (Int.ofNat 1), 100), (100, .goto (Int.ofNat 13), 103), (103, .iload 4, 105), (105, .ireturn, 106)]]
abbrev m_Cu_cheapestSet : Nat := 2
def ah_Cu_cheapestSet : List (Nat × Nat × Nat × Nat × Nat × Nat) := []
def at_Cu_setOf : am_T := [[(0, .aload 0, 1), (1, .invokevirtual 16736, 4), (4, .aload 0, 5), (5, .getfield 130, 8), (8, .ldc_w 1, 9), (9, .ixor, 10), (10, .iand, 11), (11, .istore 2, 12), (12, .aload 0, 13), (13, .ldc 1, 14), (14, .iload 1, 15), (15, .ishl, 16)], [(16, .iload 2, 17), (17, .ldc 0, 18), (18, .invokestatic 36, 21), (21, .ireturn, 22)]]
abbrev m_Cu_setOf : Nat := 3
def ah_Cu_setOf : List (Nat × Nat × Nat × Nat × Nat × Nat) := []
def at_Cu_valueOf : am_T := [[(0, .aload 0, 1), (1, .aload 0, 2), (2, .iload 1, 3), (3, .invokestatic 50, 6), (6, .invokevirtual 16929, 9), (9, .ireturn, 10)]]
abbrev m_Cu_valueOf : Nat := 4
def ah_Cu_valueOf : List (Nat × Nat × Nat × Nat × Nat × Nat) := []
def at_Cu_dearestOf : am_T := [[(0, .ldc_w 1, 1), (1, .istore 1, 2), (2, .ldc_w 1, 3), (3, .istore 2, 4), (4, .ldc 0, 5), (5, .istore 3, 6), (6, .iload 3, 7), (7, .aload 0, 8), (8, .getfield 128, 11), (11, .if_icmp .ge (Int.ofNat 50), 14), (14, .aload 0, 15), (15, .iload 3, 16)], [(16, .invokevirtual 16721, 19), (19, .ifCond .eq (Int.ofNat 30), 22), (22, .aload 0, 23), (23, .iload 3, 24), (24, .invokestatic 66, 27), (27, .goto (Int.ofNat 31), 30), (30, .ldc_w 1, 31), (31, .istore 4, 33)], [(33, .iload 4, 35), (35, .iload 2, 36), (36, .if_icmp .le (Int.ofNat 44), 39), (39, .iload 3, 40), (40, .istore 1, 41), (41, .iload 4, 43), (43, .istore 2, 44), (44, .iinc 3 (Int.ofNat 1), 47), (47, .goto (Int.ofNat 6), 50)], [(50, .iload 1, 51), (51, .ireturn, 52)]]
abbrev m_Cu_dearestOf : Nat := 5
def ah_Cu_dearestOf : List (Nat × Nat × Nat × Nat × Nat × Nat) := []
def at_Cu_unionOf : am_T := [[(0, .aload 0, 1), (1, .invokestatic 81, 4), (4, .istore 1, 5), (5, .ldc 0, 6), (6, .istore 2, 7), (7, .ldc 0, 8), (8, .istore 3, 9), (9, .iload 3, 10), (10, .aload 0, 11), (11, .getfield 128, 14), (14, .if_icmp .ge (Int.ofNat 48), 17)], [(17, .aload 0, 18), (18, .iload 3, 19), (19, .invokevirtual 16721, 22), (22, .ifCond .eq (Int.ofNat 42), 25), (25, .iload 3, 26), (26, .iload 1, 27), (27, .if_icmp .eq (Int.ofNat 42), 30), (30, .iload 2, 31), (31, .aload 0, 32)], [(32, .aload 0, 33), (33, .iload 3, 34), (34, .invokestatic 50, 37), (37, .invokevirtual 16897, 40), (40, .ior, 41), (41, .istore 2, 42), (42, .iinc 3 (Int.ofNat 1), 45), (45, .goto (Int.ofNat 9), 48)], [(48, .iload 2, 49), (49, .ireturn, 50)]]
abbrev m_Cu_unionOf : Nat := 6
def ah_Cu_unionOf : List (Nat × Nat × Nat × Nat × Nat × Nat) := []
def at_Cu_labelByUnion : am_T := [[(0, .aload 0, 1), (1, .invokestatic 81, 4), (4, .istore 1, 5), (5, .aload 0, 6), (6, .getstatic 132, 9), (9, .iload 1, 10), (10, .invokestatic 3474, 13), (13, .ldc 0, 14), (14, .istore 2, 15), (15, .iload 2, 16)], [(16, .aload 0, 17), (17, .getfield 128, 20), (20, .if_icmp .ge (Int.ofNat 52), 23), (23, .aload 0, 24), (24, .iload 2, 25), (25, .invokevirtual 16721, 28), (28, .ifCond .eq (Int.ofNat 46), 31), (31, .iload 2, 32)], [(32, .iload 1, 33), (33, .if_icmp .eq (Int.ofNat 46), 36), (36, .aload 0, 37), (37, .aload 0, 38), (38, .iload 2, 39), (39, .invokestatic 50, 42), (42, .iload 2, 43), (43, .invokestatic 131, 46), (46, .iinc 2 (Int.ofNat 1), 49)], [(49, .goto (Int.ofNat 15), 52), (52, .return_, 53)]]
abbrev m_Cu_labelByUnion : Nat := 7
def ah_Cu_labelByUnion : List (Nat × Nat × Nat × Nat × Nat × Nat) := []
def at_Cu_labelSet : am_T := [[(0, .ldc 0, 1), (1, .istore 3, 2), (2, .iload 3, 3), (3, .aload 0, 4), (4, .getfield 128, 7), (7, .if_icmp .ge (Int.ofNat 31), 10), (10, .iload 1, 11), (11, .iload 3, 12), (12, .ishr, 13), (13, .ldc 1, 14), (14, .iand, 15), (15, .ifCond .eq (Int.ofNat 25), 18)], [(18, .aload 0, 19), (19, .getstatic 132, 22), (22, .iload 3, 23), (23, .iload 2, 24), (24, .iastore, 25), (25, .iinc 3 (Int.ofNat 1), 28), (28, .goto (Int.ofNat 2), 31), (31, .return_, 32)]]
abbrev m_Cu_labelSet : Nat := 8
def ah_Cu_labelSet : List (Nat × Nat × Nat × Nat × Nat × Nat) := []
def at_Ex_init : am_T := [[(0, .aload 0, 1), (1, .pop2, 4), (4, .aload 0, 5), (5, .ldc 9, 7), (7, .anewarray 2, 9), (9, .checkcast 0, 12), (12, .aload 0, 13), (13, .ldc 9, 15), (15, .anewarray 2, 17)], [(17, .checkcast 2, 20), (20, .return_, 21)]]
abbrev m_Ex_init : Nat := 9
def ah_Ex_init : List (Nat × Nat × Nat × Nat × Nat × Nat) := []
def at_Ex_run : am_T := [[(0, .aload 0, 1), (1, .ldc 0, 2), (2, .putfield 1, 5), (5, .aload 0, 6), (6, .getstatic 0, 9), (9, .ldc_w 1, 10), (10, .invokestatic 3474, 13), (13, .iload 2, 14), (14, .ifCond .eq (Int.ofNat 31), 17)], [(17, .aload 0, 18), (18, .ldc 2147483647, 20), (20, .putfield 1, 23), (23, .aload 0, 24), (24, .aload 1, 25), (25, .iload 2, 26), (26, .ldc 0, 27), (27, .ldc 0, 28), (28, .invokestatic 181, 31), (31, .return_, 32)]]
abbrev m_Ex_run : Nat := 10
def ah_Ex_run : List (Nat × Nat × Nat × Nat × Nat × Nat) := []
def at_Ex_extend : am_T := [[(0, .iload 4, 2), (2, .aload 0, 3), (3, .getfield 1, 6), (6, .if_icmp .lt (Int.ofNat 10), 9), (9, .return_, 10), (10, .iload 3, 11), (11, .aload 1, 12), (12, .getfield 128, 15), (15, .if_icmp .lt (Int.ofNat 42), 18)], [(18, .aload 0, 19), (19, .iload 4, 21), (21, .putfield 1, 24), (24, .aload 0, 25), (25, .getstatic 2, 28), (28, .ldc 0, 29), (29, .aload 0, 30), (30, .getstatic 0, 33)], [(33, .ldc 0, 34), (34, .aload 1, 35), (35, .getfield 128, 38), (38, .multianewarray 0 0, 41), (41, .return_, 42), (42, .iload 2, 43), (43, .iload 3, 44), (44, .ishr, 45), (45, .ldc 1, 46), (46, .iand, 47), (47, .ifCond .eq (Int.ofNat 56), 50)], [(50, .ldc 1, 51), (51, .iload 3, 52), (52, .ishl, 53), (53, .goto (Int.ofNat 57), 56), (56, .iload 2, 57), (57, .istore 5, 59), (59, .ldc 0, 60), (60, .istore 6, 62), (62, .iload 6, 64)], [(64, .aload 1, 65), (65, .getfield 128, 68), (68, .if_icmp .ge (Int.ofNat 117), 71), (71, .iload 5, 73), (73, .iload 6, 75), (75, .ishr, 76), (76, .ldc 1, 77), (77, .iand, 78), (78, .ifCond .eq (Int.ofNat 111), 81)], [(81, .aload 0, 82), (82, .getstatic 2, 85), (85, .iload 3, 86), (86, .iload 6, 88), (88, .iastore, 89), (89, .aload 0, 90), (90, .aload 1, 91), (91, .iload 3, 92), (92, .invokevirtual 194, 95), (95, .istore 7, 97)], [(97, .aload 0, 98), (98, .aload 1, 99), (99, .iload 2, 100), (100, .iload 3, 101), (101, .ldc 1, 102), (102, .iadd, 103), (103, .iload 4, 105), (105, .iload 7, 107), (107, .iadd, 108), (108, .invokestatic 181, 111), (111, .iinc 6 (Int.ofNat 1), 114)], [(114, .goto (Int.ofNat 62), 117), (117, .return_, 118)]]
abbrev m_Ex_extend : Nat := 11
def ah_Ex_extend : List (Nat × Nat × Nat × Nat × Nat × Nat) := []
def at_Ex_costToEarlier : am_T := [[(0, .ldc 0, 1), (1, .istore 3, 2), (2, .ldc 0, 3), (3, .istore 4, 5), (5, .iload 4, 7), (7, .aload 1, 8), (8, .getfield 129, 11), (11, .if_icmp .ge (Int.ofNat 62), 14), (14, .aload 1, 15), (15, .getstatic 134, 18)], [(18, .iload 4, 20), (20, .iaload, 21), (21, .iload 2, 22), (22, .if_icmp .ne (Int.ofNat 56), 25), (25, .aload 0, 26), (26, .getstatic 2, 29), (29, .aload 1, 30), (30, .getstatic 133, 33)], [(33, .iload 4, 35), (35, .iaload, 36), (36, .iaload, 37), (37, .aload 0, 38), (38, .getstatic 2, 41), (41, .iload 2, 42), (42, .iaload, 43), (43, .if_icmp .eq (Int.ofNat 56), 46), (46, .iload 3, 47), (47, .aload 1, 48)], [(48, .getstatic 136, 51), (51, .iload 4, 53), (53, .iaload, 54), (54, .iadd, 55), (55, .istore 3, 56), (56, .iinc 4 (Int.ofNat 1), 59), (59, .goto (Int.ofNat 5), 62), (62, .iload 3, 63), (63, .ireturn, 64)]]
abbrev m_Ex_costToEarlier : Nat := 12
def ah_Ex_costToEarlier : List (Nat × Nat × Nat × Nat × Nat × Nat) := []
def at_Fo_init : am_T := [[(0, .aload 0, 1), (1, .pop2, 4), (4, .aload 0, 5), (5, .ldc 11, 7), (7, .anewarray 2, 9), (9, .checkcast 65, 12), (12, .aload 0, 13), (13, .aload 1, 14), (14, .checkcast 64, 17)], [(17, .return_, 18)]]
abbrev m_Fo_init : Nat := 13
def ah_Fo_init : List (Nat × Nat × Nat × Nat × Nat × Nat) := []
def at_Fo_evaluate : am_T := [[(0, .ldc 0, 1), (1, .istore 4, 3), (3, .ldc 0, 4), (4, .istore 5, 6), (6, .iload 5, 8), (8, .aload 0, 9), (9, .getstatic 64, 12), (12, .arraylength, 13), (13, .if_icmp .ge (Int.ofNat 112), 16)], [(16, .aload 0, 17), (17, .getstatic 64, 20), (20, .iload 5, 22), (22, .iaload, 23), (23, .istore 6, 25), (25, .iload 6, 27), (27, .ldc_w 4, 29), (29, .if_icmp .gt (Int.ofNat 74), 32)], [(32, .iload 4, 34), (34, .ldc 2, 35), (35, .if_icmp .lt (Int.ofNat 74), 38), (38, .iinc 4 (Int.negSucc 0), 41), (41, .aload 0, 42), (42, .getstatic 65, 45), (45, .iload 4, 47), (47, .ldc 1, 48)], [(48, .isub, 49), (49, .iload 6, 51), (51, .aload 0, 52), (52, .getstatic 65, 55), (55, .iload 4, 57), (57, .ldc 1, 58), (58, .isub, 59), (59, .iaload, 60), (60, .aload 0, 61), (61, .getstatic 65, 64)], [(64, .iload 4, 66), (66, .iaload, 67), (67, .invokestatic 259, 70), (70, .iastore, 71), (71, .goto (Int.ofNat 106), 74), (74, .iload 6, 76), (76, .ldc_w 4, 78), (78, .if_icmp .le (Int.ofNat 106), 81)], [(81, .iload 4, 83), (83, .ldc 11, 85), (85, .if_icmp .ge (Int.ofNat 106), 88), (88, .aload 0, 89), (89, .getstatic 65, 92), (92, .iload 4, 94), (94, .iload 6, 96)], [(96, .iload 1, 97), (97, .iload 2, 98), (98, .iload 3, 99), (99, .invokestatic 244, 102), (102, .iastore, 103), (103, .iinc 4 (Int.ofNat 1), 106), (106, .iinc 5 (Int.ofNat 1), 109), (109, .goto (Int.ofNat 6), 112)], [(112, .aload 0, 113), (113, .getstatic 65, 116), (116, .ldc 0, 117), (117, .iaload, 118), (118, .ireturn, 119)]]
abbrev m_Fo_evaluate : Nat := 14
def ah_Fo_evaluate : List (Nat × Nat × Nat × Nat × Nat × Nat) := []
def at_Fo_operand : am_T := [[(0, .iload 0, 1), (1, .ldc_w 1, 2), (2, .if_icmp .ne (Int.ofNat 7), 5), (5, .iload 1, 6), (6, .ireturn, 7), (7, .iload 0, 8), (8, .ldc_w 2, 10), (10, .if_icmp .ne (Int.ofNat 15), 13), (13, .iload 2, 14), (14, .ireturn, 15), (15, .iload 0, 16)], [(16, .ldc_w 3, 18), (18, .if_icmp .ne (Int.ofNat 25), 21), (21, .iload 3, 22), (22, .goto (Int.ofNat 26), 25), (25, .iload 0, 26), (26, .ireturn, 27)]]
abbrev m_Fo_operand : Nat := 15
def ah_Fo_operand : List (Nat × Nat × Nat × Nat × Nat × Nat) := []
def at_Fo_combine : am_T := [[(0, .ldc2_w 0, 1), (1, .lstore 3, 2), (2, .iload 0, 3), (3, .ldc_w 4, 5), (5, .if_icmp .ne (Int.ofNat 17), 8), (8, .iload 1, 9), (9, .i2l, 10), (10, .iload 2, 11), (11, .i2l, 12), (12, .ladd, 13), (13, .lstore 3, 14), (14, .goto (Int.ofNat 56), 17)], [(17, .iload 0, 18), (18, .ldc_w 5, 20), (20, .if_icmp .ne (Int.ofNat 32), 23), (23, .iload 1, 24), (24, .i2l, 25), (25, .iload 2, 26), (26, .i2l, 27), (27, .lsub, 28), (28, .lstore 3, 29), (29, .goto (Int.ofNat 56), 32)], [(32, .iload 0, 33), (33, .ldc_w 6, 35), (35, .if_icmp .ne (Int.ofNat 47), 38), (38, .iload 1, 39), (39, .i2l, 40), (40, .iload 2, 41), (41, .i2l, 42), (42, .lmul, 43), (43, .lstore 3, 44), (44, .goto (Int.ofNat 56), 47), (47, .iload 2, 48)], [(48, .ifCond .eq (Int.ofNat 56), 51), (51, .iload 1, 52), (52, .iload 2, 53), (53, .idiv, 54), (54, .i2l, 55), (55, .lstore 3, 56), (56, .goto_w (Int.negSucc 999999), 59), (59, .ldc2_w 1000000, 62), (62, .lload 3, 63), (63, .ddiv, 66)], [(66, .dmul, 69), (69, .l2i, 70), (70, .ireturn, 71)]]
abbrev m_Fo_combine : Nat := 16
def ah_Fo_combine : List (Nat × Nat × Nat × Nat × Nat × Nat) := []
def at_Gr_init : am_T := [[(0, .aload 0, 1), (1, .pop2, 4), (4, .aload 0, 5), (5, .ldc 9, 7), (7, .anewarray 2, 9), (9, .checkcast 131, 12), (12, .aload 0, 13), (13, .ldc 9, 15), (15, .anewarray 2, 17)], [(17, .checkcast 132, 20), (20, .aload 0, 21), (21, .ldc 20, 23), (23, .anewarray 2, 25), (25, .checkcast 133, 28), (28, .aload 0, 29), (29, .ldc 20, 31), (31, .anewarray 2, 33)], [(33, .checkcast 134, 36), (36, .aload 0, 37), (37, .ldc 20, 39), (39, .anewarray 2, 41), (41, .checkcast 135, 44), (44, .aload 0, 45), (45, .ldc 20, 47), (47, .anewarray 2, 49)], [(49, .checkcast 136, 52), (52, .return_, 53)]]
abbrev m_Gr_init : Nat := 17
def ah_Gr_init : List (Nat × Nat × Nat × Nat × Nat × Nat) := []
def at_Gr_clear : am_T := [[(0, .aload 0, 1), (1, .ldc 0, 2), (2, .putfield 128, 5), (5, .aload 0, 6), (6, .ldc 0, 7), (7, .putfield 129, 10), (10, .aload 0, 11), (11, .ldc 0, 12), (12, .putfield 130, 15), (15, .aload 0, 16)], [(16, .aconst_null, 17), (17, .checkcast 137, 20), (20, .aload 0, 21), (21, .getstatic 131, 24), (24, .ldc 0, 25), (25, .invokestatic 3474, 28), (28, .aload 0, 29), (29, .getstatic 132, 32)], [(32, .ldc_w 1, 33), (33, .invokestatic 3474, 36), (36, .return_, 37)]]
abbrev m_Gr_clear : Nat := 18
def ah_Gr_clear : List (Nat × Nat × Nat × Nat × Nat × Nat) := []
def at_Gr_copyFrom : am_T := [[(0, .aload 0, 1), (1, .aload 1, 2), (2, .getfield 128, 5), (5, .putfield 128, 8), (8, .aload 0, 9), (9, .aload 1, 10), (10, .getfield 129, 13), (13, .putfield 129, 16)], [(16, .aload 0, 17), (17, .aload 1, 18), (18, .getfield 130, 21), (21, .putfield 130, 24), (24, .aload 0, 25), (25, .aload 1, 26), (26, .getstatic 137, 29), (29, .checkcast 137, 32)], [(32, .aload 1, 33), (33, .getstatic 131, 36), (36, .ldc 0, 37), (37, .aload 0, 38), (38, .getstatic 131, 41), (41, .ldc 0, 42), (42, .ldc 9, 44), (44, .multianewarray 0 0, 47), (47, .aload 1, 48)], [(48, .getstatic 132, 51), (51, .ldc 0, 52), (52, .aload 0, 53), (53, .getstatic 132, 56), (56, .ldc 0, 57), (57, .ldc 9, 59), (59, .multianewarray 0 0, 62), (62, .aload 1, 63), (63, .getstatic 133, 66)], [(66, .ldc 0, 67), (67, .aload 0, 68), (68, .getstatic 133, 71), (71, .ldc 0, 72), (72, .ldc 20, 74), (74, .multianewarray 0 0, 77), (77, .aload 1, 78), (78, .getstatic 134, 81)], [(81, .ldc 0, 82), (82, .aload 0, 83), (83, .getstatic 134, 86), (86, .ldc 0, 87), (87, .ldc 20, 89), (89, .multianewarray 0 0, 92), (92, .aload 1, 93), (93, .getstatic 135, 96)], [(96, .ldc 0, 97), (97, .aload 0, 98), (98, .getstatic 135, 101), (101, .ldc 0, 102), (102, .ldc 20, 104), (104, .multianewarray 0 0, 107), (107, .aload 1, 108), (108, .getstatic 136, 111), (111, .ldc 0, 112)], [(112, .aload 0, 113), (113, .getstatic 136, 116), (116, .ldc 0, 117), (117, .ldc 20, 119), (119, .multianewarray 0 0, 122), (122, .return_, 123)]]
abbrev m_Gr_copyFrom : Nat := 19
def ah_Gr_copyFrom : List (Nat × Nat × Nat × Nat × Nat × Nat) := []
def at_Gr_hasVertex : am_T := [[(0, .iload 1, 1), (1, .ifCond .lt (Int.ofNat 16), 4), (4, .iload 1, 5), (5, .aload 0, 6), (6, .getfield 128, 9), (9, .if_icmp .ge (Int.ofNat 16), 12), (12, .ldc 1, 13), (13, .goto (Int.ofNat 17), 16)], [(16, .ldc 0, 17), (17, .areturn, 18)]]
abbrev m_Gr_hasVertex : Nat := 20
def ah_Gr_hasVertex : List (Nat × Nat × Nat × Nat × Nat × Nat) := []
def at_Gr_isTerminal : am_T := [[(0, .aload 0, 1), (1, .iload 1, 2), (2, .invokevirtual 16705, 5), (5, .ifCond .eq (Int.ofNat 23), 8), (8, .aload 0, 9), (9, .getfield 130, 12), (12, .iload 1, 13), (13, .ishr, 14), (14, .ldc 1, 15), (15, .iand, 16)], [(16, .ifCond .eq (Int.ofNat 23), 19), (19, .ldc 1, 20), (20, .goto (Int.ofNat 24), 23), (23, .ldc 0, 24), (24, .areturn, 25)]]
abbrev m_Gr_isTerminal : Nat := 21
def ah_Gr_isTerminal : List (Nat × Nat × Nat × Nat × Nat × Nat) := []
def at_Gr_allVertices : am_T := [[(0, .ldc 1, 1), (1, .aload 0, 2), (2, .getfield 128, 5), (5, .ishl, 6), (6, .ldc 1, 7), (7, .isub, 8), (8, .ireturn, 9)]]
abbrev m_Gr_allVertices : Nat := 22
def ah_Gr_allVertices : List (Nat × Nat × Nat × Nat × Nat × Nat) := []
def at_Gr_hasEdgeBetween : am_T := [[(0, .ldc 1, 1), (1, .iload 1, 2), (2, .ishl, 3), (3, .ldc 1, 4), (4, .iload 2, 5), (5, .ishl, 6), (6, .ior, 7), (7, .istore 3, 8), (8, .ldc 0, 9), (9, .istore 4, 11), (11, .iload 4, 13), (13, .aload 0, 14), (14, .getfield 129, 17)], [(17, .if_icmp .ge (Int.ofNat 38), 20), (20, .aload 0, 21), (21, .iload 4, 23), (23, .invokevirtual 16769, 26), (26, .iload 3, 27), (27, .if_icmp .ne (Int.ofNat 32), 30), (30, .ldc 1, 31), (31, .areturn, 32)], [(32, .iinc 4 (Int.ofNat 1), 35), (35, .goto (Int.ofNat 11), 38), (38, .ldc 0, 39), (39, .areturn, 40)]]
abbrev m_Gr_hasEdgeBetween : Nat := 23
def ah_Gr_hasEdgeBetween : List (Nat × Nat × Nat × Nat × Nat × Nat) := []
def at_Gr_endsOf : am_T := [[(0, .ldc 1, 1), (1, .aload 0, 2), (2, .getstatic 133, 5), (5, .iload 1, 6), (6, .iaload, 7), (7, .ishl, 8), (8, .ldc 1, 9), (9, .aload 0, 10), (10, .getstatic 134, 13), (13, .iload 1, 14), (14, .iaload, 15), (15, .ishl, 16)], [(16, .ior, 17), (17, .ireturn, 18)]]
abbrev m_Gr_endsOf : Nat := 24
def ah_Gr_endsOf : List (Nat × Nat × Nat × Nat × Nat × Nat) := []
def at_Gr_lengthOf : am_T := [[(0, .aload 0, 1), (1, .getstatic 136, 4), (4, .iload 1, 5), (5, .iaload, 6), (6, .ifCond .le (Int.ofNat 22), 9), (9, .ldc 10000, 12), (12, .aload 0, 13), (13, .getstatic 136, 16)], [(16, .iload 1, 17), (17, .iaload, 18), (18, .idiv, 19), (19, .goto (Int.ofNat 23), 22), (22, .ldc 0, 23), (23, .ireturn, 24)]]
abbrev m_Gr_lengthOf : Nat := 25
def ah_Gr_lengthOf : List (Nat × Nat × Nat × Nat × Nat × Nat) := []
def at_Gr_putEdge : am_T := [[(0, .aload 0, 1), (1, .getfield 129, 4), (4, .ldc 20, 6), (6, .if_icmp .lt (Int.ofNat 10), 9), (9, .return_, 10), (10, .aload 0, 11), (11, .getstatic 133, 14), (14, .aload 0, 15), (15, .getfield 129, 18)], [(18, .iload 1, 19), (19, .iload 2, 20), (20, .dsub, 23), (23, .iastore, 24), (24, .aload 0, 25), (25, .getstatic 134, 28), (28, .aload 0, 29), (29, .getfield 129, 32)], [(32, .iload 1, 33), (33, .iload 2, 34), (34, .dadd, 37), (37, .iastore, 38), (38, .aload 0, 39), (39, .getstatic 135, 42), (42, .aload 0, 43), (43, .getfield 129, 46), (46, .iload 3, 47), (47, .iastore, 48)], [(48, .aload 0, 49), (49, .dup, 50), (50, .getfield 129, 53), (53, .ldc 1, 54), (54, .iadd, 55), (55, .putfield 129, 58), (58, .return_, 59)]]
abbrev m_Gr_putEdge : Nat := 26
def ah_Gr_putEdge : List (Nat × Nat × Nat × Nat × Nat × Nat) := []
def at_Gr_updateCost : am_T := [[(0, .aload 0, 1), (1, .getstatic 135, 4), (4, .iload 1, 5), (5, .iaload, 6), (6, .istore 2, 7), (7, .aload 0, 8), (8, .getstatic 137, 11), (11, .ifnull (Int.ofNat 45), 14), (14, .aload 0, 15), (15, .getstatic 137, 18)], [(18, .iload 2, 19), (19, .aload 0, 20), (20, .getstatic 131, 23), (23, .aload 0, 24), (24, .getstatic 133, 27), (27, .iload 1, 28), (28, .iaload, 29), (29, .iaload, 30), (30, .aload 0, 31), (31, .getstatic 131, 34)], [(34, .aload 0, 35), (35, .getstatic 134, 38), (38, .iload 1, 39), (39, .iaload, 40), (40, .iaload, 41), (41, .invokevirtual 8419, 44), (44, .istore 2, 45), (45, .aload 0, 46), (46, .getstatic 136, 49)], [(49, .iload 1, 50), (50, .ldc 1, 51), (51, .ldc 9999, 54), (54, .iload 2, 55), (55, .dsub, 58), (58, .dadd, 61), (61, .iastore, 62), (62, .return_, 63)]]
abbrev m_Gr_updateCost : Nat := 27
def ah_Gr_updateCost : List (Nat × Nat × Nat × Nat × Nat × Nat) := []
def at_Gr_dropEdge : am_T := [[(0, .iload 1, 1), (1, .ldc 1, 2), (2, .iadd, 3), (3, .istore 2, 4), (4, .iload 2, 5), (5, .aload 0, 6), (6, .getfield 129, 9), (9, .if_icmp .ge (Int.ofNat 74), 12), (12, .aload 0, 13), (13, .getstatic 133, 16)], [(16, .iload 2, 17), (17, .ldc 1, 18), (18, .isub, 19), (19, .aload 0, 20), (20, .getstatic 133, 23), (23, .iload 2, 24), (24, .iaload, 25), (25, .iastore, 26), (26, .aload 0, 27), (27, .getstatic 134, 30), (30, .iload 2, 31), (31, .ldc 1, 32)], [(32, .isub, 33), (33, .aload 0, 34), (34, .getstatic 134, 37), (37, .iload 2, 38), (38, .iaload, 39), (39, .iastore, 40), (40, .aload 0, 41), (41, .getstatic 135, 44), (44, .iload 2, 45), (45, .ldc 1, 46), (46, .isub, 47), (47, .aload 0, 48)], [(48, .getstatic 135, 51), (51, .iload 2, 52), (52, .iaload, 53), (53, .iastore, 54), (54, .aload 0, 55), (55, .getstatic 136, 58), (58, .iload 2, 59), (59, .ldc 1, 60), (60, .isub, 61), (61, .aload 0, 62), (62, .getstatic 136, 65)], [(65, .iload 2, 66), (66, .iaload, 67), (67, .iastore, 68), (68, .iinc 2 (Int.ofNat 1), 71), (71, .goto (Int.ofNat 4), 74), (74, .aload 0, 75), (75, .dup, 76), (76, .getfield 129, 79), (79, .ldc 1, 80)], [(80, .isub, 81), (81, .putfield 129, 84), (84, .return_, 85)]]
abbrev m_Gr_dropEdge : Nat := 28
def ah_Gr_dropEdge : List (Nat × Nat × Nat × Nat × Nat × Nat) := []
def at_Gr_startTerminal : am_T := [[(0, .aload 0, 1), (1, .dup, 2), (2, .getfield 130, 5), (5, .ldc 1, 6), (6, .iload 1, 7), (7, .ishl, 8), (8, .ior, 9), (9, .putfield 130, 12), (12, .aload 0, 13), (13, .getstatic 132, 16)], [(16, .iload 1, 17), (17, .iload 1, 18), (18, .iastore, 19), (19, .return_, 20)]]
abbrev m_Gr_startTerminal : Nat := 29
def ah_Gr_startTerminal : List (Nat × Nat × Nat × Nat × Nat × Nat) := []
def at_Gr_endTerminal : am_T := [[(0, .aload 0, 1), (1, .dup, 2), (2, .getfield 130, 5), (5, .ldc 1, 6), (6, .iload 1, 7), (7, .ishl, 8), (8, .ldc_w 1, 9), (9, .ixor, 10), (10, .iand, 11), (11, .putfield 130, 14), (14, .ldc 0, 15), (15, .istore 2, 16)], [(16, .iload 2, 17), (17, .aload 0, 18), (18, .getfield 128, 21), (21, .if_icmp .ge (Int.ofNat 47), 24), (24, .aload 0, 25), (25, .getstatic 132, 28), (28, .iload 2, 29), (29, .iaload, 30), (30, .iload 1, 31), (31, .if_icmp .ne (Int.ofNat 41), 34)], [(34, .aload 0, 35), (35, .getstatic 132, 38), (38, .iload 2, 39), (39, .ldc_w 1, 40), (40, .iastore, 41), (41, .iinc 2 (Int.ofNat 1), 44), (44, .goto (Int.ofNat 16), 47), (47, .return_, 48)]]
abbrev m_Gr_endTerminal : Nat := 30
def ah_Gr_endTerminal : List (Nat × Nat × Nat × Nat × Nat × Nat) := []
def at_Gr_takeLabels : am_T := [[(0, .ldc 0, 1), (1, .istore 2, 2), (2, .iload 2, 3), (3, .aload 0, 4), (4, .getfield 128, 7), (7, .if_icmp .ge (Int.ofNat 31), 10), (10, .iload 2, 11), (11, .aload 1, 12), (12, .arraylength, 13), (13, .if_icmp .ge (Int.ofNat 31), 16)], [(16, .aload 0, 17), (17, .getstatic 132, 20), (20, .iload 2, 21), (21, .aload 1, 22), (22, .iload 2, 23), (23, .iaload, 24), (24, .iastore, 25), (25, .iinc 2 (Int.ofNat 1), 28), (28, .goto (Int.ofNat 2), 31), (31, .return_, 32)]]
abbrev m_Gr_takeLabels : Nat := 31
def ah_Gr_takeLabels : List (Nat × Nat × Nat × Nat × Nat × Nat) := []
def at_Gr_borderOf : am_T := [[(0, .ldc 0, 1), (1, .istore 2, 2), (2, .ldc 0, 3), (3, .istore 3, 4), (4, .iload 3, 5), (5, .aload 0, 6), (6, .getfield 129, 9), (9, .if_icmp .ge (Int.ofNat 47), 12), (12, .iload 1, 13), (13, .aload 0, 14), (14, .getstatic 133, 17)], [(17, .iload 3, 18), (18, .iaload, 19), (19, .ishr, 20), (20, .ldc 1, 21), (21, .iand, 22), (22, .iload 1, 23), (23, .aload 0, 24), (24, .getstatic 134, 27), (27, .iload 3, 28), (28, .iaload, 29), (29, .ishr, 30), (30, .ldc 1, 31), (31, .iand, 32)], [(32, .if_icmp .eq (Int.ofNat 41), 35), (35, .iload 2, 36), (36, .ldc 1, 37), (37, .iload 3, 38), (38, .ishl, 39), (39, .ior, 40), (40, .istore 2, 41), (41, .iinc 3 (Int.ofNat 1), 44), (44, .goto (Int.ofNat 4), 47), (47, .iload 2, 48)], [(48, .ireturn, 49)]]
abbrev m_Gr_borderOf : Nat := 32
def ah_Gr_borderOf : List (Nat × Nat × Nat × Nat × Nat × Nat) := []
def at_Gr_costOfEdges : am_T := [[(0, .ldc 0, 1), (1, .istore 2, 2), (2, .ldc 0, 3), (3, .istore 3, 4), (4, .iload 3, 5), (5, .aload 0, 6), (6, .getfield 129, 9), (9, .if_icmp .ge (Int.ofNat 35), 12), (12, .iload 1, 13), (13, .iload 3, 14), (14, .ishr, 15), (15, .ldc 1, 16)], [(16, .iand, 17), (17, .ifCond .eq (Int.ofNat 29), 20), (20, .iload 2, 21), (21, .aload 0, 22), (22, .getstatic 136, 25), (25, .iload 3, 26), (26, .iaload, 27), (27, .iadd, 28), (28, .istore 2, 29), (29, .iinc 3 (Int.ofNat 1), 32)], [(32, .goto (Int.ofNat 4), 35), (35, .iload 2, 36), (36, .ireturn, 37)]]
abbrev m_Gr_costOfEdges : Nat := 33
def ah_Gr_costOfEdges : List (Nat × Nat × Nat × Nat × Nat × Nat) := []
def at_Gr_costOfSet : am_T := [[(0, .aload 0, 1), (1, .aload 0, 2), (2, .iload 1, 3), (3, .invokevirtual 16897, 6), (6, .invokevirtual 16913, 9), (9, .ireturn, 10)]]
abbrev m_Gr_costOfSet : Nat := 34
def ah_Gr_costOfSet : List (Nat × Nat × Nat × Nat × Nat × Nat) := []
def at_Gr_presentCut : am_T := [[(0, .ldc 0, 1), (1, .istore 1, 2), (2, .ldc 0, 3), (3, .istore 2, 4), (4, .iload 2, 5), (5, .aload 0, 6), (6, .getfield 129, 9), (9, .if_icmp .ge (Int.ofNat 49), 12), (12, .aload 0, 13), (13, .getstatic 132, 16)], [(16, .aload 0, 17), (17, .getstatic 133, 20), (20, .iload 2, 21), (21, .iaload, 22), (22, .iaload, 23), (23, .aload 0, 24), (24, .getstatic 132, 27), (27, .aload 0, 28), (28, .getstatic 134, 31), (31, .iload 2, 32)], [(32, .iaload, 33), (33, .iaload, 34), (34, .if_icmp .eq (Int.ofNat 43), 37), (37, .iload 1, 38), (38, .ldc 1, 39), (39, .iload 2, 40), (40, .ishl, 41), (41, .ior, 42), (42, .istore 1, 43), (43, .iinc 2 (Int.ofNat 1), 46), (46, .goto (Int.ofNat 4), 49)], [(49, .iload 1, 50), (50, .ireturn, 51)]]
abbrev m_Gr_presentCut : Nat := 35
def ah_Gr_presentCut : List (Nat × Nat × Nat × Nat × Nat × Nat) := []
def at_Gr_presentCost : am_T := [[(0, .aload 0, 1), (1, .aload 0, 2), (2, .invokevirtual 16944, 5), (5, .invokevirtual 16913, 8), (8, .ireturn, 9)]]
abbrev m_Gr_presentCost : Nat := 36
def ah_Gr_presentCost : List (Nat × Nat × Nat × Nat × Nat × Nat) := []
def at_Gp_init : am_T := [[(0, .aload 0, 1), (1, .pop2, 4), (4, .aload 0, 5), (5, .ldc 9, 7), (7, .anewarray 2, 9), (9, .checkcast 193, 12), (12, .return_, 13)]]
abbrev m_Gp_init : Nat := 37
def ah_Gp_init : List (Nat × Nat × Nat × Nat × Nat × Nat) := []
def at_Gp_run : am_T := [[(0, .aload 0, 1), (1, .ldc 0, 2), (2, .putfield 192, 5), (5, .ldc 0, 6), (6, .istore 2, 7), (7, .iload 2, 8), (8, .ldc 9, 10), (10, .if_icmp .ge (Int.ofNat 40), 13), (13, .aload 0, 14), (14, .getstatic 193, 17)], [(17, .iload 2, 18), (18, .aload 1, 19), (19, .iload 2, 20), (20, .invokevirtual 16721, 23), (23, .ifCond .eq (Int.ofNat 32), 26), (26, .ldc 1, 27), (27, .iload 2, 28), (28, .ishl, 29), (29, .goto (Int.ofNat 33), 32)], [(32, .ldc 0, 33), (33, .iastore, 34), (34, .iinc 2 (Int.ofNat 1), 37), (37, .goto (Int.ofNat 7), 40), (40, .aload 1, 41), (41, .getfield 130, 44), (44, .ifCond .eq (Int.ofNat 51), 47), (47, .ldc 1, 48)], [(48, .goto (Int.ofNat 52), 51), (51, .ldc 0, 52), (52, .istore 2, 53), (53, .iload 2, 54), (54, .ifCond .eq (Int.ofNat 85), 57), (57, .aload 0, 58), (58, .getfield 192, 61), (61, .ldc 9, 63), (63, .if_icmp .ge (Int.ofNat 85), 66)], [(66, .aload 0, 67), (67, .aload 1, 68), (68, .invokevirtual 25201, 71), (71, .istore 2, 72), (72, .aload 0, 73), (73, .dup, 74), (74, .getfield 192, 77), (77, .ldc 1, 78), (78, .iadd, 79), (79, .putfield 192, 82)], [(82, .goto (Int.ofNat 53), 85), (85, .return_, 86)]]
abbrev m_Gp_run : Nat := 38
def ah_Gp_run : List (Nat × Nat × Nat × Nat × Nat × Nat) := []
def at_Gp_makeRound : am_T := [[(0, .ldc 0, 1), (1, .istore 2, 2), (2, .ldc 0, 3), (3, .istore 3, 4), (4, .iload 3, 5), (5, .aload 1, 6), (6, .getfield 128, 9), (9, .if_icmp .ge (Int.ofNat 86), 12), (12, .aload 1, 13), (13, .iload 3, 14), (14, .invokevirtual 16721, 17)], [(17, .ifCond .ne (Int.ofNat 23), 20), (20, .goto (Int.ofNat 80), 23), (23, .aload 1, 24), (24, .invokevirtual 16736, 27), (27, .aload 0, 28), (28, .invokevirtual 25216, 31), (31, .ldc_w 1, 32)], [(32, .ixor, 33), (33, .iand, 34), (34, .istore 4, 36), (36, .aload 1, 37), (37, .aload 0, 38), (38, .getstatic 193, 41), (41, .iload 3, 42), (42, .iaload, 43), (43, .iload 4, 45), (45, .ldc 1, 46), (46, .invokestatic 36, 49)], [(49, .istore 5, 51), (51, .iload 2, 52), (52, .ifCond .ne (Int.ofNat 66), 55), (55, .iload 5, 57), (57, .aload 0, 58), (58, .getstatic 193, 61), (61, .iload 3, 62), (62, .iaload, 63), (63, .if_icmp .eq (Int.ofNat 70), 66)], [(66, .ldc 1, 67), (67, .goto (Int.ofNat 71), 70), (70, .ldc 0, 71), (71, .istore 2, 72), (72, .aload 0, 73), (73, .getstatic 193, 76), (76, .iload 3, 77), (77, .iload 5, 79), (79, .iastore, 80)], [(80, .iinc 3 (Int.ofNat 1), 83), (83, .goto (Int.ofNat 4), 86), (86, .iload 2, 87), (87, .areturn, 88)]]
abbrev m_Gp_makeRound : Nat := 39
def ah_Gp_makeRound : List (Nat × Nat × Nat × Nat × Nat × Nat) := []
def at_Gp_grouped : am_T := [[(0, .ldc 0, 1), (1, .istore 1, 2), (2, .ldc 0, 3), (3, .istore 2, 4), (4, .iload 2, 5), (5, .ldc 9, 7), (7, .if_icmp .ge (Int.ofNat 25), 10), (10, .iload 1, 11), (11, .aload 0, 12), (12, .getstatic 193, 15), (15, .iload 2, 16)], [(16, .iaload, 17), (17, .ior, 18), (18, .istore 1, 19), (19, .iinc 2 (Int.ofNat 1), 22), (22, .goto (Int.ofNat 4), 25), (25, .iload 1, 26), (26, .ireturn, 27)]]
abbrev m_Gp_grouped : Nat := 40
def ah_Gp_grouped : List (Nat × Nat × Nat × Nat × Nat × Nat) := []
def at_Gp_ownerOf : am_T := [[(0, .ldc 0, 1), (1, .istore 2, 2), (2, .iload 2, 3), (3, .ldc 9, 5), (5, .if_icmp .ge (Int.ofNat 29), 8), (8, .aload 0, 9), (9, .getstatic 193, 12), (12, .iload 2, 13), (13, .iaload, 14), (14, .iload 1, 15), (15, .ishr, 16)], [(16, .ldc 1, 17), (17, .iand, 18), (18, .ifCond .eq (Int.ofNat 23), 21), (21, .iload 2, 22), (22, .ireturn, 23), (23, .iinc 2 (Int.ofNat 1), 26), (26, .goto (Int.ofNat 2), 29), (29, .ldc_w 1, 30), (30, .ireturn, 31)]]
abbrev m_Gp_ownerOf : Nat := 41
def ah_Gp_ownerOf : List (Nat × Nat × Nat × Nat × Nat × Nat) := []
def at_Hi_init : am_T := [[(0, .aload 0, 1), (1, .pop2, 4), (4, .aload 0, 5), (5, .ldc 8, 7), (7, .anewarray 6, 10), (10, .checkcast 256, 13), (13, .ldc 0, 14), (14, .istore 1, 15), (15, .iload 1, 16)], [(16, .ldc 8, 18), (18, .if_icmp .ge (Int.ofNat 40), 21), (21, .aload 0, 22), (22, .getstatic 256, 25), (25, .iload 1, 26), (26, .new 138, 29), (29, .dup, 30), (30, .invokevirtual 16656, 33)], [(33, .aastore, 34), (34, .iinc 1 (Int.ofNat 1), 37), (37, .goto (Int.ofNat 15), 40), (40, .return_, 41)]]
abbrev m_Hi_init : Nat := 42
def ah_Hi_init : List (Nat × Nat × Nat × Nat × Nat × Nat) := []
def at_Hi_save : am_T := [[(0, .aload 0, 1), (1, .getstatic 256, 4), (4, .aload 0, 5), (5, .getfield 257, 8), (8, .aaload, 9), (9, .aload 1, 10), (10, .invokevirtual 16689, 13), (13, .aload 0, 14), (14, .aload 0, 15), (15, .getfield 257, 18)], [(18, .ldc 1, 19), (19, .iadd, 20), (20, .ldc 8, 22), (22, .irem, 23), (23, .putfield 257, 26), (26, .aload 0, 27), (27, .ldc 8, 29), (29, .aload 0, 30), (30, .getfield 258, 33)], [(33, .ldc 1, 34), (34, .iadd, 35), (35, .dsub, 38), (38, .putfield 258, 41), (41, .return_, 42)]]
abbrev m_Hi_save : Nat := 43
def ah_Hi_save : List (Nat × Nat × Nat × Nat × Nat × Nat) := []
def at_Hi_restore : am_T := [[(0, .aload 0, 1), (1, .getfield 258, 4), (4, .ifCond .ne (Int.ofNat 9), 7), (7, .ldc_w 1, 8), (8, .ireturn, 9), (9, .aload 0, 10), (10, .aload 0, 11), (11, .getfield 257, 14), (14, .ldc 8, 16)], [(16, .iadd, 17), (17, .ldc 1, 18), (18, .isub, 19), (19, .ldc 8, 21), (21, .irem, 22), (22, .putfield 257, 25), (25, .aload 0, 26), (26, .dup, 27), (27, .getfield 258, 30), (30, .ldc 1, 31), (31, .isub, 32)], [(32, .putfield 258, 35), (35, .aload 1, 36), (36, .aload 0, 37), (37, .getstatic 256, 40), (40, .aload 0, 41), (41, .getfield 257, 44), (44, .aaload, 45), (45, .invokevirtual 16689, 48)], [(48, .aload 0, 49), (49, .getfield 258, 52), (52, .ireturn, 53)]]
abbrev m_Hi_restore : Nat := 44
def ah_Hi_restore : List (Nat × Nat × Nat × Nat × Nat × Nat) := []
def at_Mv_init : am_T := [[(0, .aload 0, 1), (1, .pop2, 4), (4, .return_, 5)]]
abbrev m_Mv_init : Nat := 45
def ah_Mv_init : List (Nat × Nat × Nat × Nat × Nat × Nat) := []
def at_Mv_run : am_T := [[(0, .aload 0, 1), (1, .ldc_w 1, 2), (2, .putfield 320, 5), (5, .aload 0, 6), (6, .ldc_w 1, 7), (7, .putfield 321, 10), (10, .aload 0, 11), (11, .ldc_w 1, 12), (12, .putfield 322, 15), (15, .ldc 0, 16)], [(16, .istore 2, 17), (17, .iload 2, 18), (18, .aload 1, 19), (19, .getfield 128, 22), (22, .if_icmp .ge (Int.ofNat 80), 25), (25, .ldc 0, 26), (26, .istore 3, 27), (27, .iload 3, 28), (28, .aload 1, 29), (29, .getfield 128, 32)], [(32, .if_icmp .ge (Int.ofNat 74), 35), (35, .aload 1, 36), (36, .iload 2, 37), (37, .invokevirtual 16721, 40), (40, .ifCond .ne (Int.ofNat 68), 43), (43, .aload 1, 44), (44, .iload 3, 45), (45, .invokevirtual 16721, 48)], [(48, .ifCond .eq (Int.ofNat 68), 51), (51, .aload 1, 52), (52, .getstatic 132, 55), (55, .iload 2, 56), (56, .iaload, 57), (57, .iload 3, 58), (58, .if_icmp .eq (Int.ofNat 68), 61), (61, .aload 0, 62), (62, .aload 1, 63), (63, .iload 2, 64)], [(64, .iload 3, 65), (65, .invokevirtual 41715, 68), (68, .iinc 3 (Int.ofNat 1), 71), (71, .goto (Int.ofNat 27), 74), (74, .iinc 2 (Int.ofNat 1), 77), (77, .goto (Int.ofNat 17), 80)], [(80, .return_, 81)]]
abbrev m_Mv_run : Nat := 46
def ah_Mv_run : List (Nat × Nat × Nat × Nat × Nat × Nat) := []
def at_Mv_consider : am_T := [[(0, .aload 1, 1), (1, .getstatic 132, 4), (4, .iload 2, 5), (5, .iaload, 6), (6, .istore 4, 8), (8, .aload 1, 9), (9, .getstatic 132, 12), (12, .iload 2, 13), (13, .iload 3, 14), (14, .iastore, 15), (15, .aload 1, 16)], [(16, .invokevirtual 16960, 19), (19, .istore 5, 21), (21, .aload 1, 22), (22, .getstatic 132, 25), (25, .iload 2, 26), (26, .iload 4, 28), (28, .iastore, 29), (29, .aload 0, 30), (30, .getfield 320, 33)], [(33, .ldc_w 1, 34), (34, .if_icmp .eq (Int.ofNat 46), 37), (37, .iload 5, 39), (39, .aload 0, 40), (40, .getfield 322, 43), (43, .if_icmp .ge (Int.ofNat 62), 46), (46, .aload 0, 47), (47, .iload 2, 48)], [(48, .putfield 320, 51), (51, .aload 0, 52), (52, .iload 3, 53), (53, .putfield 321, 56), (56, .aload 0, 57), (57, .iload 5, 59), (59, .putfield 322, 62), (62, .return_, 63)]]
abbrev m_Mv_consider : Nat := 47
def ah_Mv_consider : List (Nat × Nat × Nat × Nat × Nat × Nat) := []
def at_Mv_makeImprovement : am_T := [[(0, .aload 0, 1), (1, .aload 1, 2), (2, .invokevirtual 41697, 5), (5, .aload 0, 6), (6, .getfield 320, 9), (9, .ldc_w 1, 10), (10, .if_icmp .eq (Int.ofNat 24), 13), (13, .aload 0, 14), (14, .getfield 322, 17)], [(17, .aload 1, 18), (18, .invokevirtual 16960, 21), (21, .if_icmp .lt (Int.ofNat 26), 24), (24, .ldc 0, 25), (25, .areturn, 26), (26, .aload 1, 27), (27, .getstatic 132, 30), (30, .aload 0, 31), (31, .getfield 320, 34)], [(34, .aload 0, 35), (35, .getfield 321, 38), (38, .iastore, 39), (39, .ldc 1, 40), (40, .areturn, 41)]]
abbrev m_Mv_makeImprovement : Nat := 48
def ah_Mv_makeImprovement : List (Nat × Nat × Nat × Nat × Nat × Nat) := []
def at_Ne_init : am_T := [[(0, .aload 0, 1), (1, .pop2, 4), (4, .aload 0, 5), (5, .ldc 9, 7), (7, .anewarray 2, 9), (9, .checkcast 384, 12), (12, .aload 0, 13), (13, .ldc 9, 15), (15, .anewarray 2, 17)], [(17, .checkcast 385, 20), (20, .return_, 21)]]
abbrev m_Ne_init : Nat := 49
def ah_Ne_init : List (Nat × Nat × Nat × Nat × Nat × Nat) := []
def at_Ne_run : am_T := [[(0, .ldc 0, 1), (1, .istore 2, 2), (2, .iload 2, 3), (3, .ldc 9, 5), (5, .if_icmp .ge (Int.ofNat 50), 8), (8, .aload 1, 9), (9, .iload 2, 10), (10, .invokevirtual 16721, 13), (13, .istore 3, 14), (14, .aload 0, 15), (15, .getstatic 384, 18)], [(18, .iload 2, 19), (19, .iload 3, 20), (20, .ifCond .eq (Int.ofNat 27), 23), (23, .iload 2, 24), (24, .goto (Int.ofNat 28), 27), (27, .ldc_w 1, 28), (28, .iastore, 29), (29, .aload 0, 30), (30, .getstatic 385, 33)], [(33, .iload 2, 34), (34, .iload 3, 35), (35, .ifCond .eq (Int.ofNat 42), 38), (38, .ldc 0, 39), (39, .goto (Int.ofNat 43), 42), (42, .ldc_w 1, 43), (43, .iastore, 44), (44, .iinc 2 (Int.ofNat 1), 47), (47, .goto (Int.ofNat 2), 50)], [(50, .ldc 1, 51), (51, .istore 2, 52), (52, .iload 2, 53), (53, .aload 1, 54), (54, .getfield 128, 57), (57, .if_icmp .ge (Int.ofNat 124), 60), (60, .ldc 0, 61), (61, .istore 3, 62), (62, .iload 3, 63), (63, .aload 1, 64)], [(64, .getfield 129, 67), (67, .if_icmp .ge (Int.ofNat 118), 70), (70, .aload 0, 71), (71, .aload 1, 72), (72, .getstatic 133, 75), (75, .iload 3, 76), (76, .iaload, 77), (77, .aload 1, 78), (78, .getstatic 134, 81)], [(81, .iload 3, 82), (82, .iaload, 83), (83, .aload 1, 84), (84, .iload 3, 85), (85, .invokevirtual 16785, 88), (88, .invokevirtual 49971, 91), (91, .aload 0, 92), (92, .aload 1, 93), (93, .getstatic 134, 96)], [(96, .iload 3, 97), (97, .iaload, 98), (98, .aload 1, 99), (99, .getstatic 133, 102), (102, .iload 3, 103), (103, .iaload, 104), (104, .aload 1, 105), (105, .iload 3, 106), (106, .invokevirtual 16785, 109), (109, .invokevirtual 49971, 112)], [(112, .iinc 3 (Int.ofNat 1), 115), (115, .goto (Int.ofNat 62), 118), (118, .iinc 2 (Int.ofNat 1), 121), (121, .goto (Int.ofNat 52), 124), (124, .return_, 125)]]
abbrev m_Ne_run : Nat := 50
def ah_Ne_run : List (Nat × Nat × Nat × Nat × Nat × Nat) := []
def at_Ne_offer : am_T := [[(0, .aload 0, 1), (1, .getstatic 384, 4), (4, .iload 1, 5), (5, .iaload, 6), (6, .ldc_w 1, 7), (7, .if_icmp .ne (Int.ofNat 11), 10), (10, .return_, 11), (11, .aload 0, 12), (12, .getstatic 385, 15), (15, .iload 1, 16)], [(16, .iaload, 17), (17, .iload 3, 18), (18, .iadd, 19), (19, .istore 4, 21), (21, .aload 0, 22), (22, .getstatic 384, 25), (25, .iload 2, 26), (26, .iaload, 27), (27, .ldc_w 1, 28), (28, .if_icmp .eq (Int.ofNat 42), 31), (31, .iload 4, 33)], [(33, .aload 0, 34), (34, .getstatic 385, 37), (37, .iload 2, 38), (38, .iaload, 39), (39, .if_icmp .ge (Int.ofNat 46), 42), (42, .ldc 1, 43), (43, .goto (Int.ofNat 47), 46), (46, .ldc 0, 47), (47, .istore 5, 49)], [(49, .iload 5, 51), (51, .ifCond .ne (Int.ofNat 80), 54), (54, .iload 4, 56), (56, .aload 0, 57), (57, .getstatic 385, 60), (60, .iload 2, 61), (61, .iaload, 62), (62, .if_icmp .ne (Int.ofNat 100), 65)], [(65, .aload 0, 66), (66, .getstatic 384, 69), (69, .iload 1, 70), (70, .iaload, 71), (71, .aload 0, 72), (72, .getstatic 384, 75), (75, .iload 2, 76), (76, .iaload, 77), (77, .if_icmp .ge (Int.ofNat 100), 80)], [(80, .aload 0, 81), (81, .getstatic 384, 84), (84, .iload 2, 85), (85, .aload 0, 86), (86, .getstatic 384, 89), (89, .iload 1, 90), (90, .iaload, 91), (91, .iastore, 92), (92, .aload 0, 93), (93, .getstatic 385, 96)], [(96, .iload 2, 97), (97, .iload 4, 99), (99, .iastore, 100), (100, .return_, 101)]]
abbrev m_Ne_offer : Nat := 51
def ah_Ne_offer : List (Nat × Nat × Nat × Nat × Nat × Nat) := []
def at_Rd_init : am_T := [[(0, .aload 0, 1), (1, .pop2, 4), (4, .aload 0, 5), (5, .new 138, 8), (8, .dup, 9), (9, .invokevirtual 16656, 12), (12, .checkcast 448, 15), (15, .aload 0, 16)], [(16, .ldc 0, 17), (17, .anewarray 3, 19), (19, .checkcast 451, 22), (22, .aload 0, 23), (23, .ldc 700, 26), (26, .anewarray 2, 28), (28, .checkcast 459, 31), (31, .return_, 32)]]
abbrev m_Rd_init : Nat := 52
def ah_Rd_init : List (Nat × Nat × Nat × Nat × Nat × Nat) := []
def at_Rd_read : am_T := [[(0, .aload 0, 1), (1, .getstatic 448, 4), (4, .invokevirtual 16672, 7), (7, .aload 0, 8), (8, .aload 1, 9), (9, .checkcast 451, 12), (12, .aload 0, 13), (13, .iload 2, 14), (14, .aload 1, 15), (15, .arraylength, 16)], [(16, .dsub, 19), (19, .putfield 452, 22), (22, .aload 0, 23), (23, .ldc 0, 24), (24, .putfield 455, 27), (27, .aload 0, 28), (28, .ldc 0, 29), (29, .putfield 457, 32)], [(32, .aload 0, 33), (33, .ldc 0, 34), (34, .putstatic 458, 37), (37, .aload 0, 38), (38, .ldc 0, 39), (39, .putfield 460, 42), (42, .aload 0, 43), (43, .invokevirtual 58464, 46), (46, .aload 0, 47), (47, .invokevirtual 58224, 50)], [(50, .istore 3, 51), (51, .ldc 0, 52), (52, .istore 4, 54), (54, .iload 3, 55), (55, .ifCond .eq (Int.ofNat 105), 58), (58, .aload 0, 59), (59, .getfield 453, 62), (62, .ldc 1000, 65)], [(65, .if_icmp .eq (Int.ofNat 105), 68), (68, .iload 4, 70), (70, .aload 0, 71), (71, .getfield 452, 74), (74, .if_icmp .ge (Int.ofNat 105), 77), (77, .aload 0, 78), (78, .invokevirtual 58240, 81)], [(81, .ifCond .eq (Int.ofNat 97), 84), (84, .aload 0, 85), (85, .ldc 59, 87), (87, .invokevirtual 58385, 90), (90, .ifCond .eq (Int.ofNat 97), 93), (93, .ldc 1, 94), (94, .goto (Int.ofNat 98), 97)], [(97, .ldc 0, 98), (98, .istore 3, 99), (99, .iinc 4 (Int.ofNat 1), 102), (102, .goto (Int.ofNat 54), 105), (105, .iload 3, 106), (106, .ifCond .eq (Int.ofNat 113), 109), (109, .aload 0, 110), (110, .invokevirtual 58208, 113)], [(113, .iload 3, 114), (114, .areturn, 115)]]
abbrev m_Rd_read : Nat := 53
def ah_Rd_read : List (Nat × Nat × Nat × Nat × Nat × Nat) := []
def at_Rd_finish : am_T := [[(0, .aload 0, 1), (1, .getfield 458, 4), (4, .ifCond .eq (Int.ofNat 32), 7), (7, .aload 0, 8), (8, .getstatic 448, 11), (11, .new 66, 14), (14, .dup, 15), (15, .aload 0, 16)], [(16, .getstatic 459, 19), (19, .aload 0, 20), (20, .getfield 460, 23), (23, .invokestatic 3490, 26), (26, .invokevirtual 8401, 29), (29, .checkcast 137, 32)], [(32, .ldc 0, 33), (33, .istore 1, 34), (34, .iload 1, 35), (35, .aload 0, 36), (36, .getstatic 448, 39), (39, .getfield 128, 42), (42, .if_icmp .ge (Int.ofNat 76), 45), (45, .aload 0, 46), (46, .getstatic 448, 49)], [(49, .getstatic 132, 52), (52, .iload 1, 53), (53, .aload 0, 54), (54, .getstatic 448, 57), (57, .iload 1, 58), (58, .invokevirtual 16721, 61), (61, .ifCond .eq (Int.ofNat 68), 64)], [(64, .iload 1, 65), (65, .goto (Int.ofNat 69), 68), (68, .ldc_w 1, 69), (69, .iastore, 70), (70, .iinc 1 (Int.ofNat 1), 73), (73, .goto (Int.ofNat 34), 76), (76, .ldc 0, 77), (77, .istore 1, 78), (78, .iload 1, 79), (79, .aload 0, 80)], [(80, .getstatic 448, 83), (83, .getfield 129, 86), (86, .if_icmp .ge (Int.ofNat 103), 89), (89, .aload 0, 90), (90, .getstatic 448, 93), (93, .iload 1, 94), (94, .invokevirtual 16817, 97)], [(97, .iinc 1 (Int.ofNat 1), 100), (100, .goto (Int.ofNat 78), 103), (103, .return_, 104)]]
abbrev m_Rd_finish : Nat := 54
def ah_Rd_finish : List (Nat × Nat × Nat × Nat × Nat × Nat) := []
def at_Rd_readGraph : am_T := [[(0, .aload 0, 1), (1, .invokeinterface 0 0, 3), (3, .invokevirtual 58433, 6), (6, .ifCond .ne (Int.ofNat 16), 9), (9, .aload 0, 10), (10, .ldc_w 2, 12), (12, .invokevirtual 58449, 15), (15, .areturn, 16)], [(16, .aload 0, 17), (17, .invokevirtual 58464, 20), (20, .aload 0, 21), (21, .ldc 2, 22), (22, .ldc 9, 24), (24, .invokevirtual 58418, 27), (27, .istore 1, 28), (28, .iload 1, 29), (29, .ifCond .ge (Int.ofNat 34), 32)], [(32, .ldc 0, 33), (33, .areturn, 34), (34, .aload 0, 35), (35, .getstatic 448, 38), (38, .iload 1, 39), (39, .putfield 128, 42), (42, .aload 0, 43), (43, .invokevirtual 58464, 46), (46, .aload 0, 47), (47, .ldc 59, 49)], [(49, .invokevirtual 58385, 52), (52, .areturn, 53)]]
abbrev m_Rd_readGraph : Nat := 55
def ah_Rd_readGraph : List (Nat × Nat × Nat × Nat × Nat × Nat) := []
def at_Rd_readStatement : am_T := [[(0, .aload 0, 1), (1, .invokeinterface 1 0, 3), (3, .invokevirtual 58433, 6), (6, .ifCond .eq (Int.ofNat 14), 9), (9, .aload 0, 10), (10, .invokevirtual 58256, 13), (13, .areturn, 14), (14, .aload 0, 15), (15, .invokeinterface 2 0, 17)], [(17, .invokevirtual 58433, 20), (20, .ifCond .eq (Int.ofNat 28), 23), (23, .aload 0, 24), (24, .invokevirtual 58272, 27), (27, .areturn, 28), (28, .aload 0, 29), (29, .invokeinterface 3 0, 31), (31, .invokevirtual 58433, 34)], [(34, .ifCond .eq (Int.ofNat 42), 37), (37, .aload 0, 38), (38, .invokevirtual 58288, 41), (41, .areturn, 42), (42, .aload 0, 43), (43, .invokeinterface 4 0, 45), (45, .invokevirtual 58433, 48)], [(48, .ifCond .eq (Int.ofNat 72), 51), (51, .aload 0, 52), (52, .invokevirtual 58304, 55), (55, .ifCond .eq (Int.ofNat 70), 58), (58, .aload 0, 59), (59, .ldc 0, 60), (60, .invokevirtual 58321, 63), (63, .ifCond .eq (Int.ofNat 70), 66)], [(66, .ldc 1, 67), (67, .goto (Int.ofNat 71), 70), (70, .ldc 0, 71), (71, .areturn, 72), (72, .aload 0, 73), (73, .ldc_w 2, 75), (75, .invokevirtual 58449, 78), (78, .areturn, 79)]]
abbrev m_Rd_readStatement : Nat := 56
def ah_Rd_readStatement : List (Nat × Nat × Nat × Nat × Nat × Nat) := []
def at_Rd_readTerminal : am_T := [[(0, .aload 0, 1), (1, .getstatic 448, 4), (4, .getfield 130, 7), (7, .invokestatic 3457, 10), (10, .ldc 5, 11), (11, .if_icmp .lt (Int.ofNat 21), 14), (14, .aload 0, 15), (15, .ldc_w 5, 17)], [(17, .invokevirtual 58449, 20), (20, .areturn, 21), (21, .aload 0, 22), (22, .invokevirtual 58464, 25), (25, .aload 0, 26), (26, .invokevirtual 58400, 29), (29, .istore 1, 30), (30, .iload 1, 31), (31, .ifCond .ge (Int.ofNat 36), 34)], [(34, .ldc 0, 35), (35, .areturn, 36), (36, .aload 0, 37), (37, .getstatic 448, 40), (40, .iload 1, 41), (41, .invokevirtual 16721, 44), (44, .ifCond .eq (Int.ofNat 54), 47), (47, .aload 0, 48)], [(48, .ldc_w 4, 50), (50, .invokevirtual 58449, 53), (53, .areturn, 54), (54, .aload 0, 55), (55, .getstatic 448, 58), (58, .dup, 59), (59, .getfield 130, 62), (62, .ldc 1, 63), (63, .iload 1, 64)], [(64, .ishl, 65), (65, .ior, 66), (66, .putfield 130, 69), (69, .aload 0, 70), (70, .invokevirtual 58464, 73), (73, .ldc 1, 74), (74, .areturn, 75)]]
abbrev m_Rd_readTerminal : Nat := 57
def ah_Rd_readTerminal : List (Nat × Nat × Nat × Nat × Nat × Nat) := []
def at_Rd_readEdge : am_T := [[(0, .aload 0, 1), (1, .getstatic 448, 4), (4, .getfield 129, 7), (7, .ldc 20, 9), (9, .if_icmp .lt (Int.ofNat 19), 12), (12, .aload 0, 13), (13, .ldc_w 5, 15), (15, .invokevirtual 58449, 18)], [(18, .areturn, 19), (19, .aload 0, 20), (20, .invokevirtual 58464, 23), (23, .aload 0, 24), (24, .invokevirtual 58400, 27), (27, .istore 1, 28), (28, .iload 1, 29), (29, .ifCond .ge (Int.ofNat 34), 32)], [(32, .ldc 0, 33), (33, .areturn, 34), (34, .aload 0, 35), (35, .invokevirtual 58464, 38), (38, .aload 0, 39), (39, .invokevirtual 58400, 42), (42, .istore 2, 43), (43, .iload 2, 44), (44, .ifCond .ge (Int.ofNat 49), 47), (47, .ldc 0, 48)], [(48, .areturn, 49), (49, .iload 1, 50), (50, .iload 2, 51), (51, .if_icmp .eq (Int.ofNat 66), 54), (54, .aload 0, 55), (55, .getstatic 448, 58), (58, .iload 1, 59), (59, .iload 2, 60), (60, .invokevirtual 16754, 63), (63, .ifCond .eq (Int.ofNat 73), 66)], [(66, .aload 0, 67), (67, .ldc_w 4, 69), (69, .invokevirtual 58449, 72), (72, .areturn, 73), (73, .aload 0, 74), (74, .invokevirtual 58464, 77), (77, .aload 0, 78), (78, .ldc 1, 79), (79, .ldc 99, 81)], [(81, .invokevirtual 58418, 84), (84, .istore 3, 85), (85, .iload 3, 86), (86, .ifCond .ge (Int.ofNat 91), 89), (89, .ldc 0, 90), (90, .areturn, 91), (91, .aload 0, 92), (92, .getstatic 448, 95), (95, .iload 1, 96)], [(96, .iload 2, 97), (97, .iload 3, 98), (98, .invokevirtual 16803, 101), (101, .aload 0, 102), (102, .invokevirtual 58464, 105), (105, .ldc 1, 106), (106, .areturn, 107)]]
abbrev m_Rd_readEdge : Nat := 58
def ah_Rd_readEdge : List (Nat × Nat × Nat × Nat × Nat × Nat) := []
def at_Rd_readLoad : am_T := [[(0, .aload 0, 1), (1, .invokevirtual 58464, 4), (4, .aload 0, 5), (5, .invokevirtual 58400, 8), (8, .istore 1, 9), (9, .iload 1, 10), (10, .ifCond .ge (Int.ofNat 15), 13), (13, .ldc 0, 14), (14, .areturn, 15), (15, .aload 0, 16)], [(16, .getfield 457, 19), (19, .iload 1, 20), (20, .ishr, 21), (21, .ldc 1, 22), (22, .iand, 23), (23, .ifCond .eq (Int.ofNat 33), 26), (26, .aload 0, 27), (27, .ldc_w 4, 29), (29, .invokevirtual 58449, 32)], [(32, .areturn, 33), (33, .aload 0, 34), (34, .dup, 35), (35, .getfield 457, 38), (38, .ldc 1, 39), (39, .iload 1, 40), (40, .ishl, 41), (41, .ior, 42), (42, .putfield 457, 45), (45, .aload 0, 46), (46, .invokevirtual 58464, 49)], [(49, .aload 0, 50), (50, .ldc 0, 51), (51, .ldc 99, 53), (53, .invokevirtual 58418, 56), (56, .istore 2, 57), (57, .iload 2, 58), (58, .ifCond .ge (Int.ofNat 63), 61), (61, .ldc 0, 62), (62, .areturn, 63), (63, .aload 0, 64)], [(64, .getstatic 448, 67), (67, .getstatic 131, 70), (70, .iload 1, 71), (71, .iload 2, 72), (72, .iastore, 73), (73, .aload 0, 74), (74, .invokevirtual 58464, 77), (77, .ldc 1, 78), (78, .areturn, 79)]]
abbrev m_Rd_readLoad : Nat := 59
def ah_Rd_readLoad : List (Nat × Nat × Nat × Nat × Nat × Nat) := []
def at_Rd_startCost : am_T := [[(0, .aload 0, 1), (1, .getfield 458, 4), (4, .ifCond .eq (Int.ofNat 14), 7), (7, .aload 0, 8), (8, .ldc_w 2, 10), (10, .invokevirtual 58449, 13), (13, .areturn, 14), (14, .aload 0, 15), (15, .ldc 1, 16)], [(16, .putstatic 458, 19), (19, .aload 0, 20), (20, .invokevirtual 58464, 23), (23, .ldc 1, 24), (24, .areturn, 25)]]
abbrev m_Rd_startCost : Nat := 60
def ah_Rd_startCost : List (Nat × Nat × Nat × Nat × Nat × Nat) := []
def at_Rd_readSum : am_T := [[(0, .aload 0, 1), (1, .iload 1, 2), (2, .invokevirtual 58337, 5), (5, .istore 2, 6), (6, .ldc 0, 7), (7, .istore 3, 8), (8, .iload 2, 9), (9, .ifCond .eq (Int.ofNat 78), 12), (12, .aload 0, 13), (13, .getfield 453, 16)], [(16, .ldc 43, 18), (18, .if_icmp .eq (Int.ofNat 30), 21), (21, .aload 0, 22), (22, .getfield 453, 25), (25, .ldc 45, 27), (27, .if_icmp .ne (Int.ofNat 78), 30), (30, .iload 3, 31), (31, .aload 0, 32)], [(32, .getfield 452, 35), (35, .if_icmp .ge (Int.ofNat 78), 38), (38, .aload 0, 39), (39, .getfield 453, 42), (42, .ldc 43, 44), (44, .if_icmp .ne (Int.ofNat 52), 47), (47, .ldc_w 4, 49)], [(49, .goto (Int.ofNat 54), 52), (52, .ldc_w 5, 54), (54, .istore 4, 56), (56, .aload 0, 57), (57, .invokevirtual 58464, 60), (60, .aload 0, 61), (61, .iload 1, 62), (62, .invokevirtual 58337, 65)], [(65, .istore 2, 66), (66, .aload 0, 67), (67, .iload 4, 69), (69, .invokevirtual 58369, 72), (72, .iinc 3 (Int.ofNat 1), 75), (75, .goto (Int.ofNat 8), 78), (78, .iload 2, 79), (79, .areturn, 80)]]
abbrev m_Rd_readSum : Nat := 61
def ah_Rd_readSum : List (Nat × Nat × Nat × Nat × Nat × Nat) := []
def at_Rd_readTerm : am_T := [[(0, .aload 0, 1), (1, .iload 1, 2), (2, .invokevirtual 58353, 5), (5, .istore 2, 6), (6, .ldc 0, 7), (7, .istore 3, 8), (8, .iload 2, 9), (9, .ifCond .eq (Int.ofNat 78), 12), (12, .aload 0, 13), (13, .getfield 453, 16)], [(16, .ldc 42, 18), (18, .if_icmp .eq (Int.ofNat 30), 21), (21, .aload 0, 22), (22, .getfield 453, 25), (25, .ldc 47, 27), (27, .if_icmp .ne (Int.ofNat 78), 30), (30, .iload 3, 31), (31, .aload 0, 32)], [(32, .getfield 452, 35), (35, .if_icmp .ge (Int.ofNat 78), 38), (38, .aload 0, 39), (39, .getfield 453, 42), (42, .ldc 42, 44), (44, .if_icmp .ne (Int.ofNat 52), 47), (47, .ldc_w 6, 49)], [(49, .goto (Int.ofNat 54), 52), (52, .ldc_w 7, 54), (54, .istore 4, 56), (56, .aload 0, 57), (57, .invokevirtual 58464, 60), (60, .aload 0, 61), (61, .iload 1, 62), (62, .invokevirtual 58353, 65)], [(65, .istore 2, 66), (66, .aload 0, 67), (67, .iload 4, 69), (69, .invokevirtual 58369, 72), (72, .iinc 3 (Int.ofNat 1), 75), (75, .goto (Int.ofNat 8), 78), (78, .iload 2, 79), (79, .areturn, 80)]]
abbrev m_Rd_readTerm : Nat := 62
def ah_Rd_readTerm : List (Nat × Nat × Nat × Nat × Nat × Nat) := []
def at_Rd_readFactor : am_T := [[(0, .aload 0, 1), (1, .getfield 453, 4), (4, .ldc 40, 6), (6, .if_icmp .ne (Int.ofNat 50), 9), (9, .iload 1, 10), (10, .ldc 4, 11), (11, .if_icmp .lt (Int.ofNat 21), 14), (14, .aload 0, 15), (15, .ldc_w 6, 17)], [(17, .invokevirtual 58449, 20), (20, .areturn, 21), (21, .aload 0, 22), (22, .invokevirtual 58464, 25), (25, .aload 0, 26), (26, .iload 1, 27), (27, .ldc 1, 28), (28, .iadd, 29), (29, .invokevirtual 58321, 32)], [(32, .ifCond .eq (Int.ofNat 48), 35), (35, .aload 0, 36), (36, .ldc 41, 38), (38, .invokevirtual 58385, 41), (41, .ifCond .eq (Int.ofNat 48), 44), (44, .ldc 1, 45), (45, .goto (Int.ofNat 49), 48)], [(48, .ldc 0, 49), (49, .areturn, 50), (50, .aload 0, 51), (51, .getfield 453, 54), (54, .ldc 1001, 57), (57, .if_icmp .ne (Int.ofNat 83), 60), (60, .aload 0, 61), (61, .ldc 0, 62), (62, .ldc 9999, 65)], [(65, .invokevirtual 58418, 68), (68, .istore 2, 69), (69, .iload 2, 70), (70, .ifCond .ge (Int.ofNat 75), 73), (73, .ldc 0, 74), (74, .areturn, 75), (75, .aload 0, 76), (76, .iload 2, 77), (77, .invokevirtual 58369, 80)], [(80, .goto (Int.ofNat 143), 83), (83, .aload 0, 84), (84, .invokeinterface 5 0, 86), (86, .invokevirtual 58433, 89), (89, .ifCond .eq (Int.ofNat 100), 92), (92, .aload 0, 93), (93, .ldc_w 1, 94), (94, .invokevirtual 58369, 97)], [(97, .goto (Int.ofNat 143), 100), (100, .aload 0, 101), (101, .invokeinterface 6 0, 103), (103, .invokevirtual 58433, 106), (106, .ifCond .eq (Int.ofNat 118), 109), (109, .aload 0, 110), (110, .ldc_w 2, 112)], [(112, .invokevirtual 58369, 115), (115, .goto (Int.ofNat 143), 118), (118, .aload 0, 119), (119, .invokeinterface 7 0, 121), (121, .invokevirtual 58433, 124), (124, .ifCond .eq (Int.ofNat 136), 127), (127, .aload 0, 128)], [(128, .ldc_w 3, 130), (130, .invokevirtual 58369, 133), (133, .goto (Int.ofNat 143), 136), (136, .aload 0, 137), (137, .ldc_w 2, 139), (139, .invokevirtual 58449, 142), (142, .areturn, 143), (143, .aload 0, 144)], [(144, .invokevirtual 58464, 147), (147, .ldc 1, 148), (148, .areturn, 149)]]
abbrev m_Rd_readFactor : Nat := 63
def ah_Rd_readFactor : List (Nat × Nat × Nat × Nat × Nat × Nat) := []
def at_Rd_putCode : am_T := [[(0, .aload 0, 1), (1, .getfield 460, 4), (4, .ldc 700, 7), (7, .if_icmp .ge (Int.ofNat 30), 10), (10, .aload 0, 11), (11, .getstatic 459, 14), (14, .aload 0, 15), (15, .getfield 460, 18)], [(18, .iload 1, 19), (19, .iastore, 20), (20, .aload 0, 21), (21, .dup, 22), (22, .getfield 460, 25), (25, .ldc 1, 26), (26, .iadd, 27), (27, .putfield 460, 30), (30, .return_, 31)]]
abbrev m_Rd_putCode : Nat := 64
def ah_Rd_putCode : List (Nat × Nat × Nat × Nat × Nat × Nat) := []
def at_Rd_readSymbol : am_T := [[(0, .aload 0, 1), (1, .getfield 453, 4), (4, .iload 1, 5), (5, .if_icmp .eq (Int.ofNat 15), 8), (8, .aload 0, 9), (9, .ldc_w 2, 11), (11, .invokevirtual 58449, 14), (14, .areturn, 15), (15, .aload 0, 16)], [(16, .invokevirtual 58464, 19), (19, .ldc 1, 20), (20, .areturn, 21)]]
abbrev m_Rd_readSymbol : Nat := 65
def ah_Rd_readSymbol : List (Nat × Nat × Nat × Nat × Nat × Nat) := []
def at_Rd_vertexHere : am_T := [[(0, .aload 0, 1), (1, .ldc 0, 2), (2, .aload 0, 3), (3, .getstatic 448, 6), (6, .getfield 128, 9), (9, .ldc 1, 10), (10, .isub, 11), (11, .invokevirtual 58418, 14), (14, .ireturn, 15)]]
abbrev m_Rd_vertexHere : Nat := 66
def ah_Rd_vertexHere : List (Nat × Nat × Nat × Nat × Nat × Nat) := []
def at_Rd_numberHere : am_T := [[(0, .aload 0, 1), (1, .getfield 453, 4), (4, .ldc 1001, 7), (7, .if_icmp .eq (Int.ofNat 19), 10), (10, .aload 0, 11), (11, .ldc_w 2, 13), (13, .invokevirtual 58449, 16)], [(16, .pop, 17), (17, .ldc_w 1, 18), (18, .ireturn, 19), (19, .aload 0, 20), (20, .getfield 456, 23), (23, .iload 1, 24), (24, .if_icmp .lt (Int.ofNat 35), 27), (27, .aload 0, 28), (28, .getfield 456, 31), (31, .iload 2, 32)], [(32, .if_icmp .le (Int.ofNat 44), 35), (35, .aload 0, 36), (36, .ldc_w 3, 38), (38, .invokevirtual 58449, 41), (41, .pop, 42), (42, .ldc_w 1, 43), (43, .ireturn, 44), (44, .aload 0, 45), (45, .getfield 456, 48)], [(48, .ireturn, 49)]]
abbrev m_Rd_numberHere : Nat := 67
def ah_Rd_numberHere : List (Nat × Nat × Nat × Nat × Nat × Nat) := []
def at_Rd_isWord : am_T := [[(0, .aload 0, 1), (1, .getfield 453, 4), (4, .ldc 1002, 7), (7, .if_icmp .ne (Int.ofNat 26), 10), (10, .aload 0, 11), (11, .getfield 455, 14), (14, .aload 0, 15), (15, .getfield 454, 18)], [(18, .isub, 19), (19, .aload 1, 20), (20, .monitorexit, 23), (23, .if_icmp .eq (Int.ofNat 28), 26), (26, .ldc 0, 27), (27, .areturn, 28), (28, .ldc 0, 29), (29, .istore 2, 30), (30, .iload 2, 31), (31, .aload 1, 32)], [(32, .monitorexit, 35), (35, .if_icmp .ge (Int.ofNat 65), 38), (38, .aload 0, 39), (39, .getstatic 451, 42), (42, .aload 0, 43), (43, .getfield 454, 46), (46, .iload 2, 47), (47, .iadd, 48)], [(48, .baload, 49), (49, .aload 1, 50), (50, .iload 2, 51), (51, .instanceof 0, 54), (54, .if_icmp .eq (Int.ofNat 59), 57), (57, .ldc 0, 58), (58, .areturn, 59), (59, .iinc 2 (Int.ofNat 1), 62), (62, .goto (Int.ofNat 30), 65)], [(65, .ldc 1, 66), (66, .areturn, 67)]]
abbrev m_Rd_isWord : Nat := 68
def ah_Rd_isWord : List (Nat × Nat × Nat × Nat × Nat × Nat) := []
def at_Rd_fail : am_T := [[(0, .aload 0, 1), (1, .iload 1, 2), (2, .putfield 449, 5), (5, .aload 0, 6), (6, .aload 0, 7), (7, .getfield 454, 10), (10, .putfield 450, 13), (13, .ldc 0, 14), (14, .areturn, 15)]]
abbrev m_Rd_fail : Nat := 69
def ah_Rd_fail : List (Nat × Nat × Nat × Nat × Nat × Nat) := []
def at_Rd_advance : am_T := [[(0, .aload 0, 1), (1, .getfield 455, 4), (4, .istore 1, 5), (5, .iload 1, 6), (6, .aload 0, 7), (7, .getfield 452, 10), (10, .if_icmp .ge (Int.ofNat 30), 13), (13, .aload 0, 14), (14, .getstatic 451, 17)], [(17, .iload 1, 18), (18, .baload, 19), (19, .ldc 32, 21), (21, .if_icmp .ne (Int.ofNat 30), 24), (24, .iinc 1 (Int.ofNat 1), 27), (27, .goto (Int.ofNat 5), 30), (30, .aload 0, 31), (31, .iload 1, 32)], [(32, .putfield 454, 35), (35, .aload 0, 36), (36, .ldc 0, 37), (37, .putfield 456, 40), (40, .iload 1, 41), (41, .aload 0, 42), (42, .getfield 452, 45), (45, .if_icmp .lt (Int.ofNat 58), 48)], [(48, .aload 0, 49), (49, .ldc 1000, 52), (52, .putfield 453, 55), (55, .goto (Int.ofNat 227), 58), (58, .aload 0, 59), (59, .getstatic 451, 62), (62, .iload 1, 63), (63, .baload, 64)], [(64, .ldc 48, 66), (66, .if_icmp .lt (Int.ofNat 149), 69), (69, .aload 0, 70), (70, .getstatic 451, 73), (73, .iload 1, 74), (74, .baload, 75), (75, .ldc 57, 77), (77, .if_icmp .gt (Int.ofNat 149), 80)], [(80, .aload 0, 81), (81, .ldc 1001, 84), (84, .putfield 453, 87), (87, .iload 1, 88), (88, .aload 0, 89), (89, .getfield 452, 92), (92, .if_icmp .ge (Int.ofNat 227), 95), (95, .aload 0, 96)], [(96, .getstatic 451, 99), (99, .iload 1, 100), (100, .baload, 101), (101, .ldc 48, 103), (103, .if_icmp .lt (Int.ofNat 227), 106), (106, .aload 0, 107), (107, .getstatic 451, 110), (110, .iload 1, 111), (111, .baload, 112)], [(112, .ldc 57, 114), (114, .if_icmp .gt (Int.ofNat 227), 117), (117, .aload 0, 118), (118, .ldc 100000, 120), (120, .ldc 10, 122), (122, .aload 0, 123), (123, .getfield 456, 126), (126, .imul, 127), (127, .aload 0, 128)], [(128, .getstatic 451, 131), (131, .iload 1, 132), (132, .baload, 133), (133, .iadd, 134), (134, .ldc 48, 136), (136, .isub, 137), (137, .dsub, 140), (140, .putfield 456, 143), (143, .iinc 1 (Int.ofNat 1), 146)], [(146, .goto (Int.ofNat 87), 149), (149, .aload 0, 150), (150, .getstatic 451, 153), (153, .iload 1, 154), (154, .baload, 155), (155, .ldc 97, 157), (157, .if_icmp .lt (Int.ofNat 214), 160)], [(160, .aload 0, 161), (161, .getstatic 451, 164), (164, .iload 1, 165), (165, .baload, 166), (166, .ldc 122, 168), (168, .if_icmp .gt (Int.ofNat 214), 171), (171, .aload 0, 172), (172, .ldc 1002, 175), (175, .putfield 453, 178)], [(178, .iload 1, 179), (179, .aload 0, 180), (180, .getfield 452, 183), (183, .if_icmp .ge (Int.ofNat 227), 186), (186, .aload 0, 187), (187, .getstatic 451, 190), (190, .iload 1, 191), (191, .baload, 192)], [(192, .ldc 97, 194), (194, .if_icmp .lt (Int.ofNat 227), 197), (197, .aload 0, 198), (198, .getstatic 451, 201), (201, .iload 1, 202), (202, .baload, 203), (203, .ldc 122, 205), (205, .if_icmp .gt (Int.ofNat 227), 208)], [(208, .iinc 1 (Int.ofNat 1), 211), (211, .goto (Int.ofNat 178), 214), (214, .aload 0, 215), (215, .aload 0, 216), (216, .getstatic 451, 219), (219, .iload 1, 220), (220, .baload, 221), (221, .putfield 453, 224)], [(224, .iinc 1 (Int.ofNat 1), 227), (227, .aload 0, 228), (228, .iload 1, 229), (229, .putfield 455, 232), (232, .return_, 233)]]
abbrev m_Rd_advance : Nat := 70
def ah_Rd_advance : List (Nat × Nat × Nat × Nat × Nat × Nat) := []
def at_Mc_init : am_T := [[(0, .aload 0, 1), (1, .pop2, 4), (4, .aload 0, 5), (5, .ldc 700, 8), (8, .anewarray 3, 10), (10, .checkcast 512, 13), (13, .aload 0, 14), (14, .ldc_w 1, 15), (15, .putfield 514, 18)], [(18, .aload 0, 19), (19, .new 138, 22), (22, .dup, 23), (23, .invokevirtual 16656, 26), (26, .checkcast 515, 29), (29, .aload 0, 30), (30, .new 259, 33)], [(33, .dup, 34), (34, .invokevirtual 33440, 37), (37, .checkcast 516, 40), (40, .aload 0, 41), (41, .new 461, 44), (44, .dup, 45), (45, .invokevirtual 58176, 48)], [(48, .checkcast 517, 51), (51, .aload 0, 52), (52, .new 194, 55), (55, .dup, 56), (56, .invokevirtual 25168, 59), (59, .checkcast 518, 62), (62, .aload 0, 63), (63, .new 3, 66)], [(66, .dup, 67), (67, .invokevirtual 144, 70), (70, .checkcast 519, 73), (73, .aload 0, 74), (74, .new 386, 77), (77, .dup, 78), (78, .invokevirtual 49936, 81)], [(81, .checkcast 520, 84), (84, .aload 0, 85), (85, .new 323, 88), (88, .dup, 89), (89, .invokevirtual 41680, 92), (92, .checkcast 521, 95), (95, .return_, 96)]]
abbrev m_Mc_init : Nat := 71
def ah_Mc_init : List (Nat × Nat × Nat × Nat × Nat × Nat) := []
def at_Mc_append : am_T := [[(0, .aload 0, 1), (1, .getfield 513, 4), (4, .ldc 680, 7), (7, .if_icmp .le (Int.ofNat 12), 10), (10, .ldc_w 1, 11), (11, .ireturn, 12), (12, .aload 0, 13), (13, .iload 1, 14), (14, .invokevirtual 66705, 17)], [(17, .aload 0, 18), (18, .iload 2, 19), (19, .invokevirtual 66705, 22), (22, .aload 0, 23), (23, .iload 3, 24), (24, .invokevirtual 66705, 27), (27, .aload 0, 28), (28, .iload 4, 30), (30, .invokevirtual 66705, 33)], [(33, .aload 0, 34), (34, .iload 5, 36), (36, .invokevirtual 66705, 39), (39, .aload 0, 40), (40, .getfield 513, 43), (43, .ireturn, 44)]]
abbrev m_Mc_append : Nat := 72
def ah_Mc_append : List (Nat × Nat × Nat × Nat × Nat × Nat) := []
def at_Mc_putWord : am_T := [[(0, .ldc 24, 2), (2, .istore 2, 3), (3, .iload 2, 4), (4, .ifCond .lt (Int.ofNat 46), 7), (7, .aload 0, 8), (8, .getfield 513, 11), (11, .ldc 700, 14), (14, .if_icmp .ge (Int.ofNat 46), 17)], [(17, .aload 0, 18), (18, .getstatic 512, 21), (21, .aload 0, 22), (22, .getfield 513, 25), (25, .iload 1, 26), (26, .iload 2, 27), (27, .ishr, 28), (28, .i2b, 29), (29, .bastore, 30), (30, .aload 0, 31), (31, .dup, 32)], [(32, .getfield 513, 35), (35, .ldc 1, 36), (36, .iadd, 37), (37, .putfield 513, 40), (40, .iinc 2 (Int.negSucc 7), 43), (43, .goto (Int.ofNat 3), 46), (46, .return_, 47)]]
abbrev m_Mc_putWord : Nat := 73
def ah_Mc_putWord : List (Nat × Nat × Nat × Nat × Nat × Nat) := []
def at_Mc_load : am_T := [[(0, .iload 1, 1), (1, .ifCond .lt (Int.ofNat 12), 4), (4, .iload 1, 5), (5, .aload 0, 6), (6, .getfield 513, 9), (9, .if_icmp .le (Int.ofNat 22), 12), (12, .jsr (Int.ofNat 1), 15)], [(22, .aload 0, 23), (23, .ldc 0, 24), (24, .putfield 513, 27), (27, .aload 0, 28), (28, .getstatic 517, 31), (31, .aload 0, 32)], [(32, .getstatic 512, 35), (35, .iload 1, 36), (36, .invokevirtual 58194, 39), (39, .istore 2, 40), (40, .aload 0, 41), (41, .iload 2, 42), (42, .ifCond .eq (Int.ofNat 49), 45), (45, .ldc_w 1, 46), (46, .goto (Int.ofNat 56), 49)], [(49, .aload 0, 50), (50, .getstatic 517, 53), (53, .getfield 450, 56), (56, .putfield 514, 59), (59, .iload 2, 60), (60, .ifCond .ne (Int.ofNat 71), 63), (63, .aload 0, 64)], [(64, .getstatic 517, 67), (67, .getfield 449, 70), (70, .ireturn, 71), (71, .aload 0, 72), (72, .getstatic 516, 75), (75, .aload 0, 76), (76, .getstatic 515, 79), (79, .invokevirtual 33457, 82)], [(82, .aload 0, 83), (83, .getstatic 515, 86), (86, .aload 0, 87), (87, .getstatic 517, 90), (90, .getstatic 448, 93), (93, .invokevirtual 16689, 96)], [(96, .aload 0, 97), (97, .getstatic 515, 100), (100, .getfield 129, 103), (103, .ireturn, 104)]]
abbrev m_Mc_load : Nat := 74
def ah_Mc_load : List (Nat × Nat × Nat × Nat × Nat × Nat) := []
def at_Mc_errorOffset : am_T := [[(0, .aload 0, 1), (1, .getfield 514, 4), (4, .ireturn, 5)]]
abbrev m_Mc_errorOffset : Nat := 75
def ah_Mc_errorOffset : List (Nat × Nat × Nat × Nat × Nat × Nat) := []
def at_Mc_size : am_T := [[(0, .aload 0, 1), (1, .getstatic 515, 4), (4, .getfield 128, 7), (7, .ireturn, 8)]]
abbrev m_Mc_size : Nat := 76
def ah_Mc_size : List (Nat × Nat × Nat × Nat × Nat × Nat) := []
def at_Mc_edgeCount : am_T := [[(0, .aload 0, 1), (1, .getstatic 515, 4), (4, .getfield 129, 7), (7, .ireturn, 8)]]
abbrev m_Mc_edgeCount : Nat := 77
def ah_Mc_edgeCount : List (Nat × Nat × Nat × Nat × Nat × Nat) := []
def at_Mc_terminals : am_T := [[(0, .aload 0, 1), (1, .getstatic 515, 4), (4, .getfield 130, 7), (7, .ireturn, 8)]]
abbrev m_Mc_terminals : Nat := 78
def ah_Mc_terminals : List (Nat × Nat × Nat × Nat × Nat × Nat) := []
def at_Mc_burden : am_T := [[(0, .aload 0, 1), (1, .iload 1, 2), (2, .invokevirtual 67345, 5), (5, .aload 0, 6), (6, .getstatic 515, 9), (9, .getstatic 131, 12), (12, .iload 1, 13), (13, .iaload, 14), (14, .ireturn, 15)]]
abbrev m_Mc_burden : Nat := 79
def ah_Mc_burden : List (Nat × Nat × Nat × Nat × Nat × Nat) := []
def at_Mc_edge : am_T := [[(0, .aload 0, 1), (1, .iload 1, 2), (2, .invokevirtual 67361, 5), (5, .iload 2, 6), (6, .ifCond .ne (Int.ofNat 19), 9), (9, .aload 0, 10), (10, .getstatic 515, 13), (13, .getstatic 133, 16)], [(16, .iload 1, 17), (17, .iaload, 18), (18, .ireturn, 19), (19, .iload 2, 20), (20, .ldc 1, 21), (21, .if_icmp .ne (Int.ofNat 34), 24), (24, .aload 0, 25), (25, .getstatic 515, 28), (28, .getstatic 134, 31), (31, .iload 1, 32)], [(32, .iaload, 33), (33, .ireturn, 34), (34, .iload 2, 35), (35, .ldc 2, 36), (36, .if_icmp .ne (Int.ofNat 49), 39), (39, .aload 0, 40), (40, .getstatic 515, 43), (43, .getstatic 135, 46), (46, .iload 1, 47), (47, .iaload, 48)], [(48, .ireturn, 49), (49, .iload 2, 50), (50, .ldc 3, 51), (51, .if_icmp .ne (Int.ofNat 64), 54), (54, .aload 0, 55), (55, .getstatic 515, 58), (58, .getstatic 136, 61), (61, .iload 1, 62), (62, .iaload, 63), (63, .ireturn, 64)], [(64, .iload 2, 65), (65, .ldc 4, 66), (66, .if_icmp .ne (Int.ofNat 78), 69), (69, .aload 0, 70), (70, .getstatic 515, 73), (73, .iload 1, 74), (74, .invokevirtual 16785, 77), (77, .ireturn, 78), (78, .jsr (Int.ofNat 1), 81)], []]
abbrev m_Mc_edge : Nat := 80
def ah_Mc_edge : List (Nat × Nat × Nat × Nat × Nat × Nat) := []
def at_Mc_cutCost : am_T := [[(0, .iload 1, 1), (1, .ifCond .lt (Int.ofNat 15), 4), (4, .iload 1, 5), (5, .aload 0, 6), (6, .getstatic 515, 9), (9, .invokevirtual 16736, 12), (12, .if_icmp .le (Int.ofNat 25), 15), (15, .jsr (Int.ofNat 1), 18)], [(25, .aload 0, 26), (26, .getstatic 515, 29), (29, .iload 1, 30), (30, .invokevirtual 16929, 33)], [(33, .ireturn, 34)]]
abbrev m_Mc_cutCost : Nat := 81
def ah_Mc_cutCost : List (Nat × Nat × Nat × Nat × Nat × Nat) := []
def at_Mc_separates : am_T := [[(0, .iload 1, 1), (1, .ifCond .lt (Int.ofNat 17), 4), (4, .iload 1, 5), (5, .ldc 1, 6), (6, .aload 0, 7), (7, .getstatic 515, 10), (10, .getfield 129, 13), (13, .ishl, 14), (14, .if_icmp .lt (Int.ofNat 27), 17)], [(17, .jsr (Int.ofNat 1), 20), (27, .aload 0, 28), (28, .getstatic 515, 31), (31, .iload 1, 32)], [(32, .invokestatic 2, 35), (35, .areturn, 36)]]
abbrev m_Mc_separates : Nat := 82
def ah_Mc_separates : List (Nat × Nat × Nat × Nat × Nat × Nat) := []
def at_Mc_isolatingValue : am_T := [[(0, .aload 0, 1), (1, .iload 1, 2), (2, .invokevirtual 67377, 5), (5, .aload 0, 6), (6, .getstatic 515, 9), (9, .iload 1, 10), (10, .invokestatic 66, 13), (13, .ireturn, 14)]]
abbrev m_Mc_isolatingValue : Nat := 83
def ah_Mc_isolatingValue : List (Nat × Nat × Nat × Nat × Nat × Nat) := []
def at_Mc_isolatingSet : am_T := [[(0, .aload 0, 1), (1, .iload 1, 2), (2, .invokevirtual 67377, 5), (5, .aload 0, 6), (6, .getstatic 515, 9), (9, .iload 1, 10), (10, .invokestatic 50, 13), (13, .ireturn, 14)]]
abbrev m_Mc_isolatingSet : Nat := 84
def ah_Mc_isolatingSet : List (Nat × Nat × Nat × Nat × Nat × Nat) := []
def at_Mc_lowerBound : am_T := [[(0, .ldc 0, 1), (1, .istore 1, 2), (2, .ldc 0, 3), (3, .istore 2, 4), (4, .iload 2, 5), (5, .aload 0, 6), (6, .getstatic 515, 9), (9, .getfield 128, 12), (12, .if_icmp .ge (Int.ofNat 43), 15), (15, .aload 0, 16)], [(16, .getstatic 515, 19), (19, .iload 2, 20), (20, .invokevirtual 16721, 23), (23, .ifCond .eq (Int.ofNat 37), 26), (26, .iload 1, 27), (27, .aload 0, 28), (28, .getstatic 515, 31), (31, .iload 2, 32)], [(32, .invokestatic 66, 35), (35, .iadd, 36), (36, .istore 1, 37), (37, .iinc 2 (Int.ofNat 1), 40), (40, .goto (Int.ofNat 4), 43), (43, .iload 1, 44), (44, .ldc 1, 45), (45, .iadd, 46), (46, .ldc 2, 47), (47, .idiv, 48)], [(48, .ireturn, 49)]]
abbrev m_Mc_lowerBound : Nat := 85
def ah_Mc_lowerBound : List (Nat × Nat × Nat × Nat × Nat × Nat) := []
def at_Mc_dearest : am_T := [[(0, .aload 0, 1), (1, .invokevirtual 67392, 4), (4, .aload 0, 5), (5, .getstatic 515, 8), (8, .invokestatic 81, 11), (11, .ireturn, 12)]]
abbrev m_Mc_dearest : Nat := 86
def ah_Mc_dearest : List (Nat × Nat × Nat × Nat × Nat × Nat) := []
def at_Mc_unionCut : am_T := [[(0, .aload 0, 1), (1, .invokevirtual 67392, 4), (4, .aload 0, 5), (5, .getstatic 515, 8), (8, .invokestatic 97, 11), (11, .ireturn, 12)]]
abbrev m_Mc_unionCut : Nat := 87
def ah_Mc_unionCut : List (Nat × Nat × Nat × Nat × Nat × Nat) := []
def at_Mc_unionCost : am_T := [[(0, .aload 0, 1), (1, .invokevirtual 67392, 4), (4, .aload 0, 5), (5, .getstatic 515, 8), (8, .aload 0, 9), (9, .getstatic 515, 12), (12, .invokestatic 97, 15), (15, .invokevirtual 16913, 18)], [(18, .ireturn, 19)]]
abbrev m_Mc_unionCost : Nat := 88
def ah_Mc_unionCost : List (Nat × Nat × Nat × Nat × Nat × Nat) := []
def at_Mc_rounds : am_T := [[(0, .aload 0, 1), (1, .getstatic 518, 4), (4, .aload 0, 5), (5, .getstatic 515, 8), (8, .invokevirtual 25185, 11), (11, .aload 0, 12), (12, .getstatic 518, 15), (15, .getfield 192, 18)], [(18, .ireturn, 19)]]
abbrev m_Mc_rounds : Nat := 89
def ah_Mc_rounds : List (Nat × Nat × Nat × Nat × Nat × Nat) := []
def at_Mc_fixed : am_T := [[(0, .aload 0, 1), (1, .iload 1, 2), (2, .invokevirtual 67345, 5), (5, .aload 0, 6), (6, .getstatic 518, 9), (9, .aload 0, 10), (10, .getstatic 515, 13), (13, .invokevirtual 25185, 16)], [(16, .aload 0, 17), (17, .getstatic 518, 20), (20, .iload 1, 21), (21, .invokevirtual 25233, 24), (24, .ireturn, 25)]]
abbrev m_Mc_fixed : Nat := 90
def ah_Mc_fixed : List (Nat × Nat × Nat × Nat × Nat × Nat) := []
def at_Mc_exactCost : am_T := [[(0, .aload 0, 1), (1, .getstatic 519, 4), (4, .aload 0, 5), (5, .getstatic 515, 8), (8, .aload 0, 9), (9, .getstatic 515, 12), (12, .getfield 130, 15), (15, .invokevirtual 162, 18)], [(18, .aload 0, 19), (19, .getstatic 519, 22), (22, .getfield 1, 25), (25, .ireturn, 26)]]
abbrev m_Mc_exactCost : Nat := 91
def ah_Mc_exactCost : List (Nat × Nat × Nat × Nat × Nat × Nat) := []
def at_Mc_exact : am_T := [[(0, .aload 0, 1), (1, .iload 1, 2), (2, .invokevirtual 67345, 5), (5, .aload 0, 6), (6, .getstatic 519, 9), (9, .aload 0, 10), (10, .getstatic 515, 13), (13, .aload 0, 14), (14, .getstatic 515, 17)], [(17, .getfield 130, 20), (20, .invokevirtual 162, 23), (23, .aload 0, 24), (24, .getstatic 519, 27), (27, .getstatic 0, 30), (30, .iload 1, 31), (31, .iaload, 32)], [(32, .ireturn, 33)]]
abbrev m_Mc_exact : Nat := 92
def ah_Mc_exact : List (Nat × Nat × Nat × Nat × Nat × Nat) := []
def at_Mc_price : am_T := [[(0, .aload 0, 1), (1, .iload 1, 2), (2, .invokevirtual 67377, 5), (5, .aload 0, 6), (6, .getstatic 519, 9), (9, .aload 0, 10), (10, .getstatic 515, 13), (13, .aload 0, 14), (14, .getstatic 515, 17)], [(17, .getfield 130, 20), (20, .invokevirtual 162, 23), (23, .aload 0, 24), (24, .getstatic 519, 27), (27, .getfield 1, 30), (30, .istore 2, 31), (31, .aload 0, 32)], [(32, .getstatic 519, 35), (35, .aload 0, 36), (36, .getstatic 515, 39), (39, .aload 0, 40), (40, .getstatic 515, 43), (43, .getfield 130, 46), (46, .ldc 1, 47), (47, .iload 1, 48)], [(48, .ishl, 49), (49, .ldc_w 1, 50), (50, .ixor, 51), (51, .iand, 52), (52, .invokevirtual 162, 55), (55, .iload 2, 56), (56, .aload 0, 57), (57, .getstatic 519, 60), (60, .getfield 1, 63), (63, .isub, 64)], [(64, .ireturn, 65)]]
abbrev m_Mc_price : Nat := 93
def ah_Mc_price : List (Nat × Nat × Nat × Nat × Nat × Nat) := []
def at_Mc_nearest : am_T := [[(0, .aload 0, 1), (1, .iload 1, 2), (2, .invokevirtual 67345, 5), (5, .aload 0, 6), (6, .getstatic 520, 9), (9, .aload 0, 10), (10, .getstatic 515, 13), (13, .invokevirtual 49953, 16)], [(16, .aload 0, 17), (17, .getstatic 520, 20), (20, .getstatic 384, 23), (23, .iload 1, 24), (24, .iaload, 25), (25, .ireturn, 26)]]
abbrev m_Mc_nearest : Nat := 94
def ah_Mc_nearest : List (Nat × Nat × Nat × Nat × Nat × Nat) := []
def at_Mc_distance : am_T := [[(0, .aload 0, 1), (1, .iload 1, 2), (2, .invokevirtual 67345, 5), (5, .aload 0, 6), (6, .getstatic 520, 9), (9, .aload 0, 10), (10, .getstatic 515, 13), (13, .invokevirtual 49953, 16)], [(16, .aload 0, 17), (17, .getstatic 520, 20), (20, .getstatic 385, 23), (23, .iload 1, 24), (24, .iaload, 25), (25, .ireturn, 26)]]
abbrev m_Mc_distance : Nat := 95
def ah_Mc_distance : List (Nat × Nat × Nat × Nat × Nat × Nat) := []
def at_Mc_label : am_T := [[(0, .aload 0, 1), (1, .iload 1, 2), (2, .invokevirtual 67345, 5), (5, .aload 0, 6), (6, .getstatic 515, 9), (9, .getstatic 132, 12), (12, .iload 1, 13), (13, .iaload, 14), (14, .ireturn, 15)]]
abbrev m_Mc_label : Nat := 96
def ah_Mc_label : List (Nat × Nat × Nat × Nat × Nat × Nat) := []
def at_Mc_cost : am_T := [[(0, .aload 0, 1), (1, .getstatic 515, 4), (4, .invokevirtual 16960, 7), (7, .ireturn, 8)]]
abbrev m_Mc_cost : Nat := 97
def ah_Mc_cost : List (Nat × Nat × Nat × Nat × Nat × Nat) := []
def at_Mc_cut : am_T := [[(0, .aload 0, 1), (1, .getstatic 515, 4), (4, .invokevirtual 16944, 7), (7, .ireturn, 8)]]
abbrev m_Mc_cut : Nat := 98
def ah_Mc_cut : List (Nat × Nat × Nat × Nat × Nat × Nat) := []
def at_Mc_ratio : am_T := [[(0, .aload 0, 1), (1, .getstatic 515, 4), (4, .invokevirtual 16960, 7), (7, .istore 1, 8), (8, .aload 0, 9), (9, .getstatic 519, 12), (12, .aload 0, 13), (13, .getstatic 515, 16)], [(16, .aload 0, 17), (17, .getstatic 515, 20), (20, .getfield 130, 23), (23, .invokevirtual 162, 26), (26, .aload 0, 27), (27, .getstatic 519, 30), (30, .getfield 1, 33)], [(33, .istore 2, 34), (34, .iload 2, 35), (35, .ifCond .ne (Int.ofNat 49), 38), (38, .iload 1, 39), (39, .ifCond .ne (Int.ofNat 46), 42), (42, .invokedynamic 1065353216, 43), (43, .goto (Int.ofNat 48), 46), (46, .invokedynamic 3212836864, 48)], [(48, .freturn, 49), (49, .iload 1, 50), (50, .i2f, 51), (51, .iload 2, 52), (52, .i2f, 53), (53, .fdiv, 54), (54, .freturn, 55)]]
abbrev m_Mc_ratio : Nat := 99
def ah_Mc_ratio : List (Nat × Nat × Nat × Nat × Nat × Nat) := []
def at_Mc_meanCost : am_T := [[(0, .aload 0, 1), (1, .getstatic 515, 4), (4, .getfield 130, 7), (7, .invokestatic 3457, 10), (10, .istore 1, 11), (11, .invokedynamic 0, 12), (12, .fstore 2, 13), (13, .iload 1, 14), (14, .ldc 2, 15), (15, .if_icmp .ge (Int.ofNat 20), 18)], [(18, .fload 2, 19), (19, .freturn, 20), (20, .ldc 0, 21), (21, .istore 3, 22), (22, .iload 3, 23), (23, .aload 0, 24), (24, .getstatic 515, 27), (27, .getfield 129, 30), (30, .if_icmp .ge (Int.ofNat 106), 33)], [(33, .aload 0, 34), (34, .getstatic 515, 37), (37, .getstatic 136, 40), (40, .iload 3, 41), (41, .iaload, 42), (42, .i2f, 43), (43, .fstore 4, 45), (45, .aload 0, 46), (46, .getstatic 515, 49)], [(49, .aload 0, 50), (50, .getstatic 515, 53), (53, .getstatic 133, 56), (56, .iload 3, 57), (57, .iaload, 58), (58, .invokevirtual 16721, 61), (61, .ifCond .eq (Int.ofNat 83), 64)], [(64, .aload 0, 65), (65, .getstatic 515, 68), (68, .aload 0, 69), (69, .getstatic 515, 72), (72, .getstatic 134, 75), (75, .iload 3, 76), (76, .iaload, 77), (77, .invokevirtual 16721, 80)], [(80, .ifCond .ne (Int.ofNat 95), 83), (83, .fload 4, 85), (85, .iload 1, 86), (86, .ldc 1, 87), (87, .isub, 88), (88, .i2f, 89), (89, .fmul, 90), (90, .iload 1, 91), (91, .i2f, 92), (92, .fdiv, 93), (93, .fstore 4, 95), (95, .fload 2, 96)], [(96, .fload 4, 98), (98, .fadd, 99), (99, .fstore 2, 100), (100, .iinc 3 (Int.ofNat 1), 103), (103, .goto (Int.ofNat 22), 106), (106, .fload 2, 107), (107, .freturn, 108)]]
abbrev m_Mc_meanCost : Nat := 100
def ah_Mc_meanCost : List (Nat × Nat × Nat × Nat × Nat × Nat) := []
def at_Mc_bestMove : am_T := [[(0, .iload 1, 1), (1, .ifCond .lt (Int.ofNat 9), 4), (4, .iload 1, 5), (5, .ldc 2, 6), (6, .if_icmp .le (Int.ofNat 19), 9), (9, .jsr (Int.ofNat 1), 12)], [(19, .aload 0, 20), (20, .getstatic 521, 23), (23, .aload 0, 24), (24, .getstatic 515, 27), (27, .invokevirtual 41697, 30), (30, .iload 1, 31), (31, .ifCond .ne (Int.ofNat 42), 34)], [(34, .aload 0, 35), (35, .getstatic 521, 38), (38, .getfield 320, 41), (41, .ireturn, 42), (42, .iload 1, 43), (43, .ldc 1, 44), (44, .if_icmp .ne (Int.ofNat 57), 47), (47, .aload 0, 48)], [(48, .getstatic 521, 51), (51, .getfield 321, 54), (54, .goto (Int.ofNat 64), 57), (57, .aload 0, 58), (58, .getstatic 521, 61), (61, .getfield 322, 64)], [(64, .ireturn, 65)]]
abbrev m_Mc_bestMove : Nat := 101
def ah_Mc_bestMove : List (Nat × Nat × Nat × Nat × Nat × Nat) := []
def at_Mc_setLabel : am_T := [[(0, .aload 0, 1), (1, .iload 1, 2), (2, .invokevirtual 67345, 5), (5, .iload 2, 6), (6, .ldc_w 1, 7), (7, .if_icmp .eq (Int.ofNat 15), 10), (10, .aload 0, 11), (11, .iload 2, 12), (12, .invokevirtual 67377, 15), (15, .aload 0, 16)], [(16, .getstatic 515, 19), (19, .iload 1, 20), (20, .invokevirtual 16721, 23), (23, .ifCond .eq (Int.ofNat 36), 26), (26, .jsr (Int.ofNat 3), 29)], [(36, .aload 0, 37), (37, .getstatic 516, 40), (40, .aload 0, 41), (41, .getstatic 515, 44), (44, .invokevirtual 33457, 47), (47, .aload 0, 48)], [(48, .getstatic 515, 51), (51, .getstatic 132, 54), (54, .iload 1, 55), (55, .iload 2, 56), (56, .iastore, 57), (57, .aload 0, 58), (58, .getstatic 515, 61), (61, .invokevirtual 16960, 64)], [(64, .ireturn, 65)]]
abbrev m_Mc_setLabel : Nat := 102
def ah_Mc_setLabel : List (Nat × Nat × Nat × Nat × Nat × Nat) := []
def at_Mc_useNearest : am_T := [[(0, .aload 0, 1), (1, .getstatic 516, 4), (4, .aload 0, 5), (5, .getstatic 515, 8), (8, .invokevirtual 33457, 11), (11, .aload 0, 12), (12, .getstatic 520, 15), (15, .aload 0, 16)], [(16, .getstatic 515, 19), (19, .invokevirtual 49953, 22), (22, .aload 0, 23), (23, .getstatic 515, 26), (26, .aload 0, 27), (27, .getstatic 520, 30), (30, .getstatic 384, 33)], [(33, .invokevirtual 16881, 36), (36, .aload 0, 37), (37, .getstatic 515, 40), (40, .invokevirtual 16960, 43), (43, .ireturn, 44)]]
abbrev m_Mc_useNearest : Nat := 103
def ah_Mc_useNearest : List (Nat × Nat × Nat × Nat × Nat × Nat) := []
def at_Mc_useUnion : am_T := [[(0, .aload 0, 1), (1, .invokevirtual 67392, 4), (4, .aload 0, 5), (5, .getstatic 516, 8), (8, .aload 0, 9), (9, .getstatic 515, 12), (12, .invokevirtual 33457, 15), (15, .aload 0, 16)], [(16, .getstatic 515, 19), (19, .invokestatic 113, 22), (22, .aload 0, 23), (23, .getstatic 515, 26), (26, .invokevirtual 16960, 29), (29, .ireturn, 30)]]
abbrev m_Mc_useUnion : Nat := 104
def ah_Mc_useUnion : List (Nat × Nat × Nat × Nat × Nat × Nat) := []
def at_Mc_useExact : am_T := [[(0, .aload 0, 1), (1, .getstatic 516, 4), (4, .aload 0, 5), (5, .getstatic 515, 8), (8, .invokevirtual 33457, 11), (11, .aload 0, 12), (12, .getstatic 519, 15), (15, .aload 0, 16)], [(16, .getstatic 515, 19), (19, .aload 0, 20), (20, .getstatic 515, 23), (23, .getfield 130, 26), (26, .invokevirtual 162, 29), (29, .aload 0, 30), (30, .getstatic 515, 33)], [(33, .aload 0, 34), (34, .getstatic 519, 37), (37, .getstatic 0, 40), (40, .invokevirtual 16881, 43), (43, .aload 0, 44), (44, .getstatic 515, 47), (47, .invokevirtual 16960, 50)], [(50, .ireturn, 51)]]
abbrev m_Mc_useExact : Nat := 105
def ah_Mc_useExact : List (Nat × Nat × Nat × Nat × Nat × Nat) := []
def at_Mc_improve : am_T := [[(0, .iload 1, 1), (1, .ldc 1, 2), (2, .if_icmp .lt (Int.ofNat 11), 5), (5, .iload 1, 6), (6, .ldc 20, 8), (8, .if_icmp .le (Int.ofNat 21), 11), (11, .jsr (Int.ofNat 1), 14)], [(21, .aload 0, 22), (22, .getstatic 516, 25), (25, .aload 0, 26), (26, .getstatic 515, 29), (29, .invokevirtual 33457, 32)], [(32, .ldc 0, 33), (33, .istore 2, 34), (34, .iload 2, 35), (35, .iload 1, 36), (36, .if_icmp .ge (Int.ofNat 59), 39), (39, .aload 0, 40), (40, .getstatic 521, 43), (43, .aload 0, 44), (44, .getstatic 515, 47), (47, .invokevirtual 41729, 50)], [(50, .ifCond .eq (Int.ofNat 59), 53), (53, .iinc 2 (Int.ofNat 1), 56), (56, .goto (Int.ofNat 34), 59), (59, .iload 2, 60), (60, .ireturn, 61)]]
abbrev m_Mc_improve : Nat := 106
def ah_Mc_improve : List (Nat × Nat × Nat × Nat × Nat × Nat) := []
def at_Mc_setWeight : am_T := [[(0, .aload 0, 1), (1, .iload 1, 2), (2, .invokevirtual 67361, 5), (5, .aload 0, 6), (6, .iload 2, 7), (7, .invokevirtual 67409, 10), (10, .aload 0, 11), (11, .getstatic 516, 14), (14, .aload 0, 15), (15, .getstatic 515, 18)], [(18, .invokevirtual 33457, 21), (21, .aload 0, 22), (22, .getstatic 515, 25), (25, .getstatic 135, 28), (28, .iload 1, 29), (29, .iaload, 30), (30, .istore 3, 31), (31, .aload 0, 32)], [(32, .getstatic 515, 35), (35, .getstatic 135, 38), (38, .iload 1, 39), (39, .iload 2, 40), (40, .iastore, 41), (41, .aload 0, 42), (42, .getstatic 515, 45), (45, .iload 1, 46), (46, .invokevirtual 16817, 49)], [(49, .iload 3, 50), (50, .ireturn, 51)]]
abbrev m_Mc_setWeight : Nat := 107
def ah_Mc_setWeight : List (Nat × Nat × Nat × Nat × Nat × Nat) := []
def at_Mc_addEdge : am_T := [[(0, .aload 0, 1), (1, .iload 1, 2), (2, .invokevirtual 67345, 5), (5, .aload 0, 6), (6, .iload 2, 7), (7, .invokevirtual 67345, 10), (10, .iload 1, 11), (11, .iload 2, 12), (12, .if_icmp .ne (Int.ofNat 25), 15), (15, .jsr (Int.ofNat 1), 18)], [(25, .aload 0, 26), (26, .iload 3, 27), (27, .invokevirtual 67409, 30), (30, .aload 0, 31), (31, .getstatic 515, 34)], [(34, .getfield 129, 37), (37, .ldc 20, 39), (39, .if_icmp .ge (Int.ofNat 54), 42), (42, .aload 0, 43), (43, .getstatic 515, 46), (46, .iload 1, 47), (47, .iload 2, 48)], [(48, .invokevirtual 16754, 51), (51, .ifCond .eq (Int.ofNat 65), 54), (54, .jsr (Int.ofNat 3), 57)], [(65, .aload 0, 66), (66, .getstatic 516, 69), (69, .aload 0, 70), (70, .getstatic 515, 73), (73, .invokevirtual 33457, 76), (76, .aload 0, 77), (77, .getstatic 515, 80)], [(80, .iload 1, 81), (81, .iload 2, 82), (82, .iload 3, 83), (83, .invokevirtual 16803, 86), (86, .aload 0, 87), (87, .getstatic 515, 90), (90, .aload 0, 91), (91, .getstatic 515, 94), (94, .getfield 129, 97)], [(97, .ldc 1, 98), (98, .isub, 99), (99, .invokevirtual 16817, 102), (102, .aload 0, 103), (103, .getstatic 515, 106), (106, .getfield 129, 109), (109, .ldc 1, 110), (110, .isub, 111), (111, .ireturn, 112)]]
abbrev m_Mc_addEdge : Nat := 108
def ah_Mc_addEdge : List (Nat × Nat × Nat × Nat × Nat × Nat) := []
def at_Mc_removeEdge : am_T := [[(0, .aload 0, 1), (1, .iload 1, 2), (2, .invokevirtual 67361, 5), (5, .aload 0, 6), (6, .getstatic 516, 9), (9, .aload 0, 10), (10, .getstatic 515, 13), (13, .invokevirtual 33457, 16)], [(16, .aload 0, 17), (17, .getstatic 515, 20), (20, .iload 1, 21), (21, .invokevirtual 16833, 24), (24, .aload 0, 25), (25, .getstatic 515, 28), (28, .getfield 129, 31), (31, .ireturn, 32)]]
abbrev m_Mc_removeEdge : Nat := 109
def ah_Mc_removeEdge : List (Nat × Nat × Nat × Nat × Nat × Nat) := []
def at_Mc_setTerminal : am_T := [[(0, .aload 0, 1), (1, .iload 1, 2), (2, .invokevirtual 67345, 5), (5, .aload 0, 6), (6, .getstatic 515, 9), (9, .iload 1, 10), (10, .invokevirtual 16721, 13), (13, .istore 3, 14), (14, .iload 2, 15), (15, .ifCond .eq (Int.ofNat 47), 18)], [(18, .iload 3, 19), (19, .ifCond .ne (Int.ofNat 47), 22), (22, .aload 0, 23), (23, .getstatic 515, 26), (26, .getfield 130, 29), (29, .invokestatic 3457, 32)], [(32, .ldc 5, 33), (33, .if_icmp .lt (Int.ofNat 47), 36), (36, .jsr (Int.ofNat 3), 39), (47, .aload 0, 48)], [(48, .getstatic 516, 51), (51, .aload 0, 52), (52, .getstatic 515, 55), (55, .invokevirtual 33457, 58), (58, .iload 2, 59), (59, .ifCond .eq (Int.ofNat 74), 62), (62, .iload 3, 63), (63, .ifCond .ne (Int.ofNat 74), 66)], [(66, .aload 0, 67), (67, .getstatic 515, 70), (70, .iload 1, 71), (71, .invokevirtual 16849, 74), (74, .iload 2, 75), (75, .ifCond .ne (Int.ofNat 90), 78), (78, .iload 3, 79), (79, .ifCond .eq (Int.ofNat 90), 82)], [(82, .aload 0, 83), (83, .getstatic 515, 86), (86, .iload 1, 87), (87, .invokevirtual 16865, 90), (90, .aload 0, 91), (91, .getstatic 515, 94), (94, .getfield 130, 97)], [(97, .invokestatic 3457, 100), (100, .ireturn, 101)]]
abbrev m_Mc_setTerminal : Nat := 110
def ah_Mc_setTerminal : List (Nat × Nat × Nat × Nat × Nat × Nat) := []
def at_Mc_undo : am_T := [[(0, .aload 0, 1), (1, .getstatic 516, 4), (4, .aload 0, 5), (5, .getstatic 515, 8), (8, .invokevirtual 33473, 11), (11, .ireturn, 12)]]
abbrev m_Mc_undo : Nat := 111
def ah_Mc_undo : List (Nat × Nat × Nat × Nat × Nat × Nat) := []
def at_Mc_checksum : am_T := [[(0, .ldc2_w 31, 3), (3, .aload 0, 4), (4, .getstatic 515, 7), (7, .getfield 128, 10), (10, .i2l, 11), (11, .lmul, 12), (12, .aload 0, 13), (13, .getstatic 515, 16)], [(16, .getfield 130, 19), (19, .i2l, 20), (20, .ladd, 21), (21, .lstore 1, 22), (22, .ldc 0, 23), (23, .istore 3, 24), (24, .iload 3, 25), (25, .aload 0, 26), (26, .getstatic 515, 29), (29, .getfield 129, 32)], [(32, .if_icmp .ge (Int.ofNat 92), 35), (35, .ldc2_w 31, 38), (38, .lload 1, 39), (39, .lmul, 40), (40, .aload 0, 41), (41, .getstatic 515, 44), (44, .getstatic 133, 47), (47, .iload 3, 48)], [(48, .iaload, 49), (49, .i2l, 50), (50, .ladd, 51), (51, .lstore 1, 52), (52, .ldc2_w 31, 55), (55, .lload 1, 56), (56, .lmul, 57), (57, .aload 0, 58), (58, .getstatic 515, 61), (61, .getstatic 134, 64)], [(64, .iload 3, 65), (65, .iaload, 66), (66, .i2l, 67), (67, .ladd, 68), (68, .lstore 1, 69), (69, .ldc2_w 31, 72), (72, .lload 1, 73), (73, .lmul, 74), (74, .aload 0, 75), (75, .getstatic 515, 78), (78, .getstatic 135, 81)], [(81, .iload 3, 82), (82, .iaload, 83), (83, .i2l, 84), (84, .ladd, 85), (85, .lstore 1, 86), (86, .iinc 3 (Int.ofNat 1), 89), (89, .goto (Int.ofNat 24), 92), (92, .ldc 0, 93), (93, .istore 3, 94), (94, .iload 3, 95), (95, .aload 0, 96)], [(96, .getstatic 515, 99), (99, .getfield 128, 102), (102, .if_icmp .ge (Int.ofNat 128), 105), (105, .ldc2_w 31, 108), (108, .lload 1, 109), (109, .lmul, 110), (110, .aload 0, 111), (111, .getstatic 515, 114)], [(114, .getstatic 132, 117), (117, .iload 3, 118), (118, .iaload, 119), (119, .i2l, 120), (120, .ladd, 121), (121, .lstore 1, 122), (122, .iinc 3 (Int.ofNat 1), 125), (125, .goto (Int.ofNat 94), 128)], [(128, .ldc2_w 31, 131), (131, .lload 1, 132), (132, .lmul, 133), (133, .aload 0, 134), (134, .getstatic 515, 137), (137, .invokevirtual 16960, 140), (140, .i2l, 141), (141, .ladd, 142), (142, .lreturn, 143)]]
abbrev m_Mc_checksum : Nat := 112
def ah_Mc_checksum : List (Nat × Nat × Nat × Nat × Nat × Nat) := []
def at_Mc_requireVertex : am_T := [[(0, .aload 0, 1), (1, .getstatic 515, 4), (4, .iload 1, 5), (5, .invokevirtual 16705, 8), (8, .ifCond .ne (Int.ofNat 22), 11), (11, .jsr (Int.ofNat 2), 14)], [(22, .return_, 23)]]
abbrev m_Mc_requireVertex : Nat := 113
def ah_Mc_requireVertex : List (Nat × Nat × Nat × Nat × Nat × Nat) := []
def at_Mc_requireEdge : am_T := [[(0, .iload 1, 1), (1, .ifCond .lt (Int.ofNat 15), 4), (4, .iload 1, 5), (5, .aload 0, 6), (6, .getstatic 515, 9), (9, .getfield 129, 12), (12, .if_icmp .lt (Int.ofNat 26), 15), (15, .jsr (Int.ofNat 2), 18)], [(26, .return_, 27)]]
abbrev m_Mc_requireEdge : Nat := 114
def ah_Mc_requireEdge : List (Nat × Nat × Nat × Nat × Nat × Nat) := []
def at_Mc_requireTerminal : am_T := [[(0, .aload 0, 1), (1, .getstatic 515, 4), (4, .iload 1, 5), (5, .invokevirtual 16721, 8), (8, .ifCond .ne (Int.ofNat 22), 11), (11, .jsr (Int.ofNat 1), 14)], [(22, .return_, 23)]]
abbrev m_Mc_requireTerminal : Nat := 115
def ah_Mc_requireTerminal : List (Nat × Nat × Nat × Nat × Nat × Nat) := []
def at_Mc_requireSomeTerminal : am_T := [[(0, .aload 0, 1), (1, .getstatic 515, 4), (4, .getfield 130, 7), (7, .ifCond .ne (Int.ofNat 21), 10), (10, .jsr (Int.ofNat 3), 13)], [(21, .return_, 22)]]
abbrev m_Mc_requireSomeTerminal : Nat := 116
def ah_Mc_requireSomeTerminal : List (Nat × Nat × Nat × Nat × Nat × Nat) := []
def at_Mc_requireWeight : am_T := [[(0, .iload 1, 1), (1, .ldc 1, 2), (2, .if_icmp .lt (Int.ofNat 11), 5), (5, .iload 1, 6), (6, .ldc 99, 8), (8, .if_icmp .le (Int.ofNat 22), 11), (11, .jsr (Int.ofNat 1), 14)], [(22, .return_, 23)]]
abbrev m_Mc_requireWeight : Nat := 117
def ah_Mc_requireWeight : List (Nat × Nat × Nat × Nat × Nat × Nat) := []
def at_Mo_init : am_T := [[(0, .aload 0, 1), (1, .pop2, 4), (4, .aload 0, 5), (5, .ldc 13248, 8), (8, .anewarray 2, 10), (10, .checkcast 577, 13), (13, .aload 0, 14), (14, .ldc 1472, 17)], [(17, .anewarray 2, 19), (19, .checkcast 578, 22), (22, .aload 0, 23), (23, .ldc 700, 26), (26, .anewarray 2, 28), (28, .checkcast 581, 31), (31, .aload 0, 32)], [(32, .ldc 9, 34), (34, .anewarray 4, 36), (36, .checkcast 582, 39), (39, .aload 0, 40), (40, .ldc_w 1, 41), (41, .putfield 584, 44), (44, .aload 0, 45), (45, .ldc 1400, 48)], [(48, .anewarray 5, 50), (50, .checkcast 592, 53), (53, .aload 0, 54), (54, .ldc 20, 56), (56, .anewarray 2, 58), (58, .checkcast 593, 61), (61, .aload 0, 62), (62, .ldc 9, 64)], [(64, .anewarray 2, 66), (66, .checkcast 595, 69), (69, .aload 0, 70), (70, .ldc 9, 72), (72, .anewarray 2, 74), (74, .checkcast 596, 77), (77, .aload 0, 78), (78, .ldc 9, 80)], [(80, .anewarray 2, 82), (82, .checkcast 597, 85), (85, .aload 0, 86), (86, .ldc 9, 88), (88, .anewarray 2, 90), (90, .checkcast 599, 93), (93, .aload 0, 94), (94, .ldc 9, 96)], [(96, .anewarray 2, 98), (98, .checkcast 600, 101), (101, .aload 0, 102), (102, .ldc 9, 104), (104, .anewarray 2, 106), (106, .checkcast 601, 109), (109, .aload 0, 110), (110, .ldc 9, 112)], [(112, .anewarray 2, 114), (114, .checkcast 604, 117), (117, .aload 0, 118), (118, .ldc 9, 120), (120, .anewarray 2, 122), (122, .checkcast 605, 125), (125, .aload 0, 126), (126, .ldc 9, 128)], [(128, .anewarray 2, 130), (130, .checkcast 606, 133), (133, .aload 0, 134), (134, .ldc 9, 136), (136, .anewarray 2, 138), (138, .checkcast 607, 141), (141, .return_, 142)]]
abbrev m_Mo_init : Nat := 118
def ah_Mo_init : List (Nat × Nat × Nat × Nat × Nat × Nat) := []
def at_Mo_thrown : am_T := [[(0, .aload 0, 1), (1, .getfield 576, 4), (4, .ireturn, 5)]]
abbrev m_Mo_thrown : Nat := 119
def ah_Mo_thrown : List (Nat × Nat × Nat × Nat × Nat × Nat) := []
def at_Mo_isIn : am_T := [[(0, .lload 0, 1), (1, .lload 2, 2), (2, .lcmp, 3), (3, .ifCond .lt (Int.ofNat 17), 6), (6, .lload 0, 7), (7, .lload 4, 9), (9, .lcmp, 10), (10, .ifCond .gt (Int.ofNat 17), 13), (13, .ldc 1, 14), (14, .goto (Int.ofNat 18), 17)], [(17, .ldc 0, 18), (18, .areturn, 19)]]
abbrev m_Mo_isIn : Nat := 120
def ah_Mo_isIn : List (Nat × Nat × Nat × Nat × Nat × Nat) := []
def at_Mo_get : am_T := [[(0, .aload 0, 1), (1, .getstatic 577, 4), (4, .ldc 1472, 7), (7, .aload 0, 8), (8, .getfield 579, 11), (11, .imul, 12), (12, .iload 1, 13), (13, .iadd, 14), (14, .iaload, 15), (15, .ireturn, 16)]]
abbrev m_Mo_get : Nat := 121
def ah_Mo_get : List (Nat × Nat × Nat × Nat × Nat × Nat) := []
def at_Mo_put : am_T := [[(0, .aload 0, 1), (1, .getstatic 577, 4), (4, .ldc 1472, 7), (7, .aload 0, 8), (8, .getfield 579, 11), (11, .imul, 12), (12, .iload 1, 13), (13, .iadd, 14), (14, .iload 2, 15), (15, .iastore, 16)], [(16, .return_, 17)]]
abbrev m_Mo_put : Nat := 122
def ah_Mo_put : List (Nat × Nat × Nat × Nat × Nat × Nat) := []
def at_Mo_change : am_T := [[(0, .aload 0, 1), (1, .getfield 579, 4), (4, .ldc 1, 5), (5, .iadd, 6), (6, .ldc 9, 8), (8, .irem, 9), (9, .istore 1, 10), (10, .ldc 0, 11), (11, .istore 2, 12), (12, .iload 2, 13), (13, .ldc 1472, 16)], [(16, .if_icmp .ge (Int.ofNat 42), 19), (19, .aload 0, 20), (20, .getstatic 577, 23), (23, .ldc 1472, 26), (26, .iload 1, 27), (27, .imul, 28), (28, .iload 2, 29), (29, .iadd, 30), (30, .aload 0, 31), (31, .iload 2, 32)], [(32, .invokevirtual 75665, 35), (35, .iastore, 36), (36, .iinc 2 (Int.ofNat 1), 39), (39, .goto (Int.ofNat 12), 42), (42, .aload 0, 43), (43, .iload 1, 44), (44, .putfield 579, 47), (47, .aload 0, 48)], [(48, .aload 0, 49), (49, .getfield 580, 52), (52, .ldc 8, 54), (54, .if_icmp .ge (Int.ofNat 66), 57), (57, .aload 0, 58), (58, .getfield 580, 61), (61, .ldc 1, 62), (62, .iadd, 63), (63, .goto (Int.ofNat 70), 66)], [(66, .aload 0, 67), (67, .getfield 580, 70), (70, .putfield 580, 73), (73, .return_, 74)]]
abbrev m_Mo_change : Nat := 123
def ah_Mo_change : List (Nat × Nat × Nat × Nat × Nat × Nat) := []
def at_Mo_right : am_T := [[(0, .aload 0, 1), (1, .getfield 576, 4), (4, .ifCond .ne (Int.ofNat 16), 7), (7, .iload 1, 8), (8, .ifCond .ne (Int.ofNat 16), 11), (11, .aload 0, 12), (12, .iload 2, 13), (13, .putfield 576, 16)], [(16, .aload 0, 17), (17, .getfield 576, 20), (20, .ifCond .ne (Int.ofNat 27), 23), (23, .ldc 1, 24), (24, .goto (Int.ofNat 28), 27), (27, .ldc 0, 28), (28, .areturn, 29)]]
abbrev m_Mo_right : Nat := 124
def ah_Mo_right : List (Nat × Nat × Nat × Nat × Nat × Nat) := []
def at_Mo_append : am_T := [[(0, .aload 0, 1), (1, .ldc 0, 2), (2, .putfield 576, 5), (5, .aload 0, 6), (6, .getfield 583, 9), (9, .ldc 20, 11), (11, .iadd, 12), (12, .ldc 700, 15), (15, .if_icmp .le (Int.ofNat 20), 18)], [(18, .ldc_w 1, 19), (19, .ireturn, 20), (20, .ldc 0, 21), (21, .istore 6, 23), (23, .iload 6, 25), (25, .ldc 20, 27), (27, .if_icmp .ge (Int.ofNat 113), 30), (30, .iload 6, 32)], [(32, .ldc 4, 33), (33, .if_icmp .ge (Int.ofNat 40), 36), (36, .iload 1, 37), (37, .goto (Int.ofNat 76), 40), (40, .iload 6, 42), (42, .ldc 8, 44), (44, .if_icmp .ge (Int.ofNat 51), 47), (47, .iload 2, 48)], [(48, .goto (Int.ofNat 76), 51), (51, .iload 6, 53), (53, .ldc 12, 55), (55, .if_icmp .ge (Int.ofNat 62), 58), (58, .iload 3, 59), (59, .goto (Int.ofNat 76), 62), (62, .iload 6, 64)], [(64, .ldc 16, 66), (66, .if_icmp .ge (Int.ofNat 74), 69), (69, .iload 4, 71), (71, .goto (Int.ofNat 76), 74), (74, .iload 5, 76), (76, .istore 7, 78), (78, .aload 0, 79), (79, .getstatic 581, 82)], [(82, .aload 0, 83), (83, .getfield 583, 86), (86, .iload 6, 88), (88, .iadd, 89), (89, .iload 7, 91), (91, .ldc 24, 93), (93, .ldc 8, 95), (95, .iload 6, 97)], [(97, .ldc 4, 98), (98, .irem, 99), (99, .imul, 100), (100, .isub, 101), (101, .ishr, 102), (102, .ldc 255, 105), (105, .iand, 106), (106, .iastore, 107), (107, .iinc 6 (Int.ofNat 1), 110), (110, .goto (Int.ofNat 23), 113)], [(113, .aload 0, 114), (114, .dup, 115), (115, .getfield 583, 118), (118, .ldc 20, 120), (120, .iadd, 121), (121, .putfield 583, 124), (124, .aload 0, 125), (125, .getfield 583, 128)], [(128, .ireturn, 129)]]
abbrev m_Mo_append : Nat := 125
def ah_Mo_append : List (Nat × Nat × Nat × Nat × Nat × Nat) := []
def at_Mo_fails : am_T := [[(0, .aload 0, 1), (1, .getfield 587, 4), (4, .ifCond .eq (Int.ofNat 8), 7), (7, .return_, 8), (8, .aload 0, 9), (9, .iload 1, 10), (10, .putfield 587, 13), (13, .aload 0, 14), (14, .iload 2, 15), (15, .putfield 588, 18)], [(18, .return_, 19)]]
abbrev m_Mo_fails : Nat := 126
def ah_Mo_fails : List (Nat × Nat × Nat × Nat × Nat × Nat) := []
def at_Mo_sees : am_T := [[(0, .aload 0, 1), (1, .getfield 586, 4), (4, .aload 0, 5), (5, .getfield 585, 8), (8, .if_icmp .ge (Int.ofNat 38), 11), (11, .aload 0, 12), (12, .getstatic 581, 15), (15, .aload 0, 16)], [(16, .getfield 586, 19), (19, .iaload, 20), (20, .ldc 32, 22), (22, .if_icmp .ne (Int.ofNat 38), 25), (25, .aload 0, 26), (26, .dup, 27), (27, .getfield 586, 30), (30, .ldc 1, 31), (31, .iadd, 32)], [(32, .putfield 586, 35), (35, .goto (Int.ofNat 0), 38), (38, .aload 0, 39), (39, .getfield 586, 42), (42, .aload 0, 43), (43, .getfield 585, 46), (46, .if_icmp .ge (Int.ofNat 61), 49)], [(49, .aload 0, 50), (50, .getstatic 581, 53), (53, .aload 0, 54), (54, .getfield 586, 57), (57, .iaload, 58), (58, .goto (Int.ofNat 62), 61), (61, .ldc_w 1, 62), (62, .ireturn, 63)]]
abbrev m_Mo_sees : Nat := 127
def ah_Mo_sees : List (Nat × Nat × Nat × Nat × Nat × Nat) := []
def at_Mo_takes : am_T := [[(0, .aload 0, 1), (1, .getfield 587, 4), (4, .ifCond .eq (Int.ofNat 9), 7), (7, .ldc 0, 8), (8, .areturn, 9), (9, .aload 0, 10), (10, .invokevirtual 75760, 13), (13, .pop, 14), (14, .aload 0, 15), (15, .getfield 586, 18)], [(18, .istore 2, 19), (19, .iload 2, 20), (20, .aload 0, 21), (21, .getfield 585, 24), (24, .if_icmp .ge (Int.ofNat 55), 27), (27, .aload 0, 28), (28, .getstatic 581, 31), (31, .iload 2, 32)], [(32, .iaload, 33), (33, .ldc 97, 35), (35, .if_icmp .lt (Int.ofNat 55), 38), (38, .aload 0, 39), (39, .getstatic 581, 42), (42, .iload 2, 43), (43, .iaload, 44), (44, .ldc 122, 46), (46, .if_icmp .gt (Int.ofNat 55), 49)], [(49, .iinc 2 (Int.ofNat 1), 52), (52, .goto (Int.ofNat 19), 55), (55, .iload 2, 56), (56, .aload 0, 57), (57, .getfield 586, 60), (60, .isub, 61), (61, .aload 1, 62), (62, .monitorexit, 65)], [(65, .if_icmp .ne (Int.ofNat 72), 68), (68, .ldc 1, 69), (69, .goto (Int.ofNat 73), 72), (72, .ldc 0, 73), (73, .istore 3, 74), (74, .ldc 0, 75), (75, .istore 4, 77), (77, .iload 3, 78), (78, .ifCond .eq (Int.ofNat 123), 81)], [(81, .iload 4, 83), (83, .aload 1, 84), (84, .monitorexit, 87), (87, .if_icmp .ge (Int.ofNat 123), 90), (90, .aload 0, 91), (91, .getstatic 581, 94), (94, .aload 0, 95), (95, .getfield 586, 98)], [(98, .iload 4, 100), (100, .iadd, 101), (101, .iaload, 102), (102, .aload 1, 103), (103, .iload 4, 105), (105, .instanceof 0, 108), (108, .if_icmp .ne (Int.ofNat 115), 111), (111, .ldc 1, 112)], [(112, .goto (Int.ofNat 116), 115), (115, .ldc 0, 116), (116, .istore 3, 117), (117, .iinc 4 (Int.ofNat 1), 120), (120, .goto (Int.ofNat 77), 123), (123, .iload 3, 124), (124, .ifCond .eq (Int.ofNat 132), 127), (127, .aload 0, 128)], [(128, .iload 2, 129), (129, .putfield 586, 132), (132, .iload 3, 133), (133, .areturn, 134)]]
abbrev m_Mo_takes : Nat := 128
def ah_Mo_takes : List (Nat × Nat × Nat × Nat × Nat × Nat) := []
def at_Mo_wants : am_T := [[(0, .aload 0, 1), (1, .getfield 587, 4), (4, .ifCond .eq (Int.ofNat 8), 7), (7, .return_, 8), (8, .aload 0, 9), (9, .invokevirtual 75760, 12), (12, .iload 1, 13), (13, .if_icmp .eq (Int.ofNat 29), 16)], [(16, .aload 0, 17), (17, .ldc_w 2, 19), (19, .aload 0, 20), (20, .getfield 586, 23), (23, .invokevirtual 75746, 26), (26, .goto (Int.ofNat 39), 29), (29, .aload 0, 30), (30, .dup, 31), (31, .getfield 586, 34)], [(34, .ldc 1, 35), (35, .iadd, 36), (36, .putfield 586, 39), (39, .return_, 40)]]
abbrev m_Mo_wants : Nat := 129
def ah_Mo_wants : List (Nat × Nat × Nat × Nat × Nat × Nat) := []
def at_Mo_isDigit : am_T := [[(0, .aload 0, 1), (1, .invokevirtual 75760, 4), (4, .ldc 48, 6), (6, .if_icmp .lt (Int.ofNat 22), 9), (9, .aload 0, 10), (10, .invokevirtual 75760, 13), (13, .ldc 57, 15), (15, .if_icmp .gt (Int.ofNat 22), 18)], [(18, .ldc 1, 19), (19, .goto (Int.ofNat 23), 22), (22, .ldc 0, 23), (23, .areturn, 24)]]
abbrev m_Mo_isDigit : Nat := 130
def ah_Mo_isDigit : List (Nat × Nat × Nat × Nat × Nat × Nat) := []
def at_Mo_reads : am_T := [[(0, .aload 0, 1), (1, .getfield 587, 4), (4, .ifCond .eq (Int.ofNat 9), 7), (7, .ldc 0, 8), (8, .ireturn, 9), (9, .aload 0, 10), (10, .invokevirtual 75808, 13), (13, .ifCond .ne (Int.ofNat 28), 16)], [(16, .aload 0, 17), (17, .ldc_w 2, 19), (19, .aload 0, 20), (20, .getfield 586, 23), (23, .invokevirtual 75746, 26), (26, .ldc 0, 27), (27, .ireturn, 28), (28, .aload 0, 29), (29, .aload 0, 30), (30, .getfield 586, 33)], [(33, .putfield 589, 36), (36, .ldc 0, 37), (37, .istore 3, 38), (38, .aload 0, 39), (39, .getfield 586, 42), (42, .aload 0, 43), (43, .getfield 585, 46), (46, .if_icmp .ge (Int.ofNat 113), 49)], [(49, .aload 0, 50), (50, .getstatic 581, 53), (53, .aload 0, 54), (54, .getfield 586, 57), (57, .iaload, 58), (58, .ldc 48, 60), (60, .if_icmp .lt (Int.ofNat 113), 63), (63, .aload 0, 64)], [(64, .getstatic 581, 67), (67, .aload 0, 68), (68, .getfield 586, 71), (71, .iaload, 72), (72, .ldc 57, 74), (74, .if_icmp .gt (Int.ofNat 113), 77), (77, .ldc 1000000, 79), (79, .ldc 10, 81)], [(81, .iload 3, 82), (82, .imul, 83), (83, .aload 0, 84), (84, .getstatic 581, 87), (87, .aload 0, 88), (88, .getfield 586, 91), (91, .iaload, 92), (92, .iadd, 93), (93, .ldc 48, 95), (95, .isub, 96)], [(96, .dsub, 99), (99, .istore 3, 100), (100, .aload 0, 101), (101, .dup, 102), (102, .getfield 586, 105), (105, .ldc 1, 106), (106, .iadd, 107), (107, .putfield 586, 110), (110, .goto (Int.ofNat 38), 113)], [(113, .iload 3, 114), (114, .i2l, 115), (115, .iload 1, 116), (116, .i2l, 117), (117, .iload 2, 118), (118, .i2l, 119), (119, .invokestatic 1923, 122), (122, .ifCond .ne (Int.ofNat 135), 125), (125, .aload 0, 126), (126, .ldc_w 3, 128)], [(128, .aload 0, 129), (129, .getfield 589, 132), (132, .invokevirtual 75746, 135), (135, .aload 0, 136), (136, .getfield 587, 139), (139, .ifCond .ne (Int.ofNat 146), 142), (142, .iload 3, 143), (143, .goto (Int.ofNat 147), 146)], [(146, .ldc 0, 147), (147, .ireturn, 148)]]
abbrev m_Mo_reads : Nat := 131
def ah_Mo_reads : List (Nat × Nat × Nat × Nat × Nat × Nat) := []
def at_Mo_codes : am_T := [[(0, .aload 0, 1), (1, .getfield 587, 4), (4, .ifCond .eq (Int.ofNat 8), 7), (7, .return_, 8), (8, .ldc 84, 10), (10, .ldc 2, 11), (11, .aload 0, 12), (12, .getstatic 578, 15), (15, .ldc 3, 16)], [(16, .iaload, 17), (17, .imul, 18), (18, .iadd, 19), (19, .istore 3, 20), (20, .aload 0, 21), (21, .getstatic 578, 24), (24, .iload 3, 25), (25, .iload 1, 26), (26, .iastore, 27), (27, .aload 0, 28), (28, .getstatic 578, 31), (31, .iload 3, 32)], [(32, .ldc 1, 33), (33, .iadd, 34), (34, .iload 2, 35), (35, .iastore, 36), (36, .aload 0, 37), (37, .getstatic 578, 40), (40, .ldc 3, 41), (41, .dup2, 42), (42, .iaload, 43), (43, .ldc 1, 44), (44, .iadd, 45), (45, .iastore, 46), (46, .return_, 47)]]
abbrev m_Mo_codes : Nat := 132
def ah_Mo_codes : List (Nat × Nat × Nat × Nat × Nat × Nat) := []
def at_Mo_sum : am_T := [[(0, .aload 0, 1), (1, .invokevirtual 75872, 4), (4, .aload 0, 5), (5, .getfield 587, 8), (8, .ifCond .ne (Int.ofNat 75), 11), (11, .aload 0, 12), (12, .invokevirtual 75760, 15), (15, .ldc 43, 17)], [(17, .if_icmp .eq (Int.ofNat 29), 20), (20, .aload 0, 21), (21, .invokevirtual 75760, 24), (24, .ldc 45, 26), (26, .if_icmp .ne (Int.ofNat 75), 29), (29, .aload 0, 30), (30, .invokevirtual 75760, 33)], [(33, .ldc 43, 35), (35, .if_icmp .ne (Int.ofNat 42), 38), (38, .ldc 1, 39), (39, .goto (Int.ofNat 43), 42), (42, .ldc 0, 43), (43, .istore 1, 44), (44, .aload 0, 45), (45, .dup, 46), (46, .getfield 586, 49)], [(49, .ldc 1, 50), (50, .iadd, 51), (51, .putfield 586, 54), (54, .aload 0, 55), (55, .invokevirtual 75872, 58), (58, .aload 0, 59), (59, .iload 1, 60), (60, .ifCond .eq (Int.ofNat 67), 63), (63, .ldc 1, 64)], [(64, .goto (Int.ofNat 68), 67), (67, .ldc 2, 68), (68, .ldc 0, 69), (69, .invokevirtual 75842, 72), (72, .goto (Int.ofNat 4), 75), (75, .return_, 76)]]
abbrev m_Mo_sum : Nat := 133
def ah_Mo_sum : List (Nat × Nat × Nat × Nat × Nat × Nat) := []
def at_Mo_term : am_T := [[(0, .aload 0, 1), (1, .invokevirtual 75888, 4), (4, .aload 0, 5), (5, .getfield 587, 8), (8, .ifCond .ne (Int.ofNat 75), 11), (11, .aload 0, 12), (12, .invokevirtual 75760, 15), (15, .ldc 42, 17)], [(17, .if_icmp .eq (Int.ofNat 29), 20), (20, .aload 0, 21), (21, .invokevirtual 75760, 24), (24, .ldc 47, 26), (26, .if_icmp .ne (Int.ofNat 75), 29), (29, .aload 0, 30), (30, .invokevirtual 75760, 33)], [(33, .ldc 42, 35), (35, .if_icmp .ne (Int.ofNat 42), 38), (38, .ldc 1, 39), (39, .goto (Int.ofNat 43), 42), (42, .ldc 0, 43), (43, .istore 1, 44), (44, .aload 0, 45), (45, .dup, 46), (46, .getfield 586, 49)], [(49, .ldc 1, 50), (50, .iadd, 51), (51, .putfield 586, 54), (54, .aload 0, 55), (55, .invokevirtual 75888, 58), (58, .aload 0, 59), (59, .iload 1, 60), (60, .ifCond .eq (Int.ofNat 67), 63), (63, .ldc 3, 64)], [(64, .goto (Int.ofNat 68), 67), (67, .ldc 4, 68), (68, .ldc 0, 69), (69, .invokevirtual 75842, 72), (72, .goto (Int.ofNat 4), 75), (75, .return_, 76)]]
abbrev m_Mo_term : Nat := 134
def ah_Mo_term : List (Nat × Nat × Nat × Nat × Nat × Nat) := []
def at_Mo_factor : am_T := [[(0, .aload 0, 1), (1, .getfield 587, 4), (4, .ifCond .eq (Int.ofNat 8), 7), (7, .return_, 8), (8, .aload 0, 9), (9, .invokevirtual 75760, 12), (12, .ldc 40, 14), (14, .if_icmp .ne (Int.ofNat 77), 17)], [(17, .aload 0, 18), (18, .getfield 590, 21), (21, .ldc 4, 22), (22, .if_icmp .ne (Int.ofNat 36), 25), (25, .aload 0, 26), (26, .ldc_w 6, 28), (28, .aload 0, 29), (29, .getfield 586, 32)], [(32, .invokevirtual 75746, 35), (35, .return_, 36), (36, .aload 0, 37), (37, .dup, 38), (38, .getfield 590, 41), (41, .ldc 1, 42), (42, .iadd, 43), (43, .putfield 590, 46), (46, .aload 0, 47), (47, .dup, 48)], [(48, .getfield 586, 51), (51, .ldc 1, 52), (52, .iadd, 53), (53, .putfield 586, 56), (56, .aload 0, 57), (57, .invokevirtual 75856, 60), (60, .aload 0, 61), (61, .ldc 41, 63), (63, .invokevirtual 75793, 66)], [(66, .aload 0, 67), (67, .dup, 68), (68, .getfield 590, 71), (71, .ldc 1, 72), (72, .isub, 73), (73, .putfield 590, 76), (76, .return_, 77), (77, .aload 0, 78), (78, .invokevirtual 75808, 81)], [(81, .ifCond .eq (Int.ofNat 98), 84), (84, .aload 0, 85), (85, .ldc 0, 86), (86, .aload 0, 87), (87, .ldc 0, 88), (88, .ldc 9999, 91), (91, .invokevirtual 75826, 94), (94, .invokevirtual 75842, 97)], [(97, .return_, 98), (98, .aload 0, 99), (99, .invokeinterface 5 0, 101), (101, .invokevirtual 75777, 104), (104, .ifCond .eq (Int.ofNat 111), 107), (107, .ldc 0, 108), (108, .goto (Int.ofNat 138), 111), (111, .aload 0, 112)], [(112, .invokeinterface 6 0, 114), (114, .invokevirtual 75777, 117), (117, .ifCond .eq (Int.ofNat 124), 120), (120, .ldc 1, 121), (121, .goto (Int.ofNat 138), 124), (124, .aload 0, 125), (125, .invokeinterface 7 0, 127), (127, .invokevirtual 75777, 130)], [(130, .ifCond .eq (Int.ofNat 137), 133), (133, .ldc 2, 134), (134, .goto (Int.ofNat 138), 137), (137, .ldc_w 1, 138), (138, .istore 1, 139), (139, .iload 1, 140), (140, .ldc_w 1, 141), (141, .if_icmp .ne (Int.ofNat 157), 144)], [(144, .aload 0, 145), (145, .ldc_w 2, 147), (147, .aload 0, 148), (148, .getfield 586, 151), (151, .invokevirtual 75746, 154), (154, .goto (Int.ofNat 163), 157), (157, .aload 0, 158), (158, .ldc 5, 159), (159, .iload 1, 160)], [(160, .invokevirtual 75842, 163), (163, .return_, 164)]]
abbrev m_Mo_factor : Nat := 135
def ah_Mo_factor : List (Nat × Nat × Nat × Nat × Nat × Nat) := []
def at_Mo_readsVertex : am_T := [[(0, .aload 0, 1), (1, .ldc 0, 2), (2, .aload 0, 3), (3, .getstatic 578, 6), (6, .ldc 0, 7), (7, .iaload, 8), (8, .ldc 1, 9), (9, .isub, 10), (10, .invokevirtual 75826, 13), (13, .ireturn, 14)]]
abbrev m_Mo_readsVertex : Nat := 136
def ah_Mo_readsVertex : List (Nat × Nat × Nat × Nat × Nat × Nat) := []
def at_Mo_terminalLine : am_T := [[(0, .aload 0, 1), (1, .getstatic 578, 4), (4, .ldc 2, 5), (5, .iaload, 6), (6, .invokestatic 2209, 9), (9, .ldc 5, 10), (10, .if_icmp .ne (Int.ofNat 20), 13), (13, .aload 0, 14), (14, .ldc_w 5, 16)], [(16, .iload 1, 17), (17, .invokevirtual 75746, 20), (20, .aload 0, 21), (21, .invokevirtual 75904, 24), (24, .istore 2, 25), (25, .aload 0, 26), (26, .getfield 587, 29), (29, .ifCond .ne (Int.ofNat 56), 32)], [(32, .aload 0, 33), (33, .getstatic 578, 36), (36, .ldc 2, 37), (37, .iaload, 38), (38, .iload 2, 39), (39, .ishr, 40), (40, .ldc 1, 41), (41, .iand, 42), (42, .ldc 1, 43), (43, .if_icmp .ne (Int.ofNat 56), 46), (46, .aload 0, 47), (47, .ldc_w 4, 49)], [(49, .aload 0, 50), (50, .getfield 589, 53), (53, .invokevirtual 75746, 56), (56, .aload 0, 57), (57, .getfield 587, 60), (60, .ifCond .ne (Int.ofNat 75), 63), (63, .aload 0, 64)], [(64, .getstatic 578, 67), (67, .ldc 2, 68), (68, .dup2, 69), (69, .iaload, 70), (70, .ldc 1, 71), (71, .iload 2, 72), (72, .ishl, 73), (73, .ior, 74), (74, .iastore, 75), (75, .return_, 76)]]
abbrev m_Mo_terminalLine : Nat := 137
def ah_Mo_terminalLine : List (Nat × Nat × Nat × Nat × Nat × Nat) := []
def at_Mo_bitsOf : am_T := [[(0, .ldc 0, 1), (1, .istore 1, 2), (2, .ldc 0, 3), (3, .istore 2, 4), (4, .iload 2, 5), (5, .ldc 30, 7), (7, .if_icmp .ge (Int.ofNat 24), 10), (10, .iload 1, 11), (11, .iload 0, 12), (12, .iload 2, 13), (13, .ishr, 14), (14, .ldc 1, 15), (15, .iand, 16)], [(16, .iadd, 17), (17, .istore 1, 18), (18, .iinc 2 (Int.ofNat 1), 21), (21, .goto (Int.ofNat 4), 24), (24, .iload 1, 25), (25, .ireturn, 26)]]
abbrev m_Mo_bitsOf : Nat := 138
def ah_Mo_bitsOf : List (Nat × Nat × Nat × Nat × Nat × Nat) := []
def at_Mo_isJoined : am_T := [[(0, .ldc 0, 1), (1, .istore 3, 2), (2, .iload 3, 3), (3, .aload 0, 4), (4, .getstatic 578, 7), (7, .ldc 1, 8), (8, .iaload, 9), (9, .if_icmp .ge (Int.ofNat 60), 12), (12, .aload 0, 13), (13, .getstatic 578, 16)], [(16, .ldc 15, 18), (18, .ldc 3, 19), (19, .iload 3, 20), (20, .imul, 21), (21, .iadd, 22), (22, .iaload, 23), (23, .iload 1, 24), (24, .iload 2, 25), (25, .dsub, 28), (28, .if_icmp .ne (Int.ofNat 54), 31), (31, .aload 0, 32)], [(32, .getstatic 578, 35), (35, .ldc 15, 37), (37, .ldc 3, 38), (38, .iload 3, 39), (39, .imul, 40), (40, .iadd, 41), (41, .ldc 1, 42), (42, .iadd, 43), (43, .iaload, 44), (44, .iload 1, 45), (45, .iload 2, 46), (46, .dadd, 49)], [(49, .if_icmp .ne (Int.ofNat 54), 52), (52, .ldc 1, 53), (53, .areturn, 54), (54, .iinc 3 (Int.ofNat 1), 57), (57, .goto (Int.ofNat 2), 60), (60, .ldc 0, 61), (61, .areturn, 62)]]
abbrev m_Mo_isJoined : Nat := 139
def ah_Mo_isJoined : List (Nat × Nat × Nat × Nat × Nat × Nat) := []
def at_Mo_edgeLine : am_T := [[(0, .aload 0, 1), (1, .getstatic 578, 4), (4, .ldc 1, 5), (5, .iaload, 6), (6, .ldc 20, 8), (8, .if_icmp .ne (Int.ofNat 18), 11), (11, .aload 0, 12), (12, .ldc_w 5, 14), (14, .iload 1, 15), (15, .invokevirtual 75746, 18)], [(18, .aload 0, 19), (19, .invokevirtual 75904, 22), (22, .istore 2, 23), (23, .aload 0, 24), (24, .invokevirtual 75904, 27), (27, .istore 3, 28), (28, .aload 0, 29), (29, .getfield 587, 32)], [(32, .ifCond .ne (Int.ofNat 59), 35), (35, .iload 2, 36), (36, .iload 3, 37), (37, .if_icmp .eq (Int.ofNat 49), 40), (40, .aload 0, 41), (41, .iload 2, 42), (42, .iload 3, 43), (43, .invokevirtual 75954, 46), (46, .ifCond .eq (Int.ofNat 59), 49)], [(49, .aload 0, 50), (50, .ldc_w 4, 52), (52, .aload 0, 53), (53, .getfield 589, 56), (56, .invokevirtual 75746, 59), (59, .aload 0, 60), (60, .ldc 1, 61), (61, .ldc 99, 63), (63, .invokevirtual 75826, 66)], [(66, .istore 4, 68), (68, .aload 0, 69), (69, .getfield 587, 72), (72, .ifCond .eq (Int.ofNat 76), 75), (75, .return_, 76), (76, .ldc 15, 78), (78, .ldc 3, 79), (79, .aload 0, 80)], [(80, .getstatic 578, 83), (83, .ldc 1, 84), (84, .iaload, 85), (85, .imul, 86), (86, .iadd, 87), (87, .istore 5, 89), (89, .aload 0, 90), (90, .getstatic 578, 93), (93, .iload 5, 95), (95, .iload 2, 96)], [(96, .iload 3, 97), (97, .dsub, 100), (100, .iastore, 101), (101, .aload 0, 102), (102, .getstatic 578, 105), (105, .iload 5, 107), (107, .ldc 1, 108), (108, .iadd, 109), (109, .iload 2, 110), (110, .iload 3, 111), (111, .dadd, 114)], [(114, .iastore, 115), (115, .aload 0, 116), (116, .getstatic 578, 119), (119, .iload 5, 121), (121, .ldc 2, 122), (122, .iadd, 123), (123, .iload 4, 125), (125, .iastore, 126), (126, .aload 0, 127), (127, .getstatic 578, 130)], [(130, .ldc 1, 131), (131, .dup2, 132), (132, .iaload, 133), (133, .ldc 1, 134), (134, .iadd, 135), (135, .iastore, 136), (136, .return_, 137)]]
abbrev m_Mo_edgeLine : Nat := 140
def ah_Mo_edgeLine : List (Nat × Nat × Nat × Nat × Nat × Nat) := []
def at_Mo_loadLine : am_T := [[(0, .aload 0, 1), (1, .invokevirtual 75904, 4), (4, .istore 1, 5), (5, .aload 0, 6), (6, .getfield 587, 9), (9, .ifCond .ne (Int.ofNat 31), 12), (12, .aload 0, 13), (13, .getstatic 582, 16)], [(16, .iload 1, 17), (17, .saload, 18), (18, .ifCond .eq (Int.ofNat 31), 21), (21, .aload 0, 22), (22, .ldc_w 4, 24), (24, .aload 0, 25), (25, .getfield 589, 28), (28, .invokevirtual 75746, 31), (31, .aload 0, 32)], [(32, .ldc 0, 33), (33, .ldc 99, 35), (35, .invokevirtual 75826, 38), (38, .istore 2, 39), (39, .aload 0, 40), (40, .getfield 587, 43), (43, .ifCond .eq (Int.ofNat 47), 46), (46, .return_, 47), (47, .aload 0, 48)], [(48, .getstatic 582, 51), (51, .iload 1, 52), (52, .ldc 1, 53), (53, .sastore, 54), (54, .aload 0, 55), (55, .getstatic 578, 58), (58, .ldc 6, 60), (60, .iload 1, 61), (61, .iadd, 62), (62, .iload 2, 63), (63, .iastore, 64)], [(64, .return_, 65)]]
abbrev m_Mo_loadLine : Nat := 141
def ah_Mo_loadLine : List (Nat × Nat × Nat × Nat × Nat × Nat) := []
def at_Mo_statement : am_T := [[(0, .aload 0, 1), (1, .invokevirtual 75760, 4), (4, .pop, 5), (5, .aload 0, 6), (6, .getfield 586, 9), (9, .istore 1, 10), (10, .aload 0, 11), (11, .invokeinterface 1 0, 13), (13, .invokevirtual 75777, 16)], [(16, .ifCond .eq (Int.ofNat 27), 19), (19, .aload 0, 20), (20, .iload 1, 21), (21, .invokevirtual 75921, 24), (24, .goto (Int.ofNat 109), 27), (27, .aload 0, 28), (28, .invokeinterface 2 0, 30), (30, .invokevirtual 75777, 33)], [(33, .ifCond .eq (Int.ofNat 44), 36), (36, .aload 0, 37), (37, .iload 1, 38), (38, .invokevirtual 75969, 41), (41, .goto (Int.ofNat 109), 44), (44, .aload 0, 45), (45, .invokeinterface 3 0, 47), (47, .invokevirtual 75777, 50)], [(50, .ifCond .eq (Int.ofNat 60), 53), (53, .aload 0, 54), (54, .invokevirtual 75984, 57), (57, .goto (Int.ofNat 109), 60), (60, .aload 0, 61), (61, .invokeinterface 4 0, 63), (63, .invokevirtual 75777, 66)], [(66, .ifCond .eq (Int.ofNat 102), 69), (69, .aload 0, 70), (70, .getfield 591, 73), (73, .ifCond .eq (Int.ofNat 83), 76), (76, .aload 0, 77), (77, .ldc_w 2, 79), (79, .iload 1, 80)], [(80, .invokevirtual 75746, 83), (83, .aload 0, 84), (84, .ldc 1, 85), (85, .putstatic 591, 88), (88, .aload 0, 89), (89, .getfield 587, 92), (92, .ifCond .ne (Int.ofNat 109), 95), (95, .aload 0, 96)], [(96, .invokevirtual 75856, 99), (99, .goto (Int.ofNat 109), 102), (102, .aload 0, 103), (103, .ldc_w 2, 105), (105, .iload 1, 106), (106, .invokevirtual 75746, 109), (109, .aload 0, 110), (110, .ldc 59, 112)], [(112, .invokevirtual 75793, 115), (115, .return_, 116)]]
abbrev m_Mo_statement : Nat := 142
def ah_Mo_statement : List (Nat × Nat × Nat × Nat × Nat × Nat) := []
def at_Mo_texts : am_T := [[(0, .ldc 0, 1), (1, .istore 1, 2), (2, .iload 1, 3), (3, .ldc 1472, 6), (6, .if_icmp .ge (Int.ofNat 22), 9), (9, .aload 0, 10), (10, .getstatic 578, 13), (13, .iload 1, 14), (14, .ldc 0, 15), (15, .iastore, 16)], [(16, .iinc 1 (Int.ofNat 1), 19), (19, .goto (Int.ofNat 2), 22), (22, .ldc 0, 23), (23, .istore 1, 24), (24, .iload 1, 25), (25, .ldc 9, 27), (27, .if_icmp .ge (Int.ofNat 43), 30), (30, .aload 0, 31), (31, .getstatic 582, 34)], [(34, .iload 1, 35), (35, .ldc 0, 36), (36, .sastore, 37), (37, .iinc 1 (Int.ofNat 1), 40), (40, .goto (Int.ofNat 24), 43), (43, .aload 0, 44), (44, .ldc 0, 45), (45, .putfield 586, 48)], [(48, .aload 0, 49), (49, .ldc 0, 50), (50, .putfield 587, 53), (53, .aload 0, 54), (54, .ldc 0, 55), (55, .putfield 590, 58), (58, .aload 0, 59), (59, .ldc 0, 60), (60, .putstatic 591, 63), (63, .aload 0, 64)], [(64, .invokeinterface 0 0, 66), (66, .invokevirtual 75777, 69), (69, .ifCond .ne (Int.ofNat 82), 72), (72, .aload 0, 73), (73, .ldc_w 2, 75), (75, .aload 0, 76), (76, .getfield 586, 79), (79, .invokevirtual 75746, 82)], [(82, .aload 0, 83), (83, .getstatic 578, 86), (86, .ldc 0, 87), (87, .aload 0, 88), (88, .ldc 2, 89), (89, .ldc 9, 91), (91, .invokevirtual 75826, 94), (94, .iastore, 95), (95, .aload 0, 96)], [(96, .ldc 59, 98), (98, .invokevirtual 75793, 101), (101, .aload 0, 102), (102, .getfield 587, 105), (105, .ifCond .ne (Int.ofNat 123), 108), (108, .aload 0, 109), (109, .invokevirtual 75760, 112)], [(112, .ldc_w 1, 113), (113, .if_icmp .eq (Int.ofNat 123), 116), (116, .aload 0, 117), (117, .invokevirtual 76000, 120), (120, .goto (Int.ofNat 101), 123), (123, .return_, 124)]]
abbrev m_Mo_texts : Nat := 143
def ah_Mo_texts : List (Nat × Nat × Nat × Nat × Nat × Nat) := []
def at_Mo_load : am_T := [[(0, .aload 0, 1), (1, .ldc 0, 2), (2, .putfield 576, 5), (5, .aload 0, 6), (6, .iload 1, 7), (7, .i2l, 8), (8, .ldc2_w 0, 9), (9, .aload 0, 10), (10, .getfield 583, 13), (13, .i2l, 14), (14, .invokestatic 1923, 17)], [(17, .ldc 1, 18), (18, .invokevirtual 75714, 21), (21, .ifCond .ne (Int.ofNat 26), 24), (24, .ldc 0, 25), (25, .ireturn, 26), (26, .aload 0, 27), (27, .iload 1, 28), (28, .putfield 585, 31), (31, .aload 0, 32)], [(32, .ldc 0, 33), (33, .putfield 583, 36), (36, .aload 0, 37), (37, .ldc_w 1, 38), (38, .putfield 584, 41), (41, .aload 0, 42), (42, .invokevirtual 76016, 45), (45, .aload 0, 46), (46, .getfield 587, 49)], [(49, .ifCond .eq (Int.ofNat 65), 52), (52, .aload 0, 53), (53, .aload 0, 54), (54, .getfield 588, 57), (57, .putfield 584, 60), (60, .aload 0, 61), (61, .getfield 587, 64)], [(64, .ireturn, 65), (65, .aload 0, 66), (66, .invokevirtual 75696, 69), (69, .ldc 0, 70), (70, .istore 2, 71), (71, .iload 2, 72), (72, .ldc 1472, 75), (75, .if_icmp .ge (Int.ofNat 95), 78), (78, .aload 0, 79), (79, .iload 2, 80)], [(80, .aload 0, 81), (81, .getstatic 578, 84), (84, .iload 2, 85), (85, .iaload, 86), (86, .invokevirtual 75682, 89), (89, .iinc 2 (Int.ofNat 1), 92), (92, .goto (Int.ofNat 71), 95), (95, .ldc 0, 96)], [(96, .istore 2, 97), (97, .iload 2, 98), (98, .ldc 9, 100), (100, .if_icmp .ge (Int.ofNat 130), 103), (103, .aload 0, 104), (104, .ldc 75, 106), (106, .iload 2, 107), (107, .iadd, 108), (108, .aload 0, 109), (109, .iload 2, 110), (110, .invokevirtual 76193, 113)], [(113, .ifCond .eq (Int.ofNat 120), 116), (116, .iload 2, 117), (117, .goto (Int.ofNat 121), 120), (120, .ldc_w 1, 121), (121, .invokevirtual 75682, 124), (124, .iinc 2 (Int.ofNat 1), 127), (127, .goto (Int.ofNat 97), 130)], [(130, .aload 0, 131), (131, .ldc 1, 132), (132, .invokevirtual 75665, 135), (135, .ireturn, 136)]]
abbrev m_Mo_load : Nat := 144
def ah_Mo_load : List (Nat × Nat × Nat × Nat × Nat × Nat) := []
def at_Mo_errorOffset : am_T := [[(0, .aload 0, 1), (1, .ldc 0, 2), (2, .putfield 576, 5), (5, .aload 0, 6), (6, .getfield 584, 9), (9, .ireturn, 10)]]
abbrev m_Mo_errorOffset : Nat := 145
def ah_Mo_errorOffset : List (Nat × Nat × Nat × Nat × Nat × Nat) := []
def at_Mo_within : am_T := [[(0, .lload 0, 1), (1, .lload 2, 2), (2, .lneg, 3), (3, .lcmp, 4), (4, .ifCond .ge (Int.ofNat 12), 7), (7, .lload 2, 8), (8, .lneg, 9), (9, .goto (Int.ofNat 23), 12), (12, .lload 0, 13), (13, .lload 2, 14), (14, .lcmp, 15), (15, .ifCond .le (Int.ofNat 22), 18)], [(18, .lload 2, 19), (19, .goto (Int.ofNat 23), 22), (22, .lload 0, 23), (23, .lreturn, 24)]]
abbrev m_Mo_within : Nat := 146
def ah_Mo_within : List (Nat × Nat × Nat × Nat × Nat × Nat) := []
def at_Mo_costOf : am_T := [[(0, .ldc 15, 2), (2, .ldc 3, 3), (3, .iload 1, 4), (4, .imul, 5), (5, .iadd, 6), (6, .istore 2, 7), (7, .aload 0, 8), (8, .ldc 3, 9), (9, .invokevirtual 75665, 12), (12, .ifCond .ne (Int.ofNat 23), 15), (15, .aload 0, 16)], [(16, .iload 2, 17), (17, .ldc 2, 18), (18, .iadd, 19), (19, .invokevirtual 75665, 22), (22, .ireturn, 23), (23, .ldc 0, 24), (24, .istore 3, 25), (25, .ldc 0, 26), (26, .istore 4, 28), (28, .iload 4, 30), (30, .aload 0, 31), (31, .ldc 3, 32)], [(32, .invokevirtual 75665, 35), (35, .if_icmp .ge (Int.ofNat 233), 38), (38, .aload 0, 39), (39, .ldc 84, 41), (41, .ldc 2, 42), (42, .iload 4, 44), (44, .imul, 45), (45, .iadd, 46), (46, .invokevirtual 75665, 49)], [(49, .istore 5, 51), (51, .aload 0, 52), (52, .ldc 84, 54), (54, .ldc 2, 55), (55, .iload 4, 57), (57, .imul, 58), (58, .iadd, 59), (59, .ldc 1, 60), (60, .iadd, 61), (61, .invokevirtual 75665, 64)], [(64, .istore 6, 66), (66, .iload 5, 68), (68, .ifCond .eq (Int.ofNat 77), 71), (71, .iload 5, 73), (73, .ldc 5, 74), (74, .if_icmp .ne (Int.ofNat 134), 77), (77, .aload 0, 78), (78, .getstatic 592, 81)], [(81, .iload 3, 82), (82, .iload 5, 84), (84, .ifCond .ne (Int.ofNat 93), 87), (87, .iload 6, 89), (89, .i2l, 90), (90, .goto (Int.ofNat 127), 93), (93, .iload 6, 95), (95, .ifCond .ne (Int.ofNat 109), 98)], [(98, .aload 0, 99), (99, .iload 2, 100), (100, .ldc 2, 101), (101, .iadd, 102), (102, .invokevirtual 75665, 105), (105, .i2l, 106), (106, .goto (Int.ofNat 127), 109), (109, .aload 0, 110), (110, .ldc 6, 112)], [(112, .aload 0, 113), (113, .iload 2, 114), (114, .iload 6, 116), (116, .iadd, 117), (117, .ldc 1, 118), (118, .isub, 119), (119, .invokevirtual 75665, 122), (122, .iadd, 123), (123, .invokevirtual 75665, 126), (126, .i2l, 127), (127, .lastore, 128)], [(128, .iinc 3 (Int.ofNat 1), 131), (131, .goto (Int.ofNat 227), 134), (134, .iinc 3 (Int.negSucc 0), 137), (137, .aload 0, 138), (138, .getstatic 592, 141), (141, .iload 3, 142), (142, .ldc 1, 143), (143, .isub, 144)], [(144, .laload, 145), (145, .lstore 7, 147), (147, .aload 0, 148), (148, .getstatic 592, 151), (151, .iload 3, 152), (152, .laload, 153), (153, .lstore 9, 155), (155, .aload 0, 156), (156, .getstatic 592, 159), (159, .iload 3, 160)], [(160, .ldc 1, 161), (161, .isub, 162), (162, .iload 5, 164), (164, .ldc 1, 165), (165, .if_icmp .ne (Int.ofNat 176), 168), (168, .lload 7, 170), (170, .lload 9, 172), (172, .ladd, 173), (173, .goto (Int.ofNat 220), 176)], [(176, .iload 5, 178), (178, .ldc 2, 179), (179, .if_icmp .ne (Int.ofNat 190), 182), (182, .lload 7, 184), (184, .lload 9, 186), (186, .lsub, 187), (187, .goto (Int.ofNat 220), 190), (190, .iload 5, 192)], [(192, .ldc 3, 193), (193, .if_icmp .ne (Int.ofNat 204), 196), (196, .lload 7, 198), (198, .lload 9, 200), (200, .lmul, 201), (201, .goto (Int.ofNat 220), 204), (204, .lload 9, 206), (206, .ldc2_w 0, 207), (207, .lcmp, 208)], [(208, .ifCond .ne (Int.ofNat 215), 211), (211, .ldc2_w 0, 212), (212, .goto (Int.ofNat 220), 215), (215, .lload 7, 217), (217, .lload 9, 219), (219, .ldiv, 220), (220, .ldc2_w 1000000, 223), (223, .invokestatic 2338, 226)], [(226, .lastore, 227), (227, .iinc 4 (Int.ofNat 1), 230), (230, .goto (Int.ofNat 28), 233), (233, .aload 0, 234), (234, .getstatic 592, 237), (237, .ldc 0, 238), (238, .laload, 239), (239, .ldc2_w 1, 240)], [(240, .lcmp, 241), (241, .ifCond .ge (Int.ofNat 248), 244), (244, .ldc2_w 1, 245), (245, .goto (Int.ofNat 273), 248), (248, .aload 0, 249), (249, .getstatic 592, 252), (252, .ldc 0, 253), (253, .laload, 254), (254, .ldc2_w 9999, 257)], [(257, .lcmp, 258), (258, .ifCond .le (Int.ofNat 267), 261), (261, .ldc2_w 9999, 264), (264, .goto (Int.ofNat 273), 267), (267, .aload 0, 268), (268, .getstatic 592, 271), (271, .ldc 0, 272)], [(272, .laload, 273), (273, .l2i, 274), (274, .ireturn, 275)]]
abbrev m_Mo_costOf : Nat := 147
def ah_Mo_costOf : List (Nat × Nat × Nat × Nat × Nat × Nat) := []
def at_Mo_laysCosts : am_T := [[(0, .ldc 0, 1), (1, .istore 1, 2), (2, .iload 1, 3), (3, .aload 0, 4), (4, .invokevirtual 76128, 7), (7, .if_icmp .ge (Int.ofNat 27), 10), (10, .aload 0, 11), (11, .getstatic 593, 14), (14, .iload 1, 15), (15, .aload 0, 16)], [(16, .iload 1, 17), (17, .invokevirtual 76081, 20), (20, .iastore, 21), (21, .iinc 1 (Int.ofNat 1), 24), (24, .goto (Int.ofNat 2), 27), (27, .return_, 28)]]
abbrev m_Mo_laysCosts : Nat := 148
def ah_Mo_laysCosts : List (Nat × Nat × Nat × Nat × Nat × Nat) := []
def at_Mo_count : am_T := [[(0, .aload 0, 1), (1, .ldc 0, 2), (2, .invokevirtual 75665, 5), (5, .ireturn, 6)]]
abbrev m_Mo_count : Nat := 149
def ah_Mo_count : List (Nat × Nat × Nat × Nat × Nat × Nat) := []
def at_Mo_edges : am_T := [[(0, .aload 0, 1), (1, .ldc 1, 2), (2, .invokevirtual 75665, 5), (5, .ireturn, 6)]]
abbrev m_Mo_edges : Nat := 150
def ah_Mo_edges : List (Nat × Nat × Nat × Nat × Nat × Nat) := []
def at_Mo_low : am_T := [[(0, .aload 0, 1), (1, .ldc 15, 3), (3, .ldc 3, 4), (4, .iload 1, 5), (5, .imul, 6), (6, .iadd, 7), (7, .invokevirtual 75665, 10), (10, .ireturn, 11)]]
abbrev m_Mo_low : Nat := 151
def ah_Mo_low : List (Nat × Nat × Nat × Nat × Nat × Nat) := []
def at_Mo_high : am_T := [[(0, .aload 0, 1), (1, .ldc 15, 3), (3, .ldc 3, 4), (4, .iload 1, 5), (5, .imul, 6), (6, .iadd, 7), (7, .ldc 1, 8), (8, .iadd, 9), (9, .invokevirtual 75665, 12), (12, .ireturn, 13)]]
abbrev m_Mo_high : Nat := 152
def ah_Mo_high : List (Nat × Nat × Nat × Nat × Nat × Nat) := []
def at_Mo_has : am_T := [[(0, .iload 0, 1), (1, .iload 1, 2), (2, .ishr, 3), (3, .ldc 1, 4), (4, .iand, 5), (5, .ldc 1, 6), (6, .if_icmp .ne (Int.ofNat 13), 9), (9, .ldc 1, 10), (10, .goto (Int.ofNat 14), 13), (13, .ldc 0, 14), (14, .areturn, 15)]]
abbrev m_Mo_has : Nat := 153
def ah_Mo_has : List (Nat × Nat × Nat × Nat × Nat × Nat) := []
def at_Mo_isTerminal : am_T := [[(0, .aload 0, 1), (1, .ldc 2, 2), (2, .invokevirtual 75665, 5), (5, .iload 1, 6), (6, .invokestatic 2450, 9), (9, .areturn, 10)]]
abbrev m_Mo_isTerminal : Nat := 154
def ah_Mo_isTerminal : List (Nat × Nat × Nat × Nat × Nat × Nat) := []
def at_Mo_all : am_T := [[(0, .ldc 1, 1), (1, .aload 0, 2), (2, .invokevirtual 76112, 5), (5, .ishl, 6), (6, .ldc 1, 7), (7, .isub, 8), (8, .ireturn, 9)]]
abbrev m_Mo_all : Nat := 155
def ah_Mo_all : List (Nat × Nat × Nat × Nat × Nat × Nat) := []
def at_Mo_cutOf : am_T := [[(0, .ldc 0, 1), (1, .istore 2, 2), (2, .ldc 0, 3), (3, .istore 3, 4), (4, .iload 3, 5), (5, .aload 0, 6), (6, .invokevirtual 76128, 9), (9, .if_icmp .ge (Int.ofNat 52), 12), (12, .iload 2, 13), (13, .iload 1, 14), (14, .aload 0, 15), (15, .iload 3, 16)], [(16, .invokevirtual 76145, 19), (19, .invokestatic 2450, 22), (22, .iload 1, 23), (23, .aload 0, 24), (24, .iload 3, 25), (25, .invokevirtual 76161, 28), (28, .invokestatic 2450, 31), (31, .if_icmp .eq (Int.ofNat 43), 34)], [(34, .aload 0, 35), (35, .getstatic 593, 38), (38, .iload 3, 39), (39, .iaload, 40), (40, .goto (Int.ofNat 44), 43), (43, .ldc 0, 44), (44, .iadd, 45), (45, .istore 2, 46), (46, .iinc 3 (Int.ofNat 1), 49)], [(49, .goto (Int.ofNat 4), 52), (52, .iload 2, 53), (53, .ireturn, 54)]]
abbrev m_Mo_cutOf : Nat := 156
def ah_Mo_cutOf : List (Nat × Nat × Nat × Nat × Nat × Nat) := []
def at_Mo_bestSet : am_T := [[(0, .ldc_w 1, 1), (1, .istore 4, 3), (3, .aload 0, 4), (4, .ldc 1000000000, 6), (6, .putfield 594, 9), (9, .ldc 0, 10), (10, .istore 5, 12), (12, .iload 5, 14), (14, .aload 0, 15), (15, .invokevirtual 76208, 18)], [(18, .if_icmp .gt (Int.ofNat 129), 21), (21, .iload 5, 23), (23, .iload 1, 24), (24, .iand, 25), (25, .iload 1, 26), (26, .if_icmp .ne (Int.ofNat 123), 29), (29, .iload 5, 31), (31, .iload 2, 32)], [(32, .iand, 33), (33, .ifCond .eq (Int.ofNat 39), 36), (36, .goto (Int.ofNat 123), 39), (39, .aload 0, 40), (40, .iload 5, 42), (42, .invokevirtual 76225, 45), (45, .istore 6, 47), (47, .iload 6, 49)], [(49, .aload 0, 50), (50, .getfield 594, 53), (53, .if_icmp .lt (Int.ofNat 98), 56), (56, .iload 6, 58), (58, .aload 0, 59), (59, .getfield 594, 62), (62, .if_icmp .ne (Int.ofNat 102), 65)], [(65, .iload 3, 66), (66, .ifCond .eq (Int.ofNat 85), 69), (69, .iload 5, 71), (71, .invokestatic 2209, 74), (74, .iload 4, 76), (76, .invokestatic 2209, 79), (79, .if_icmp .ge (Int.ofNat 102), 82)], [(82, .goto (Int.ofNat 98), 85), (85, .iload 5, 87), (87, .invokestatic 2209, 90), (90, .iload 4, 92), (92, .invokestatic 2209, 95), (95, .if_icmp .le (Int.ofNat 102), 98)], [(98, .ldc 1, 99), (99, .goto (Int.ofNat 103), 102), (102, .ldc 0, 103), (103, .istore 7, 105), (105, .iload 7, 107), (107, .ifCond .ne (Int.ofNat 113), 110), (110, .goto (Int.ofNat 123), 113)], [(113, .aload 0, 114), (114, .iload 6, 116), (116, .putfield 594, 119), (119, .iload 5, 121), (121, .istore 4, 123), (123, .iinc 5 (Int.ofNat 1), 126), (126, .goto (Int.ofNat 12), 129)], [(129, .iload 4, 131), (131, .ireturn, 132)]]
abbrev m_Mo_bestSet : Nat := 157
def ah_Mo_bestSet : List (Nat × Nat × Nat × Nat × Nat × Nat) := []
def at_Mo_isolating : am_T := [[(0, .aload 0, 1), (1, .ldc 1, 2), (2, .iload 1, 3), (3, .ishl, 4), (4, .aload 0, 5), (5, .ldc 2, 6), (6, .invokevirtual 75665, 9), (9, .ldc 1, 10), (10, .iload 1, 11), (11, .ishl, 12), (12, .ldc_w 1, 13), (13, .ixor, 14), (14, .iand, 15), (15, .ldc 1, 16)], [(16, .invokevirtual 76243, 19), (19, .ireturn, 20)]]
abbrev m_Mo_isolating : Nat := 158
def ah_Mo_isolating : List (Nat × Nat × Nat × Nat × Nat × Nat) := []
def at_Mo_laysIsolating : am_T := [[(0, .aload 0, 1), (1, .invokevirtual 76096, 4), (4, .ldc 0, 5), (5, .istore 1, 6), (6, .iload 1, 7), (7, .aload 0, 8), (8, .invokevirtual 76112, 11), (11, .if_icmp .ge (Int.ofNat 52), 14), (14, .aload 0, 15), (15, .iload 1, 16)], [(16, .invokevirtual 76193, 19), (19, .ifCond .ne (Int.ofNat 25), 22), (22, .goto (Int.ofNat 46), 25), (25, .aload 0, 26), (26, .getstatic 596, 29), (29, .iload 1, 30), (30, .aload 0, 31), (31, .iload 1, 32)], [(32, .invokevirtual 76257, 35), (35, .iastore, 36), (36, .aload 0, 37), (37, .getstatic 595, 40), (40, .iload 1, 41), (41, .aload 0, 42), (42, .getfield 594, 45), (45, .iastore, 46), (46, .iinc 1 (Int.ofNat 1), 49)], [(49, .goto (Int.ofNat 6), 52), (52, .return_, 53)]]
abbrev m_Mo_laysIsolating : Nat := 159
def ah_Mo_laysIsolating : List (Nat × Nat × Nat × Nat × Nat × Nat) := []
def at_Mo_dearestNow : am_T := [[(0, .ldc_w 1, 1), (1, .istore 1, 2), (2, .ldc 0, 3), (3, .istore 2, 4), (4, .iload 2, 5), (5, .aload 0, 6), (6, .invokevirtual 76112, 9), (9, .if_icmp .ge (Int.ofNat 48), 12), (12, .aload 0, 13), (13, .iload 2, 14), (14, .invokevirtual 76193, 17)], [(17, .ifCond .eq (Int.ofNat 42), 20), (20, .iload 1, 21), (21, .ldc_w 1, 22), (22, .if_icmp .eq (Int.ofNat 40), 25), (25, .aload 0, 26), (26, .getstatic 595, 29), (29, .iload 2, 30), (30, .iaload, 31), (31, .aload 0, 32)], [(32, .getstatic 595, 35), (35, .iload 1, 36), (36, .iaload, 37), (37, .if_icmp .le (Int.ofNat 42), 40), (40, .iload 2, 41), (41, .istore 1, 42), (42, .iinc 2 (Int.ofNat 1), 45), (45, .goto (Int.ofNat 4), 48)], [(48, .iload 1, 49), (49, .ireturn, 50)]]
abbrev m_Mo_dearestNow : Nat := 160
def ah_Mo_dearestNow : List (Nat × Nat × Nat × Nat × Nat × Nat) := []
def at_Mo_othersOf : am_T := [[(0, .ldc 0, 1), (1, .istore 2, 2), (2, .ldc 0, 3), (3, .istore 3, 4), (4, .iload 3, 5), (5, .aload 0, 6), (6, .invokevirtual 76112, 9), (9, .if_icmp .ge (Int.ofNat 40), 12), (12, .iload 3, 13), (13, .iload 1, 14), (14, .if_icmp .eq (Int.ofNat 34), 17)], [(17, .aload 0, 18), (18, .iload 3, 19), (19, .invokevirtual 76193, 22), (22, .ifCond .eq (Int.ofNat 34), 25), (25, .iload 2, 26), (26, .aload 0, 27), (27, .getstatic 597, 30), (30, .iload 3, 31), (31, .iaload, 32)], [(32, .ior, 33), (33, .istore 2, 34), (34, .iinc 3 (Int.ofNat 1), 37), (37, .goto (Int.ofNat 4), 40), (40, .iload 2, 41), (41, .ireturn, 42)]]
abbrev m_Mo_othersOf : Nat := 161
def ah_Mo_othersOf : List (Nat × Nat × Nat × Nat × Nat × Nat) := []
def at_Mo_goesRound : am_T := [[(0, .ldc 0, 1), (1, .istore 1, 2), (2, .ldc 0, 3), (3, .istore 2, 4), (4, .iload 2, 5), (5, .aload 0, 6), (6, .invokevirtual 76112, 9), (9, .if_icmp .ge (Int.ofNat 73), 12), (12, .aload 0, 13), (13, .iload 2, 14), (14, .invokevirtual 76193, 17)], [(17, .ifCond .ne (Int.ofNat 23), 20), (20, .goto (Int.ofNat 67), 23), (23, .aload 0, 24), (24, .aload 0, 25), (25, .getstatic 597, 28), (28, .iload 2, 29), (29, .iaload, 30), (30, .aload 0, 31), (31, .iload 2, 32)], [(32, .invokevirtual 76305, 35), (35, .ldc 0, 36), (36, .invokevirtual 76243, 39), (39, .istore 3, 40), (40, .iload 1, 41), (41, .ifCond .ne (Int.ofNat 54), 44), (44, .iload 3, 45), (45, .aload 0, 46), (46, .getstatic 597, 49)], [(49, .iload 2, 50), (50, .iaload, 51), (51, .if_icmp .eq (Int.ofNat 58), 54), (54, .ldc 1, 55), (55, .goto (Int.ofNat 59), 58), (58, .ldc 0, 59), (59, .istore 1, 60), (60, .aload 0, 61), (61, .getstatic 597, 64)], [(64, .iload 2, 65), (65, .iload 3, 66), (66, .iastore, 67), (67, .iinc 2 (Int.ofNat 1), 70), (70, .goto (Int.ofNat 4), 73), (73, .iload 1, 74), (74, .areturn, 75)]]
abbrev m_Mo_goesRound : Nat := 162
def ah_Mo_goesRound : List (Nat × Nat × Nat × Nat × Nat × Nat) := []
def at_Mo_laysGroups : am_T := [[(0, .aload 0, 1), (1, .invokevirtual 76096, 4), (4, .aload 0, 5), (5, .ldc 0, 6), (6, .putfield 598, 9), (9, .ldc 0, 10), (10, .istore 1, 11), (11, .iload 1, 12), (12, .aload 0, 13), (13, .invokevirtual 76112, 16)], [(16, .if_icmp .ge (Int.ofNat 46), 19), (19, .aload 0, 20), (20, .getstatic 597, 23), (23, .iload 1, 24), (24, .aload 0, 25), (25, .iload 1, 26), (26, .invokevirtual 76193, 29), (29, .ifCond .eq (Int.ofNat 38), 32)], [(32, .ldc 1, 33), (33, .iload 1, 34), (34, .ishl, 35), (35, .goto (Int.ofNat 39), 38), (38, .ldc 0, 39), (39, .iastore, 40), (40, .iinc 1 (Int.ofNat 1), 43), (43, .goto (Int.ofNat 11), 46), (46, .aload 0, 47), (47, .ldc 2, 48)], [(48, .invokevirtual 75665, 51), (51, .ifCond .ne (Int.ofNat 55), 54), (54, .return_, 55), (55, .ldc 1, 56), (56, .istore 1, 57), (57, .iload 1, 58), (58, .ifCond .eq (Int.ofNat 79), 61), (61, .aload 0, 62), (62, .invokevirtual 76320, 65)], [(65, .istore 1, 66), (66, .aload 0, 67), (67, .dup, 68), (68, .getfield 598, 71), (71, .ldc 1, 72), (72, .iadd, 73), (73, .putfield 598, 76), (76, .goto (Int.ofNat 57), 79), (79, .return_, 80)]]
abbrev m_Mo_laysGroups : Nat := 163
def ah_Mo_laysGroups : List (Nat × Nat × Nat × Nat × Nat × Nat) := []
def at_Mo_costBy : am_T := [[(0, .ldc 0, 1), (1, .istore 2, 2), (2, .ldc 0, 3), (3, .istore 3, 4), (4, .iload 3, 5), (5, .aload 0, 6), (6, .invokevirtual 76128, 9), (9, .if_icmp .ge (Int.ofNat 48), 12), (12, .iload 2, 13), (13, .aload 1, 14), (14, .aload 0, 15), (15, .iload 3, 16)], [(16, .invokevirtual 76145, 19), (19, .iaload, 20), (20, .aload 1, 21), (21, .aload 0, 22), (22, .iload 3, 23), (23, .invokevirtual 76161, 26), (26, .iaload, 27), (27, .if_icmp .eq (Int.ofNat 39), 30), (30, .aload 0, 31), (31, .getstatic 593, 34)], [(34, .iload 3, 35), (35, .iaload, 36), (36, .goto (Int.ofNat 40), 39), (39, .ldc 0, 40), (40, .iadd, 41), (41, .istore 2, 42), (42, .iinc 3 (Int.ofNat 1), 45), (45, .goto (Int.ofNat 4), 48)], [(48, .iload 2, 49), (49, .ireturn, 50)]]
abbrev m_Mo_costBy : Nat := 164
def ah_Mo_costBy : List (Nat × Nat × Nat × Nat × Nat × Nat) := []
def at_Mo_goesOn : am_T := [[(0, .aload 0, 1), (1, .invokevirtual 76112, 4), (4, .ldc 1, 5), (5, .isub, 6), (6, .istore 2, 7), (7, .iload 2, 8), (8, .ifCond .lt (Int.ofNat 89), 11), (11, .iload 1, 12), (12, .iload 2, 13), (13, .invokestatic 2450, 16)], [(16, .ifCond .eq (Int.ofNat 22), 19), (19, .goto (Int.ofNat 83), 22), (22, .ldc 0, 23), (23, .istore 3, 24), (24, .aload 0, 25), (25, .getstatic 601, 28), (28, .iload 3, 29), (29, .iaload, 30), (30, .aload 0, 31), (31, .getstatic 599, 34)], [(34, .iload 2, 35), (35, .iaload, 36), (36, .if_icmp .eq (Int.ofNat 45), 39), (39, .iinc 3 (Int.ofNat 1), 42), (42, .goto (Int.ofNat 24), 45), (45, .iload 3, 46), (46, .ldc 1, 47), (47, .iadd, 48)], [(48, .aload 0, 49), (49, .getfield 602, 52), (52, .if_icmp .ge (Int.ofNat 71), 55), (55, .aload 0, 56), (56, .getstatic 599, 59), (59, .iload 2, 60), (60, .aload 0, 61), (61, .getstatic 601, 64)], [(64, .iload 3, 65), (65, .ldc 1, 66), (66, .iadd, 67), (67, .iaload, 68), (68, .iastore, 69), (69, .ldc 1, 70), (70, .areturn, 71), (71, .aload 0, 72), (72, .getstatic 599, 75), (75, .iload 2, 76), (76, .aload 0, 77), (77, .getstatic 601, 80)], [(80, .ldc 0, 81), (81, .iaload, 82), (82, .iastore, 83), (83, .iinc 2 (Int.negSucc 0), 86), (86, .goto (Int.ofNat 7), 89), (89, .ldc 0, 90), (90, .areturn, 91)]]
abbrev m_Mo_goesOn : Nat := 165
def ah_Mo_goesOn : List (Nat × Nat × Nat × Nat × Nat × Nat) := []
def at_Mo_laysExact : am_T := [[(0, .aload 0, 1), (1, .ldc 0, 2), (2, .putfield 602, 5), (5, .ldc 0, 6), (6, .istore 2, 7), (7, .iload 2, 8), (8, .aload 0, 9), (9, .invokevirtual 76112, 12), (12, .if_icmp .ge (Int.ofNat 52), 15), (15, .iload 1, 16)], [(16, .iload 2, 17), (17, .invokestatic 2450, 20), (20, .ifCond .ne (Int.ofNat 26), 23), (23, .goto (Int.ofNat 46), 26), (26, .aload 0, 27), (27, .getstatic 601, 30), (30, .aload 0, 31), (31, .getfield 602, 34)], [(34, .iload 2, 35), (35, .iastore, 36), (36, .aload 0, 37), (37, .dup, 38), (38, .getfield 602, 41), (41, .ldc 1, 42), (42, .iadd, 43), (43, .putfield 602, 46), (46, .iinc 2 (Int.ofNat 1), 49)], [(49, .goto (Int.ofNat 7), 52), (52, .ldc 0, 53), (53, .istore 2, 54), (54, .iload 2, 55), (55, .aload 0, 56), (56, .invokevirtual 76112, 59), (59, .if_icmp .ge (Int.ofNat 115), 62), (62, .aload 0, 63), (63, .getstatic 599, 66)], [(66, .iload 2, 67), (67, .aload 0, 68), (68, .getfield 602, 71), (71, .ifCond .ne (Int.ofNat 78), 74), (74, .ldc_w 1, 75), (75, .goto (Int.ofNat 96), 78), (78, .iload 1, 79), (79, .iload 2, 80)], [(80, .invokestatic 2450, 83), (83, .ifCond .eq (Int.ofNat 90), 86), (86, .iload 2, 87), (87, .goto (Int.ofNat 96), 90), (90, .aload 0, 91), (91, .getstatic 601, 94), (94, .ldc 0, 95), (95, .iaload, 96)], [(96, .iastore, 97), (97, .aload 0, 98), (98, .getstatic 600, 101), (101, .iload 2, 102), (102, .aload 0, 103), (103, .getstatic 599, 106), (106, .iload 2, 107), (107, .iaload, 108), (108, .iastore, 109), (109, .iinc 2 (Int.ofNat 1), 112)], [(112, .goto (Int.ofNat 54), 115), (115, .aload 0, 116), (116, .aload 0, 117), (117, .aload 0, 118), (118, .getstatic 599, 121), (121, .invokevirtual 76353, 124), (124, .putfield 603, 127), (127, .aload 0, 128)], [(128, .getfield 602, 131), (131, .ifCond .ne (Int.ofNat 139), 134), (134, .aload 0, 135), (135, .getfield 603, 138), (138, .ireturn, 139), (139, .aload 0, 140), (140, .iload 1, 141), (141, .invokevirtual 76369, 144)], [(144, .ifCond .eq (Int.ofNat 203), 147), (147, .aload 0, 148), (148, .aload 0, 149), (149, .getstatic 599, 152), (152, .invokevirtual 76353, 155), (155, .istore 2, 156), (156, .iload 2, 157), (157, .aload 0, 158), (158, .getfield 603, 161)], [(161, .if_icmp .lt (Int.ofNat 167), 164), (164, .goto (Int.ofNat 139), 167), (167, .aload 0, 168), (168, .iload 2, 169), (169, .putfield 603, 172), (172, .ldc 0, 173), (173, .istore 3, 174), (174, .iload 3, 175), (175, .aload 0, 176)], [(176, .invokevirtual 76112, 179), (179, .if_icmp .ge (Int.ofNat 200), 182), (182, .aload 0, 183), (183, .getstatic 600, 186), (186, .iload 3, 187), (187, .aload 0, 188), (188, .getstatic 599, 191), (191, .iload 3, 192)], [(192, .iaload, 193), (193, .iastore, 194), (194, .iinc 3 (Int.ofNat 1), 197), (197, .goto (Int.ofNat 174), 200), (200, .goto (Int.ofNat 139), 203), (203, .aload 0, 204), (204, .getfield 603, 207), (207, .ireturn, 208)]]
abbrev m_Mo_laysExact : Nat := 166
def ah_Mo_laysExact : List (Nat × Nat × Nat × Nat × Nat × Nat) := []
def at_Mo_exactNow : am_T := [[(0, .aload 0, 1), (1, .invokevirtual 76096, 4), (4, .aload 0, 5), (5, .aload 0, 6), (6, .ldc 2, 7), (7, .invokevirtual 75665, 10), (10, .invokevirtual 76385, 13), (13, .ireturn, 14)]]
abbrev m_Mo_exactNow : Nat := 167
def ah_Mo_exactNow : List (Nat × Nat × Nat × Nat × Nat × Nat) := []
def at_Mo_costNow : am_T := [[(0, .aload 0, 1), (1, .invokevirtual 76096, 4), (4, .ldc 0, 5), (5, .istore 1, 6), (6, .iload 1, 7), (7, .aload 0, 8), (8, .invokevirtual 76112, 11), (11, .if_icmp .ge (Int.ofNat 34), 14), (14, .aload 0, 15), (15, .getstatic 604, 18)], [(18, .iload 1, 19), (19, .aload 0, 20), (20, .ldc 75, 22), (22, .iload 1, 23), (23, .iadd, 24), (24, .invokevirtual 75665, 27), (27, .iastore, 28), (28, .iinc 1 (Int.ofNat 1), 31), (31, .goto (Int.ofNat 6), 34)], [(34, .aload 0, 35), (35, .aload 0, 36), (36, .getstatic 604, 39), (39, .invokevirtual 76353, 42), (42, .ireturn, 43)]]
abbrev m_Mo_costNow : Nat := 168
def ah_Mo_costNow : List (Nat × Nat × Nat × Nat × Nat × Nat) := []
def at_Mo_lengthOf : am_T := [[(0, .ldc 10000, 3), (3, .aload 0, 4), (4, .getstatic 593, 7), (7, .iload 1, 8), (8, .iaload, 9), (9, .idiv, 10), (10, .ireturn, 11)]]
abbrev m_Mo_lengthOf : Nat := 169
def ah_Mo_lengthOf : List (Nat × Nat × Nat × Nat × Nat × Nat) := []
def at_Mo_laysFar : am_T := [[(0, .ldc 0, 1), (1, .istore 2, 2), (2, .iload 2, 3), (3, .aload 0, 4), (4, .invokevirtual 76112, 7), (7, .if_icmp .ge (Int.ofNat 33), 10), (10, .aload 0, 11), (11, .getstatic 605, 14), (14, .iload 2, 15), (15, .iload 2, 16)], [(16, .iload 1, 17), (17, .if_icmp .ne (Int.ofNat 24), 20), (20, .ldc 0, 21), (21, .goto (Int.ofNat 26), 24), (24, .ldc 1000000000, 26), (26, .iastore, 27), (27, .iinc 2 (Int.ofNat 1), 30), (30, .goto (Int.ofNat 2), 33)], [(33, .ldc 1, 34), (34, .istore 2, 35), (35, .iload 2, 36), (36, .aload 0, 37), (37, .invokevirtual 76112, 40), (40, .if_icmp .ge (Int.ofNat 149), 43), (43, .ldc 0, 44), (44, .istore 3, 45), (45, .iload 3, 46), (46, .aload 0, 47), (47, .invokevirtual 76128, 50)], [(50, .if_icmp .ge (Int.ofNat 143), 53), (53, .aload 0, 54), (54, .iload 3, 55), (55, .invokevirtual 76145, 58), (58, .istore 4, 60), (60, .aload 0, 61), (61, .iload 3, 62), (62, .invokevirtual 76161, 65)], [(65, .istore 5, 67), (67, .aload 0, 68), (68, .getstatic 605, 71), (71, .iload 4, 73), (73, .aload 0, 74), (74, .getstatic 605, 77), (77, .iload 4, 79), (79, .iaload, 80)], [(80, .ldc 1000000000, 82), (82, .aload 0, 83), (83, .getstatic 605, 86), (86, .iload 5, 88), (88, .iaload, 89), (89, .aload 0, 90), (90, .iload 3, 91), (91, .invokevirtual 76433, 94), (94, .iadd, 95), (95, .dsub, 98)], [(98, .dsub, 101), (101, .iastore, 102), (102, .aload 0, 103), (103, .getstatic 605, 106), (106, .iload 5, 108), (108, .aload 0, 109), (109, .getstatic 605, 112)], [(112, .iload 5, 114), (114, .iaload, 115), (115, .ldc 1000000000, 117), (117, .aload 0, 118), (118, .getstatic 605, 121), (121, .iload 4, 123), (123, .iaload, 124), (124, .aload 0, 125), (125, .iload 3, 126), (126, .invokevirtual 76433, 129)], [(129, .iadd, 130), (130, .dsub, 133), (133, .dsub, 136), (136, .iastore, 137), (137, .iinc 3 (Int.ofNat 1), 140), (140, .goto (Int.ofNat 45), 143), (143, .iinc 2 (Int.ofNat 1), 146)], [(146, .goto (Int.ofNat 35), 149), (149, .return_, 150)]]
abbrev m_Mo_laysFar : Nat := 170
def ah_Mo_laysFar : List (Nat × Nat × Nat × Nat × Nat × Nat) := []
def at_Mo_laysNear : am_T := [[(0, .aload 0, 1), (1, .invokevirtual 76096, 4), (4, .ldc 0, 5), (5, .istore 1, 6), (6, .iload 1, 7), (7, .aload 0, 8), (8, .invokevirtual 76112, 11), (11, .if_icmp .ge (Int.ofNat 35), 14), (14, .aload 0, 15), (15, .getstatic 606, 18)], [(18, .iload 1, 19), (19, .ldc_w 1, 20), (20, .iastore, 21), (21, .aload 0, 22), (22, .getstatic 607, 25), (25, .iload 1, 26), (26, .ldc 1000000000, 28), (28, .iastore, 29), (29, .iinc 1 (Int.ofNat 1), 32)], [(32, .goto (Int.ofNat 6), 35), (35, .ldc 0, 36), (36, .istore 1, 37), (37, .iload 1, 38), (38, .aload 0, 39), (39, .invokevirtual 76112, 42), (42, .if_icmp .ge (Int.ofNat 120), 45), (45, .aload 0, 46), (46, .iload 1, 47), (47, .invokevirtual 76193, 50)], [(50, .ifCond .ne (Int.ofNat 56), 53), (53, .goto (Int.ofNat 114), 56), (56, .aload 0, 57), (57, .iload 1, 58), (58, .invokevirtual 76449, 61), (61, .ldc 0, 62), (62, .istore 2, 63), (63, .iload 2, 64)], [(64, .aload 0, 65), (65, .invokevirtual 76112, 68), (68, .if_icmp .ge (Int.ofNat 114), 71), (71, .aload 0, 72), (72, .getstatic 605, 75), (75, .iload 2, 76), (76, .iaload, 77), (77, .aload 0, 78), (78, .getstatic 607, 81)], [(81, .iload 2, 82), (82, .iaload, 83), (83, .if_icmp .lt (Int.ofNat 89), 86), (86, .goto (Int.ofNat 108), 89), (89, .aload 0, 90), (90, .getstatic 607, 93), (93, .iload 2, 94), (94, .aload 0, 95), (95, .getstatic 605, 98)], [(98, .iload 2, 99), (99, .iaload, 100), (100, .iastore, 101), (101, .aload 0, 102), (102, .getstatic 606, 105), (105, .iload 2, 106), (106, .iload 1, 107), (107, .iastore, 108), (108, .iinc 2 (Int.ofNat 1), 111), (111, .goto (Int.ofNat 63), 114)], [(114, .iinc 1 (Int.ofNat 1), 117), (117, .goto (Int.ofNat 37), 120), (120, .return_, 121)]]
abbrev m_Mo_laysNear : Nat := 171
def ah_Mo_laysNear : List (Nat × Nat × Nat × Nat × Nat × Nat) := []
def at_Mo_size : am_T := [[(0, .aload 0, 1), (1, .ldc 0, 2), (2, .putfield 576, 5), (5, .aload 0, 6), (6, .invokevirtual 76112, 9), (9, .ireturn, 10)]]
abbrev m_Mo_size : Nat := 172
def ah_Mo_size : List (Nat × Nat × Nat × Nat × Nat × Nat) := []
def at_Mo_edgeCount : am_T := [[(0, .aload 0, 1), (1, .ldc 0, 2), (2, .putfield 576, 5), (5, .aload 0, 6), (6, .invokevirtual 76128, 9), (9, .ireturn, 10)]]
abbrev m_Mo_edgeCount : Nat := 173
def ah_Mo_edgeCount : List (Nat × Nat × Nat × Nat × Nat × Nat) := []
def at_Mo_terminals : am_T := [[(0, .aload 0, 1), (1, .ldc 0, 2), (2, .putfield 576, 5), (5, .aload 0, 6), (6, .ldc 2, 7), (7, .invokevirtual 75665, 10), (10, .ireturn, 11)]]
abbrev m_Mo_terminals : Nat := 174
def ah_Mo_terminals : List (Nat × Nat × Nat × Nat × Nat × Nat) := []
def at_Mo_isVertex : am_T := [[(0, .aload 0, 1), (1, .iload 1, 2), (2, .i2l, 3), (3, .ldc2_w 0, 4), (4, .aload 0, 5), (5, .invokevirtual 76112, 8), (8, .ldc 1, 9), (9, .isub, 10), (10, .i2l, 11), (11, .invokestatic 1923, 14), (14, .ldc 1, 15), (15, .invokevirtual 75714, 18)], [(18, .areturn, 19)]]
abbrev m_Mo_isVertex : Nat := 175
def ah_Mo_isVertex : List (Nat × Nat × Nat × Nat × Nat × Nat) := []
def at_Mo_burden : am_T := [[(0, .aload 0, 1), (1, .ldc 0, 2), (2, .putfield 576, 5), (5, .aload 0, 6), (6, .iload 1, 7), (7, .invokevirtual 76529, 10), (10, .ifCond .eq (Int.ofNat 24), 13), (13, .aload 0, 14), (14, .ldc 6, 16)], [(16, .iload 1, 17), (17, .iadd, 18), (18, .invokevirtual 75665, 21), (21, .goto (Int.ofNat 25), 24), (24, .ldc 0, 25), (25, .ireturn, 26)]]
abbrev m_Mo_burden : Nat := 176
def ah_Mo_burden : List (Nat × Nat × Nat × Nat × Nat × Nat) := []
def at_Mo_edge : am_T := [[(0, .aload 0, 1), (1, .ldc 0, 2), (2, .putfield 576, 5), (5, .aload 0, 6), (6, .iload 1, 7), (7, .i2l, 8), (8, .ldc2_w 0, 9), (9, .aload 0, 10), (10, .invokevirtual 76128, 13), (13, .ldc 1, 14), (14, .isub, 15), (15, .i2l, 16)], [(16, .invokestatic 1923, 19), (19, .ldc 1, 20), (20, .invokevirtual 75714, 23), (23, .ifCond .eq (Int.ofNat 43), 26), (26, .aload 0, 27), (27, .iload 2, 28), (28, .i2l, 29), (29, .ldc2_w 0, 30), (30, .ldc2_w 4, 33)], [(33, .invokestatic 1923, 36), (36, .ldc 2, 37), (37, .invokevirtual 75714, 40), (40, .ifCond .ne (Int.ofNat 45), 43), (43, .ldc 0, 44), (44, .ireturn, 45), (45, .iload 2, 46), (46, .ldc 3, 47), (47, .if_icmp .ge (Int.ofNat 63), 50)], [(50, .aload 0, 51), (51, .ldc 15, 53), (53, .ldc 3, 54), (54, .iload 1, 55), (55, .imul, 56), (56, .iadd, 57), (57, .iload 2, 58), (58, .iadd, 59), (59, .invokevirtual 75665, 62), (62, .ireturn, 63), (63, .aload 0, 64)], [(64, .invokevirtual 76096, 67), (67, .iload 2, 68), (68, .ldc 3, 69), (69, .if_icmp .ne (Int.ofNat 81), 72), (72, .aload 0, 73), (73, .getstatic 593, 76), (76, .iload 1, 77), (77, .iaload, 78), (78, .goto (Int.ofNat 86), 81)], [(81, .aload 0, 82), (82, .iload 1, 83), (83, .invokevirtual 76433, 86), (86, .ireturn, 87)]]
abbrev m_Mo_edge : Nat := 177
def ah_Mo_edge : List (Nat × Nat × Nat × Nat × Nat × Nat) := []
def at_Mo_cutCost : am_T := [[(0, .aload 0, 1), (1, .ldc 0, 2), (2, .putfield 576, 5), (5, .aload 0, 6), (6, .iload 1, 7), (7, .i2l, 8), (8, .ldc2_w 0, 9), (9, .aload 0, 10), (10, .invokevirtual 76208, 13), (13, .i2l, 14), (14, .invokestatic 1923, 17)], [(17, .ldc 1, 18), (18, .invokevirtual 75714, 21), (21, .ifCond .ne (Int.ofNat 26), 24), (24, .ldc 0, 25), (25, .ireturn, 26), (26, .aload 0, 27), (27, .invokevirtual 76096, 30), (30, .aload 0, 31), (31, .iload 1, 32)], [(32, .invokevirtual 76225, 35), (35, .ireturn, 36)]]
abbrev m_Mo_cutCost : Nat := 178
def ah_Mo_cutCost : List (Nat × Nat × Nat × Nat × Nat × Nat) := []
def at_Mo_separates : am_T := [[(0, .aload 0, 1), (1, .ldc 0, 2), (2, .putfield 576, 5), (5, .aload 0, 6), (6, .iload 1, 7), (7, .i2l, 8), (8, .ldc2_w 0, 9), (9, .ldc 1, 10), (10, .aload 0, 11), (11, .invokevirtual 76128, 14), (14, .ishl, 15), (15, .ldc 1, 16)], [(16, .isub, 17), (17, .i2l, 18), (18, .invokestatic 1923, 21), (21, .ldc 1, 22), (22, .invokevirtual 75714, 25), (25, .ifCond .ne (Int.ofNat 30), 28), (28, .ldc 0, 29), (29, .areturn, 30), (30, .ldc 0, 31), (31, .istore 2, 32)], [(32, .iload 2, 33), (33, .aload 0, 34), (34, .invokevirtual 76112, 37), (37, .if_icmp .ge (Int.ofNat 53), 40), (40, .aload 0, 41), (41, .getstatic 604, 44), (44, .iload 2, 45), (45, .iload 2, 46), (46, .iastore, 47), (47, .iinc 2 (Int.ofNat 1), 50)], [(50, .goto (Int.ofNat 32), 53), (53, .ldc 0, 54), (54, .istore 2, 55), (55, .iload 2, 56), (56, .aload 0, 57), (57, .invokevirtual 76112, 60), (60, .if_icmp .ge (Int.ofNat 145), 63), (63, .ldc 0, 64)], [(64, .istore 3, 65), (65, .iload 3, 66), (66, .aload 0, 67), (67, .invokevirtual 76128, 70), (70, .if_icmp .ge (Int.ofNat 139), 73), (73, .iload 1, 74), (74, .iload 3, 75), (75, .invokestatic 2450, 78), (78, .ifCond .eq (Int.ofNat 84), 81)], [(81, .goto (Int.ofNat 133), 84), (84, .aload 0, 85), (85, .getstatic 604, 88), (88, .aload 0, 89), (89, .iload 3, 90), (90, .invokevirtual 76145, 93), (93, .iaload, 94), (94, .aload 0, 95), (95, .getstatic 604, 98)], [(98, .aload 0, 99), (99, .iload 3, 100), (100, .invokevirtual 76161, 103), (103, .iaload, 104), (104, .dsub, 107), (107, .istore 4, 109), (109, .aload 0, 110), (110, .getstatic 604, 113)], [(113, .aload 0, 114), (114, .iload 3, 115), (115, .invokevirtual 76145, 118), (118, .iload 4, 120), (120, .iastore, 121), (121, .aload 0, 122), (122, .getstatic 604, 125), (125, .aload 0, 126), (126, .iload 3, 127), (127, .invokevirtual 76161, 130)], [(130, .iload 4, 132), (132, .iastore, 133), (133, .iinc 3 (Int.ofNat 1), 136), (136, .goto (Int.ofNat 65), 139), (139, .iinc 2 (Int.ofNat 1), 142), (142, .goto (Int.ofNat 55), 145)], [(145, .ldc 0, 146), (146, .istore 2, 147), (147, .iload 2, 148), (148, .aload 0, 149), (149, .invokevirtual 76112, 152), (152, .if_icmp .ge (Int.ofNat 207), 155), (155, .ldc 0, 156), (156, .istore 3, 157), (157, .iload 3, 158), (158, .iload 2, 159), (159, .if_icmp .ge (Int.ofNat 201), 162)], [(162, .aload 0, 163), (163, .iload 2, 164), (164, .invokevirtual 76193, 167), (167, .ifCond .eq (Int.ofNat 195), 170), (170, .aload 0, 171), (171, .iload 3, 172), (172, .invokevirtual 76193, 175), (175, .ifCond .eq (Int.ofNat 195), 178)], [(178, .aload 0, 179), (179, .getstatic 604, 182), (182, .iload 2, 183), (183, .iaload, 184), (184, .aload 0, 185), (185, .getstatic 604, 188), (188, .iload 3, 189), (189, .iaload, 190), (190, .if_icmp .ne (Int.ofNat 195), 193)], [(193, .ldc 0, 194), (194, .areturn, 195), (195, .iinc 3 (Int.ofNat 1), 198), (198, .goto (Int.ofNat 157), 201), (201, .iinc 2 (Int.ofNat 1), 204), (204, .goto (Int.ofNat 147), 207), (207, .ldc 1, 208)], [(208, .areturn, 209)]]
abbrev m_Mo_separates : Nat := 179
def ah_Mo_separates : List (Nat × Nat × Nat × Nat × Nat × Nat) := []
def at_Mo_mustBe : am_T := [[(0, .aload 0, 1), (1, .ldc 0, 2), (2, .putfield 576, 5), (5, .aload 0, 6), (6, .iload 1, 7), (7, .i2l, 8), (8, .ldc2_w 0, 9), (9, .aload 0, 10), (10, .invokevirtual 76112, 13), (13, .ldc 1, 14), (14, .isub, 15), (15, .i2l, 16)], [(16, .invokestatic 1923, 19), (19, .ifCond .eq (Int.ofNat 34), 22), (22, .aload 0, 23), (23, .iload 1, 24), (24, .invokevirtual 76193, 27), (27, .ifCond .eq (Int.ofNat 34), 30), (30, .ldc 1, 31), (31, .goto (Int.ofNat 35), 34)], [(34, .ldc 0, 35), (35, .ldc 1, 36), (36, .invokevirtual 75714, 39), (39, .areturn, 40)]]
abbrev m_Mo_mustBe : Nat := 180
def ah_Mo_mustBe : List (Nat × Nat × Nat × Nat × Nat × Nat) := []
def at_Mo_isolatingValue : am_T := [[(0, .aload 0, 1), (1, .iload 1, 2), (2, .invokevirtual 76609, 5), (5, .ifCond .ne (Int.ofNat 10), 8), (8, .ldc 0, 9), (9, .ireturn, 10), (10, .aload 0, 11), (11, .invokevirtual 76096, 14), (14, .aload 0, 15), (15, .iload 1, 16)], [(16, .invokevirtual 76257, 19), (19, .istore 2, 20), (20, .aload 0, 21), (21, .getfield 594, 24), (24, .ireturn, 25)]]
abbrev m_Mo_isolatingValue : Nat := 181
def ah_Mo_isolatingValue : List (Nat × Nat × Nat × Nat × Nat × Nat) := []
def at_Mo_isolatingSet : am_T := [[(0, .aload 0, 1), (1, .iload 1, 2), (2, .invokevirtual 76609, 5), (5, .ifCond .ne (Int.ofNat 10), 8), (8, .ldc 0, 9), (9, .ireturn, 10), (10, .aload 0, 11), (11, .invokevirtual 76096, 14), (14, .aload 0, 15), (15, .iload 1, 16)], [(16, .invokevirtual 76257, 19), (19, .ireturn, 20)]]
abbrev m_Mo_isolatingSet : Nat := 182
def ah_Mo_isolatingSet : List (Nat × Nat × Nat × Nat × Nat × Nat) := []
def at_Mo_lowerBound : am_T := [[(0, .aload 0, 1), (1, .ldc 0, 2), (2, .putfield 576, 5), (5, .aload 0, 6), (6, .invokevirtual 76272, 9), (9, .ldc 0, 10), (10, .istore 1, 11), (11, .ldc 0, 12), (12, .istore 2, 13), (13, .iload 2, 14), (14, .aload 0, 15), (15, .invokevirtual 76112, 18)], [(18, .if_icmp .ge (Int.ofNat 48), 21), (21, .iload 1, 22), (22, .aload 0, 23), (23, .iload 2, 24), (24, .invokevirtual 76193, 27), (27, .ifCond .eq (Int.ofNat 39), 30), (30, .aload 0, 31), (31, .getstatic 595, 34)], [(34, .iload 2, 35), (35, .iaload, 36), (36, .goto (Int.ofNat 40), 39), (39, .ldc 0, 40), (40, .iadd, 41), (41, .istore 1, 42), (42, .iinc 2 (Int.ofNat 1), 45), (45, .goto (Int.ofNat 13), 48)], [(48, .iload 1, 49), (49, .ldc 1, 50), (50, .iadd, 51), (51, .ldc 2, 52), (52, .idiv, 53), (53, .ireturn, 54)]]
abbrev m_Mo_lowerBound : Nat := 183
def ah_Mo_lowerBound : List (Nat × Nat × Nat × Nat × Nat × Nat) := []
def at_Mo_hasTerminal : am_T := [[(0, .aload 0, 1), (1, .ldc 0, 2), (2, .putfield 576, 5), (5, .aload 0, 6), (6, .aload 0, 7), (7, .ldc 2, 8), (8, .invokevirtual 75665, 11), (11, .ifCond .eq (Int.ofNat 18), 14), (14, .ldc 1, 15), (15, .goto (Int.ofNat 19), 18)], [(18, .ldc 0, 19), (19, .ldc 1, 20), (20, .invokevirtual 75714, 23), (23, .areturn, 24)]]
abbrev m_Mo_hasTerminal : Nat := 184
def ah_Mo_hasTerminal : List (Nat × Nat × Nat × Nat × Nat × Nat) := []
def at_Mo_dearest : am_T := [[(0, .aload 0, 1), (1, .invokevirtual 76672, 4), (4, .ifCond .ne (Int.ofNat 9), 7), (7, .ldc 0, 8), (8, .ireturn, 9), (9, .aload 0, 10), (10, .invokevirtual 76272, 13), (13, .aload 0, 14), (14, .invokevirtual 76288, 17)], [(17, .ireturn, 18)]]
abbrev m_Mo_dearest : Nat := 185
def ah_Mo_dearest : List (Nat × Nat × Nat × Nat × Nat × Nat) := []
def at_Mo_unionNow : am_T := [[(0, .aload 0, 1), (1, .invokevirtual 76272, 4), (4, .aload 0, 5), (5, .invokevirtual 76288, 8), (8, .istore 1, 9), (9, .ldc 0, 10), (10, .istore 2, 11), (11, .ldc 0, 12), (12, .istore 3, 13), (13, .iload 3, 14), (14, .aload 0, 15), (15, .invokevirtual 76128, 18)], [(18, .if_icmp .ge (Int.ofNat 99), 21), (21, .ldc 0, 22), (22, .istore 4, 24), (24, .iload 4, 26), (26, .aload 0, 27), (27, .invokevirtual 76112, 30), (30, .if_icmp .ge (Int.ofNat 93), 33)], [(33, .aload 0, 34), (34, .iload 4, 36), (36, .invokevirtual 76193, 39), (39, .ifCond .eq (Int.ofNat 87), 42), (42, .iload 4, 44), (44, .iload 1, 45), (45, .if_icmp .eq (Int.ofNat 87), 48)], [(48, .aload 0, 49), (49, .getstatic 596, 52), (52, .iload 4, 54), (54, .iaload, 55), (55, .aload 0, 56), (56, .iload 3, 57), (57, .invokevirtual 76145, 60), (60, .invokestatic 2450, 63), (63, .aload 0, 64)], [(64, .getstatic 596, 67), (67, .iload 4, 69), (69, .iaload, 70), (70, .aload 0, 71), (71, .iload 3, 72), (72, .invokevirtual 76161, 75), (75, .invokestatic 2450, 78), (78, .if_icmp .eq (Int.ofNat 87), 81)], [(81, .iload 2, 82), (82, .ldc 1, 83), (83, .iload 3, 84), (84, .ishl, 85), (85, .ior, 86), (86, .istore 2, 87), (87, .iinc 4 (Int.ofNat 1), 90), (90, .goto (Int.ofNat 24), 93), (93, .iinc 3 (Int.ofNat 1), 96)], [(96, .goto (Int.ofNat 13), 99), (99, .iload 2, 100), (100, .ireturn, 101)]]
abbrev m_Mo_unionNow : Nat := 186
def ah_Mo_unionNow : List (Nat × Nat × Nat × Nat × Nat × Nat) := []
def at_Mo_unionCut : am_T := [[(0, .aload 0, 1), (1, .invokevirtual 76672, 4), (4, .ifCond .eq (Int.ofNat 14), 7), (7, .aload 0, 8), (8, .invokevirtual 76704, 11), (11, .goto (Int.ofNat 15), 14), (14, .ldc 0, 15), (15, .ireturn, 16)]]
abbrev m_Mo_unionCut : Nat := 187
def ah_Mo_unionCut : List (Nat × Nat × Nat × Nat × Nat × Nat) := []
def at_Mo_unionCost : am_T := [[(0, .aload 0, 1), (1, .invokevirtual 76672, 4), (4, .ifCond .ne (Int.ofNat 9), 7), (7, .ldc 0, 8), (8, .ireturn, 9), (9, .aload 0, 10), (10, .invokevirtual 76704, 13), (13, .istore 1, 14), (14, .ldc 0, 15), (15, .istore 2, 16)], [(16, .ldc 0, 17), (17, .istore 3, 18), (18, .iload 3, 19), (19, .aload 0, 20), (20, .invokevirtual 76128, 23), (23, .if_icmp .ge (Int.ofNat 53), 26), (26, .iload 2, 27), (27, .iload 1, 28), (28, .iload 3, 29), (29, .invokestatic 2450, 32)], [(32, .ifCond .eq (Int.ofNat 44), 35), (35, .aload 0, 36), (36, .getstatic 593, 39), (39, .iload 3, 40), (40, .iaload, 41), (41, .goto (Int.ofNat 45), 44), (44, .ldc 0, 45), (45, .iadd, 46), (46, .istore 2, 47), (47, .iinc 3 (Int.ofNat 1), 50)], [(50, .goto (Int.ofNat 18), 53), (53, .iload 2, 54), (54, .ireturn, 55)]]
abbrev m_Mo_unionCost : Nat := 188
def ah_Mo_unionCost : List (Nat × Nat × Nat × Nat × Nat × Nat) := []
def at_Mo_rounds : am_T := [[(0, .aload 0, 1), (1, .ldc 0, 2), (2, .putfield 576, 5), (5, .aload 0, 6), (6, .invokevirtual 76336, 9), (9, .aload 0, 10), (10, .getfield 598, 13), (13, .ireturn, 14)]]
abbrev m_Mo_rounds : Nat := 189
def ah_Mo_rounds : List (Nat × Nat × Nat × Nat × Nat × Nat) := []
def at_Mo_fixed : am_T := [[(0, .aload 0, 1), (1, .ldc 0, 2), (2, .putfield 576, 5), (5, .aload 0, 6), (6, .iload 1, 7), (7, .invokevirtual 76529, 10), (10, .ifCond .ne (Int.ofNat 15), 13), (13, .ldc 0, 14), (14, .ireturn, 15), (15, .aload 0, 16)], [(16, .invokevirtual 76336, 19), (19, .ldc 0, 20), (20, .istore 2, 21), (21, .iload 2, 22), (22, .aload 0, 23), (23, .invokevirtual 76112, 26), (26, .if_icmp .ge (Int.ofNat 58), 29), (29, .aload 0, 30), (30, .iload 2, 31), (31, .invokevirtual 76193, 34)], [(34, .ifCond .eq (Int.ofNat 52), 37), (37, .aload 0, 38), (38, .getstatic 597, 41), (41, .iload 2, 42), (42, .iaload, 43), (43, .iload 1, 44), (44, .invokestatic 2450, 47), (47, .ifCond .eq (Int.ofNat 52), 50)], [(50, .iload 2, 51), (51, .ireturn, 52), (52, .iinc 2 (Int.ofNat 1), 55), (55, .goto (Int.ofNat 21), 58), (58, .ldc_w 1, 59), (59, .ireturn, 60)]]
abbrev m_Mo_fixed : Nat := 190
def ah_Mo_fixed : List (Nat × Nat × Nat × Nat × Nat × Nat) := []
def at_Mo_exactCost : am_T := [[(0, .aload 0, 1), (1, .ldc 0, 2), (2, .putfield 576, 5), (5, .aload 0, 6), (6, .invokevirtual 76400, 9), (9, .ireturn, 10)]]
abbrev m_Mo_exactCost : Nat := 191
def ah_Mo_exactCost : List (Nat × Nat × Nat × Nat × Nat × Nat) := []
def at_Mo_exact : am_T := [[(0, .aload 0, 1), (1, .ldc 0, 2), (2, .putfield 576, 5), (5, .aload 0, 6), (6, .iload 1, 7), (7, .invokevirtual 76529, 10), (10, .ifCond .ne (Int.ofNat 15), 13), (13, .ldc 0, 14), (14, .ireturn, 15), (15, .aload 0, 16)], [(16, .invokevirtual 76400, 19), (19, .istore 2, 20), (20, .aload 0, 21), (21, .getstatic 600, 24), (24, .iload 1, 25), (25, .iaload, 26), (26, .ireturn, 27)]]
abbrev m_Mo_exact : Nat := 192
def ah_Mo_exact : List (Nat × Nat × Nat × Nat × Nat × Nat) := []
def at_Mo_price : am_T := [[(0, .aload 0, 1), (1, .iload 1, 2), (2, .invokevirtual 76609, 5), (5, .ifCond .ne (Int.ofNat 10), 8), (8, .ldc 0, 9), (9, .ireturn, 10), (10, .aload 0, 11), (11, .invokevirtual 76400, 14), (14, .istore 2, 15), (15, .iload 2, 16)], [(16, .aload 0, 17), (17, .aload 0, 18), (18, .ldc 2, 19), (19, .invokevirtual 75665, 22), (22, .ldc 1, 23), (23, .iload 1, 24), (24, .ishl, 25), (25, .ldc_w 1, 26), (26, .ixor, 27), (27, .iand, 28), (28, .invokevirtual 76385, 31), (31, .isub, 32)], [(32, .ireturn, 33)]]
abbrev m_Mo_price : Nat := 193
def ah_Mo_price : List (Nat × Nat × Nat × Nat × Nat × Nat) := []
def at_Mo_nearest : am_T := [[(0, .aload 0, 1), (1, .ldc 0, 2), (2, .putfield 576, 5), (5, .aload 0, 6), (6, .iload 1, 7), (7, .invokevirtual 76529, 10), (10, .ifCond .ne (Int.ofNat 15), 13), (13, .ldc 0, 14), (14, .ireturn, 15), (15, .aload 0, 16)], [(16, .invokevirtual 76464, 19), (19, .aload 0, 20), (20, .getstatic 606, 23), (23, .iload 1, 24), (24, .iaload, 25), (25, .ireturn, 26)]]
abbrev m_Mo_nearest : Nat := 194
def ah_Mo_nearest : List (Nat × Nat × Nat × Nat × Nat × Nat) := []
def at_Mo_distance : am_T := [[(0, .aload 0, 1), (1, .ldc 0, 2), (2, .putfield 576, 5), (5, .aload 0, 6), (6, .iload 1, 7), (7, .invokevirtual 76529, 10), (10, .ifCond .ne (Int.ofNat 15), 13), (13, .ldc 0, 14), (14, .ireturn, 15), (15, .aload 0, 16)], [(16, .invokevirtual 76464, 19), (19, .aload 0, 20), (20, .getstatic 606, 23), (23, .iload 1, 24), (24, .iaload, 25), (25, .ldc_w 1, 26), (26, .if_icmp .ne (Int.ofNat 33), 29), (29, .ldc_w 1, 30), (30, .goto (Int.ofNat 39), 33)], [(33, .aload 0, 34), (34, .getstatic 607, 37), (37, .iload 1, 38), (38, .iaload, 39), (39, .ireturn, 40)]]
abbrev m_Mo_distance : Nat := 195
def ah_Mo_distance : List (Nat × Nat × Nat × Nat × Nat × Nat) := []
def at_Mo_label : am_T := [[(0, .aload 0, 1), (1, .ldc 0, 2), (2, .putfield 576, 5), (5, .aload 0, 6), (6, .iload 1, 7), (7, .invokevirtual 76529, 10), (10, .ifCond .eq (Int.ofNat 24), 13), (13, .aload 0, 14), (14, .ldc 75, 16)], [(16, .iload 1, 17), (17, .iadd, 18), (18, .invokevirtual 75665, 21), (21, .goto (Int.ofNat 25), 24), (24, .ldc 0, 25), (25, .ireturn, 26)]]
abbrev m_Mo_label : Nat := 196
def ah_Mo_label : List (Nat × Nat × Nat × Nat × Nat × Nat) := []
def at_Mo_cost : am_T := [[(0, .aload 0, 1), (1, .ldc 0, 2), (2, .putfield 576, 5), (5, .aload 0, 6), (6, .invokevirtual 76416, 9), (9, .ireturn, 10)]]
abbrev m_Mo_cost : Nat := 197
def ah_Mo_cost : List (Nat × Nat × Nat × Nat × Nat × Nat) := []
def at_Mo_cut : am_T := [[(0, .aload 0, 1), (1, .ldc 0, 2), (2, .putfield 576, 5), (5, .ldc 0, 6), (6, .istore 1, 7), (7, .ldc 0, 8), (8, .istore 2, 9), (9, .iload 2, 10), (10, .aload 0, 11), (11, .invokevirtual 76128, 14), (14, .if_icmp .ge (Int.ofNat 60), 17)], [(17, .iload 1, 18), (18, .aload 0, 19), (19, .ldc 75, 21), (21, .aload 0, 22), (22, .iload 2, 23), (23, .invokevirtual 76145, 26), (26, .iadd, 27), (27, .invokevirtual 75665, 30), (30, .aload 0, 31), (31, .ldc 75, 33)], [(33, .aload 0, 34), (34, .iload 2, 35), (35, .invokevirtual 76161, 38), (38, .iadd, 39), (39, .invokevirtual 75665, 42), (42, .if_icmp .eq (Int.ofNat 51), 45), (45, .ldc 1, 46), (46, .iload 2, 47), (47, .ishl, 48)], [(48, .goto (Int.ofNat 52), 51), (51, .ldc 0, 52), (52, .ior, 53), (53, .istore 1, 54), (54, .iinc 2 (Int.ofNat 1), 57), (57, .goto (Int.ofNat 9), 60), (60, .iload 1, 61), (61, .ireturn, 62)]]
abbrev m_Mo_cut : Nat := 198
def ah_Mo_cut : List (Nat × Nat × Nat × Nat × Nat × Nat) := []
def at_Mo_ratio : am_T := [[(0, .aload 0, 1), (1, .ldc 0, 2), (2, .putfield 576, 5), (5, .aload 0, 6), (6, .invokevirtual 76416, 9), (9, .istore 1, 10), (10, .aload 0, 11), (11, .invokevirtual 76400, 14), (14, .istore 2, 15), (15, .iload 2, 16)], [(16, .ifCond .ne (Int.ofNat 31), 19), (19, .iload 1, 20), (20, .ifCond .ne (Int.ofNat 27), 23), (23, .invokedynamic 1065353216, 24), (24, .goto (Int.ofNat 30), 27), (27, .invokedynamic 3212836864, 30), (30, .freturn, 31), (31, .iload 1, 32)], [(32, .i2f, 33), (33, .iload 2, 34), (34, .i2f, 35), (35, .fdiv, 36), (36, .freturn, 37)]]
abbrev m_Mo_ratio : Nat := 199
def ah_Mo_ratio : List (Nat × Nat × Nat × Nat × Nat × Nat) := []
def at_Mo_meanCost : am_T := [[(0, .aload 0, 1), (1, .ldc 0, 2), (2, .putfield 576, 5), (5, .aload 0, 6), (6, .ldc 2, 7), (7, .invokevirtual 75665, 10), (10, .invokestatic 2209, 13), (13, .istore 1, 14), (14, .invokedynamic 0, 15), (15, .fstore 2, 16)], [(16, .iload 1, 17), (17, .ldc 2, 18), (18, .if_icmp .ge (Int.ofNat 23), 21), (21, .fload 2, 22), (22, .freturn, 23), (23, .aload 0, 24), (24, .invokevirtual 76096, 27), (27, .ldc 0, 28), (28, .istore 3, 29), (29, .iload 3, 30), (30, .aload 0, 31), (31, .invokevirtual 76128, 34)], [(34, .if_icmp .ge (Int.ofNat 94), 37), (37, .aload 0, 38), (38, .getstatic 593, 41), (41, .iload 3, 42), (42, .iaload, 43), (43, .i2f, 44), (44, .fstore 4, 46), (46, .fload 2, 47), (47, .aload 0, 48)], [(48, .aload 0, 49), (49, .iload 3, 50), (50, .invokevirtual 76145, 53), (53, .invokevirtual 76193, 56), (56, .ifCond .eq (Int.ofNat 76), 59), (59, .aload 0, 60), (60, .aload 0, 61), (61, .iload 3, 62), (62, .invokevirtual 76161, 65)], [(65, .invokevirtual 76193, 68), (68, .ifCond .eq (Int.ofNat 76), 71), (71, .fload 4, 73), (73, .goto (Int.ofNat 86), 76), (76, .fload 4, 78), (78, .iload 1, 79), (79, .ldc 1, 80)], [(80, .isub, 81), (81, .i2f, 82), (82, .fmul, 83), (83, .iload 1, 84), (84, .i2f, 85), (85, .fdiv, 86), (86, .fadd, 87), (87, .fstore 2, 88), (88, .iinc 3 (Int.ofNat 1), 91), (91, .goto (Int.ofNat 29), 94), (94, .fload 2, 95), (95, .freturn, 96)]]
abbrev m_Mo_meanCost : Nat := 200
def ah_Mo_meanCost : List (Nat × Nat × Nat × Nat × Nat × Nat) := []
def at_Mo_laysMove : am_T := [[(0, .aload 0, 1), (1, .invokevirtual 76416, 4), (4, .istore 1, 5), (5, .aload 0, 6), (6, .ldc_w 1, 7), (7, .putfield 608, 10), (10, .aload 0, 11), (11, .ldc_w 1, 12), (12, .putfield 609, 15), (15, .aload 0, 16)], [(16, .ldc_w 1, 17), (17, .putfield 610, 20), (20, .ldc 0, 21), (21, .istore 2, 22), (22, .iload 2, 23), (23, .aload 0, 24), (24, .invokevirtual 76112, 27), (27, .if_icmp .ge (Int.ofNat 147), 30), (30, .ldc 0, 31), (31, .istore 3, 32)], [(32, .iload 3, 33), (33, .aload 0, 34), (34, .invokevirtual 76112, 37), (37, .if_icmp .ge (Int.ofNat 127), 40), (40, .aload 0, 41), (41, .iload 2, 42), (42, .invokevirtual 76193, 45), (45, .ifCond .ne (Int.ofNat 127), 48)], [(48, .aload 0, 49), (49, .iload 3, 50), (50, .invokevirtual 76193, 53), (53, .ifCond .eq (Int.ofNat 121), 56), (56, .aload 0, 57), (57, .ldc 75, 59), (59, .iload 2, 60), (60, .iadd, 61), (61, .invokevirtual 75665, 64)], [(64, .iload 3, 65), (65, .if_icmp .ne (Int.ofNat 71), 68), (68, .goto (Int.ofNat 121), 71), (71, .aload 0, 72), (72, .getstatic 604, 75), (75, .iload 2, 76), (76, .iload 3, 77), (77, .iastore, 78), (78, .aload 0, 79), (79, .aload 0, 80)], [(80, .getstatic 604, 83), (83, .invokevirtual 76353, 86), (86, .istore 4, 88), (88, .aload 0, 89), (89, .getfield 608, 92), (92, .ldc_w 1, 93), (93, .if_icmp .eq (Int.ofNat 105), 96)], [(96, .iload 4, 98), (98, .aload 0, 99), (99, .getfield 610, 102), (102, .if_icmp .ge (Int.ofNat 121), 105), (105, .aload 0, 106), (106, .iload 2, 107), (107, .putfield 608, 110), (110, .aload 0, 111), (111, .iload 3, 112)], [(112, .putfield 609, 115), (115, .aload 0, 116), (116, .iload 4, 118), (118, .putfield 610, 121), (121, .iinc 3 (Int.ofNat 1), 124), (124, .goto (Int.ofNat 32), 127), (127, .aload 0, 128)], [(128, .getstatic 604, 131), (131, .iload 2, 132), (132, .aload 0, 133), (133, .ldc 75, 135), (135, .iload 2, 136), (136, .iadd, 137), (137, .invokevirtual 75665, 140), (140, .iastore, 141), (141, .iinc 2 (Int.ofNat 1), 144)], [(144, .goto (Int.ofNat 22), 147), (147, .return_, 148)]]
abbrev m_Mo_laysMove : Nat := 201
def ah_Mo_laysMove : List (Nat × Nat × Nat × Nat × Nat × Nat) := []
def at_Mo_bestMove : am_T := [[(0, .aload 0, 1), (1, .ldc 0, 2), (2, .putfield 576, 5), (5, .aload 0, 6), (6, .iload 1, 7), (7, .i2l, 8), (8, .ldc2_w 0, 9), (9, .ldc2_w 2, 12), (12, .invokestatic 1923, 15), (15, .ldc 1, 16)], [(16, .invokevirtual 75714, 19), (19, .ifCond .ne (Int.ofNat 24), 22), (22, .ldc 0, 23), (23, .ireturn, 24), (24, .aload 0, 25), (25, .invokevirtual 76944, 28), (28, .iload 1, 29), (29, .ifCond .ne (Int.ofNat 39), 32)], [(32, .aload 0, 33), (33, .getfield 608, 36), (36, .goto (Int.ofNat 55), 39), (39, .iload 1, 40), (40, .ldc 1, 41), (41, .if_icmp .ne (Int.ofNat 51), 44), (44, .aload 0, 45), (45, .getfield 609, 48)], [(48, .goto (Int.ofNat 55), 51), (51, .aload 0, 52), (52, .getfield 610, 55), (55, .ireturn, 56)]]
abbrev m_Mo_bestMove : Nat := 202
def ah_Mo_bestMove : List (Nat × Nat × Nat × Nat × Nat × Nat) := []
def at_Mo_setLabel : am_T := [[(0, .aload 0, 1), (1, .ldc 0, 2), (2, .putfield 576, 5), (5, .iload 2, 6), (6, .ldc_w 1, 7), (7, .if_icmp .eq (Int.ofNat 34), 10), (10, .iload 2, 11), (11, .i2l, 12), (12, .ldc2_w 0, 13), (13, .aload 0, 14), (14, .invokevirtual 76112, 17)], [(17, .ldc 1, 18), (18, .isub, 19), (19, .i2l, 20), (20, .invokestatic 1923, 23), (23, .ifCond .eq (Int.ofNat 38), 26), (26, .aload 0, 27), (27, .iload 2, 28), (28, .invokevirtual 76193, 31), (31, .ifCond .eq (Int.ofNat 38), 34)], [(34, .ldc 1, 35), (35, .goto (Int.ofNat 39), 38), (38, .ldc 0, 39), (39, .istore 3, 40), (40, .aload 0, 41), (41, .iload 1, 42), (42, .invokevirtual 76529, 45), (45, .ifCond .eq (Int.ofNat 78), 48)], [(48, .aload 0, 49), (49, .iload 3, 50), (50, .ldc 2, 51), (51, .invokevirtual 75714, 54), (54, .ifCond .eq (Int.ofNat 78), 57), (57, .aload 0, 58), (58, .aload 0, 59), (59, .iload 1, 60), (60, .invokevirtual 76193, 63), (63, .ifCond .ne (Int.ofNat 70), 66)], [(66, .ldc 1, 67), (67, .goto (Int.ofNat 71), 70), (70, .ldc 0, 71), (71, .ldc 3, 72), (72, .invokevirtual 75714, 75), (75, .ifCond .ne (Int.ofNat 80), 78), (78, .ldc 0, 79), (79, .ireturn, 80)], [(80, .aload 0, 81), (81, .invokevirtual 75696, 84), (84, .aload 0, 85), (85, .ldc 75, 87), (87, .iload 1, 88), (88, .iadd, 89), (89, .iload 2, 90), (90, .invokevirtual 75682, 93), (93, .aload 0, 94), (94, .invokevirtual 76416, 97)], [(97, .ireturn, 98)]]
abbrev m_Mo_setLabel : Nat := 203
def ah_Mo_setLabel : List (Nat × Nat × Nat × Nat × Nat × Nat) := []
def at_Mo_useNearest : am_T := [[(0, .aload 0, 1), (1, .ldc 0, 2), (2, .putfield 576, 5), (5, .aload 0, 6), (6, .invokevirtual 76464, 9), (9, .aload 0, 10), (10, .invokevirtual 75696, 13), (13, .ldc 0, 14), (14, .istore 1, 15), (15, .iload 1, 16)], [(16, .aload 0, 17), (17, .invokevirtual 76112, 20), (20, .if_icmp .ge (Int.ofNat 43), 23), (23, .aload 0, 24), (24, .ldc 75, 26), (26, .iload 1, 27), (27, .iadd, 28), (28, .aload 0, 29), (29, .getstatic 606, 32)], [(32, .iload 1, 33), (33, .iaload, 34), (34, .invokevirtual 75682, 37), (37, .iinc 1 (Int.ofNat 1), 40), (40, .goto (Int.ofNat 15), 43), (43, .aload 0, 44), (44, .invokevirtual 76416, 47), (47, .ireturn, 48)]]
abbrev m_Mo_useNearest : Nat := 204
def ah_Mo_useNearest : List (Nat × Nat × Nat × Nat × Nat × Nat) := []
def at_Mo_useUnion : am_T := [[(0, .aload 0, 1), (1, .invokevirtual 76672, 4), (4, .ifCond .ne (Int.ofNat 9), 7), (7, .ldc 0, 8), (8, .ireturn, 9), (9, .aload 0, 10), (10, .invokevirtual 76272, 13), (13, .aload 0, 14), (14, .invokevirtual 76288, 17)], [(17, .istore 1, 18), (18, .aload 0, 19), (19, .invokevirtual 75696, 22), (22, .ldc 0, 23), (23, .istore 2, 24), (24, .iload 2, 25), (25, .aload 0, 26), (26, .invokevirtual 76112, 29), (29, .if_icmp .ge (Int.ofNat 104), 32)], [(32, .iload 1, 33), (33, .istore 3, 34), (34, .aload 0, 35), (35, .invokevirtual 76112, 38), (38, .ldc 1, 39), (39, .isub, 40), (40, .istore 4, 42), (42, .iload 4, 44), (44, .ifCond .lt (Int.ofNat 89), 47), (47, .iload 4, 49)], [(49, .iload 1, 50), (50, .if_icmp .eq (Int.ofNat 81), 53), (53, .aload 0, 54), (54, .iload 4, 56), (56, .invokevirtual 76193, 59), (59, .ifCond .eq (Int.ofNat 81), 62), (62, .aload 0, 63), (63, .getstatic 596, 66)], [(66, .iload 4, 68), (68, .iaload, 69), (69, .iload 2, 70), (70, .invokestatic 2450, 73), (73, .ifCond .eq (Int.ofNat 81), 76), (76, .iload 4, 78), (78, .goto (Int.ofNat 82), 81)], [(81, .iload 3, 82), (82, .istore 3, 83), (83, .iinc 4 (Int.negSucc 0), 86), (86, .goto (Int.ofNat 42), 89), (89, .aload 0, 90), (90, .ldc 75, 92), (92, .iload 2, 93), (93, .iadd, 94), (94, .iload 3, 95), (95, .invokevirtual 75682, 98)], [(98, .iinc 2 (Int.ofNat 1), 101), (101, .goto (Int.ofNat 24), 104), (104, .aload 0, 105), (105, .invokevirtual 76416, 108), (108, .ireturn, 109)]]
abbrev m_Mo_useUnion : Nat := 205
def ah_Mo_useUnion : List (Nat × Nat × Nat × Nat × Nat × Nat) := []
def at_Mo_useExact : am_T := [[(0, .aload 0, 1), (1, .ldc 0, 2), (2, .putfield 576, 5), (5, .aload 0, 6), (6, .invokevirtual 76400, 9), (9, .istore 1, 10), (10, .aload 0, 11), (11, .invokevirtual 75696, 14), (14, .ldc 0, 15), (15, .istore 2, 16)], [(16, .iload 2, 17), (17, .aload 0, 18), (18, .invokevirtual 76112, 21), (21, .if_icmp .ge (Int.ofNat 44), 24), (24, .aload 0, 25), (25, .ldc 75, 27), (27, .iload 2, 28), (28, .iadd, 29), (29, .aload 0, 30), (30, .getstatic 600, 33)], [(33, .iload 2, 34), (34, .iaload, 35), (35, .invokevirtual 75682, 38), (38, .iinc 2 (Int.ofNat 1), 41), (41, .goto (Int.ofNat 16), 44), (44, .aload 0, 45), (45, .invokevirtual 76416, 48)], [(48, .ireturn, 49)]]
abbrev m_Mo_useExact : Nat := 206
def ah_Mo_useExact : List (Nat × Nat × Nat × Nat × Nat × Nat) := []
def at_Mo_improve : am_T := [[(0, .aload 0, 1), (1, .ldc 0, 2), (2, .putfield 576, 5), (5, .aload 0, 6), (6, .iload 1, 7), (7, .i2l, 8), (8, .ldc2_w 1, 9), (9, .ldc2_w 20, 12), (12, .invokestatic 1923, 15), (15, .ldc 1, 16)], [(16, .invokevirtual 75714, 19), (19, .ifCond .ne (Int.ofNat 24), 22), (22, .ldc 0, 23), (23, .ireturn, 24), (24, .aload 0, 25), (25, .invokevirtual 75696, 28), (28, .ldc 0, 29), (29, .istore 2, 30), (30, .iload 2, 31), (31, .iload 1, 32)], [(32, .if_icmp .ge (Int.ofNat 81), 35), (35, .aload 0, 36), (36, .invokevirtual 76944, 39), (39, .aload 0, 40), (40, .getfield 608, 43), (43, .ldc_w 1, 44), (44, .if_icmp .eq (Int.ofNat 58), 47), (47, .aload 0, 48)], [(48, .getfield 610, 51), (51, .aload 0, 52), (52, .invokevirtual 76416, 55), (55, .if_icmp .lt (Int.ofNat 60), 58), (58, .iload 2, 59), (59, .ireturn, 60), (60, .aload 0, 61), (61, .ldc 75, 63), (63, .aload 0, 64)], [(64, .getfield 608, 67), (67, .iadd, 68), (68, .aload 0, 69), (69, .getfield 609, 72), (72, .invokevirtual 75682, 75), (75, .iinc 2 (Int.ofNat 1), 78), (78, .goto (Int.ofNat 30), 81)], [(81, .iload 2, 82), (82, .ireturn, 83)]]
abbrev m_Mo_improve : Nat := 207
def ah_Mo_improve : List (Nat × Nat × Nat × Nat × Nat × Nat) := []
def at_Mo_isEdge : am_T := [[(0, .aload 0, 1), (1, .ldc 0, 2), (2, .putfield 576, 5), (5, .aload 0, 6), (6, .iload 1, 7), (7, .i2l, 8), (8, .ldc2_w 0, 9), (9, .aload 0, 10), (10, .invokevirtual 76128, 13), (13, .ldc 1, 14), (14, .isub, 15), (15, .i2l, 16)], [(16, .invokestatic 1923, 19), (19, .ldc 1, 20), (20, .invokevirtual 75714, 23), (23, .areturn, 24)]]
abbrev m_Mo_isEdge : Nat := 208
def ah_Mo_isEdge : List (Nat × Nat × Nat × Nat × Nat × Nat) := []
def at_Mo_setWeight : am_T := [[(0, .aload 0, 1), (1, .iload 1, 2), (2, .invokevirtual 77057, 5), (5, .ifCond .eq (Int.ofNat 25), 8), (8, .aload 0, 9), (9, .iload 2, 10), (10, .i2l, 11), (11, .ldc2_w 1, 12), (12, .ldc2_w 99, 15), (15, .invokestatic 1923, 18)], [(18, .ldc 2, 19), (19, .invokevirtual 75714, 22), (22, .ifCond .ne (Int.ofNat 27), 25), (25, .ldc 0, 26), (26, .ireturn, 27), (27, .aload 0, 28), (28, .ldc 15, 30), (30, .ldc 3, 31), (31, .iload 1, 32)], [(32, .imul, 33), (33, .iadd, 34), (34, .ldc 2, 35), (35, .iadd, 36), (36, .invokevirtual 75665, 39), (39, .istore 3, 40), (40, .aload 0, 41), (41, .invokevirtual 75696, 44), (44, .aload 0, 45), (45, .ldc 15, 47), (47, .ldc 3, 48)], [(48, .iload 1, 49), (49, .imul, 50), (50, .iadd, 51), (51, .ldc 2, 52), (52, .iadd, 53), (53, .iload 2, 54), (54, .invokevirtual 75682, 57), (57, .iload 3, 58), (58, .ireturn, 59)]]
abbrev m_Mo_setWeight : Nat := 209
def ah_Mo_setWeight : List (Nat × Nat × Nat × Nat × Nat × Nat) := []
def at_Mo_areJoined : am_T := [[(0, .ldc 0, 1), (1, .istore 3, 2), (2, .iload 3, 3), (3, .aload 0, 4), (4, .invokevirtual 76128, 7), (7, .if_icmp .ge (Int.ofNat 44), 10), (10, .aload 0, 11), (11, .iload 3, 12), (12, .invokevirtual 76145, 15), (15, .iload 1, 16)], [(16, .iload 2, 17), (17, .dsub, 20), (20, .if_icmp .ne (Int.ofNat 38), 23), (23, .aload 0, 24), (24, .iload 3, 25), (25, .invokevirtual 76161, 28), (28, .iload 1, 29), (29, .iload 2, 30), (30, .dadd, 33)], [(33, .if_icmp .ne (Int.ofNat 38), 36), (36, .ldc 1, 37), (37, .areturn, 38), (38, .iinc 3 (Int.ofNat 1), 41), (41, .goto (Int.ofNat 2), 44), (44, .ldc 0, 45), (45, .areturn, 46)]]
abbrev m_Mo_areJoined : Nat := 210
def ah_Mo_areJoined : List (Nat × Nat × Nat × Nat × Nat × Nat) := []
def at_Mo_addEdge : am_T := [[(0, .aload 0, 1), (1, .ldc 0, 2), (2, .putfield 576, 5), (5, .aload 0, 6), (6, .iload 1, 7), (7, .invokevirtual 76529, 10), (10, .ifCond .eq (Int.ofNat 82), 13), (13, .aload 0, 14), (14, .iload 2, 15), (15, .invokevirtual 76529, 18)], [(18, .ifCond .eq (Int.ofNat 82), 21), (21, .aload 0, 22), (22, .iload 1, 23), (23, .iload 2, 24), (24, .if_icmp .eq (Int.ofNat 43), 27), (27, .iload 3, 28), (28, .i2l, 29), (29, .ldc2_w 1, 30), (30, .ldc2_w 99, 33)], [(33, .invokestatic 1923, 36), (36, .ifCond .eq (Int.ofNat 43), 39), (39, .ldc 1, 40), (40, .goto (Int.ofNat 44), 43), (43, .ldc 0, 44), (44, .ldc 2, 45), (45, .invokevirtual 75714, 48)], [(48, .ifCond .eq (Int.ofNat 82), 51), (51, .aload 0, 52), (52, .aload 0, 53), (53, .iload 1, 54), (54, .iload 2, 55), (55, .invokevirtual 77090, 58), (58, .ifCond .ne (Int.ofNat 74), 61), (61, .aload 0, 62), (62, .invokevirtual 76128, 65)], [(65, .ldc 20, 67), (67, .if_icmp .ge (Int.ofNat 74), 70), (70, .ldc 1, 71), (71, .goto (Int.ofNat 75), 74), (74, .ldc 0, 75), (75, .ldc 3, 76), (76, .invokevirtual 75714, 79), (79, .ifCond .ne (Int.ofNat 84), 82)], [(82, .ldc 0, 83), (83, .ireturn, 84), (84, .aload 0, 85), (85, .invokevirtual 75696, 88), (88, .aload 0, 89), (89, .invokevirtual 76128, 92), (92, .istore 4, 94), (94, .aload 0, 95), (95, .ldc 15, 97)], [(97, .ldc 3, 98), (98, .iload 4, 100), (100, .imul, 101), (101, .iadd, 102), (102, .iload 1, 103), (103, .iload 2, 104), (104, .dsub, 107), (107, .invokevirtual 75682, 110), (110, .aload 0, 111), (111, .ldc 15, 113)], [(113, .ldc 3, 114), (114, .iload 4, 116), (116, .imul, 117), (117, .iadd, 118), (118, .ldc 1, 119), (119, .iadd, 120), (120, .iload 1, 121), (121, .iload 2, 122), (122, .dadd, 125), (125, .invokevirtual 75682, 128)], [(128, .aload 0, 129), (129, .ldc 15, 131), (131, .ldc 3, 132), (132, .iload 4, 134), (134, .imul, 135), (135, .iadd, 136), (136, .ldc 2, 137), (137, .iadd, 138), (138, .iload 3, 139), (139, .invokevirtual 75682, 142), (142, .aload 0, 143), (143, .ldc 1, 144)], [(144, .iload 4, 146), (146, .ldc 1, 147), (147, .iadd, 148), (148, .invokevirtual 75682, 151), (151, .iload 4, 153), (153, .ireturn, 154)]]
abbrev m_Mo_addEdge : Nat := 211
def ah_Mo_addEdge : List (Nat × Nat × Nat × Nat × Nat × Nat) := []
def at_Mo_removeEdge : am_T := [[(0, .aload 0, 1), (1, .iload 1, 2), (2, .invokevirtual 77057, 5), (5, .ifCond .ne (Int.ofNat 10), 8), (8, .ldc 0, 9), (9, .ireturn, 10), (10, .aload 0, 11), (11, .invokevirtual 75696, 14), (14, .aload 0, 15), (15, .invokevirtual 76128, 18)], [(18, .ldc 1, 19), (19, .isub, 20), (20, .istore 2, 21), (21, .ldc 15, 23), (23, .ldc 3, 24), (24, .iload 1, 25), (25, .imul, 26), (26, .iadd, 27), (27, .istore 3, 28), (28, .iload 3, 29), (29, .ldc 15, 31), (31, .ldc 3, 32)], [(32, .iload 2, 33), (33, .imul, 34), (34, .iadd, 35), (35, .if_icmp .ge (Int.ofNat 56), 38), (38, .aload 0, 39), (39, .iload 3, 40), (40, .aload 0, 41), (41, .iload 3, 42), (42, .ldc 3, 43), (43, .iadd, 44), (44, .invokevirtual 75665, 47), (47, .invokevirtual 75682, 50)], [(50, .iinc 3 (Int.ofNat 1), 53), (53, .goto (Int.ofNat 28), 56), (56, .aload 0, 57), (57, .ldc 1, 58), (58, .iload 2, 59), (59, .invokevirtual 75682, 62), (62, .iload 2, 63), (63, .ireturn, 64)]]
abbrev m_Mo_removeEdge : Nat := 212
def ah_Mo_removeEdge : List (Nat × Nat × Nat × Nat × Nat × Nat) := []
def at_Mo_setTerminal : am_T := [[(0, .aload 0, 1), (1, .ldc 0, 2), (2, .putfield 576, 5), (5, .aload 0, 6), (6, .iload 1, 7), (7, .invokevirtual 76529, 10), (10, .ifCond .eq (Int.ofNat 50), 13), (13, .aload 0, 14), (14, .iload 2, 15), (15, .ifCond .eq (Int.ofNat 38), 18)], [(18, .aload 0, 19), (19, .iload 1, 20), (20, .invokevirtual 76193, 23), (23, .ifCond .ne (Int.ofNat 38), 26), (26, .aload 0, 27), (27, .ldc 2, 28), (28, .invokevirtual 75665, 31), (31, .invokestatic 2209, 34)], [(34, .ldc 5, 35), (35, .if_icmp .ge (Int.ofNat 42), 38), (38, .ldc 1, 39), (39, .goto (Int.ofNat 43), 42), (42, .ldc 0, 43), (43, .ldc 2, 44), (44, .invokevirtual 75714, 47), (47, .ifCond .ne (Int.ofNat 52), 50)], [(50, .ldc 0, 51), (51, .ireturn, 52), (52, .aload 0, 53), (53, .iload 1, 54), (54, .invokevirtual 76193, 57), (57, .istore 3, 58), (58, .aload 0, 59), (59, .invokevirtual 75696, 62), (62, .iload 2, 63), (63, .ifCond .eq (Int.ofNat 93), 66)], [(66, .iload 3, 67), (67, .ifCond .ne (Int.ofNat 93), 70), (70, .aload 0, 71), (71, .ldc 2, 72), (72, .aload 0, 73), (73, .ldc 2, 74), (74, .invokevirtual 75665, 77), (77, .ldc 1, 78), (78, .iload 1, 79), (79, .ishl, 80)], [(80, .ior, 81), (81, .invokevirtual 75682, 84), (84, .aload 0, 85), (85, .ldc 75, 87), (87, .iload 1, 88), (88, .iadd, 89), (89, .iload 1, 90), (90, .invokevirtual 75682, 93), (93, .iload 2, 94), (94, .ifCond .ne (Int.ofNat 158), 97)], [(97, .iload 3, 98), (98, .ifCond .eq (Int.ofNat 158), 101), (101, .aload 0, 102), (102, .ldc 2, 103), (103, .aload 0, 104), (104, .ldc 2, 105), (105, .invokevirtual 75665, 108), (108, .ldc 1, 109), (109, .iload 1, 110), (110, .ishl, 111), (111, .ldc_w 1, 112)], [(112, .ixor, 113), (113, .iand, 114), (114, .invokevirtual 75682, 117), (117, .ldc 0, 118), (118, .istore 4, 120), (120, .iload 4, 122), (122, .aload 0, 123), (123, .invokevirtual 76112, 126), (126, .if_icmp .ge (Int.ofNat 158), 129)], [(129, .aload 0, 130), (130, .ldc 75, 132), (132, .iload 4, 134), (134, .iadd, 135), (135, .invokevirtual 75665, 138), (138, .iload 1, 139), (139, .if_icmp .ne (Int.ofNat 152), 142), (142, .aload 0, 143), (143, .ldc 75, 145)], [(145, .iload 4, 147), (147, .iadd, 148), (148, .ldc_w 1, 149), (149, .invokevirtual 75682, 152), (152, .iinc 4 (Int.ofNat 1), 155), (155, .goto (Int.ofNat 120), 158), (158, .aload 0, 159), (159, .ldc 2, 160)], [(160, .invokevirtual 75665, 163), (163, .invokestatic 2209, 166), (166, .ireturn, 167)]]
abbrev m_Mo_setTerminal : Nat := 213
def ah_Mo_setTerminal : List (Nat × Nat × Nat × Nat × Nat × Nat) := []
def at_Mo_undo : am_T := [[(0, .aload 0, 1), (1, .ldc 0, 2), (2, .putfield 576, 5), (5, .aload 0, 6), (6, .getfield 580, 9), (9, .ifCond .ne (Int.ofNat 14), 12), (12, .ldc_w 1, 13), (13, .ireturn, 14), (14, .aload 0, 15), (15, .dup, 16)], [(16, .getfield 580, 19), (19, .ldc 1, 20), (20, .isub, 21), (21, .putfield 580, 24), (24, .aload 0, 25), (25, .aload 0, 26), (26, .getfield 579, 29), (29, .ldc 9, 31), (31, .iadd, 32)], [(32, .ldc 1, 33), (33, .isub, 34), (34, .ldc 9, 36), (36, .irem, 37), (37, .putfield 579, 40), (40, .aload 0, 41), (41, .getfield 580, 44), (44, .ireturn, 45)]]
abbrev m_Mo_undo : Nat := 214
def ah_Mo_undo : List (Nat × Nat × Nat × Nat × Nat × Nat) := []
def at_Mo_checksum : am_T := [[(0, .aload 0, 1), (1, .ldc 0, 2), (2, .putfield 576, 5), (5, .ldc2_w 31, 8), (8, .aload 0, 9), (9, .invokevirtual 76112, 12), (12, .i2l, 13), (13, .lmul, 14), (14, .aload 0, 15), (15, .ldc 2, 16)], [(16, .invokevirtual 75665, 19), (19, .i2l, 20), (20, .ladd, 21), (21, .lstore 1, 22), (22, .ldc 0, 23), (23, .istore 3, 24), (24, .iload 3, 25), (25, .aload 0, 26), (26, .invokevirtual 76128, 29), (29, .if_icmp .ge (Int.ofNat 74), 32)], [(32, .ldc 0, 33), (33, .istore 4, 35), (35, .iload 4, 37), (37, .ldc 3, 38), (38, .if_icmp .ge (Int.ofNat 68), 41), (41, .ldc2_w 31, 44), (44, .lload 1, 45), (45, .lmul, 46), (46, .aload 0, 47), (47, .ldc 15, 49)], [(49, .ldc 3, 50), (50, .iload 3, 51), (51, .imul, 52), (52, .iadd, 53), (53, .iload 4, 55), (55, .iadd, 56), (56, .invokevirtual 75665, 59), (59, .i2l, 60), (60, .ladd, 61), (61, .lstore 1, 62), (62, .iinc 4 (Int.ofNat 1), 65)], [(65, .goto (Int.ofNat 35), 68), (68, .iinc 3 (Int.ofNat 1), 71), (71, .goto (Int.ofNat 24), 74), (74, .ldc 0, 75), (75, .istore 3, 76), (76, .iload 3, 77), (77, .aload 0, 78), (78, .invokevirtual 76112, 81)], [(81, .if_icmp .ge (Int.ofNat 106), 84), (84, .ldc2_w 31, 87), (87, .lload 1, 88), (88, .lmul, 89), (89, .aload 0, 90), (90, .ldc 75, 92), (92, .iload 3, 93), (93, .iadd, 94), (94, .invokevirtual 75665, 97)], [(97, .i2l, 98), (98, .ladd, 99), (99, .lstore 1, 100), (100, .iinc 3 (Int.ofNat 1), 103), (103, .goto (Int.ofNat 76), 106), (106, .ldc2_w 31, 109), (109, .lload 1, 110), (110, .lmul, 111), (111, .aload 0, 112)], [(112, .invokevirtual 76416, 115), (115, .i2l, 116), (116, .ladd, 117), (117, .lreturn, 118)]]
abbrev m_Mo_checksum : Nat := 215
def ah_Mo_checksum : List (Nat × Nat × Nat × Nat × Nat × Nat) := []
def at_JI_bitCount : am_T := [[(0, .iload 0, 1), (1, .iload 0, 2), (2, .ldc 1, 3), (3, .iushr, 4), (4, .ldc 1431655765, 7), (7, .iand, 8), (8, .isub, 9), (9, .istore 0, 10), (10, .iload 0, 11), (11, .ldc 858993459, 14), (14, .iand, 15), (15, .iload 0, 16)], [(16, .ldc 2, 17), (17, .iushr, 18), (18, .ldc 858993459, 21), (21, .iand, 22), (22, .iadd, 23), (23, .istore 0, 24), (24, .iload 0, 25), (25, .iload 0, 26), (26, .ldc 4, 27), (27, .iushr, 28), (28, .iadd, 29), (29, .ldc 252645135, 32)], [(32, .iand, 33), (33, .istore 0, 34), (34, .iload 0, 35), (35, .iload 0, 36), (36, .ldc 8, 38), (38, .iushr, 39), (39, .iadd, 40), (40, .istore 0, 41), (41, .iload 0, 42), (42, .iload 0, 43), (43, .ldc 16, 45), (45, .iushr, 46), (46, .iadd, 47), (47, .istore 0, 48)], [(48, .iload 0, 49), (49, .ldc 63, 51), (51, .iand, 52), (52, .ireturn, 53)]]
abbrev m_JI_bitCount : Nat := 216
def ah_JI_bitCount : List (Nat × Nat × Nat × Nat × Nat × Nat) := []
def at_JA_fill : am_T := [[(0, .ldc 0, 1), (1, .istore 2, 2), (2, .aload 0, 3), (3, .arraylength, 4), (4, .istore 3, 5), (5, .iload 2, 6), (6, .iload 3, 7), (7, .if_icmp .ge (Int.ofNat 20), 10), (10, .aload 0, 11), (11, .iload 2, 12), (12, .iload 1, 13), (13, .iastore, 14), (14, .iinc 2 (Int.ofNat 1), 17)], [(17, .goto (Int.ofNat 5), 20), (20, .return_, 21)]]
abbrev m_JA_fill : Nat := 217
def ah_JA_fill : List (Nat × Nat × Nat × Nat × Nat × Nat) := []
def at_JA_copyOf : am_T := [[(0, .iload 1, 1), (1, .aload 0, 2), (2, .arraylength, 3), (3, .if_icmp .ne (Int.ofNat 14), 6), (6, .aload 0, 7), (13, .dreturn, 14), (14, .iload 1, 15), (15, .anewarray 2, 17)], [(17, .astore 2, 18), (18, .aload 0, 19), (19, .ldc 0, 20), (20, .aload 2, 21), (21, .ldc 0, 22), (22, .aload 0, 23), (23, .arraylength, 24), (24, .iload 1, 25), (25, .dsub, 28), (28, .multianewarray 0 0, 31), (31, .aload 2, 32)], [(32, .dreturn, 33)]]
abbrev m_JA_copyOf : Nat := 218
def ah_JA_copyOf : List (Nat × Nat × Nat × Nat × Nat × Nat) := []
def at_La_load : am_T := [[(0, .aload 2, 1), (1, .ldc 0, 2), (2, .aload 0, 3), (3, .iload 1, 4), (4, .invokevirtual 66721, 7), (7, .i2l, 8), (8, .lastore, 9), (9, .goto (Int.ofNat 15), 12), (12, .astore 3, 13), (13, .ldc 1, 14), (14, .ireturn, 15), (15, .ldc 0, 16)], [(16, .ireturn, 17)]]
abbrev m_La_load : Nat := 219
def ah_La_load : List (Nat × Nat × Nat × Nat × Nat × Nat) := [(0, 9, 12, 1, 13, 3)]
def at_La_burden : am_T := [[(0, .aload 2, 1), (1, .ldc 0, 2), (2, .aload 0, 3), (3, .iload 1, 4), (4, .invokevirtual 66801, 7), (7, .i2l, 8), (8, .lastore, 9), (9, .goto (Int.ofNat 15), 12), (12, .astore 3, 13), (13, .ldc 1, 14), (14, .ireturn, 15), (15, .ldc 0, 16)], [(16, .ireturn, 17)]]
abbrev m_La_burden : Nat := 220
def ah_La_burden : List (Nat × Nat × Nat × Nat × Nat × Nat) := [(0, 9, 12, 2, 13, 3)]
def at_La_edge : am_T := [[(0, .aload 3, 1), (1, .ldc 0, 2), (2, .aload 0, 3), (3, .iload 1, 4), (4, .iload 2, 5), (5, .invokevirtual 66818, 8), (8, .i2l, 9), (9, .lastore, 10), (10, .goto (Int.ofNat 21), 13), (13, .astore 4, 15), (15, .ldc 1, 16)], [(16, .ireturn, 17), (17, .astore 4, 19), (19, .ldc 2, 20), (20, .ireturn, 21), (21, .ldc 0, 22), (22, .ireturn, 23)]]
abbrev m_La_edge : Nat := 221
def ah_La_edge : List (Nat × Nat × Nat × Nat × Nat × Nat) := [(0, 10, 13, 2, 15, 4), (0, 10, 17, 1, 19, 4)]
def at_La_cutCost : am_T := [[(0, .aload 2, 1), (1, .ldc 0, 2), (2, .aload 0, 3), (3, .iload 1, 4), (4, .invokevirtual 66833, 7), (7, .i2l, 8), (8, .lastore, 9), (9, .goto (Int.ofNat 15), 12), (12, .astore 3, 13), (13, .ldc 1, 14), (14, .ireturn, 15), (15, .ldc 0, 16)], [(16, .ireturn, 17)]]
abbrev m_La_cutCost : Nat := 222
def ah_La_cutCost : List (Nat × Nat × Nat × Nat × Nat × Nat) := [(0, 9, 12, 1, 13, 3)]
def at_La_separates : am_T := [[(0, .aload 2, 1), (1, .ldc 0, 2), (2, .aload 0, 3), (3, .iload 1, 4), (4, .invokevirtual 66849, 7), (7, .ifCond .eq (Int.ofNat 14), 10), (10, .ldc2_w 1, 11), (11, .goto (Int.ofNat 15), 14), (14, .ldc2_w 0, 15), (15, .lastore, 16)], [(16, .goto (Int.ofNat 22), 19), (19, .astore 3, 20), (20, .ldc 1, 21), (21, .ireturn, 22), (22, .ldc 0, 23), (23, .ireturn, 24)]]
abbrev m_La_separates : Nat := 223
def ah_La_separates : List (Nat × Nat × Nat × Nat × Nat × Nat) := [(0, 16, 19, 1, 20, 3)]
def at_La_isolatingValue : am_T := [[(0, .aload 2, 1), (1, .ldc 0, 2), (2, .aload 0, 3), (3, .iload 1, 4), (4, .invokevirtual 66865, 7), (7, .i2l, 8), (8, .lastore, 9), (9, .goto (Int.ofNat 15), 12), (12, .astore 3, 13), (13, .ldc 1, 14), (14, .ireturn, 15), (15, .ldc 0, 16)], [(16, .ireturn, 17)]]
abbrev m_La_isolatingValue : Nat := 224
def ah_La_isolatingValue : List (Nat × Nat × Nat × Nat × Nat × Nat) := [(0, 9, 12, 1, 13, 3)]
def at_La_isolatingSet : am_T := [[(0, .aload 2, 1), (1, .ldc 0, 2), (2, .aload 0, 3), (3, .iload 1, 4), (4, .invokevirtual 66881, 7), (7, .i2l, 8), (8, .lastore, 9), (9, .goto (Int.ofNat 15), 12), (12, .astore 3, 13), (13, .ldc 1, 14), (14, .ireturn, 15), (15, .ldc 0, 16)], [(16, .ireturn, 17)]]
abbrev m_La_isolatingSet : Nat := 225
def ah_La_isolatingSet : List (Nat × Nat × Nat × Nat × Nat × Nat) := [(0, 9, 12, 1, 13, 3)]
def at_La_dearest : am_T := [[(0, .aload 1, 1), (1, .ldc 0, 2), (2, .aload 0, 3), (3, .invokevirtual 66912, 6), (6, .i2l, 7), (7, .lastore, 8), (8, .goto (Int.ofNat 14), 11), (11, .astore 2, 12), (12, .ldc 1, 13), (13, .ireturn, 14), (14, .ldc 0, 15), (15, .ireturn, 16)]]
abbrev m_La_dearest : Nat := 226
def ah_La_dearest : List (Nat × Nat × Nat × Nat × Nat × Nat) := [(0, 8, 11, 3, 12, 2)]
def at_La_unionCut : am_T := [[(0, .aload 1, 1), (1, .ldc 0, 2), (2, .aload 0, 3), (3, .invokevirtual 66928, 6), (6, .i2l, 7), (7, .lastore, 8), (8, .goto (Int.ofNat 14), 11), (11, .astore 2, 12), (12, .ldc 1, 13), (13, .ireturn, 14), (14, .ldc 0, 15), (15, .ireturn, 16)]]
abbrev m_La_unionCut : Nat := 227
def ah_La_unionCut : List (Nat × Nat × Nat × Nat × Nat × Nat) := [(0, 8, 11, 3, 12, 2)]
def at_La_unionCost : am_T := [[(0, .aload 1, 1), (1, .ldc 0, 2), (2, .aload 0, 3), (3, .invokevirtual 66944, 6), (6, .i2l, 7), (7, .lastore, 8), (8, .goto (Int.ofNat 14), 11), (11, .astore 2, 12), (12, .ldc 1, 13), (13, .ireturn, 14), (14, .ldc 0, 15), (15, .ireturn, 16)]]
abbrev m_La_unionCost : Nat := 228
def ah_La_unionCost : List (Nat × Nat × Nat × Nat × Nat × Nat) := [(0, 8, 11, 3, 12, 2)]
def at_La_fixed : am_T := [[(0, .aload 2, 1), (1, .ldc 0, 2), (2, .aload 0, 3), (3, .iload 1, 4), (4, .invokevirtual 66977, 7), (7, .i2l, 8), (8, .lastore, 9), (9, .goto (Int.ofNat 15), 12), (12, .astore 3, 13), (13, .ldc 1, 14), (14, .ireturn, 15), (15, .ldc 0, 16)], [(16, .ireturn, 17)]]
abbrev m_La_fixed : Nat := 229
def ah_La_fixed : List (Nat × Nat × Nat × Nat × Nat × Nat) := [(0, 9, 12, 2, 13, 3)]
def at_La_exact : am_T := [[(0, .aload 2, 1), (1, .ldc 0, 2), (2, .aload 0, 3), (3, .iload 1, 4), (4, .invokevirtual 67009, 7), (7, .i2l, 8), (8, .lastore, 9), (9, .goto (Int.ofNat 15), 12), (12, .astore 3, 13), (13, .ldc 1, 14), (14, .ireturn, 15), (15, .ldc 0, 16)], [(16, .ireturn, 17)]]
abbrev m_La_exact : Nat := 230
def ah_La_exact : List (Nat × Nat × Nat × Nat × Nat × Nat) := [(0, 9, 12, 2, 13, 3)]
def at_La_price : am_T := [[(0, .aload 2, 1), (1, .ldc 0, 2), (2, .aload 0, 3), (3, .iload 1, 4), (4, .invokevirtual 67025, 7), (7, .i2l, 8), (8, .lastore, 9), (9, .goto (Int.ofNat 15), 12), (12, .astore 3, 13), (13, .ldc 1, 14), (14, .ireturn, 15), (15, .ldc 0, 16)], [(16, .ireturn, 17)]]
abbrev m_La_price : Nat := 231
def ah_La_price : List (Nat × Nat × Nat × Nat × Nat × Nat) := [(0, 9, 12, 1, 13, 3)]
def at_La_nearest : am_T := [[(0, .aload 2, 1), (1, .ldc 0, 2), (2, .aload 0, 3), (3, .iload 1, 4), (4, .invokevirtual 67041, 7), (7, .i2l, 8), (8, .lastore, 9), (9, .goto (Int.ofNat 15), 12), (12, .astore 3, 13), (13, .ldc 1, 14), (14, .ireturn, 15), (15, .ldc 0, 16)], [(16, .ireturn, 17)]]
abbrev m_La_nearest : Nat := 232
def ah_La_nearest : List (Nat × Nat × Nat × Nat × Nat × Nat) := [(0, 9, 12, 2, 13, 3)]
def at_La_distance : am_T := [[(0, .aload 2, 1), (1, .ldc 0, 2), (2, .aload 0, 3), (3, .iload 1, 4), (4, .invokevirtual 67057, 7), (7, .i2l, 8), (8, .lastore, 9), (9, .goto (Int.ofNat 15), 12), (12, .astore 3, 13), (13, .ldc 1, 14), (14, .ireturn, 15), (15, .ldc 0, 16)], [(16, .ireturn, 17)]]
abbrev m_La_distance : Nat := 233
def ah_La_distance : List (Nat × Nat × Nat × Nat × Nat × Nat) := [(0, 9, 12, 2, 13, 3)]
def at_La_label : am_T := [[(0, .aload 2, 1), (1, .ldc 0, 2), (2, .aload 0, 3), (3, .iload 1, 4), (4, .invokevirtual 67073, 7), (7, .i2l, 8), (8, .lastore, 9), (9, .goto (Int.ofNat 15), 12), (12, .astore 3, 13), (13, .ldc 1, 14), (14, .ireturn, 15), (15, .ldc 0, 16)], [(16, .ireturn, 17)]]
abbrev m_La_label : Nat := 234
def ah_La_label : List (Nat × Nat × Nat × Nat × Nat × Nat) := [(0, 9, 12, 2, 13, 3)]
def at_La_bestMove : am_T := [[(0, .aload 2, 1), (1, .ldc 0, 2), (2, .aload 0, 3), (3, .iload 1, 4), (4, .invokevirtual 67153, 7), (7, .i2l, 8), (8, .lastore, 9), (9, .goto (Int.ofNat 15), 12), (12, .astore 3, 13), (13, .ldc 1, 14), (14, .ireturn, 15), (15, .ldc 0, 16)], [(16, .ireturn, 17)]]
abbrev m_La_bestMove : Nat := 235
def ah_La_bestMove : List (Nat × Nat × Nat × Nat × Nat × Nat) := [(0, 9, 12, 1, 13, 3)]
def at_La_setLabel : am_T := [[(0, .aload 3, 1), (1, .ldc 0, 2), (2, .aload 0, 3), (3, .iload 1, 4), (4, .iload 2, 5), (5, .invokevirtual 67170, 8), (8, .i2l, 9), (9, .lastore, 10), (10, .goto (Int.ofNat 25), 13), (13, .astore 4, 15), (15, .ldc 1, 16)], [(16, .ireturn, 17), (17, .astore 4, 19), (19, .ldc 2, 20), (20, .ireturn, 21), (21, .astore 4, 23), (23, .ldc 3, 24), (24, .ireturn, 25), (25, .ldc 0, 26), (26, .ireturn, 27)]]
abbrev m_La_setLabel : Nat := 236
def ah_La_setLabel : List (Nat × Nat × Nat × Nat × Nat × Nat) := [(0, 10, 13, 2, 15, 4), (0, 10, 17, 1, 19, 4), (0, 10, 21, 3, 23, 4)]
def at_La_useUnion : am_T := [[(0, .aload 1, 1), (1, .ldc 0, 2), (2, .aload 0, 3), (3, .invokevirtual 67200, 6), (6, .i2l, 7), (7, .lastore, 8), (8, .goto (Int.ofNat 14), 11), (11, .astore 2, 12), (12, .ldc 1, 13), (13, .ireturn, 14), (14, .ldc 0, 15), (15, .ireturn, 16)]]
abbrev m_La_useUnion : Nat := 237
def ah_La_useUnion : List (Nat × Nat × Nat × Nat × Nat × Nat) := [(0, 8, 11, 3, 12, 2)]
def at_La_improve : am_T := [[(0, .aload 2, 1), (1, .ldc 0, 2), (2, .aload 0, 3), (3, .iload 1, 4), (4, .invokevirtual 67233, 7), (7, .i2l, 8), (8, .lastore, 9), (9, .goto (Int.ofNat 15), 12), (12, .astore 3, 13), (13, .ldc 1, 14), (14, .ireturn, 15), (15, .ldc 0, 16)], [(16, .ireturn, 17)]]
abbrev m_La_improve : Nat := 238
def ah_La_improve : List (Nat × Nat × Nat × Nat × Nat × Nat) := [(0, 9, 12, 1, 13, 3)]
def at_La_setWeight : am_T := [[(0, .aload 3, 1), (1, .ldc 0, 2), (2, .aload 0, 3), (3, .iload 1, 4), (4, .iload 2, 5), (5, .invokevirtual 67250, 8), (8, .i2l, 9), (9, .lastore, 10), (10, .goto (Int.ofNat 21), 13), (13, .astore 4, 15), (15, .ldc 1, 16)], [(16, .ireturn, 17), (17, .astore 4, 19), (19, .ldc 2, 20), (20, .ireturn, 21), (21, .ldc 0, 22), (22, .ireturn, 23)]]
abbrev m_La_setWeight : Nat := 239
def ah_La_setWeight : List (Nat × Nat × Nat × Nat × Nat × Nat) := [(0, 10, 13, 2, 15, 4), (0, 10, 17, 1, 19, 4)]
def at_La_addEdge : am_T := [[(0, .aload 4, 2), (2, .ldc 0, 3), (3, .aload 0, 4), (4, .iload 1, 5), (5, .iload 2, 6), (6, .iload 3, 7), (7, .invokevirtual 67267, 10), (10, .i2l, 11), (11, .lastore, 12), (12, .goto (Int.ofNat 27), 15), (15, .astore 5, 17)], [(17, .ldc 1, 18), (18, .ireturn, 19), (19, .astore 5, 21), (21, .ldc 2, 22), (22, .ireturn, 23), (23, .astore 5, 25), (25, .ldc 3, 26), (26, .ireturn, 27), (27, .ldc 0, 28), (28, .ireturn, 29)]]
abbrev m_La_addEdge : Nat := 240
def ah_La_addEdge : List (Nat × Nat × Nat × Nat × Nat × Nat) := [(0, 12, 15, 2, 17, 5), (0, 12, 19, 1, 21, 5), (0, 12, 23, 3, 25, 5)]
def at_La_removeEdge : am_T := [[(0, .aload 2, 1), (1, .ldc 0, 2), (2, .aload 0, 3), (3, .iload 1, 4), (4, .invokevirtual 67281, 7), (7, .i2l, 8), (8, .lastore, 9), (9, .goto (Int.ofNat 15), 12), (12, .astore 3, 13), (13, .ldc 1, 14), (14, .ireturn, 15), (15, .ldc 0, 16)], [(16, .ireturn, 17)]]
abbrev m_La_removeEdge : Nat := 241
def ah_La_removeEdge : List (Nat × Nat × Nat × Nat × Nat × Nat) := [(0, 9, 12, 2, 13, 3)]
def at_La_setTerminal : am_T := [[(0, .aload 3, 1), (1, .ldc 0, 2), (2, .aload 0, 3), (3, .iload 1, 4), (4, .iload 2, 5), (5, .invokevirtual 67298, 8), (8, .i2l, 9), (9, .lastore, 10), (10, .goto (Int.ofNat 21), 13), (13, .astore 4, 15), (15, .ldc 1, 16)], [(16, .ireturn, 17), (17, .astore 4, 19), (19, .ldc 2, 20), (20, .ireturn, 21), (21, .ldc 0, 22), (22, .ireturn, 23)]]
abbrev m_La_setTerminal : Nat := 242
def ah_La_setTerminal : List (Nat × Nat × Nat × Nat × Nat × Nat) := [(0, 10, 13, 2, 15, 4), (0, 10, 17, 3, 19, 4)]
def at_La_law : am_T := [[(0, .new 522, 3), (3, .dup, 4), (4, .invokevirtual 66672, 7), (7, .astore 1, 8), (8, .new 611, 11), (11, .dup, 12), (12, .invokevirtual 75616, 15), (15, .astore 2, 16)], [(16, .ldc 1, 17), (17, .anewarray 5, 19), (19, .astore 3, 20), (20, .ldc 0, 21), (21, .istore 4, 23), (23, .iload 4, 25), (25, .aload 0, 26), (26, .monitorenter, 27), (27, .ldc 6, 29), (29, .isub, 30), (30, .if_icmp .gt (Int.ofNat 1942), 33)], [(33, .aload 0, 34), (34, .iload 4, 36), (36, .daload, 37), (37, .ldc 63, 39), (39, .iand, 40), (40, .tableswitch (Int.ofNat 1936) (Int.ofNat 0) (Int.ofNat 39) #[Int.ofNat 216, Int.ofNat 289, Int.ofNat 345, Int.ofNat 358, Int.ofNat 371, Int.ofNat 384, Int.ofNat 397, Int.ofNat 453, Int.ofNat 521, Int.ofNat 577, Int.ofNat 640, Int.ofNat 696, Int.ofNat 752, Int.ofNat 765, Int.ofNat 809, Int.ofNat 853, Int.ofNat 897, Int.ofNat 910, Int.ofNat 966, Int.ofNat 979, Int.ofNat 1035, Int.ofNat 1091, Int.ofNat 1147, Int.ofNat 1203, Int.ofNat 1259, Int.ofNat 1272, Int.ofNat 1285, Int.ofNat 1328, Int.ofNat 1371, Int.ofNat 1427, Int.ofNat 1495, Int.ofNat 1508, Int.ofNat 1552, Int.ofNat 1565, Int.ofNat 1621, Int.ofNat 1689, Int.ofNat 1769, Int.ofNat 1825, Int.ofNat 1909, Int.ofNat 1922], 216)], [], [], [], [], [], [], [], [], [], [], [(216, .aload 1, 217), (217, .aload 0, 218), (218, .iload 4, 220), (220, .ldc 1, 221), (221, .iadd, 222), (222, .daload, 223), (223, .aload 0, 224)], [(224, .iload 4, 226), (226, .ldc 2, 227), (227, .iadd, 228), (228, .daload, 229), (229, .aload 0, 230), (230, .iload 4, 232), (232, .ldc 3, 233), (233, .iadd, 234), (234, .daload, 235), (235, .aload 0, 236), (236, .iload 4, 238), (238, .ldc 4, 239), (239, .iadd, 240)], [(240, .daload, 241), (241, .aload 0, 242), (242, .iload 4, 244), (244, .ldc 5, 245), (245, .iadd, 246), (246, .daload, 247), (247, .invokevirtual 66693, 250), (250, .aload 2, 251), (251, .aload 0, 252), (252, .iload 4, 254), (254, .ldc 1, 255), (255, .iadd, 256)], [(256, .daload, 257), (257, .aload 0, 258), (258, .iload 4, 260), (260, .ldc 2, 261), (261, .iadd, 262), (262, .daload, 263), (263, .aload 0, 264), (264, .iload 4, 266), (266, .ldc 3, 267), (267, .iadd, 268), (268, .daload, 269), (269, .aload 0, 270), (270, .iload 4, 272)], [(272, .ldc 4, 273), (273, .iadd, 274), (274, .daload, 275), (275, .aload 0, 276), (276, .iload 4, 278), (278, .ldc 5, 279), (279, .iadd, 280), (280, .daload, 281), (281, .invokevirtual 75733, 284), (284, .if_icmp .eq (Int.ofNat 1936), 287), (287, .ldc 0, 288)], [(288, .areturn, 289), (289, .aload 1, 290), (290, .aload 0, 291), (291, .iload 4, 293), (293, .ldc 1, 294), (294, .iadd, 295), (295, .daload, 296), (296, .aload 3, 297), (297, .invokestatic 3507, 300), (300, .istore 5, 302), (302, .aload 2, 303), (303, .aload 0, 304)], [(304, .iload 4, 306), (306, .ldc 1, 307), (307, .iadd, 308), (308, .daload, 309), (309, .invokevirtual 76033, 312), (312, .istore 6, 314), (314, .aload 2, 315), (315, .invokevirtual 75632, 318), (318, .iload 5, 320)], [(320, .if_icmp .eq (Int.ofNat 325), 323), (323, .ldc 0, 324), (324, .areturn, 325), (325, .iload 5, 327), (327, .ifCond .ne (Int.ofNat 342), 330), (330, .aload 3, 331), (331, .ldc 0, 332), (332, .laload, 333), (333, .iload 6, 335), (335, .i2l, 336)], [(336, .lcmp, 337), (337, .ifCond .eq (Int.ofNat 342), 340), (340, .ldc 0, 341), (341, .areturn, 342), (342, .goto (Int.ofNat 1936), 345), (345, .aload 1, 346), (346, .invokevirtual 66736, 349), (349, .aload 2, 350), (350, .invokevirtual 76048, 353)], [(353, .if_icmp .eq (Int.ofNat 1936), 356), (356, .ldc 0, 357), (357, .areturn, 358), (358, .aload 1, 359), (359, .invokevirtual 66752, 362), (362, .aload 2, 363), (363, .invokevirtual 76480, 366), (366, .if_icmp .eq (Int.ofNat 1936), 369)], [(369, .ldc 0, 370), (370, .areturn, 371), (371, .aload 1, 372), (372, .invokevirtual 66768, 375), (375, .aload 2, 376), (376, .invokevirtual 76496, 379), (379, .if_icmp .eq (Int.ofNat 1936), 382), (382, .ldc 0, 383), (383, .areturn, 384)], [(384, .aload 1, 385), (385, .invokevirtual 66784, 388), (388, .aload 2, 389), (389, .invokevirtual 76512, 392), (392, .if_icmp .eq (Int.ofNat 1936), 395), (395, .ldc 0, 396), (396, .areturn, 397), (397, .aload 1, 398), (398, .aload 0, 399), (399, .iload 4, 401)], [(401, .ldc 1, 402), (402, .iadd, 403), (403, .daload, 404), (404, .aload 3, 405), (405, .invokestatic 3523, 408), (408, .istore 5, 410), (410, .aload 2, 411), (411, .aload 0, 412), (412, .iload 4, 414), (414, .ldc 1, 415), (415, .iadd, 416)], [(416, .daload, 417), (417, .invokevirtual 76545, 420), (420, .istore 6, 422), (422, .aload 2, 423), (423, .invokevirtual 75632, 426), (426, .iload 5, 428), (428, .if_icmp .eq (Int.ofNat 433), 431), (431, .ldc 0, 432)], [(432, .areturn, 433), (433, .iload 5, 435), (435, .ifCond .ne (Int.ofNat 450), 438), (438, .aload 3, 439), (439, .ldc 0, 440), (440, .laload, 441), (441, .iload 6, 443), (443, .i2l, 444), (444, .lcmp, 445), (445, .ifCond .eq (Int.ofNat 450), 448)], [(448, .ldc 0, 449), (449, .areturn, 450), (450, .goto (Int.ofNat 1936), 453), (453, .aload 1, 454), (454, .aload 0, 455), (455, .iload 4, 457), (457, .ldc 1, 458), (458, .iadd, 459), (459, .daload, 460), (460, .aload 0, 461), (461, .iload 4, 463), (463, .ldc 2, 464)], [(464, .iadd, 465), (465, .daload, 466), (466, .aload 3, 467), (467, .invokestatic 3540, 470), (470, .istore 5, 472), (472, .aload 2, 473), (473, .aload 0, 474), (474, .iload 4, 476), (476, .ldc 1, 477), (477, .iadd, 478), (478, .daload, 479), (479, .aload 0, 480)], [(480, .iload 4, 482), (482, .ldc 2, 483), (483, .iadd, 484), (484, .daload, 485), (485, .invokevirtual 76562, 488), (488, .istore 6, 490), (490, .aload 2, 491), (491, .invokevirtual 75632, 494), (494, .iload 5, 496)], [(496, .if_icmp .eq (Int.ofNat 501), 499), (499, .ldc 0, 500), (500, .areturn, 501), (501, .iload 5, 503), (503, .ifCond .ne (Int.ofNat 518), 506), (506, .aload 3, 507), (507, .ldc 0, 508), (508, .laload, 509), (509, .iload 6, 511), (511, .i2l, 512)], [(512, .lcmp, 513), (513, .ifCond .eq (Int.ofNat 518), 516), (516, .ldc 0, 517), (517, .areturn, 518), (518, .goto (Int.ofNat 1936), 521), (521, .aload 1, 522), (522, .aload 0, 523), (523, .iload 4, 525), (525, .ldc 1, 526), (526, .iadd, 527), (527, .daload, 528)], [(528, .aload 3, 529), (529, .invokestatic 3555, 532), (532, .istore 5, 534), (534, .aload 2, 535), (535, .aload 0, 536), (536, .iload 4, 538), (538, .ldc 1, 539), (539, .iadd, 540), (540, .daload, 541), (541, .invokevirtual 76577, 544)], [(544, .istore 6, 546), (546, .aload 2, 547), (547, .invokevirtual 75632, 550), (550, .iload 5, 552), (552, .if_icmp .eq (Int.ofNat 557), 555), (555, .ldc 0, 556), (556, .areturn, 557), (557, .iload 5, 559), (559, .ifCond .ne (Int.ofNat 574), 562)], [(562, .aload 3, 563), (563, .ldc 0, 564), (564, .laload, 565), (565, .iload 6, 567), (567, .i2l, 568), (568, .lcmp, 569), (569, .ifCond .eq (Int.ofNat 574), 572), (572, .ldc 0, 573), (573, .areturn, 574), (574, .goto (Int.ofNat 1936), 577)], [(577, .aload 1, 578), (578, .aload 0, 579), (579, .iload 4, 581), (581, .ldc 1, 582), (582, .iadd, 583), (583, .daload, 584), (584, .aload 3, 585), (585, .invokestatic 3571, 588), (588, .istore 5, 590), (590, .aload 2, 591), (591, .aload 0, 592)], [(592, .iload 4, 594), (594, .ldc 1, 595), (595, .iadd, 596), (596, .daload, 597), (597, .invokevirtual 76593, 600), (600, .istore 6, 602), (602, .aload 2, 603), (603, .invokevirtual 75632, 606), (606, .iload 5, 608)], [(608, .if_icmp .eq (Int.ofNat 613), 611), (611, .ldc 0, 612), (612, .areturn, 613), (613, .iload 5, 615), (615, .ifCond .ne (Int.ofNat 637), 618), (618, .aload 3, 619), (619, .ldc 0, 620), (620, .laload, 621), (621, .iload 6, 623), (623, .ifCond .eq (Int.ofNat 630), 626)], [(626, .ldc2_w 1, 627), (627, .goto (Int.ofNat 631), 630), (630, .ldc2_w 0, 631), (631, .lcmp, 632), (632, .ifCond .eq (Int.ofNat 637), 635), (635, .ldc 0, 636), (636, .areturn, 637), (637, .goto (Int.ofNat 1936), 640)], [(640, .aload 1, 641), (641, .aload 0, 642), (642, .iload 4, 644), (644, .ldc 1, 645), (645, .iadd, 646), (646, .daload, 647), (647, .aload 3, 648), (648, .invokestatic 3587, 651), (651, .istore 5, 653), (653, .aload 2, 654), (654, .aload 0, 655), (655, .iload 4, 657)], [(657, .ldc 1, 658), (658, .iadd, 659), (659, .daload, 660), (660, .invokevirtual 76625, 663), (663, .istore 6, 665), (665, .aload 2, 666), (666, .invokevirtual 75632, 669), (669, .iload 5, 671), (671, .if_icmp .eq (Int.ofNat 676), 674)], [(674, .ldc 0, 675), (675, .areturn, 676), (676, .iload 5, 678), (678, .ifCond .ne (Int.ofNat 693), 681), (681, .aload 3, 682), (682, .ldc 0, 683), (683, .laload, 684), (684, .iload 6, 686), (686, .i2l, 687), (687, .lcmp, 688)], [(688, .ifCond .eq (Int.ofNat 693), 691), (691, .ldc 0, 692), (692, .areturn, 693), (693, .goto (Int.ofNat 1936), 696), (696, .aload 1, 697), (697, .aload 0, 698), (698, .iload 4, 700), (700, .ldc 1, 701), (701, .iadd, 702), (702, .daload, 703), (703, .aload 3, 704)], [(704, .invokestatic 3603, 707), (707, .istore 5, 709), (709, .aload 2, 710), (710, .aload 0, 711), (711, .iload 4, 713), (713, .ldc 1, 714), (714, .iadd, 715), (715, .daload, 716), (716, .invokevirtual 76641, 719), (719, .istore 6, 721)], [(721, .aload 2, 722), (722, .invokevirtual 75632, 725), (725, .iload 5, 727), (727, .if_icmp .eq (Int.ofNat 732), 730), (730, .ldc 0, 731), (731, .areturn, 732), (732, .iload 5, 734), (734, .ifCond .ne (Int.ofNat 749), 737)], [(737, .aload 3, 738), (738, .ldc 0, 739), (739, .laload, 740), (740, .iload 6, 742), (742, .i2l, 743), (743, .lcmp, 744), (744, .ifCond .eq (Int.ofNat 749), 747), (747, .ldc 0, 748), (748, .areturn, 749), (749, .goto (Int.ofNat 1936), 752)], [(752, .aload 1, 753), (753, .invokevirtual 66896, 756), (756, .aload 2, 757), (757, .invokevirtual 76656, 760), (760, .if_icmp .eq (Int.ofNat 1936), 763), (763, .ldc 0, 764), (764, .areturn, 765), (765, .aload 1, 766), (766, .aload 3, 767), (767, .invokestatic 3618, 770)], [(770, .istore 5, 772), (772, .aload 2, 773), (773, .invokevirtual 76688, 776), (776, .istore 6, 778), (778, .aload 2, 779), (779, .invokevirtual 75632, 782), (782, .iload 5, 784)], [(784, .if_icmp .eq (Int.ofNat 789), 787), (787, .ldc 0, 788), (788, .areturn, 789), (789, .iload 5, 791), (791, .ifCond .ne (Int.ofNat 806), 794), (794, .aload 3, 795), (795, .ldc 0, 796), (796, .laload, 797), (797, .iload 6, 799), (799, .i2l, 800)], [(800, .lcmp, 801), (801, .ifCond .eq (Int.ofNat 806), 804), (804, .ldc 0, 805), (805, .areturn, 806), (806, .goto (Int.ofNat 1936), 809), (809, .aload 1, 810), (810, .aload 3, 811), (811, .invokestatic 3634, 814), (814, .istore 5, 816)], [(816, .aload 2, 817), (817, .invokevirtual 76720, 820), (820, .istore 6, 822), (822, .aload 2, 823), (823, .invokevirtual 75632, 826), (826, .iload 5, 828), (828, .if_icmp .eq (Int.ofNat 833), 831), (831, .ldc 0, 832)], [(832, .areturn, 833), (833, .iload 5, 835), (835, .ifCond .ne (Int.ofNat 850), 838), (838, .aload 3, 839), (839, .ldc 0, 840), (840, .laload, 841), (841, .iload 6, 843), (843, .i2l, 844), (844, .lcmp, 845), (845, .ifCond .eq (Int.ofNat 850), 848)], [(848, .ldc 0, 849), (849, .areturn, 850), (850, .goto (Int.ofNat 1936), 853), (853, .aload 1, 854), (854, .aload 3, 855), (855, .invokestatic 3650, 858), (858, .istore 5, 860), (860, .aload 2, 861), (861, .invokevirtual 76736, 864)], [(864, .istore 6, 866), (866, .aload 2, 867), (867, .invokevirtual 75632, 870), (870, .iload 5, 872), (872, .if_icmp .eq (Int.ofNat 877), 875), (875, .ldc 0, 876), (876, .areturn, 877), (877, .iload 5, 879), (879, .ifCond .ne (Int.ofNat 894), 882)], [(882, .aload 3, 883), (883, .ldc 0, 884), (884, .laload, 885), (885, .iload 6, 887), (887, .i2l, 888), (888, .lcmp, 889), (889, .ifCond .eq (Int.ofNat 894), 892), (892, .ldc 0, 893), (893, .areturn, 894), (894, .goto (Int.ofNat 1936), 897)], [(897, .aload 1, 898), (898, .invokevirtual 66960, 901), (901, .aload 2, 902), (902, .invokevirtual 76752, 905), (905, .if_icmp .eq (Int.ofNat 1936), 908), (908, .ldc 0, 909), (909, .areturn, 910), (910, .aload 1, 911), (911, .aload 0, 912)], [(912, .iload 4, 914), (914, .ldc 1, 915), (915, .iadd, 916), (916, .daload, 917), (917, .aload 3, 918), (918, .invokestatic 3667, 921), (921, .istore 5, 923), (923, .aload 2, 924), (924, .aload 0, 925), (925, .iload 4, 927), (927, .ldc 1, 928)], [(928, .iadd, 929), (929, .daload, 930), (930, .invokevirtual 76769, 933), (933, .istore 6, 935), (935, .aload 2, 936), (936, .invokevirtual 75632, 939), (939, .iload 5, 941), (941, .if_icmp .eq (Int.ofNat 946), 944)], [(944, .ldc 0, 945), (945, .areturn, 946), (946, .iload 5, 948), (948, .ifCond .ne (Int.ofNat 963), 951), (951, .aload 3, 952), (952, .ldc 0, 953), (953, .laload, 954), (954, .iload 6, 956), (956, .i2l, 957), (957, .lcmp, 958), (958, .ifCond .eq (Int.ofNat 963), 961)], [(961, .ldc 0, 962), (962, .areturn, 963), (963, .goto (Int.ofNat 1936), 966), (966, .aload 1, 967), (967, .invokevirtual 66992, 970), (970, .aload 2, 971), (971, .invokevirtual 76784, 974), (974, .if_icmp .eq (Int.ofNat 1936), 977)], [(977, .ldc 0, 978), (978, .areturn, 979), (979, .aload 1, 980), (980, .aload 0, 981), (981, .iload 4, 983), (983, .ldc 1, 984), (984, .iadd, 985), (985, .daload, 986), (986, .aload 3, 987), (987, .invokestatic 3683, 990), (990, .istore 5, 992)], [(992, .aload 2, 993), (993, .aload 0, 994), (994, .iload 4, 996), (996, .ldc 1, 997), (997, .iadd, 998), (998, .daload, 999), (999, .invokevirtual 76801, 1002), (1002, .istore 6, 1004), (1004, .aload 2, 1005), (1005, .invokevirtual 75632, 1008)], [(1008, .iload 5, 1010), (1010, .if_icmp .eq (Int.ofNat 1015), 1013), (1013, .ldc 0, 1014), (1014, .areturn, 1015), (1015, .iload 5, 1017), (1017, .ifCond .ne (Int.ofNat 1032), 1020), (1020, .aload 3, 1021), (1021, .ldc 0, 1022), (1022, .laload, 1023), (1023, .iload 6, 1025)], [(1025, .i2l, 1026), (1026, .lcmp, 1027), (1027, .ifCond .eq (Int.ofNat 1032), 1030), (1030, .ldc 0, 1031), (1031, .areturn, 1032), (1032, .goto (Int.ofNat 1936), 1035), (1035, .aload 1, 1036), (1036, .aload 0, 1037), (1037, .iload 4, 1039), (1039, .ldc 1, 1040)], [(1040, .iadd, 1041), (1041, .daload, 1042), (1042, .aload 3, 1043), (1043, .invokestatic 3699, 1046), (1046, .istore 5, 1048), (1048, .aload 2, 1049), (1049, .aload 0, 1050), (1050, .iload 4, 1052), (1052, .ldc 1, 1053), (1053, .iadd, 1054), (1054, .daload, 1055), (1055, .invokevirtual 76817, 1058)], [(1058, .istore 6, 1060), (1060, .aload 2, 1061), (1061, .invokevirtual 75632, 1064), (1064, .iload 5, 1066), (1066, .if_icmp .eq (Int.ofNat 1071), 1069), (1069, .ldc 0, 1070), (1070, .areturn, 1071), (1071, .iload 5, 1073)], [(1073, .ifCond .ne (Int.ofNat 1088), 1076), (1076, .aload 3, 1077), (1077, .ldc 0, 1078), (1078, .laload, 1079), (1079, .iload 6, 1081), (1081, .i2l, 1082), (1082, .lcmp, 1083), (1083, .ifCond .eq (Int.ofNat 1088), 1086), (1086, .ldc 0, 1087), (1087, .areturn, 1088)], [(1088, .goto (Int.ofNat 1936), 1091), (1091, .aload 1, 1092), (1092, .aload 0, 1093), (1093, .iload 4, 1095), (1095, .ldc 1, 1096), (1096, .iadd, 1097), (1097, .daload, 1098), (1098, .aload 3, 1099), (1099, .invokestatic 3715, 1102), (1102, .istore 5, 1104)], [(1104, .aload 2, 1105), (1105, .aload 0, 1106), (1106, .iload 4, 1108), (1108, .ldc 1, 1109), (1109, .iadd, 1110), (1110, .daload, 1111), (1111, .invokevirtual 76833, 1114), (1114, .istore 6, 1116), (1116, .aload 2, 1117), (1117, .invokevirtual 75632, 1120)], [(1120, .iload 5, 1122), (1122, .if_icmp .eq (Int.ofNat 1127), 1125), (1125, .ldc 0, 1126), (1126, .areturn, 1127), (1127, .iload 5, 1129), (1129, .ifCond .ne (Int.ofNat 1144), 1132), (1132, .aload 3, 1133), (1133, .ldc 0, 1134), (1134, .laload, 1135), (1135, .iload 6, 1137)], [(1137, .i2l, 1138), (1138, .lcmp, 1139), (1139, .ifCond .eq (Int.ofNat 1144), 1142), (1142, .ldc 0, 1143), (1143, .areturn, 1144), (1144, .goto (Int.ofNat 1936), 1147), (1147, .aload 1, 1148), (1148, .aload 0, 1149), (1149, .iload 4, 1151), (1151, .ldc 1, 1152)], [(1152, .iadd, 1153), (1153, .daload, 1154), (1154, .aload 3, 1155), (1155, .invokestatic 3731, 1158), (1158, .istore 5, 1160), (1160, .aload 2, 1161), (1161, .aload 0, 1162), (1162, .iload 4, 1164), (1164, .ldc 1, 1165), (1165, .iadd, 1166), (1166, .daload, 1167), (1167, .invokevirtual 76849, 1170)], [(1170, .istore 6, 1172), (1172, .aload 2, 1173), (1173, .invokevirtual 75632, 1176), (1176, .iload 5, 1178), (1178, .if_icmp .eq (Int.ofNat 1183), 1181), (1181, .ldc 0, 1182), (1182, .areturn, 1183), (1183, .iload 5, 1185)], [(1185, .ifCond .ne (Int.ofNat 1200), 1188), (1188, .aload 3, 1189), (1189, .ldc 0, 1190), (1190, .laload, 1191), (1191, .iload 6, 1193), (1193, .i2l, 1194), (1194, .lcmp, 1195), (1195, .ifCond .eq (Int.ofNat 1200), 1198), (1198, .ldc 0, 1199), (1199, .areturn, 1200)], [(1200, .goto (Int.ofNat 1936), 1203), (1203, .aload 1, 1204), (1204, .aload 0, 1205), (1205, .iload 4, 1207), (1207, .ldc 1, 1208), (1208, .iadd, 1209), (1209, .daload, 1210), (1210, .aload 3, 1211), (1211, .invokestatic 3747, 1214), (1214, .istore 5, 1216)], [(1216, .aload 2, 1217), (1217, .aload 0, 1218), (1218, .iload 4, 1220), (1220, .ldc 1, 1221), (1221, .iadd, 1222), (1222, .daload, 1223), (1223, .invokevirtual 76865, 1226), (1226, .istore 6, 1228), (1228, .aload 2, 1229), (1229, .invokevirtual 75632, 1232)], [(1232, .iload 5, 1234), (1234, .if_icmp .eq (Int.ofNat 1239), 1237), (1237, .ldc 0, 1238), (1238, .areturn, 1239), (1239, .iload 5, 1241), (1241, .ifCond .ne (Int.ofNat 1256), 1244), (1244, .aload 3, 1245), (1245, .ldc 0, 1246), (1246, .laload, 1247), (1247, .iload 6, 1249)], [(1249, .i2l, 1250), (1250, .lcmp, 1251), (1251, .ifCond .eq (Int.ofNat 1256), 1254), (1254, .ldc 0, 1255), (1255, .areturn, 1256), (1256, .goto (Int.ofNat 1936), 1259), (1259, .aload 1, 1260), (1260, .invokevirtual 67088, 1263), (1263, .aload 2, 1264)], [(1264, .invokevirtual 76880, 1267), (1267, .if_icmp .eq (Int.ofNat 1936), 1270), (1270, .ldc 0, 1271), (1271, .areturn, 1272), (1272, .aload 1, 1273), (1273, .invokevirtual 67104, 1276), (1276, .aload 2, 1277), (1277, .invokevirtual 76896, 1280)], [(1280, .if_icmp .eq (Int.ofNat 1936), 1283), (1283, .ldc 0, 1284), (1284, .areturn, 1285), (1285, .aload 1, 1286), (1286, .invokevirtual 67120, 1289), (1289, .f2d, 1290), (1290, .dstore 5, 1292), (1292, .aload 2, 1293), (1293, .invokevirtual 76912, 1296)], [(1296, .f2d, 1297), (1297, .dstore 7, 1299), (1299, .dload 5, 1301), (1301, .dload 7, 1303), (1303, .dcmp .l, 1304), (1304, .ifCond .eq (Int.ofNat 1325), 1307), (1307, .dload 5, 1309), (1309, .dload 5, 1311), (1311, .dcmp .l, 1312)], [(1312, .ifCond .eq (Int.ofNat 1323), 1315), (1315, .dload 7, 1317), (1317, .dload 7, 1319), (1319, .dcmp .l, 1320), (1320, .ifCond .ne (Int.ofNat 1325), 1323), (1323, .ldc 0, 1324), (1324, .areturn, 1325), (1325, .goto (Int.ofNat 1936), 1328)], [(1328, .aload 1, 1329), (1329, .invokevirtual 67136, 1332), (1332, .f2d, 1333), (1333, .dstore 5, 1335), (1335, .aload 2, 1336), (1336, .invokevirtual 76928, 1339), (1339, .f2d, 1340), (1340, .dstore 7, 1342), (1342, .dload 5, 1344)], [(1344, .dload 7, 1346), (1346, .dcmp .l, 1347), (1347, .ifCond .eq (Int.ofNat 1368), 1350), (1350, .dload 5, 1352), (1352, .dload 5, 1354), (1354, .dcmp .l, 1355), (1355, .ifCond .eq (Int.ofNat 1366), 1358), (1358, .dload 7, 1360)], [(1360, .dload 7, 1362), (1362, .dcmp .l, 1363), (1363, .ifCond .ne (Int.ofNat 1368), 1366), (1366, .ldc 0, 1367), (1367, .areturn, 1368), (1368, .goto (Int.ofNat 1936), 1371), (1371, .aload 1, 1372), (1372, .aload 0, 1373), (1373, .iload 4, 1375), (1375, .ldc 1, 1376)], [(1376, .iadd, 1377), (1377, .daload, 1378), (1378, .aload 3, 1379), (1379, .invokestatic 3763, 1382), (1382, .istore 5, 1384), (1384, .aload 2, 1385), (1385, .aload 0, 1386), (1386, .iload 4, 1388), (1388, .ldc 1, 1389), (1389, .iadd, 1390), (1390, .daload, 1391), (1391, .invokevirtual 76961, 1394)], [(1394, .istore 6, 1396), (1396, .aload 2, 1397), (1397, .invokevirtual 75632, 1400), (1400, .iload 5, 1402), (1402, .if_icmp .eq (Int.ofNat 1407), 1405), (1405, .ldc 0, 1406), (1406, .areturn, 1407), (1407, .iload 5, 1409)], [(1409, .ifCond .ne (Int.ofNat 1424), 1412), (1412, .aload 3, 1413), (1413, .ldc 0, 1414), (1414, .laload, 1415), (1415, .iload 6, 1417), (1417, .i2l, 1418), (1418, .lcmp, 1419), (1419, .ifCond .eq (Int.ofNat 1424), 1422), (1422, .ldc 0, 1423), (1423, .areturn, 1424)], [(1424, .goto (Int.ofNat 1936), 1427), (1427, .aload 1, 1428), (1428, .aload 0, 1429), (1429, .iload 4, 1431), (1431, .ldc 1, 1432), (1432, .iadd, 1433), (1433, .daload, 1434), (1434, .aload 0, 1435), (1435, .iload 4, 1437), (1437, .ldc 2, 1438), (1438, .iadd, 1439), (1439, .daload, 1440)], [(1440, .aload 3, 1441), (1441, .invokestatic 3780, 1444), (1444, .istore 5, 1446), (1446, .aload 2, 1447), (1447, .aload 0, 1448), (1448, .iload 4, 1450), (1450, .ldc 1, 1451), (1451, .iadd, 1452), (1452, .daload, 1453), (1453, .aload 0, 1454), (1454, .iload 4, 1456)], [(1456, .ldc 2, 1457), (1457, .iadd, 1458), (1458, .daload, 1459), (1459, .invokevirtual 76978, 1462), (1462, .istore 6, 1464), (1464, .aload 2, 1465), (1465, .invokevirtual 75632, 1468), (1468, .iload 5, 1470), (1470, .if_icmp .eq (Int.ofNat 1475), 1473)], [(1473, .ldc 0, 1474), (1474, .areturn, 1475), (1475, .iload 5, 1477), (1477, .ifCond .ne (Int.ofNat 1492), 1480), (1480, .aload 3, 1481), (1481, .ldc 0, 1482), (1482, .laload, 1483), (1483, .iload 6, 1485), (1485, .i2l, 1486), (1486, .lcmp, 1487), (1487, .ifCond .eq (Int.ofNat 1492), 1490)], [(1490, .ldc 0, 1491), (1491, .areturn, 1492), (1492, .goto (Int.ofNat 1936), 1495), (1495, .aload 1, 1496), (1496, .invokevirtual 67184, 1499), (1499, .aload 2, 1500), (1500, .invokevirtual 76992, 1503), (1503, .if_icmp .eq (Int.ofNat 1936), 1506)], [(1506, .ldc 0, 1507), (1507, .areturn, 1508), (1508, .aload 1, 1509), (1509, .aload 3, 1510), (1510, .invokestatic 3794, 1513), (1513, .istore 5, 1515), (1515, .aload 2, 1516), (1516, .invokevirtual 77008, 1519), (1519, .istore 6, 1521)], [(1521, .aload 2, 1522), (1522, .invokevirtual 75632, 1525), (1525, .iload 5, 1527), (1527, .if_icmp .eq (Int.ofNat 1532), 1530), (1530, .ldc 0, 1531), (1531, .areturn, 1532), (1532, .iload 5, 1534), (1534, .ifCond .ne (Int.ofNat 1549), 1537)], [(1537, .aload 3, 1538), (1538, .ldc 0, 1539), (1539, .laload, 1540), (1540, .iload 6, 1542), (1542, .i2l, 1543), (1543, .lcmp, 1544), (1544, .ifCond .eq (Int.ofNat 1549), 1547), (1547, .ldc 0, 1548), (1548, .areturn, 1549), (1549, .goto (Int.ofNat 1936), 1552)], [(1552, .aload 1, 1553), (1553, .invokevirtual 67216, 1556), (1556, .aload 2, 1557), (1557, .invokevirtual 77024, 1560), (1560, .if_icmp .eq (Int.ofNat 1936), 1563), (1563, .ldc 0, 1564), (1564, .areturn, 1565), (1565, .aload 1, 1566), (1566, .aload 0, 1567), (1567, .iload 4, 1569)], [(1569, .ldc 1, 1570), (1570, .iadd, 1571), (1571, .daload, 1572), (1572, .aload 3, 1573), (1573, .invokestatic 3811, 1576), (1576, .istore 5, 1578), (1578, .aload 2, 1579), (1579, .aload 0, 1580), (1580, .iload 4, 1582), (1582, .ldc 1, 1583), (1583, .iadd, 1584)], [(1584, .daload, 1585), (1585, .invokevirtual 77041, 1588), (1588, .istore 6, 1590), (1590, .aload 2, 1591), (1591, .invokevirtual 75632, 1594), (1594, .iload 5, 1596), (1596, .if_icmp .eq (Int.ofNat 1601), 1599), (1599, .ldc 0, 1600)], [(1600, .areturn, 1601), (1601, .iload 5, 1603), (1603, .ifCond .ne (Int.ofNat 1618), 1606), (1606, .aload 3, 1607), (1607, .ldc 0, 1608), (1608, .laload, 1609), (1609, .iload 6, 1611), (1611, .i2l, 1612), (1612, .lcmp, 1613), (1613, .ifCond .eq (Int.ofNat 1618), 1616)], [(1616, .ldc 0, 1617), (1617, .areturn, 1618), (1618, .goto (Int.ofNat 1936), 1621), (1621, .aload 1, 1622), (1622, .aload 0, 1623), (1623, .iload 4, 1625), (1625, .ldc 1, 1626), (1626, .iadd, 1627), (1627, .daload, 1628), (1628, .aload 0, 1629), (1629, .iload 4, 1631), (1631, .ldc 2, 1632)], [(1632, .iadd, 1633), (1633, .daload, 1634), (1634, .aload 3, 1635), (1635, .invokestatic 3828, 1638), (1638, .istore 5, 1640), (1640, .aload 2, 1641), (1641, .aload 0, 1642), (1642, .iload 4, 1644), (1644, .ldc 1, 1645), (1645, .iadd, 1646), (1646, .daload, 1647), (1647, .aload 0, 1648)], [(1648, .iload 4, 1650), (1650, .ldc 2, 1651), (1651, .iadd, 1652), (1652, .daload, 1653), (1653, .invokevirtual 77074, 1656), (1656, .istore 6, 1658), (1658, .aload 2, 1659), (1659, .invokevirtual 75632, 1662), (1662, .iload 5, 1664)], [(1664, .if_icmp .eq (Int.ofNat 1669), 1667), (1667, .ldc 0, 1668), (1668, .areturn, 1669), (1669, .iload 5, 1671), (1671, .ifCond .ne (Int.ofNat 1686), 1674), (1674, .aload 3, 1675), (1675, .ldc 0, 1676), (1676, .laload, 1677), (1677, .iload 6, 1679), (1679, .i2l, 1680)], [(1680, .lcmp, 1681), (1681, .ifCond .eq (Int.ofNat 1686), 1684), (1684, .ldc 0, 1685), (1685, .areturn, 1686), (1686, .goto (Int.ofNat 1936), 1689), (1689, .aload 1, 1690), (1690, .aload 0, 1691), (1691, .iload 4, 1693), (1693, .ldc 1, 1694), (1694, .iadd, 1695), (1695, .daload, 1696)], [(1696, .aload 0, 1697), (1697, .iload 4, 1699), (1699, .ldc 2, 1700), (1700, .iadd, 1701), (1701, .daload, 1702), (1702, .aload 0, 1703), (1703, .iload 4, 1705), (1705, .ldc 3, 1706), (1706, .iadd, 1707), (1707, .daload, 1708), (1708, .aload 3, 1709), (1709, .invokestatic 3845, 1712)], [(1712, .istore 5, 1714), (1714, .aload 2, 1715), (1715, .aload 0, 1716), (1716, .iload 4, 1718), (1718, .ldc 1, 1719), (1719, .iadd, 1720), (1720, .daload, 1721), (1721, .aload 0, 1722), (1722, .iload 4, 1724), (1724, .ldc 2, 1725), (1725, .iadd, 1726), (1726, .daload, 1727), (1727, .aload 0, 1728)], [(1728, .iload 4, 1730), (1730, .ldc 3, 1731), (1731, .iadd, 1732), (1732, .daload, 1733), (1733, .invokevirtual 77107, 1736), (1736, .istore 6, 1738), (1738, .aload 2, 1739), (1739, .invokevirtual 75632, 1742), (1742, .iload 5, 1744)], [(1744, .if_icmp .eq (Int.ofNat 1749), 1747), (1747, .ldc 0, 1748), (1748, .areturn, 1749), (1749, .iload 5, 1751), (1751, .ifCond .ne (Int.ofNat 1766), 1754), (1754, .aload 3, 1755), (1755, .ldc 0, 1756), (1756, .laload, 1757), (1757, .iload 6, 1759), (1759, .i2l, 1760)], [(1760, .lcmp, 1761), (1761, .ifCond .eq (Int.ofNat 1766), 1764), (1764, .ldc 0, 1765), (1765, .areturn, 1766), (1766, .goto (Int.ofNat 1936), 1769), (1769, .aload 1, 1770), (1770, .aload 0, 1771), (1771, .iload 4, 1773), (1773, .ldc 1, 1774), (1774, .iadd, 1775), (1775, .daload, 1776)], [(1776, .aload 3, 1777), (1777, .invokestatic 3859, 1780), (1780, .istore 5, 1782), (1782, .aload 2, 1783), (1783, .aload 0, 1784), (1784, .iload 4, 1786), (1786, .ldc 1, 1787), (1787, .iadd, 1788), (1788, .daload, 1789), (1789, .invokevirtual 77121, 1792)], [(1792, .istore 6, 1794), (1794, .aload 2, 1795), (1795, .invokevirtual 75632, 1798), (1798, .iload 5, 1800), (1800, .if_icmp .eq (Int.ofNat 1805), 1803), (1803, .ldc 0, 1804), (1804, .areturn, 1805), (1805, .iload 5, 1807), (1807, .ifCond .ne (Int.ofNat 1822), 1810)], [(1810, .aload 3, 1811), (1811, .ldc 0, 1812), (1812, .laload, 1813), (1813, .iload 6, 1815), (1815, .i2l, 1816), (1816, .lcmp, 1817), (1817, .ifCond .eq (Int.ofNat 1822), 1820), (1820, .ldc 0, 1821), (1821, .areturn, 1822), (1822, .goto (Int.ofNat 1936), 1825)], [(1825, .aload 1, 1826), (1826, .aload 0, 1827), (1827, .iload 4, 1829), (1829, .ldc 1, 1830), (1830, .iadd, 1831), (1831, .daload, 1832), (1832, .aload 0, 1833), (1833, .iload 4, 1835), (1835, .ldc 2, 1836), (1836, .iadd, 1837), (1837, .daload, 1838), (1838, .ifCond .eq (Int.ofNat 1845), 1841)], [(1841, .ldc 1, 1842), (1842, .goto (Int.ofNat 1846), 1845), (1845, .ldc 0, 1846), (1846, .aload 3, 1847), (1847, .invokestatic 3876, 1850), (1850, .istore 5, 1852), (1852, .aload 2, 1853), (1853, .aload 0, 1854), (1854, .iload 4, 1856)], [(1856, .ldc 1, 1857), (1857, .iadd, 1858), (1858, .daload, 1859), (1859, .aload 0, 1860), (1860, .iload 4, 1862), (1862, .ldc 2, 1863), (1863, .iadd, 1864), (1864, .daload, 1865), (1865, .ifCond .eq (Int.ofNat 1872), 1868), (1868, .ldc 1, 1869), (1869, .goto (Int.ofNat 1873), 1872)], [(1872, .ldc 0, 1873), (1873, .invokevirtual 77138, 1876), (1876, .istore 6, 1878), (1878, .aload 2, 1879), (1879, .invokevirtual 75632, 1882), (1882, .iload 5, 1884), (1884, .if_icmp .eq (Int.ofNat 1889), 1887), (1887, .ldc 0, 1888)], [(1888, .areturn, 1889), (1889, .iload 5, 1891), (1891, .ifCond .ne (Int.ofNat 1906), 1894), (1894, .aload 3, 1895), (1895, .ldc 0, 1896), (1896, .laload, 1897), (1897, .iload 6, 1899), (1899, .i2l, 1900), (1900, .lcmp, 1901), (1901, .ifCond .eq (Int.ofNat 1906), 1904)], [(1904, .ldc 0, 1905), (1905, .areturn, 1906), (1906, .goto (Int.ofNat 1936), 1909), (1909, .aload 1, 1910), (1910, .invokevirtual 67312, 1913), (1913, .aload 2, 1914), (1914, .invokevirtual 77152, 1917), (1917, .if_icmp .eq (Int.ofNat 1936), 1920)], [(1920, .ldc 0, 1921), (1921, .areturn, 1922), (1922, .aload 1, 1923), (1923, .invokevirtual 67328, 1926), (1926, .aload 2, 1927), (1927, .invokevirtual 77168, 1930), (1930, .lcmp, 1931), (1931, .ifCond .eq (Int.ofNat 1936), 1934), (1934, .ldc 0, 1935), (1935, .areturn, 1936)], [(1936, .iinc 4 (Int.ofNat 6), 1939), (1939, .goto (Int.ofNat 23), 1942), (1942, .ldc 1, 1943), (1943, .areturn, 1944)]]
abbrev m_La_law : Nat := 243
def ah_La_law : List (Nat × Nat × Nat × Nat × Nat × Nat) := []
def am_q_Cu_keepsApart : am_T × List (Nat × Nat × Nat × Nat × Nat × Nat) × Nat := (at_Cu_keepsApart, ah_Cu_keepsApart, 4)
def am_q_Cu_reachedFrom : am_T × List (Nat × Nat × Nat × Nat × Nat × Nat) × Nat := (at_Cu_reachedFrom, ah_Cu_reachedFrom, 7)
def am_q_Cu_cheapestSet : am_T × List (Nat × Nat × Nat × Nat × Nat × Nat) × Nat := (at_Cu_cheapestSet, ah_Cu_cheapestSet, 10)
def am_q_Cu_setOf : am_T × List (Nat × Nat × Nat × Nat × Nat × Nat) × Nat := (at_Cu_setOf, ah_Cu_setOf, 3)
def am_q_Cu_valueOf : am_T × List (Nat × Nat × Nat × Nat × Nat × Nat) × Nat := (at_Cu_valueOf, ah_Cu_valueOf, 2)
def am_q_Cu_dearestOf : am_T × List (Nat × Nat × Nat × Nat × Nat × Nat) × Nat := (at_Cu_dearestOf, ah_Cu_dearestOf, 5)
def am_q_Cu_unionOf : am_T × List (Nat × Nat × Nat × Nat × Nat × Nat) × Nat := (at_Cu_unionOf, ah_Cu_unionOf, 4)
def am_q_Cu_labelByUnion : am_T × List (Nat × Nat × Nat × Nat × Nat × Nat) × Nat := (at_Cu_labelByUnion, ah_Cu_labelByUnion, 3)
def am_q_Cu_labelSet : am_T × List (Nat × Nat × Nat × Nat × Nat × Nat) × Nat := (at_Cu_labelSet, ah_Cu_labelSet, 4)
def am_q_Ex_init : am_T × List (Nat × Nat × Nat × Nat × Nat × Nat) × Nat := (at_Ex_init, ah_Ex_init, 1)
def am_q_Ex_run : am_T × List (Nat × Nat × Nat × Nat × Nat × Nat) × Nat := (at_Ex_run, ah_Ex_run, 3)
def am_q_Ex_extend : am_T × List (Nat × Nat × Nat × Nat × Nat × Nat) × Nat := (at_Ex_extend, ah_Ex_extend, 8)
def am_q_Ex_costToEarlier : am_T × List (Nat × Nat × Nat × Nat × Nat × Nat) × Nat := (at_Ex_costToEarlier, ah_Ex_costToEarlier, 5)
def am_q_Fo_init : am_T × List (Nat × Nat × Nat × Nat × Nat × Nat) × Nat := (at_Fo_init, ah_Fo_init, 2)
def am_q_Fo_evaluate : am_T × List (Nat × Nat × Nat × Nat × Nat × Nat) × Nat := (at_Fo_evaluate, ah_Fo_evaluate, 7)
def am_q_Fo_operand : am_T × List (Nat × Nat × Nat × Nat × Nat × Nat) × Nat := (at_Fo_operand, ah_Fo_operand, 4)
def am_q_Fo_combine : am_T × List (Nat × Nat × Nat × Nat × Nat × Nat) × Nat := (at_Fo_combine, ah_Fo_combine, 5)
def am_q_Gr_init : am_T × List (Nat × Nat × Nat × Nat × Nat × Nat) × Nat := (at_Gr_init, ah_Gr_init, 1)
def am_q_Gr_clear : am_T × List (Nat × Nat × Nat × Nat × Nat × Nat) × Nat := (at_Gr_clear, ah_Gr_clear, 1)
def am_q_Gr_copyFrom : am_T × List (Nat × Nat × Nat × Nat × Nat × Nat) × Nat := (at_Gr_copyFrom, ah_Gr_copyFrom, 2)
def am_q_Gr_hasVertex : am_T × List (Nat × Nat × Nat × Nat × Nat × Nat) × Nat := (at_Gr_hasVertex, ah_Gr_hasVertex, 2)
def am_q_Gr_isTerminal : am_T × List (Nat × Nat × Nat × Nat × Nat × Nat) × Nat := (at_Gr_isTerminal, ah_Gr_isTerminal, 2)
def am_q_Gr_allVertices : am_T × List (Nat × Nat × Nat × Nat × Nat × Nat) × Nat := (at_Gr_allVertices, ah_Gr_allVertices, 1)
def am_q_Gr_hasEdgeBetween : am_T × List (Nat × Nat × Nat × Nat × Nat × Nat) × Nat := (at_Gr_hasEdgeBetween, ah_Gr_hasEdgeBetween, 5)
def am_q_Gr_endsOf : am_T × List (Nat × Nat × Nat × Nat × Nat × Nat) × Nat := (at_Gr_endsOf, ah_Gr_endsOf, 2)
def am_q_Gr_lengthOf : am_T × List (Nat × Nat × Nat × Nat × Nat × Nat) × Nat := (at_Gr_lengthOf, ah_Gr_lengthOf, 2)
def am_q_Gr_putEdge : am_T × List (Nat × Nat × Nat × Nat × Nat × Nat) × Nat := (at_Gr_putEdge, ah_Gr_putEdge, 4)
def am_q_Gr_updateCost : am_T × List (Nat × Nat × Nat × Nat × Nat × Nat) × Nat := (at_Gr_updateCost, ah_Gr_updateCost, 3)
def am_q_Gr_dropEdge : am_T × List (Nat × Nat × Nat × Nat × Nat × Nat) × Nat := (at_Gr_dropEdge, ah_Gr_dropEdge, 3)
def am_q_Gr_startTerminal : am_T × List (Nat × Nat × Nat × Nat × Nat × Nat) × Nat := (at_Gr_startTerminal, ah_Gr_startTerminal, 2)
def am_q_Gr_endTerminal : am_T × List (Nat × Nat × Nat × Nat × Nat × Nat) × Nat := (at_Gr_endTerminal, ah_Gr_endTerminal, 3)
def am_q_Gr_takeLabels : am_T × List (Nat × Nat × Nat × Nat × Nat × Nat) × Nat := (at_Gr_takeLabels, ah_Gr_takeLabels, 3)
def am_q_Gr_borderOf : am_T × List (Nat × Nat × Nat × Nat × Nat × Nat) × Nat := (at_Gr_borderOf, ah_Gr_borderOf, 4)
def am_q_Gr_costOfEdges : am_T × List (Nat × Nat × Nat × Nat × Nat × Nat) × Nat := (at_Gr_costOfEdges, ah_Gr_costOfEdges, 4)
def am_q_Gr_costOfSet : am_T × List (Nat × Nat × Nat × Nat × Nat × Nat) × Nat := (at_Gr_costOfSet, ah_Gr_costOfSet, 2)
def am_q_Gr_presentCut : am_T × List (Nat × Nat × Nat × Nat × Nat × Nat) × Nat := (at_Gr_presentCut, ah_Gr_presentCut, 3)
def am_q_Gr_presentCost : am_T × List (Nat × Nat × Nat × Nat × Nat × Nat) × Nat := (at_Gr_presentCost, ah_Gr_presentCost, 1)
def am_q_Gp_init : am_T × List (Nat × Nat × Nat × Nat × Nat × Nat) × Nat := (at_Gp_init, ah_Gp_init, 1)
def am_q_Gp_run : am_T × List (Nat × Nat × Nat × Nat × Nat × Nat) × Nat := (at_Gp_run, ah_Gp_run, 3)
def am_q_Gp_makeRound : am_T × List (Nat × Nat × Nat × Nat × Nat × Nat) × Nat := (at_Gp_makeRound, ah_Gp_makeRound, 6)
def am_q_Gp_grouped : am_T × List (Nat × Nat × Nat × Nat × Nat × Nat) × Nat := (at_Gp_grouped, ah_Gp_grouped, 3)
def am_q_Gp_ownerOf : am_T × List (Nat × Nat × Nat × Nat × Nat × Nat) × Nat := (at_Gp_ownerOf, ah_Gp_ownerOf, 3)
def am_q_Hi_init : am_T × List (Nat × Nat × Nat × Nat × Nat × Nat) × Nat := (at_Hi_init, ah_Hi_init, 2)
def am_q_Hi_save : am_T × List (Nat × Nat × Nat × Nat × Nat × Nat) × Nat := (at_Hi_save, ah_Hi_save, 2)
def am_q_Hi_restore : am_T × List (Nat × Nat × Nat × Nat × Nat × Nat) × Nat := (at_Hi_restore, ah_Hi_restore, 2)
def am_q_Mv_init : am_T × List (Nat × Nat × Nat × Nat × Nat × Nat) × Nat := (at_Mv_init, ah_Mv_init, 1)
def am_q_Mv_run : am_T × List (Nat × Nat × Nat × Nat × Nat × Nat) × Nat := (at_Mv_run, ah_Mv_run, 4)
def am_q_Mv_consider : am_T × List (Nat × Nat × Nat × Nat × Nat × Nat) × Nat := (at_Mv_consider, ah_Mv_consider, 6)
def am_q_Mv_makeImprovement : am_T × List (Nat × Nat × Nat × Nat × Nat × Nat) × Nat := (at_Mv_makeImprovement, ah_Mv_makeImprovement, 2)
def am_q_Ne_init : am_T × List (Nat × Nat × Nat × Nat × Nat × Nat) × Nat := (at_Ne_init, ah_Ne_init, 1)
def am_q_Ne_run : am_T × List (Nat × Nat × Nat × Nat × Nat × Nat) × Nat := (at_Ne_run, ah_Ne_run, 4)
def am_q_Ne_offer : am_T × List (Nat × Nat × Nat × Nat × Nat × Nat) × Nat := (at_Ne_offer, ah_Ne_offer, 6)
def am_q_Rd_init : am_T × List (Nat × Nat × Nat × Nat × Nat × Nat) × Nat := (at_Rd_init, ah_Rd_init, 1)
def am_q_Rd_read : am_T × List (Nat × Nat × Nat × Nat × Nat × Nat) × Nat := (at_Rd_read, ah_Rd_read, 5)
def am_q_Rd_finish : am_T × List (Nat × Nat × Nat × Nat × Nat × Nat) × Nat := (at_Rd_finish, ah_Rd_finish, 2)
def am_q_Rd_readGraph : am_T × List (Nat × Nat × Nat × Nat × Nat × Nat) × Nat := (at_Rd_readGraph, ah_Rd_readGraph, 2)
def am_q_Rd_readStatement : am_T × List (Nat × Nat × Nat × Nat × Nat × Nat) × Nat := (at_Rd_readStatement, ah_Rd_readStatement, 1)
def am_q_Rd_readTerminal : am_T × List (Nat × Nat × Nat × Nat × Nat × Nat) × Nat := (at_Rd_readTerminal, ah_Rd_readTerminal, 2)
def am_q_Rd_readEdge : am_T × List (Nat × Nat × Nat × Nat × Nat × Nat) × Nat := (at_Rd_readEdge, ah_Rd_readEdge, 4)
def am_q_Rd_readLoad : am_T × List (Nat × Nat × Nat × Nat × Nat × Nat) × Nat := (at_Rd_readLoad, ah_Rd_readLoad, 3)
def am_q_Rd_startCost : am_T × List (Nat × Nat × Nat × Nat × Nat × Nat) × Nat := (at_Rd_startCost, ah_Rd_startCost, 1)
def am_q_Rd_readSum : am_T × List (Nat × Nat × Nat × Nat × Nat × Nat) × Nat := (at_Rd_readSum, ah_Rd_readSum, 5)
def am_q_Rd_readTerm : am_T × List (Nat × Nat × Nat × Nat × Nat × Nat) × Nat := (at_Rd_readTerm, ah_Rd_readTerm, 5)
def am_q_Rd_readFactor : am_T × List (Nat × Nat × Nat × Nat × Nat × Nat) × Nat := (at_Rd_readFactor, ah_Rd_readFactor, 3)
def am_q_Rd_putCode : am_T × List (Nat × Nat × Nat × Nat × Nat × Nat) × Nat := (at_Rd_putCode, ah_Rd_putCode, 2)
def am_q_Rd_readSymbol : am_T × List (Nat × Nat × Nat × Nat × Nat × Nat) × Nat := (at_Rd_readSymbol, ah_Rd_readSymbol, 2)
def am_q_Rd_vertexHere : am_T × List (Nat × Nat × Nat × Nat × Nat × Nat) × Nat := (at_Rd_vertexHere, ah_Rd_vertexHere, 1)
def am_q_Rd_numberHere : am_T × List (Nat × Nat × Nat × Nat × Nat × Nat) × Nat := (at_Rd_numberHere, ah_Rd_numberHere, 3)
def am_q_Rd_isWord : am_T × List (Nat × Nat × Nat × Nat × Nat × Nat) × Nat := (at_Rd_isWord, ah_Rd_isWord, 3)
def am_q_Rd_fail : am_T × List (Nat × Nat × Nat × Nat × Nat × Nat) × Nat := (at_Rd_fail, ah_Rd_fail, 2)
def am_q_Rd_advance : am_T × List (Nat × Nat × Nat × Nat × Nat × Nat) × Nat := (at_Rd_advance, ah_Rd_advance, 2)
def am_q_Mc_init : am_T × List (Nat × Nat × Nat × Nat × Nat × Nat) × Nat := (at_Mc_init, ah_Mc_init, 1)
def am_q_Mc_append : am_T × List (Nat × Nat × Nat × Nat × Nat × Nat) × Nat := (at_Mc_append, ah_Mc_append, 6)
def am_q_Mc_putWord : am_T × List (Nat × Nat × Nat × Nat × Nat × Nat) × Nat := (at_Mc_putWord, ah_Mc_putWord, 3)
def am_q_Mc_load : am_T × List (Nat × Nat × Nat × Nat × Nat × Nat) × Nat := (at_Mc_load, ah_Mc_load, 3)
def am_q_Mc_errorOffset : am_T × List (Nat × Nat × Nat × Nat × Nat × Nat) × Nat := (at_Mc_errorOffset, ah_Mc_errorOffset, 1)
def am_q_Mc_size : am_T × List (Nat × Nat × Nat × Nat × Nat × Nat) × Nat := (at_Mc_size, ah_Mc_size, 1)
def am_q_Mc_edgeCount : am_T × List (Nat × Nat × Nat × Nat × Nat × Nat) × Nat := (at_Mc_edgeCount, ah_Mc_edgeCount, 1)
def am_q_Mc_terminals : am_T × List (Nat × Nat × Nat × Nat × Nat × Nat) × Nat := (at_Mc_terminals, ah_Mc_terminals, 1)
def am_q_Mc_burden : am_T × List (Nat × Nat × Nat × Nat × Nat × Nat) × Nat := (at_Mc_burden, ah_Mc_burden, 2)
def am_q_Mc_edge : am_T × List (Nat × Nat × Nat × Nat × Nat × Nat) × Nat := (at_Mc_edge, ah_Mc_edge, 3)
def am_q_Mc_cutCost : am_T × List (Nat × Nat × Nat × Nat × Nat × Nat) × Nat := (at_Mc_cutCost, ah_Mc_cutCost, 2)
def am_q_Mc_separates : am_T × List (Nat × Nat × Nat × Nat × Nat × Nat) × Nat := (at_Mc_separates, ah_Mc_separates, 2)
def am_q_Mc_isolatingValue : am_T × List (Nat × Nat × Nat × Nat × Nat × Nat) × Nat := (at_Mc_isolatingValue, ah_Mc_isolatingValue, 2)
def am_q_Mc_isolatingSet : am_T × List (Nat × Nat × Nat × Nat × Nat × Nat) × Nat := (at_Mc_isolatingSet, ah_Mc_isolatingSet, 2)
def am_q_Mc_lowerBound : am_T × List (Nat × Nat × Nat × Nat × Nat × Nat) × Nat := (at_Mc_lowerBound, ah_Mc_lowerBound, 3)
def am_q_Mc_dearest : am_T × List (Nat × Nat × Nat × Nat × Nat × Nat) × Nat := (at_Mc_dearest, ah_Mc_dearest, 1)
def am_q_Mc_unionCut : am_T × List (Nat × Nat × Nat × Nat × Nat × Nat) × Nat := (at_Mc_unionCut, ah_Mc_unionCut, 1)
def am_q_Mc_unionCost : am_T × List (Nat × Nat × Nat × Nat × Nat × Nat) × Nat := (at_Mc_unionCost, ah_Mc_unionCost, 1)
def am_q_Mc_rounds : am_T × List (Nat × Nat × Nat × Nat × Nat × Nat) × Nat := (at_Mc_rounds, ah_Mc_rounds, 1)
def am_q_Mc_fixed : am_T × List (Nat × Nat × Nat × Nat × Nat × Nat) × Nat := (at_Mc_fixed, ah_Mc_fixed, 2)
def am_q_Mc_exactCost : am_T × List (Nat × Nat × Nat × Nat × Nat × Nat) × Nat := (at_Mc_exactCost, ah_Mc_exactCost, 1)
def am_q_Mc_exact : am_T × List (Nat × Nat × Nat × Nat × Nat × Nat) × Nat := (at_Mc_exact, ah_Mc_exact, 2)
def am_q_Mc_price : am_T × List (Nat × Nat × Nat × Nat × Nat × Nat) × Nat := (at_Mc_price, ah_Mc_price, 3)
def am_q_Mc_nearest : am_T × List (Nat × Nat × Nat × Nat × Nat × Nat) × Nat := (at_Mc_nearest, ah_Mc_nearest, 2)
def am_q_Mc_distance : am_T × List (Nat × Nat × Nat × Nat × Nat × Nat) × Nat := (at_Mc_distance, ah_Mc_distance, 2)
def am_q_Mc_label : am_T × List (Nat × Nat × Nat × Nat × Nat × Nat) × Nat := (at_Mc_label, ah_Mc_label, 2)
def am_q_Mc_cost : am_T × List (Nat × Nat × Nat × Nat × Nat × Nat) × Nat := (at_Mc_cost, ah_Mc_cost, 1)
def am_q_Mc_cut : am_T × List (Nat × Nat × Nat × Nat × Nat × Nat) × Nat := (at_Mc_cut, ah_Mc_cut, 1)
def am_q_Mc_ratio : am_T × List (Nat × Nat × Nat × Nat × Nat × Nat) × Nat := (at_Mc_ratio, ah_Mc_ratio, 3)
def am_q_Mc_meanCost : am_T × List (Nat × Nat × Nat × Nat × Nat × Nat) × Nat := (at_Mc_meanCost, ah_Mc_meanCost, 5)
def am_q_Mc_bestMove : am_T × List (Nat × Nat × Nat × Nat × Nat × Nat) × Nat := (at_Mc_bestMove, ah_Mc_bestMove, 2)
def am_q_Mc_setLabel : am_T × List (Nat × Nat × Nat × Nat × Nat × Nat) × Nat := (at_Mc_setLabel, ah_Mc_setLabel, 3)
def am_q_Mc_useNearest : am_T × List (Nat × Nat × Nat × Nat × Nat × Nat) × Nat := (at_Mc_useNearest, ah_Mc_useNearest, 1)
def am_q_Mc_useUnion : am_T × List (Nat × Nat × Nat × Nat × Nat × Nat) × Nat := (at_Mc_useUnion, ah_Mc_useUnion, 1)
def am_q_Mc_useExact : am_T × List (Nat × Nat × Nat × Nat × Nat × Nat) × Nat := (at_Mc_useExact, ah_Mc_useExact, 1)
def am_q_Mc_improve : am_T × List (Nat × Nat × Nat × Nat × Nat × Nat) × Nat := (at_Mc_improve, ah_Mc_improve, 3)
def am_q_Mc_setWeight : am_T × List (Nat × Nat × Nat × Nat × Nat × Nat) × Nat := (at_Mc_setWeight, ah_Mc_setWeight, 4)
def am_q_Mc_addEdge : am_T × List (Nat × Nat × Nat × Nat × Nat × Nat) × Nat := (at_Mc_addEdge, ah_Mc_addEdge, 4)
def am_q_Mc_removeEdge : am_T × List (Nat × Nat × Nat × Nat × Nat × Nat) × Nat := (at_Mc_removeEdge, ah_Mc_removeEdge, 2)
def am_q_Mc_setTerminal : am_T × List (Nat × Nat × Nat × Nat × Nat × Nat) × Nat := (at_Mc_setTerminal, ah_Mc_setTerminal, 4)
def am_q_Mc_undo : am_T × List (Nat × Nat × Nat × Nat × Nat × Nat) × Nat := (at_Mc_undo, ah_Mc_undo, 1)
def am_q_Mc_checksum : am_T × List (Nat × Nat × Nat × Nat × Nat × Nat) × Nat := (at_Mc_checksum, ah_Mc_checksum, 4)
def am_q_Mc_requireVertex : am_T × List (Nat × Nat × Nat × Nat × Nat × Nat) × Nat := (at_Mc_requireVertex, ah_Mc_requireVertex, 2)
def am_q_Mc_requireEdge : am_T × List (Nat × Nat × Nat × Nat × Nat × Nat) × Nat := (at_Mc_requireEdge, ah_Mc_requireEdge, 2)
def am_q_Mc_requireTerminal : am_T × List (Nat × Nat × Nat × Nat × Nat × Nat) × Nat := (at_Mc_requireTerminal, ah_Mc_requireTerminal, 2)
def am_q_Mc_requireSomeTerminal : am_T × List (Nat × Nat × Nat × Nat × Nat × Nat) × Nat := (at_Mc_requireSomeTerminal, ah_Mc_requireSomeTerminal, 1)
def am_q_Mc_requireWeight : am_T × List (Nat × Nat × Nat × Nat × Nat × Nat) × Nat := (at_Mc_requireWeight, ah_Mc_requireWeight, 2)
def am_q_Mo_init : am_T × List (Nat × Nat × Nat × Nat × Nat × Nat) × Nat := (at_Mo_init, ah_Mo_init, 1)
def am_q_Mo_thrown : am_T × List (Nat × Nat × Nat × Nat × Nat × Nat) × Nat := (at_Mo_thrown, ah_Mo_thrown, 1)
def am_q_Mo_isIn : am_T × List (Nat × Nat × Nat × Nat × Nat × Nat) × Nat := (at_Mo_isIn, ah_Mo_isIn, 6)
def am_q_Mo_get : am_T × List (Nat × Nat × Nat × Nat × Nat × Nat) × Nat := (at_Mo_get, ah_Mo_get, 2)
def am_q_Mo_put : am_T × List (Nat × Nat × Nat × Nat × Nat × Nat) × Nat := (at_Mo_put, ah_Mo_put, 3)
def am_q_Mo_change : am_T × List (Nat × Nat × Nat × Nat × Nat × Nat) × Nat := (at_Mo_change, ah_Mo_change, 3)
def am_q_Mo_right : am_T × List (Nat × Nat × Nat × Nat × Nat × Nat) × Nat := (at_Mo_right, ah_Mo_right, 3)
def am_q_Mo_append : am_T × List (Nat × Nat × Nat × Nat × Nat × Nat) × Nat := (at_Mo_append, ah_Mo_append, 8)
def am_q_Mo_fails : am_T × List (Nat × Nat × Nat × Nat × Nat × Nat) × Nat := (at_Mo_fails, ah_Mo_fails, 3)
def am_q_Mo_sees : am_T × List (Nat × Nat × Nat × Nat × Nat × Nat) × Nat := (at_Mo_sees, ah_Mo_sees, 1)
def am_q_Mo_takes : am_T × List (Nat × Nat × Nat × Nat × Nat × Nat) × Nat := (at_Mo_takes, ah_Mo_takes, 5)
def am_q_Mo_wants : am_T × List (Nat × Nat × Nat × Nat × Nat × Nat) × Nat := (at_Mo_wants, ah_Mo_wants, 2)
def am_q_Mo_isDigit : am_T × List (Nat × Nat × Nat × Nat × Nat × Nat) × Nat := (at_Mo_isDigit, ah_Mo_isDigit, 1)
def am_q_Mo_reads : am_T × List (Nat × Nat × Nat × Nat × Nat × Nat) × Nat := (at_Mo_reads, ah_Mo_reads, 4)
def am_q_Mo_codes : am_T × List (Nat × Nat × Nat × Nat × Nat × Nat) × Nat := (at_Mo_codes, ah_Mo_codes, 4)
def am_q_Mo_sum : am_T × List (Nat × Nat × Nat × Nat × Nat × Nat) × Nat := (at_Mo_sum, ah_Mo_sum, 2)
def am_q_Mo_term : am_T × List (Nat × Nat × Nat × Nat × Nat × Nat) × Nat := (at_Mo_term, ah_Mo_term, 2)
def am_q_Mo_factor : am_T × List (Nat × Nat × Nat × Nat × Nat × Nat) × Nat := (at_Mo_factor, ah_Mo_factor, 2)
def am_q_Mo_readsVertex : am_T × List (Nat × Nat × Nat × Nat × Nat × Nat) × Nat := (at_Mo_readsVertex, ah_Mo_readsVertex, 1)
def am_q_Mo_terminalLine : am_T × List (Nat × Nat × Nat × Nat × Nat × Nat) × Nat := (at_Mo_terminalLine, ah_Mo_terminalLine, 3)
def am_q_Mo_bitsOf : am_T × List (Nat × Nat × Nat × Nat × Nat × Nat) × Nat := (at_Mo_bitsOf, ah_Mo_bitsOf, 3)
def am_q_Mo_isJoined : am_T × List (Nat × Nat × Nat × Nat × Nat × Nat) × Nat := (at_Mo_isJoined, ah_Mo_isJoined, 4)
def am_q_Mo_edgeLine : am_T × List (Nat × Nat × Nat × Nat × Nat × Nat) × Nat := (at_Mo_edgeLine, ah_Mo_edgeLine, 6)
def am_q_Mo_loadLine : am_T × List (Nat × Nat × Nat × Nat × Nat × Nat) × Nat := (at_Mo_loadLine, ah_Mo_loadLine, 3)
def am_q_Mo_statement : am_T × List (Nat × Nat × Nat × Nat × Nat × Nat) × Nat := (at_Mo_statement, ah_Mo_statement, 2)
def am_q_Mo_texts : am_T × List (Nat × Nat × Nat × Nat × Nat × Nat) × Nat := (at_Mo_texts, ah_Mo_texts, 2)
def am_q_Mo_load : am_T × List (Nat × Nat × Nat × Nat × Nat × Nat) × Nat := (at_Mo_load, ah_Mo_load, 3)
def am_q_Mo_errorOffset : am_T × List (Nat × Nat × Nat × Nat × Nat × Nat) × Nat := (at_Mo_errorOffset, ah_Mo_errorOffset, 1)
def am_q_Mo_within : am_T × List (Nat × Nat × Nat × Nat × Nat × Nat) × Nat := (at_Mo_within, ah_Mo_within, 4)
def am_q_Mo_costOf : am_T × List (Nat × Nat × Nat × Nat × Nat × Nat) × Nat := (at_Mo_costOf, ah_Mo_costOf, 11)
def am_q_Mo_laysCosts : am_T × List (Nat × Nat × Nat × Nat × Nat × Nat) × Nat := (at_Mo_laysCosts, ah_Mo_laysCosts, 2)
def am_q_Mo_count : am_T × List (Nat × Nat × Nat × Nat × Nat × Nat) × Nat := (at_Mo_count, ah_Mo_count, 1)
def am_q_Mo_edges : am_T × List (Nat × Nat × Nat × Nat × Nat × Nat) × Nat := (at_Mo_edges, ah_Mo_edges, 1)
def am_q_Mo_low : am_T × List (Nat × Nat × Nat × Nat × Nat × Nat) × Nat := (at_Mo_low, ah_Mo_low, 2)
def am_q_Mo_high : am_T × List (Nat × Nat × Nat × Nat × Nat × Nat) × Nat := (at_Mo_high, ah_Mo_high, 2)
def am_q_Mo_has : am_T × List (Nat × Nat × Nat × Nat × Nat × Nat) × Nat := (at_Mo_has, ah_Mo_has, 2)
def am_q_Mo_isTerminal : am_T × List (Nat × Nat × Nat × Nat × Nat × Nat) × Nat := (at_Mo_isTerminal, ah_Mo_isTerminal, 2)
def am_q_Mo_all : am_T × List (Nat × Nat × Nat × Nat × Nat × Nat) × Nat := (at_Mo_all, ah_Mo_all, 1)
def am_q_Mo_cutOf : am_T × List (Nat × Nat × Nat × Nat × Nat × Nat) × Nat := (at_Mo_cutOf, ah_Mo_cutOf, 4)
def am_q_Mo_bestSet : am_T × List (Nat × Nat × Nat × Nat × Nat × Nat) × Nat := (at_Mo_bestSet, ah_Mo_bestSet, 8)
def am_q_Mo_isolating : am_T × List (Nat × Nat × Nat × Nat × Nat × Nat) × Nat := (at_Mo_isolating, ah_Mo_isolating, 2)
def am_q_Mo_laysIsolating : am_T × List (Nat × Nat × Nat × Nat × Nat × Nat) × Nat := (at_Mo_laysIsolating, ah_Mo_laysIsolating, 2)
def am_q_Mo_dearestNow : am_T × List (Nat × Nat × Nat × Nat × Nat × Nat) × Nat := (at_Mo_dearestNow, ah_Mo_dearestNow, 3)
def am_q_Mo_othersOf : am_T × List (Nat × Nat × Nat × Nat × Nat × Nat) × Nat := (at_Mo_othersOf, ah_Mo_othersOf, 4)
def am_q_Mo_goesRound : am_T × List (Nat × Nat × Nat × Nat × Nat × Nat) × Nat := (at_Mo_goesRound, ah_Mo_goesRound, 4)
def am_q_Mo_laysGroups : am_T × List (Nat × Nat × Nat × Nat × Nat × Nat) × Nat := (at_Mo_laysGroups, ah_Mo_laysGroups, 2)
def am_q_Mo_costBy : am_T × List (Nat × Nat × Nat × Nat × Nat × Nat) × Nat := (at_Mo_costBy, ah_Mo_costBy, 4)
def am_q_Mo_goesOn : am_T × List (Nat × Nat × Nat × Nat × Nat × Nat) × Nat := (at_Mo_goesOn, ah_Mo_goesOn, 4)
def am_q_Mo_laysExact : am_T × List (Nat × Nat × Nat × Nat × Nat × Nat) × Nat := (at_Mo_laysExact, ah_Mo_laysExact, 4)
def am_q_Mo_exactNow : am_T × List (Nat × Nat × Nat × Nat × Nat × Nat) × Nat := (at_Mo_exactNow, ah_Mo_exactNow, 1)
def am_q_Mo_costNow : am_T × List (Nat × Nat × Nat × Nat × Nat × Nat) × Nat := (at_Mo_costNow, ah_Mo_costNow, 2)
def am_q_Mo_lengthOf : am_T × List (Nat × Nat × Nat × Nat × Nat × Nat) × Nat := (at_Mo_lengthOf, ah_Mo_lengthOf, 2)
def am_q_Mo_laysFar : am_T × List (Nat × Nat × Nat × Nat × Nat × Nat) × Nat := (at_Mo_laysFar, ah_Mo_laysFar, 6)
def am_q_Mo_laysNear : am_T × List (Nat × Nat × Nat × Nat × Nat × Nat) × Nat := (at_Mo_laysNear, ah_Mo_laysNear, 3)
def am_q_Mo_size : am_T × List (Nat × Nat × Nat × Nat × Nat × Nat) × Nat := (at_Mo_size, ah_Mo_size, 1)
def am_q_Mo_edgeCount : am_T × List (Nat × Nat × Nat × Nat × Nat × Nat) × Nat := (at_Mo_edgeCount, ah_Mo_edgeCount, 1)
def am_q_Mo_terminals : am_T × List (Nat × Nat × Nat × Nat × Nat × Nat) × Nat := (at_Mo_terminals, ah_Mo_terminals, 1)
def am_q_Mo_isVertex : am_T × List (Nat × Nat × Nat × Nat × Nat × Nat) × Nat := (at_Mo_isVertex, ah_Mo_isVertex, 2)
def am_q_Mo_burden : am_T × List (Nat × Nat × Nat × Nat × Nat × Nat) × Nat := (at_Mo_burden, ah_Mo_burden, 2)
def am_q_Mo_edge : am_T × List (Nat × Nat × Nat × Nat × Nat × Nat) × Nat := (at_Mo_edge, ah_Mo_edge, 3)
def am_q_Mo_cutCost : am_T × List (Nat × Nat × Nat × Nat × Nat × Nat) × Nat := (at_Mo_cutCost, ah_Mo_cutCost, 2)
def am_q_Mo_separates : am_T × List (Nat × Nat × Nat × Nat × Nat × Nat) × Nat := (at_Mo_separates, ah_Mo_separates, 5)
def am_q_Mo_mustBe : am_T × List (Nat × Nat × Nat × Nat × Nat × Nat) × Nat := (at_Mo_mustBe, ah_Mo_mustBe, 2)
def am_q_Mo_isolatingValue : am_T × List (Nat × Nat × Nat × Nat × Nat × Nat) × Nat := (at_Mo_isolatingValue, ah_Mo_isolatingValue, 3)
def am_q_Mo_isolatingSet : am_T × List (Nat × Nat × Nat × Nat × Nat × Nat) × Nat := (at_Mo_isolatingSet, ah_Mo_isolatingSet, 2)
def am_q_Mo_lowerBound : am_T × List (Nat × Nat × Nat × Nat × Nat × Nat) × Nat := (at_Mo_lowerBound, ah_Mo_lowerBound, 3)
def am_q_Mo_hasTerminal : am_T × List (Nat × Nat × Nat × Nat × Nat × Nat) × Nat := (at_Mo_hasTerminal, ah_Mo_hasTerminal, 1)
def am_q_Mo_dearest : am_T × List (Nat × Nat × Nat × Nat × Nat × Nat) × Nat := (at_Mo_dearest, ah_Mo_dearest, 1)
def am_q_Mo_unionNow : am_T × List (Nat × Nat × Nat × Nat × Nat × Nat) × Nat := (at_Mo_unionNow, ah_Mo_unionNow, 5)
def am_q_Mo_unionCut : am_T × List (Nat × Nat × Nat × Nat × Nat × Nat) × Nat := (at_Mo_unionCut, ah_Mo_unionCut, 1)
def am_q_Mo_unionCost : am_T × List (Nat × Nat × Nat × Nat × Nat × Nat) × Nat := (at_Mo_unionCost, ah_Mo_unionCost, 4)
def am_q_Mo_rounds : am_T × List (Nat × Nat × Nat × Nat × Nat × Nat) × Nat := (at_Mo_rounds, ah_Mo_rounds, 1)
def am_q_Mo_fixed : am_T × List (Nat × Nat × Nat × Nat × Nat × Nat) × Nat := (at_Mo_fixed, ah_Mo_fixed, 3)
def am_q_Mo_exactCost : am_T × List (Nat × Nat × Nat × Nat × Nat × Nat) × Nat := (at_Mo_exactCost, ah_Mo_exactCost, 1)
def am_q_Mo_exact : am_T × List (Nat × Nat × Nat × Nat × Nat × Nat) × Nat := (at_Mo_exact, ah_Mo_exact, 3)
def am_q_Mo_price : am_T × List (Nat × Nat × Nat × Nat × Nat × Nat) × Nat := (at_Mo_price, ah_Mo_price, 3)
def am_q_Mo_nearest : am_T × List (Nat × Nat × Nat × Nat × Nat × Nat) × Nat := (at_Mo_nearest, ah_Mo_nearest, 2)
def am_q_Mo_distance : am_T × List (Nat × Nat × Nat × Nat × Nat × Nat) × Nat := (at_Mo_distance, ah_Mo_distance, 2)
def am_q_Mo_label : am_T × List (Nat × Nat × Nat × Nat × Nat × Nat) × Nat := (at_Mo_label, ah_Mo_label, 2)
def am_q_Mo_cost : am_T × List (Nat × Nat × Nat × Nat × Nat × Nat) × Nat := (at_Mo_cost, ah_Mo_cost, 1)
def am_q_Mo_cut : am_T × List (Nat × Nat × Nat × Nat × Nat × Nat) × Nat := (at_Mo_cut, ah_Mo_cut, 3)
def am_q_Mo_ratio : am_T × List (Nat × Nat × Nat × Nat × Nat × Nat) × Nat := (at_Mo_ratio, ah_Mo_ratio, 3)
def am_q_Mo_meanCost : am_T × List (Nat × Nat × Nat × Nat × Nat × Nat) × Nat := (at_Mo_meanCost, ah_Mo_meanCost, 5)
def am_q_Mo_laysMove : am_T × List (Nat × Nat × Nat × Nat × Nat × Nat) × Nat := (at_Mo_laysMove, ah_Mo_laysMove, 5)
def am_q_Mo_bestMove : am_T × List (Nat × Nat × Nat × Nat × Nat × Nat) × Nat := (at_Mo_bestMove, ah_Mo_bestMove, 2)
def am_q_Mo_setLabel : am_T × List (Nat × Nat × Nat × Nat × Nat × Nat) × Nat := (at_Mo_setLabel, ah_Mo_setLabel, 4)
def am_q_Mo_useNearest : am_T × List (Nat × Nat × Nat × Nat × Nat × Nat) × Nat := (at_Mo_useNearest, ah_Mo_useNearest, 2)
def am_q_Mo_useUnion : am_T × List (Nat × Nat × Nat × Nat × Nat × Nat) × Nat := (at_Mo_useUnion, ah_Mo_useUnion, 5)
def am_q_Mo_useExact : am_T × List (Nat × Nat × Nat × Nat × Nat × Nat) × Nat := (at_Mo_useExact, ah_Mo_useExact, 3)
def am_q_Mo_improve : am_T × List (Nat × Nat × Nat × Nat × Nat × Nat) × Nat := (at_Mo_improve, ah_Mo_improve, 3)
def am_q_Mo_isEdge : am_T × List (Nat × Nat × Nat × Nat × Nat × Nat) × Nat := (at_Mo_isEdge, ah_Mo_isEdge, 2)
def am_q_Mo_setWeight : am_T × List (Nat × Nat × Nat × Nat × Nat × Nat) × Nat := (at_Mo_setWeight, ah_Mo_setWeight, 4)
def am_q_Mo_areJoined : am_T × List (Nat × Nat × Nat × Nat × Nat × Nat) × Nat := (at_Mo_areJoined, ah_Mo_areJoined, 4)
def am_q_Mo_addEdge : am_T × List (Nat × Nat × Nat × Nat × Nat × Nat) × Nat := (at_Mo_addEdge, ah_Mo_addEdge, 5)
def am_q_Mo_removeEdge : am_T × List (Nat × Nat × Nat × Nat × Nat × Nat) × Nat := (at_Mo_removeEdge, ah_Mo_removeEdge, 4)
def am_q_Mo_setTerminal : am_T × List (Nat × Nat × Nat × Nat × Nat × Nat) × Nat := (at_Mo_setTerminal, ah_Mo_setTerminal, 5)
def am_q_Mo_undo : am_T × List (Nat × Nat × Nat × Nat × Nat × Nat) × Nat := (at_Mo_undo, ah_Mo_undo, 1)
def am_q_Mo_checksum : am_T × List (Nat × Nat × Nat × Nat × Nat × Nat) × Nat := (at_Mo_checksum, ah_Mo_checksum, 5)
def am_q_JI_bitCount : am_T × List (Nat × Nat × Nat × Nat × Nat × Nat) × Nat := (at_JI_bitCount, ah_JI_bitCount, 1)
def am_q_JA_fill : am_T × List (Nat × Nat × Nat × Nat × Nat × Nat) × Nat := (at_JA_fill, ah_JA_fill, 4)
def am_q_JA_copyOf : am_T × List (Nat × Nat × Nat × Nat × Nat × Nat) × Nat := (at_JA_copyOf, ah_JA_copyOf, 3)
def am_q_La_load : am_T × List (Nat × Nat × Nat × Nat × Nat × Nat) × Nat := (at_La_load, ah_La_load, 4)
def am_q_La_burden : am_T × List (Nat × Nat × Nat × Nat × Nat × Nat) × Nat := (at_La_burden, ah_La_burden, 4)
def am_q_La_edge : am_T × List (Nat × Nat × Nat × Nat × Nat × Nat) × Nat := (at_La_edge, ah_La_edge, 5)
def am_q_La_cutCost : am_T × List (Nat × Nat × Nat × Nat × Nat × Nat) × Nat := (at_La_cutCost, ah_La_cutCost, 4)
def am_q_La_separates : am_T × List (Nat × Nat × Nat × Nat × Nat × Nat) × Nat := (at_La_separates, ah_La_separates, 4)
def am_q_La_isolatingValue : am_T × List (Nat × Nat × Nat × Nat × Nat × Nat) × Nat := (at_La_isolatingValue, ah_La_isolatingValue, 4)
def am_q_La_isolatingSet : am_T × List (Nat × Nat × Nat × Nat × Nat × Nat) × Nat := (at_La_isolatingSet, ah_La_isolatingSet, 4)
def am_q_La_dearest : am_T × List (Nat × Nat × Nat × Nat × Nat × Nat) × Nat := (at_La_dearest, ah_La_dearest, 3)
def am_q_La_unionCut : am_T × List (Nat × Nat × Nat × Nat × Nat × Nat) × Nat := (at_La_unionCut, ah_La_unionCut, 3)
def am_q_La_unionCost : am_T × List (Nat × Nat × Nat × Nat × Nat × Nat) × Nat := (at_La_unionCost, ah_La_unionCost, 3)
def am_q_La_fixed : am_T × List (Nat × Nat × Nat × Nat × Nat × Nat) × Nat := (at_La_fixed, ah_La_fixed, 4)
def am_q_La_exact : am_T × List (Nat × Nat × Nat × Nat × Nat × Nat) × Nat := (at_La_exact, ah_La_exact, 4)
def am_q_La_price : am_T × List (Nat × Nat × Nat × Nat × Nat × Nat) × Nat := (at_La_price, ah_La_price, 4)
def am_q_La_nearest : am_T × List (Nat × Nat × Nat × Nat × Nat × Nat) × Nat := (at_La_nearest, ah_La_nearest, 4)
def am_q_La_distance : am_T × List (Nat × Nat × Nat × Nat × Nat × Nat) × Nat := (at_La_distance, ah_La_distance, 4)
def am_q_La_label : am_T × List (Nat × Nat × Nat × Nat × Nat × Nat) × Nat := (at_La_label, ah_La_label, 4)
def am_q_La_bestMove : am_T × List (Nat × Nat × Nat × Nat × Nat × Nat) × Nat := (at_La_bestMove, ah_La_bestMove, 4)
def am_q_La_setLabel : am_T × List (Nat × Nat × Nat × Nat × Nat × Nat) × Nat := (at_La_setLabel, ah_La_setLabel, 5)
def am_q_La_useUnion : am_T × List (Nat × Nat × Nat × Nat × Nat × Nat) × Nat := (at_La_useUnion, ah_La_useUnion, 3)
def am_q_La_improve : am_T × List (Nat × Nat × Nat × Nat × Nat × Nat) × Nat := (at_La_improve, ah_La_improve, 4)
def am_q_La_setWeight : am_T × List (Nat × Nat × Nat × Nat × Nat × Nat) × Nat := (at_La_setWeight, ah_La_setWeight, 5)
def am_q_La_addEdge : am_T × List (Nat × Nat × Nat × Nat × Nat × Nat) × Nat := (at_La_addEdge, ah_La_addEdge, 6)
def am_q_La_removeEdge : am_T × List (Nat × Nat × Nat × Nat × Nat × Nat) × Nat := (at_La_removeEdge, ah_La_removeEdge, 4)
def am_q_La_setTerminal : am_T × List (Nat × Nat × Nat × Nat × Nat × Nat) × Nat := (at_La_setTerminal, ah_La_setTerminal, 5)
def am_q_La_law : am_T × List (Nat × Nat × Nat × Nat × Nat × Nat) × Nat := (at_La_law, ah_La_law, 9)
def am_prog : List (am_T × List (Nat × Nat × Nat × Nat × Nat × Nat) × Nat) := [am_q_Cu_keepsApart, am_q_Cu_reachedFrom, am_q_Cu_cheapestSet, am_q_Cu_setOf, am_q_Cu_valueOf, am_q_Cu_dearestOf, am_q_Cu_unionOf, am_q_Cu_labelByUnion, am_q_Cu_labelSet, am_q_Ex_init, am_q_Ex_run, am_q_Ex_extend, am_q_Ex_costToEarlier, am_q_Fo_init, am_q_Fo_evaluate, am_q_Fo_operand, am_q_Fo_combine, am_q_Gr_init, am_q_Gr_clear, am_q_Gr_copyFrom, am_q_Gr_hasVertex, am_q_Gr_isTerminal, am_q_Gr_allVertices, am_q_Gr_hasEdgeBetween, am_q_Gr_endsOf, am_q_Gr_lengthOf, am_q_Gr_putEdge, am_q_Gr_updateCost, am_q_Gr_dropEdge, am_q_Gr_startTerminal, am_q_Gr_endTerminal, am_q_Gr_takeLabels, am_q_Gr_borderOf, am_q_Gr_costOfEdges, am_q_Gr_costOfSet, am_q_Gr_presentCut, am_q_Gr_presentCost, am_q_Gp_init, am_q_Gp_run, am_q_Gp_makeRound, am_q_Gp_grouped, am_q_Gp_ownerOf, am_q_Hi_init, am_q_Hi_save, am_q_Hi_restore, am_q_Mv_init, am_q_Mv_run, am_q_Mv_consider, am_q_Mv_makeImprovement, am_q_Ne_init, am_q_Ne_run, am_q_Ne_offer, am_q_Rd_init, am_q_Rd_read, am_q_Rd_finish, am_q_Rd_readGraph, am_q_Rd_readStatement, am_q_Rd_readTerminal, am_q_Rd_readEdge, am_q_Rd_readLoad, am_q_Rd_startCost, am_q_Rd_readSum, am_q_Rd_readTerm, am_q_Rd_readFactor, am_q_Rd_putCode, am_q_Rd_readSymbol, am_q_Rd_vertexHere, am_q_Rd_numberHere, am_q_Rd_isWord, am_q_Rd_fail, am_q_Rd_advance, am_q_Mc_init, am_q_Mc_append, am_q_Mc_putWord, am_q_Mc_load, am_q_Mc_errorOffset, am_q_Mc_size, am_q_Mc_edgeCount, am_q_Mc_terminals, am_q_Mc_burden, am_q_Mc_edge, am_q_Mc_cutCost, am_q_Mc_separates, am_q_Mc_isolatingValue, am_q_Mc_isolatingSet, am_q_Mc_lowerBound, am_q_Mc_dearest, am_q_Mc_unionCut, am_q_Mc_unionCost, am_q_Mc_rounds, am_q_Mc_fixed, am_q_Mc_exactCost, am_q_Mc_exact, am_q_Mc_price, am_q_Mc_nearest, am_q_Mc_distance, am_q_Mc_label, am_q_Mc_cost, am_q_Mc_cut, am_q_Mc_ratio, am_q_Mc_meanCost, am_q_Mc_bestMove, am_q_Mc_setLabel, am_q_Mc_useNearest, am_q_Mc_useUnion, am_q_Mc_useExact, am_q_Mc_improve, am_q_Mc_setWeight, am_q_Mc_addEdge, am_q_Mc_removeEdge, am_q_Mc_setTerminal, am_q_Mc_undo, am_q_Mc_checksum, am_q_Mc_requireVertex, am_q_Mc_requireEdge, am_q_Mc_requireTerminal, am_q_Mc_requireSomeTerminal, am_q_Mc_requireWeight, am_q_Mo_init, am_q_Mo_thrown, am_q_Mo_isIn, am_q_Mo_get, am_q_Mo_put, am_q_Mo_change, am_q_Mo_right, am_q_Mo_append, am_q_Mo_fails, am_q_Mo_sees, am_q_Mo_takes, am_q_Mo_wants, am_q_Mo_isDigit, am_q_Mo_reads, am_q_Mo_codes, am_q_Mo_sum, am_q_Mo_term, am_q_Mo_factor, am_q_Mo_readsVertex, am_q_Mo_terminalLine, am_q_Mo_bitsOf, am_q_Mo_isJoined, am_q_Mo_edgeLine, am_q_Mo_loadLine, am_q_Mo_statement, am_q_Mo_texts, am_q_Mo_load, am_q_Mo_errorOffset, am_q_Mo_within, am_q_Mo_costOf, am_q_Mo_laysCosts, am_q_Mo_count, am_q_Mo_edges, am_q_Mo_low, am_q_Mo_high, am_q_Mo_has, am_q_Mo_isTerminal, am_q_Mo_all, am_q_Mo_cutOf, am_q_Mo_bestSet, am_q_Mo_isolating, am_q_Mo_laysIsolating, am_q_Mo_dearestNow, am_q_Mo_othersOf, am_q_Mo_goesRound, am_q_Mo_laysGroups, am_q_Mo_costBy, am_q_Mo_goesOn, am_q_Mo_laysExact, am_q_Mo_exactNow, am_q_Mo_costNow, am_q_Mo_lengthOf, am_q_Mo_laysFar, am_q_Mo_laysNear, am_q_Mo_size, am_q_Mo_edgeCount, am_q_Mo_terminals, am_q_Mo_isVertex, am_q_Mo_burden, am_q_Mo_edge, am_q_Mo_cutCost, am_q_Mo_separates, am_q_Mo_mustBe, am_q_Mo_isolatingValue, am_q_Mo_isolatingSet, am_q_Mo_lowerBound, am_q_Mo_hasTerminal, am_q_Mo_dearest, am_q_Mo_unionNow, am_q_Mo_unionCut, am_q_Mo_unionCost, am_q_Mo_rounds, am_q_Mo_fixed, am_q_Mo_exactCost, am_q_Mo_exact, am_q_Mo_price, am_q_Mo_nearest, am_q_Mo_distance, am_q_Mo_label, am_q_Mo_cost, am_q_Mo_cut, am_q_Mo_ratio, am_q_Mo_meanCost, am_q_Mo_laysMove, am_q_Mo_bestMove, am_q_Mo_setLabel, am_q_Mo_useNearest, am_q_Mo_useUnion, am_q_Mo_useExact, am_q_Mo_improve, am_q_Mo_isEdge, am_q_Mo_setWeight, am_q_Mo_areJoined, am_q_Mo_addEdge, am_q_Mo_removeEdge, am_q_Mo_setTerminal, am_q_Mo_undo, am_q_Mo_checksum, am_q_JI_bitCount, am_q_JA_fill, am_q_JA_copyOf, am_q_La_load, am_q_La_burden, am_q_La_edge, am_q_La_cutCost, am_q_La_separates, am_q_La_isolatingValue, am_q_La_isolatingSet, am_q_La_dearest, am_q_La_unionCut, am_q_La_unionCost, am_q_La_fixed, am_q_La_exact, am_q_La_price, am_q_La_nearest, am_q_La_distance, am_q_La_label, am_q_La_bestMove, am_q_La_setLabel, am_q_La_useUnion, am_q_La_improve, am_q_La_setWeight, am_q_La_addEdge, am_q_La_removeEdge, am_q_La_setTerminal, am_q_La_law]
def am_hd : List (Nat × Nat × Nat × Nat × Nat × Nat) → Nat → Nat → Option (Nat × Nat)
  | [], _, _ => none
  | q :: l, pc, E => bif Nat.ble q.1 pc && Nat.blt pc q.2.1 && Nat.beq E q.2.2.2.1 then some (q.2.2.2.2.1, q.2.2.2.2.2) else am_hd l pc E
def am_P0 : am_P := fun m => match am_prog[m]? with
  | none => none
  | some q => some (am_code q.1, am_hd q.2.1, q.2.2)
theorem ap_Cu_keepsApart : am_P0 m_Cu_keepsApart = some (am_code at_Cu_keepsApart, am_hd ah_Cu_keepsApart, 4) := rfl
theorem ap_Cu_reachedFrom : am_P0 m_Cu_reachedFrom = some (am_code at_Cu_reachedFrom, am_hd ah_Cu_reachedFrom, 7) := rfl
theorem ap_Cu_cheapestSet : am_P0 m_Cu_cheapestSet = some (am_code at_Cu_cheapestSet, am_hd ah_Cu_cheapestSet, 10) := rfl
theorem ap_Cu_setOf : am_P0 m_Cu_setOf = some (am_code at_Cu_setOf, am_hd ah_Cu_setOf, 3) := rfl
theorem ap_Cu_valueOf : am_P0 m_Cu_valueOf = some (am_code at_Cu_valueOf, am_hd ah_Cu_valueOf, 2) := rfl
theorem ap_Cu_dearestOf : am_P0 m_Cu_dearestOf = some (am_code at_Cu_dearestOf, am_hd ah_Cu_dearestOf, 5) := rfl
theorem ap_Cu_unionOf : am_P0 m_Cu_unionOf = some (am_code at_Cu_unionOf, am_hd ah_Cu_unionOf, 4) := rfl
theorem ap_Cu_labelByUnion : am_P0 m_Cu_labelByUnion = some (am_code at_Cu_labelByUnion, am_hd ah_Cu_labelByUnion, 3) := rfl
theorem ap_Cu_labelSet : am_P0 m_Cu_labelSet = some (am_code at_Cu_labelSet, am_hd ah_Cu_labelSet, 4) := rfl
theorem ap_Ex_init : am_P0 m_Ex_init = some (am_code at_Ex_init, am_hd ah_Ex_init, 1) := rfl
theorem ap_Ex_run : am_P0 m_Ex_run = some (am_code at_Ex_run, am_hd ah_Ex_run, 3) := rfl
theorem ap_Ex_extend : am_P0 m_Ex_extend = some (am_code at_Ex_extend, am_hd ah_Ex_extend, 8) := rfl
theorem ap_Ex_costToEarlier : am_P0 m_Ex_costToEarlier = some (am_code at_Ex_costToEarlier, am_hd ah_Ex_costToEarlier, 5) := rfl
theorem ap_Fo_init : am_P0 m_Fo_init = some (am_code at_Fo_init, am_hd ah_Fo_init, 2) := rfl
theorem ap_Fo_evaluate : am_P0 m_Fo_evaluate = some (am_code at_Fo_evaluate, am_hd ah_Fo_evaluate, 7) := rfl
theorem ap_Fo_operand : am_P0 m_Fo_operand = some (am_code at_Fo_operand, am_hd ah_Fo_operand, 4) := rfl
theorem ap_Fo_combine : am_P0 m_Fo_combine = some (am_code at_Fo_combine, am_hd ah_Fo_combine, 5) := rfl
theorem ap_Gr_init : am_P0 m_Gr_init = some (am_code at_Gr_init, am_hd ah_Gr_init, 1) := rfl
theorem ap_Gr_clear : am_P0 m_Gr_clear = some (am_code at_Gr_clear, am_hd ah_Gr_clear, 1) := rfl
theorem ap_Gr_copyFrom : am_P0 m_Gr_copyFrom = some (am_code at_Gr_copyFrom, am_hd ah_Gr_copyFrom, 2) := rfl
theorem ap_Gr_hasVertex : am_P0 m_Gr_hasVertex = some (am_code at_Gr_hasVertex, am_hd ah_Gr_hasVertex, 2) := rfl
theorem ap_Gr_isTerminal : am_P0 m_Gr_isTerminal = some (am_code at_Gr_isTerminal, am_hd ah_Gr_isTerminal, 2) := rfl
theorem ap_Gr_allVertices : am_P0 m_Gr_allVertices = some (am_code at_Gr_allVertices, am_hd ah_Gr_allVertices, 1) := rfl
theorem ap_Gr_hasEdgeBetween : am_P0 m_Gr_hasEdgeBetween = some (am_code at_Gr_hasEdgeBetween, am_hd ah_Gr_hasEdgeBetween, 5) := rfl
theorem ap_Gr_endsOf : am_P0 m_Gr_endsOf = some (am_code at_Gr_endsOf, am_hd ah_Gr_endsOf, 2) := rfl
theorem ap_Gr_lengthOf : am_P0 m_Gr_lengthOf = some (am_code at_Gr_lengthOf, am_hd ah_Gr_lengthOf, 2) := rfl
theorem ap_Gr_putEdge : am_P0 m_Gr_putEdge = some (am_code at_Gr_putEdge, am_hd ah_Gr_putEdge, 4) := rfl
theorem ap_Gr_updateCost : am_P0 m_Gr_updateCost = some (am_code at_Gr_updateCost, am_hd ah_Gr_updateCost, 3) := rfl
theorem ap_Gr_dropEdge : am_P0 m_Gr_dropEdge = some (am_code at_Gr_dropEdge, am_hd ah_Gr_dropEdge, 3) := rfl
theorem ap_Gr_startTerminal : am_P0 m_Gr_startTerminal = some (am_code at_Gr_startTerminal, am_hd ah_Gr_startTerminal, 2) := rfl
theorem ap_Gr_endTerminal : am_P0 m_Gr_endTerminal = some (am_code at_Gr_endTerminal, am_hd ah_Gr_endTerminal, 3) := rfl
theorem ap_Gr_takeLabels : am_P0 m_Gr_takeLabels = some (am_code at_Gr_takeLabels, am_hd ah_Gr_takeLabels, 3) := rfl
theorem ap_Gr_borderOf : am_P0 m_Gr_borderOf = some (am_code at_Gr_borderOf, am_hd ah_Gr_borderOf, 4) := rfl
theorem ap_Gr_costOfEdges : am_P0 m_Gr_costOfEdges = some (am_code at_Gr_costOfEdges, am_hd ah_Gr_costOfEdges, 4) := rfl
theorem ap_Gr_costOfSet : am_P0 m_Gr_costOfSet = some (am_code at_Gr_costOfSet, am_hd ah_Gr_costOfSet, 2) := rfl
theorem ap_Gr_presentCut : am_P0 m_Gr_presentCut = some (am_code at_Gr_presentCut, am_hd ah_Gr_presentCut, 3) := rfl
theorem ap_Gr_presentCost : am_P0 m_Gr_presentCost = some (am_code at_Gr_presentCost, am_hd ah_Gr_presentCost, 1) := rfl
theorem ap_Gp_init : am_P0 m_Gp_init = some (am_code at_Gp_init, am_hd ah_Gp_init, 1) := rfl
theorem ap_Gp_run : am_P0 m_Gp_run = some (am_code at_Gp_run, am_hd ah_Gp_run, 3) := rfl
theorem ap_Gp_makeRound : am_P0 m_Gp_makeRound = some (am_code at_Gp_makeRound, am_hd ah_Gp_makeRound, 6) := rfl
theorem ap_Gp_grouped : am_P0 m_Gp_grouped = some (am_code at_Gp_grouped, am_hd ah_Gp_grouped, 3) := rfl
theorem ap_Gp_ownerOf : am_P0 m_Gp_ownerOf = some (am_code at_Gp_ownerOf, am_hd ah_Gp_ownerOf, 3) := rfl
theorem ap_Hi_init : am_P0 m_Hi_init = some (am_code at_Hi_init, am_hd ah_Hi_init, 2) := rfl
theorem ap_Hi_save : am_P0 m_Hi_save = some (am_code at_Hi_save, am_hd ah_Hi_save, 2) := rfl
theorem ap_Hi_restore : am_P0 m_Hi_restore = some (am_code at_Hi_restore, am_hd ah_Hi_restore, 2) := rfl
theorem ap_Mv_init : am_P0 m_Mv_init = some (am_code at_Mv_init, am_hd ah_Mv_init, 1) := rfl
theorem ap_Mv_run : am_P0 m_Mv_run = some (am_code at_Mv_run, am_hd ah_Mv_run, 4) := rfl
theorem ap_Mv_consider : am_P0 m_Mv_consider = some (am_code at_Mv_consider, am_hd ah_Mv_consider, 6) := rfl
theorem ap_Mv_makeImprovement : am_P0 m_Mv_makeImprovement = some (am_code at_Mv_makeImprovement, am_hd ah_Mv_makeImprovement, 2) := rfl
theorem ap_Ne_init : am_P0 m_Ne_init = some (am_code at_Ne_init, am_hd ah_Ne_init, 1) := rfl
theorem ap_Ne_run : am_P0 m_Ne_run = some (am_code at_Ne_run, am_hd ah_Ne_run, 4) := rfl
theorem ap_Ne_offer : am_P0 m_Ne_offer = some (am_code at_Ne_offer, am_hd ah_Ne_offer, 6) := rfl
theorem ap_Rd_init : am_P0 m_Rd_init = some (am_code at_Rd_init, am_hd ah_Rd_init, 1) := rfl
theorem ap_Rd_read : am_P0 m_Rd_read = some (am_code at_Rd_read, am_hd ah_Rd_read, 5) := rfl
theorem ap_Rd_finish : am_P0 m_Rd_finish = some (am_code at_Rd_finish, am_hd ah_Rd_finish, 2) := rfl
theorem ap_Rd_readGraph : am_P0 m_Rd_readGraph = some (am_code at_Rd_readGraph, am_hd ah_Rd_readGraph, 2) := rfl
theorem ap_Rd_readStatement : am_P0 m_Rd_readStatement = some (am_code at_Rd_readStatement, am_hd ah_Rd_readStatement, 1) := rfl
theorem ap_Rd_readTerminal : am_P0 m_Rd_readTerminal = some (am_code at_Rd_readTerminal, am_hd ah_Rd_readTerminal, 2) := rfl
theorem ap_Rd_readEdge : am_P0 m_Rd_readEdge = some (am_code at_Rd_readEdge, am_hd ah_Rd_readEdge, 4) := rfl
theorem ap_Rd_readLoad : am_P0 m_Rd_readLoad = some (am_code at_Rd_readLoad, am_hd ah_Rd_readLoad, 3) := rfl
theorem ap_Rd_startCost : am_P0 m_Rd_startCost = some (am_code at_Rd_startCost, am_hd ah_Rd_startCost, 1) := rfl
theorem ap_Rd_readSum : am_P0 m_Rd_readSum = some (am_code at_Rd_readSum, am_hd ah_Rd_readSum, 5) := rfl
theorem ap_Rd_readTerm : am_P0 m_Rd_readTerm = some (am_code at_Rd_readTerm, am_hd ah_Rd_readTerm, 5) := rfl
theorem ap_Rd_readFactor : am_P0 m_Rd_readFactor = some (am_code at_Rd_readFactor, am_hd ah_Rd_readFactor, 3) := rfl
theorem ap_Rd_putCode : am_P0 m_Rd_putCode = some (am_code at_Rd_putCode, am_hd ah_Rd_putCode, 2) := rfl
theorem ap_Rd_readSymbol : am_P0 m_Rd_readSymbol = some (am_code at_Rd_readSymbol, am_hd ah_Rd_readSymbol, 2) := rfl
theorem ap_Rd_vertexHere : am_P0 m_Rd_vertexHere = some (am_code at_Rd_vertexHere, am_hd ah_Rd_vertexHere, 1) := rfl
theorem ap_Rd_numberHere : am_P0 m_Rd_numberHere = some (am_code at_Rd_numberHere, am_hd ah_Rd_numberHere, 3) := rfl
theorem ap_Rd_isWord : am_P0 m_Rd_isWord = some (am_code at_Rd_isWord, am_hd ah_Rd_isWord, 3) := rfl
theorem ap_Rd_fail : am_P0 m_Rd_fail = some (am_code at_Rd_fail, am_hd ah_Rd_fail, 2) := rfl
theorem ap_Rd_advance : am_P0 m_Rd_advance = some (am_code at_Rd_advance, am_hd ah_Rd_advance, 2) := rfl
theorem ap_Mc_init : am_P0 m_Mc_init = some (am_code at_Mc_init, am_hd ah_Mc_init, 1) := rfl
theorem ap_Mc_append : am_P0 m_Mc_append = some (am_code at_Mc_append, am_hd ah_Mc_append, 6) := rfl
theorem ap_Mc_putWord : am_P0 m_Mc_putWord = some (am_code at_Mc_putWord, am_hd ah_Mc_putWord, 3) := rfl
theorem ap_Mc_load : am_P0 m_Mc_load = some (am_code at_Mc_load, am_hd ah_Mc_load, 3) := rfl
theorem ap_Mc_errorOffset : am_P0 m_Mc_errorOffset = some (am_code at_Mc_errorOffset, am_hd ah_Mc_errorOffset, 1) := rfl
theorem ap_Mc_size : am_P0 m_Mc_size = some (am_code at_Mc_size, am_hd ah_Mc_size, 1) := rfl
theorem ap_Mc_edgeCount : am_P0 m_Mc_edgeCount = some (am_code at_Mc_edgeCount, am_hd ah_Mc_edgeCount, 1) := rfl
theorem ap_Mc_terminals : am_P0 m_Mc_terminals = some (am_code at_Mc_terminals, am_hd ah_Mc_terminals, 1) := rfl
theorem ap_Mc_burden : am_P0 m_Mc_burden = some (am_code at_Mc_burden, am_hd ah_Mc_burden, 2) := rfl
theorem ap_Mc_edge : am_P0 m_Mc_edge = some (am_code at_Mc_edge, am_hd ah_Mc_edge, 3) := rfl
theorem ap_Mc_cutCost : am_P0 m_Mc_cutCost = some (am_code at_Mc_cutCost, am_hd ah_Mc_cutCost, 2) := rfl
theorem ap_Mc_separates : am_P0 m_Mc_separates = some (am_code at_Mc_separates, am_hd ah_Mc_separates, 2) := rfl
theorem ap_Mc_isolatingValue : am_P0 m_Mc_isolatingValue = some (am_code at_Mc_isolatingValue, am_hd ah_Mc_isolatingValue, 2) := rfl
theorem ap_Mc_isolatingSet : am_P0 m_Mc_isolatingSet = some (am_code at_Mc_isolatingSet, am_hd ah_Mc_isolatingSet, 2) := rfl
theorem ap_Mc_lowerBound : am_P0 m_Mc_lowerBound = some (am_code at_Mc_lowerBound, am_hd ah_Mc_lowerBound, 3) := rfl
theorem ap_Mc_dearest : am_P0 m_Mc_dearest = some (am_code at_Mc_dearest, am_hd ah_Mc_dearest, 1) := rfl
theorem ap_Mc_unionCut : am_P0 m_Mc_unionCut = some (am_code at_Mc_unionCut, am_hd ah_Mc_unionCut, 1) := rfl
theorem ap_Mc_unionCost : am_P0 m_Mc_unionCost = some (am_code at_Mc_unionCost, am_hd ah_Mc_unionCost, 1) := rfl
theorem ap_Mc_rounds : am_P0 m_Mc_rounds = some (am_code at_Mc_rounds, am_hd ah_Mc_rounds, 1) := rfl
theorem ap_Mc_fixed : am_P0 m_Mc_fixed = some (am_code at_Mc_fixed, am_hd ah_Mc_fixed, 2) := rfl
theorem ap_Mc_exactCost : am_P0 m_Mc_exactCost = some (am_code at_Mc_exactCost, am_hd ah_Mc_exactCost, 1) := rfl
theorem ap_Mc_exact : am_P0 m_Mc_exact = some (am_code at_Mc_exact, am_hd ah_Mc_exact, 2) := rfl
theorem ap_Mc_price : am_P0 m_Mc_price = some (am_code at_Mc_price, am_hd ah_Mc_price, 3) := rfl
theorem ap_Mc_nearest : am_P0 m_Mc_nearest = some (am_code at_Mc_nearest, am_hd ah_Mc_nearest, 2) := rfl
theorem ap_Mc_distance : am_P0 m_Mc_distance = some (am_code at_Mc_distance, am_hd ah_Mc_distance, 2) := rfl
theorem ap_Mc_label : am_P0 m_Mc_label = some (am_code at_Mc_label, am_hd ah_Mc_label, 2) := rfl
theorem ap_Mc_cost : am_P0 m_Mc_cost = some (am_code at_Mc_cost, am_hd ah_Mc_cost, 1) := rfl
theorem ap_Mc_cut : am_P0 m_Mc_cut = some (am_code at_Mc_cut, am_hd ah_Mc_cut, 1) := rfl
theorem ap_Mc_ratio : am_P0 m_Mc_ratio = some (am_code at_Mc_ratio, am_hd ah_Mc_ratio, 3) := rfl
theorem ap_Mc_meanCost : am_P0 m_Mc_meanCost = some (am_code at_Mc_meanCost, am_hd ah_Mc_meanCost, 5) := rfl
theorem ap_Mc_bestMove : am_P0 m_Mc_bestMove = some (am_code at_Mc_bestMove, am_hd ah_Mc_bestMove, 2) := rfl
theorem ap_Mc_setLabel : am_P0 m_Mc_setLabel = some (am_code at_Mc_setLabel, am_hd ah_Mc_setLabel, 3) := rfl
theorem ap_Mc_useNearest : am_P0 m_Mc_useNearest = some (am_code at_Mc_useNearest, am_hd ah_Mc_useNearest, 1) := rfl
theorem ap_Mc_useUnion : am_P0 m_Mc_useUnion = some (am_code at_Mc_useUnion, am_hd ah_Mc_useUnion, 1) := rfl
theorem ap_Mc_useExact : am_P0 m_Mc_useExact = some (am_code at_Mc_useExact, am_hd ah_Mc_useExact, 1) := rfl
theorem ap_Mc_improve : am_P0 m_Mc_improve = some (am_code at_Mc_improve, am_hd ah_Mc_improve, 3) := rfl
theorem ap_Mc_setWeight : am_P0 m_Mc_setWeight = some (am_code at_Mc_setWeight, am_hd ah_Mc_setWeight, 4) := rfl
theorem ap_Mc_addEdge : am_P0 m_Mc_addEdge = some (am_code at_Mc_addEdge, am_hd ah_Mc_addEdge, 4) := rfl
theorem ap_Mc_removeEdge : am_P0 m_Mc_removeEdge = some (am_code at_Mc_removeEdge, am_hd ah_Mc_removeEdge, 2) := rfl
theorem ap_Mc_setTerminal : am_P0 m_Mc_setTerminal = some (am_code at_Mc_setTerminal, am_hd ah_Mc_setTerminal, 4) := rfl
theorem ap_Mc_undo : am_P0 m_Mc_undo = some (am_code at_Mc_undo, am_hd ah_Mc_undo, 1) := rfl
theorem ap_Mc_checksum : am_P0 m_Mc_checksum = some (am_code at_Mc_checksum, am_hd ah_Mc_checksum, 4) := rfl
theorem ap_Mc_requireVertex : am_P0 m_Mc_requireVertex = some (am_code at_Mc_requireVertex, am_hd ah_Mc_requireVertex, 2) := rfl
theorem ap_Mc_requireEdge : am_P0 m_Mc_requireEdge = some (am_code at_Mc_requireEdge, am_hd ah_Mc_requireEdge, 2) := rfl
theorem ap_Mc_requireTerminal : am_P0 m_Mc_requireTerminal = some (am_code at_Mc_requireTerminal, am_hd ah_Mc_requireTerminal, 2) := rfl
theorem ap_Mc_requireSomeTerminal : am_P0 m_Mc_requireSomeTerminal = some (am_code at_Mc_requireSomeTerminal, am_hd ah_Mc_requireSomeTerminal, 1) := rfl
theorem ap_Mc_requireWeight : am_P0 m_Mc_requireWeight = some (am_code at_Mc_requireWeight, am_hd ah_Mc_requireWeight, 2) := rfl
theorem ap_Mo_init : am_P0 m_Mo_init = some (am_code at_Mo_init, am_hd ah_Mo_init, 1) := rfl
theorem ap_Mo_thrown : am_P0 m_Mo_thrown = some (am_code at_Mo_thrown, am_hd ah_Mo_thrown, 1) := rfl
theorem ap_Mo_isIn : am_P0 m_Mo_isIn = some (am_code at_Mo_isIn, am_hd ah_Mo_isIn, 6) := rfl
theorem ap_Mo_get : am_P0 m_Mo_get = some (am_code at_Mo_get, am_hd ah_Mo_get, 2) := rfl
theorem ap_Mo_put : am_P0 m_Mo_put = some (am_code at_Mo_put, am_hd ah_Mo_put, 3) := rfl
theorem ap_Mo_change : am_P0 m_Mo_change = some (am_code at_Mo_change, am_hd ah_Mo_change, 3) := rfl
theorem ap_Mo_right : am_P0 m_Mo_right = some (am_code at_Mo_right, am_hd ah_Mo_right, 3) := rfl
theorem ap_Mo_append : am_P0 m_Mo_append = some (am_code at_Mo_append, am_hd ah_Mo_append, 8) := rfl
theorem ap_Mo_fails : am_P0 m_Mo_fails = some (am_code at_Mo_fails, am_hd ah_Mo_fails, 3) := rfl
theorem ap_Mo_sees : am_P0 m_Mo_sees = some (am_code at_Mo_sees, am_hd ah_Mo_sees, 1) := rfl
theorem ap_Mo_takes : am_P0 m_Mo_takes = some (am_code at_Mo_takes, am_hd ah_Mo_takes, 5) := rfl
theorem ap_Mo_wants : am_P0 m_Mo_wants = some (am_code at_Mo_wants, am_hd ah_Mo_wants, 2) := rfl
theorem ap_Mo_isDigit : am_P0 m_Mo_isDigit = some (am_code at_Mo_isDigit, am_hd ah_Mo_isDigit, 1) := rfl
theorem ap_Mo_reads : am_P0 m_Mo_reads = some (am_code at_Mo_reads, am_hd ah_Mo_reads, 4) := rfl
theorem ap_Mo_codes : am_P0 m_Mo_codes = some (am_code at_Mo_codes, am_hd ah_Mo_codes, 4) := rfl
theorem ap_Mo_sum : am_P0 m_Mo_sum = some (am_code at_Mo_sum, am_hd ah_Mo_sum, 2) := rfl
theorem ap_Mo_term : am_P0 m_Mo_term = some (am_code at_Mo_term, am_hd ah_Mo_term, 2) := rfl
theorem ap_Mo_factor : am_P0 m_Mo_factor = some (am_code at_Mo_factor, am_hd ah_Mo_factor, 2) := rfl
theorem ap_Mo_readsVertex : am_P0 m_Mo_readsVertex = some (am_code at_Mo_readsVertex, am_hd ah_Mo_readsVertex, 1) := rfl
theorem ap_Mo_terminalLine : am_P0 m_Mo_terminalLine = some (am_code at_Mo_terminalLine, am_hd ah_Mo_terminalLine, 3) := rfl
theorem ap_Mo_bitsOf : am_P0 m_Mo_bitsOf = some (am_code at_Mo_bitsOf, am_hd ah_Mo_bitsOf, 3) := rfl
theorem ap_Mo_isJoined : am_P0 m_Mo_isJoined = some (am_code at_Mo_isJoined, am_hd ah_Mo_isJoined, 4) := rfl
theorem ap_Mo_edgeLine : am_P0 m_Mo_edgeLine = some (am_code at_Mo_edgeLine, am_hd ah_Mo_edgeLine, 6) := rfl
theorem ap_Mo_loadLine : am_P0 m_Mo_loadLine = some (am_code at_Mo_loadLine, am_hd ah_Mo_loadLine, 3) := rfl
theorem ap_Mo_statement : am_P0 m_Mo_statement = some (am_code at_Mo_statement, am_hd ah_Mo_statement, 2) := rfl
theorem ap_Mo_texts : am_P0 m_Mo_texts = some (am_code at_Mo_texts, am_hd ah_Mo_texts, 2) := rfl
theorem ap_Mo_load : am_P0 m_Mo_load = some (am_code at_Mo_load, am_hd ah_Mo_load, 3) := rfl
theorem ap_Mo_errorOffset : am_P0 m_Mo_errorOffset = some (am_code at_Mo_errorOffset, am_hd ah_Mo_errorOffset, 1) := rfl
theorem ap_Mo_within : am_P0 m_Mo_within = some (am_code at_Mo_within, am_hd ah_Mo_within, 4) := rfl
theorem ap_Mo_costOf : am_P0 m_Mo_costOf = some (am_code at_Mo_costOf, am_hd ah_Mo_costOf, 11) := rfl
theorem ap_Mo_laysCosts : am_P0 m_Mo_laysCosts = some (am_code at_Mo_laysCosts, am_hd ah_Mo_laysCosts, 2) := rfl
theorem ap_Mo_count : am_P0 m_Mo_count = some (am_code at_Mo_count, am_hd ah_Mo_count, 1) := rfl
theorem ap_Mo_edges : am_P0 m_Mo_edges = some (am_code at_Mo_edges, am_hd ah_Mo_edges, 1) := rfl
theorem ap_Mo_low : am_P0 m_Mo_low = some (am_code at_Mo_low, am_hd ah_Mo_low, 2) := rfl
theorem ap_Mo_high : am_P0 m_Mo_high = some (am_code at_Mo_high, am_hd ah_Mo_high, 2) := rfl
theorem ap_Mo_has : am_P0 m_Mo_has = some (am_code at_Mo_has, am_hd ah_Mo_has, 2) := rfl
theorem ap_Mo_isTerminal : am_P0 m_Mo_isTerminal = some (am_code at_Mo_isTerminal, am_hd ah_Mo_isTerminal, 2) := rfl
theorem ap_Mo_all : am_P0 m_Mo_all = some (am_code at_Mo_all, am_hd ah_Mo_all, 1) := rfl
theorem ap_Mo_cutOf : am_P0 m_Mo_cutOf = some (am_code at_Mo_cutOf, am_hd ah_Mo_cutOf, 4) := rfl
theorem ap_Mo_bestSet : am_P0 m_Mo_bestSet = some (am_code at_Mo_bestSet, am_hd ah_Mo_bestSet, 8) := rfl
theorem ap_Mo_isolating : am_P0 m_Mo_isolating = some (am_code at_Mo_isolating, am_hd ah_Mo_isolating, 2) := rfl
theorem ap_Mo_laysIsolating : am_P0 m_Mo_laysIsolating = some (am_code at_Mo_laysIsolating, am_hd ah_Mo_laysIsolating, 2) := rfl
theorem ap_Mo_dearestNow : am_P0 m_Mo_dearestNow = some (am_code at_Mo_dearestNow, am_hd ah_Mo_dearestNow, 3) := rfl
theorem ap_Mo_othersOf : am_P0 m_Mo_othersOf = some (am_code at_Mo_othersOf, am_hd ah_Mo_othersOf, 4) := rfl
theorem ap_Mo_goesRound : am_P0 m_Mo_goesRound = some (am_code at_Mo_goesRound, am_hd ah_Mo_goesRound, 4) := rfl
theorem ap_Mo_laysGroups : am_P0 m_Mo_laysGroups = some (am_code at_Mo_laysGroups, am_hd ah_Mo_laysGroups, 2) := rfl
theorem ap_Mo_costBy : am_P0 m_Mo_costBy = some (am_code at_Mo_costBy, am_hd ah_Mo_costBy, 4) := rfl
theorem ap_Mo_goesOn : am_P0 m_Mo_goesOn = some (am_code at_Mo_goesOn, am_hd ah_Mo_goesOn, 4) := rfl
theorem ap_Mo_laysExact : am_P0 m_Mo_laysExact = some (am_code at_Mo_laysExact, am_hd ah_Mo_laysExact, 4) := rfl
theorem ap_Mo_exactNow : am_P0 m_Mo_exactNow = some (am_code at_Mo_exactNow, am_hd ah_Mo_exactNow, 1) := rfl
theorem ap_Mo_costNow : am_P0 m_Mo_costNow = some (am_code at_Mo_costNow, am_hd ah_Mo_costNow, 2) := rfl
theorem ap_Mo_lengthOf : am_P0 m_Mo_lengthOf = some (am_code at_Mo_lengthOf, am_hd ah_Mo_lengthOf, 2) := rfl
theorem ap_Mo_laysFar : am_P0 m_Mo_laysFar = some (am_code at_Mo_laysFar, am_hd ah_Mo_laysFar, 6) := rfl
theorem ap_Mo_laysNear : am_P0 m_Mo_laysNear = some (am_code at_Mo_laysNear, am_hd ah_Mo_laysNear, 3) := rfl
theorem ap_Mo_size : am_P0 m_Mo_size = some (am_code at_Mo_size, am_hd ah_Mo_size, 1) := rfl
theorem ap_Mo_edgeCount : am_P0 m_Mo_edgeCount = some (am_code at_Mo_edgeCount, am_hd ah_Mo_edgeCount, 1) := rfl
theorem ap_Mo_terminals : am_P0 m_Mo_terminals = some (am_code at_Mo_terminals, am_hd ah_Mo_terminals, 1) := rfl
theorem ap_Mo_isVertex : am_P0 m_Mo_isVertex = some (am_code at_Mo_isVertex, am_hd ah_Mo_isVertex, 2) := rfl
theorem ap_Mo_burden : am_P0 m_Mo_burden = some (am_code at_Mo_burden, am_hd ah_Mo_burden, 2) := rfl
theorem ap_Mo_edge : am_P0 m_Mo_edge = some (am_code at_Mo_edge, am_hd ah_Mo_edge, 3) := rfl
theorem ap_Mo_cutCost : am_P0 m_Mo_cutCost = some (am_code at_Mo_cutCost, am_hd ah_Mo_cutCost, 2) := rfl
theorem ap_Mo_separates : am_P0 m_Mo_separates = some (am_code at_Mo_separates, am_hd ah_Mo_separates, 5) := rfl
theorem ap_Mo_mustBe : am_P0 m_Mo_mustBe = some (am_code at_Mo_mustBe, am_hd ah_Mo_mustBe, 2) := rfl
theorem ap_Mo_isolatingValue : am_P0 m_Mo_isolatingValue = some (am_code at_Mo_isolatingValue, am_hd ah_Mo_isolatingValue, 3) := rfl
theorem ap_Mo_isolatingSet : am_P0 m_Mo_isolatingSet = some (am_code at_Mo_isolatingSet, am_hd ah_Mo_isolatingSet, 2) := rfl
theorem ap_Mo_lowerBound : am_P0 m_Mo_lowerBound = some (am_code at_Mo_lowerBound, am_hd ah_Mo_lowerBound, 3) := rfl
theorem ap_Mo_hasTerminal : am_P0 m_Mo_hasTerminal = some (am_code at_Mo_hasTerminal, am_hd ah_Mo_hasTerminal, 1) := rfl
theorem ap_Mo_dearest : am_P0 m_Mo_dearest = some (am_code at_Mo_dearest, am_hd ah_Mo_dearest, 1) := rfl
theorem ap_Mo_unionNow : am_P0 m_Mo_unionNow = some (am_code at_Mo_unionNow, am_hd ah_Mo_unionNow, 5) := rfl
theorem ap_Mo_unionCut : am_P0 m_Mo_unionCut = some (am_code at_Mo_unionCut, am_hd ah_Mo_unionCut, 1) := rfl
theorem ap_Mo_unionCost : am_P0 m_Mo_unionCost = some (am_code at_Mo_unionCost, am_hd ah_Mo_unionCost, 4) := rfl
theorem ap_Mo_rounds : am_P0 m_Mo_rounds = some (am_code at_Mo_rounds, am_hd ah_Mo_rounds, 1) := rfl
theorem ap_Mo_fixed : am_P0 m_Mo_fixed = some (am_code at_Mo_fixed, am_hd ah_Mo_fixed, 3) := rfl
theorem ap_Mo_exactCost : am_P0 m_Mo_exactCost = some (am_code at_Mo_exactCost, am_hd ah_Mo_exactCost, 1) := rfl
theorem ap_Mo_exact : am_P0 m_Mo_exact = some (am_code at_Mo_exact, am_hd ah_Mo_exact, 3) := rfl
theorem ap_Mo_price : am_P0 m_Mo_price = some (am_code at_Mo_price, am_hd ah_Mo_price, 3) := rfl
theorem ap_Mo_nearest : am_P0 m_Mo_nearest = some (am_code at_Mo_nearest, am_hd ah_Mo_nearest, 2) := rfl
theorem ap_Mo_distance : am_P0 m_Mo_distance = some (am_code at_Mo_distance, am_hd ah_Mo_distance, 2) := rfl
theorem ap_Mo_label : am_P0 m_Mo_label = some (am_code at_Mo_label, am_hd ah_Mo_label, 2) := rfl
theorem ap_Mo_cost : am_P0 m_Mo_cost = some (am_code at_Mo_cost, am_hd ah_Mo_cost, 1) := rfl
theorem ap_Mo_cut : am_P0 m_Mo_cut = some (am_code at_Mo_cut, am_hd ah_Mo_cut, 3) := rfl
theorem ap_Mo_ratio : am_P0 m_Mo_ratio = some (am_code at_Mo_ratio, am_hd ah_Mo_ratio, 3) := rfl
theorem ap_Mo_meanCost : am_P0 m_Mo_meanCost = some (am_code at_Mo_meanCost, am_hd ah_Mo_meanCost, 5) := rfl
theorem ap_Mo_laysMove : am_P0 m_Mo_laysMove = some (am_code at_Mo_laysMove, am_hd ah_Mo_laysMove, 5) := rfl
theorem ap_Mo_bestMove : am_P0 m_Mo_bestMove = some (am_code at_Mo_bestMove, am_hd ah_Mo_bestMove, 2) := rfl
theorem ap_Mo_setLabel : am_P0 m_Mo_setLabel = some (am_code at_Mo_setLabel, am_hd ah_Mo_setLabel, 4) := rfl
theorem ap_Mo_useNearest : am_P0 m_Mo_useNearest = some (am_code at_Mo_useNearest, am_hd ah_Mo_useNearest, 2) := rfl
theorem ap_Mo_useUnion : am_P0 m_Mo_useUnion = some (am_code at_Mo_useUnion, am_hd ah_Mo_useUnion, 5) := rfl
theorem ap_Mo_useExact : am_P0 m_Mo_useExact = some (am_code at_Mo_useExact, am_hd ah_Mo_useExact, 3) := rfl
theorem ap_Mo_improve : am_P0 m_Mo_improve = some (am_code at_Mo_improve, am_hd ah_Mo_improve, 3) := rfl
theorem ap_Mo_isEdge : am_P0 m_Mo_isEdge = some (am_code at_Mo_isEdge, am_hd ah_Mo_isEdge, 2) := rfl
theorem ap_Mo_setWeight : am_P0 m_Mo_setWeight = some (am_code at_Mo_setWeight, am_hd ah_Mo_setWeight, 4) := rfl
theorem ap_Mo_areJoined : am_P0 m_Mo_areJoined = some (am_code at_Mo_areJoined, am_hd ah_Mo_areJoined, 4) := rfl
theorem ap_Mo_addEdge : am_P0 m_Mo_addEdge = some (am_code at_Mo_addEdge, am_hd ah_Mo_addEdge, 5) := rfl
theorem ap_Mo_removeEdge : am_P0 m_Mo_removeEdge = some (am_code at_Mo_removeEdge, am_hd ah_Mo_removeEdge, 4) := rfl
theorem ap_Mo_setTerminal : am_P0 m_Mo_setTerminal = some (am_code at_Mo_setTerminal, am_hd ah_Mo_setTerminal, 5) := rfl
theorem ap_Mo_undo : am_P0 m_Mo_undo = some (am_code at_Mo_undo, am_hd ah_Mo_undo, 1) := rfl
theorem ap_Mo_checksum : am_P0 m_Mo_checksum = some (am_code at_Mo_checksum, am_hd ah_Mo_checksum, 5) := rfl
theorem ap_JI_bitCount : am_P0 m_JI_bitCount = some (am_code at_JI_bitCount, am_hd ah_JI_bitCount, 1) := rfl
theorem ap_JA_fill : am_P0 m_JA_fill = some (am_code at_JA_fill, am_hd ah_JA_fill, 4) := rfl
theorem ap_JA_copyOf : am_P0 m_JA_copyOf = some (am_code at_JA_copyOf, am_hd ah_JA_copyOf, 3) := rfl
theorem ap_La_load : am_P0 m_La_load = some (am_code at_La_load, am_hd ah_La_load, 4) := rfl
theorem ap_La_burden : am_P0 m_La_burden = some (am_code at_La_burden, am_hd ah_La_burden, 4) := rfl
theorem ap_La_edge : am_P0 m_La_edge = some (am_code at_La_edge, am_hd ah_La_edge, 5) := rfl
theorem ap_La_cutCost : am_P0 m_La_cutCost = some (am_code at_La_cutCost, am_hd ah_La_cutCost, 4) := rfl
theorem ap_La_separates : am_P0 m_La_separates = some (am_code at_La_separates, am_hd ah_La_separates, 4) := rfl
theorem ap_La_isolatingValue : am_P0 m_La_isolatingValue = some (am_code at_La_isolatingValue, am_hd ah_La_isolatingValue, 4) := rfl
theorem ap_La_isolatingSet : am_P0 m_La_isolatingSet = some (am_code at_La_isolatingSet, am_hd ah_La_isolatingSet, 4) := rfl
theorem ap_La_dearest : am_P0 m_La_dearest = some (am_code at_La_dearest, am_hd ah_La_dearest, 3) := rfl
theorem ap_La_unionCut : am_P0 m_La_unionCut = some (am_code at_La_unionCut, am_hd ah_La_unionCut, 3) := rfl
theorem ap_La_unionCost : am_P0 m_La_unionCost = some (am_code at_La_unionCost, am_hd ah_La_unionCost, 3) := rfl
theorem ap_La_fixed : am_P0 m_La_fixed = some (am_code at_La_fixed, am_hd ah_La_fixed, 4) := rfl
theorem ap_La_exact : am_P0 m_La_exact = some (am_code at_La_exact, am_hd ah_La_exact, 4) := rfl
theorem ap_La_price : am_P0 m_La_price = some (am_code at_La_price, am_hd ah_La_price, 4) := rfl
theorem ap_La_nearest : am_P0 m_La_nearest = some (am_code at_La_nearest, am_hd ah_La_nearest, 4) := rfl
theorem ap_La_distance : am_P0 m_La_distance = some (am_code at_La_distance, am_hd ah_La_distance, 4) := rfl
theorem ap_La_label : am_P0 m_La_label = some (am_code at_La_label, am_hd ah_La_label, 4) := rfl
theorem ap_La_bestMove : am_P0 m_La_bestMove = some (am_code at_La_bestMove, am_hd ah_La_bestMove, 4) := rfl
theorem ap_La_setLabel : am_P0 m_La_setLabel = some (am_code at_La_setLabel, am_hd ah_La_setLabel, 5) := rfl
theorem ap_La_useUnion : am_P0 m_La_useUnion = some (am_code at_La_useUnion, am_hd ah_La_useUnion, 3) := rfl
theorem ap_La_improve : am_P0 m_La_improve = some (am_code at_La_improve, am_hd ah_La_improve, 4) := rfl
theorem ap_La_setWeight : am_P0 m_La_setWeight = some (am_code at_La_setWeight, am_hd ah_La_setWeight, 5) := rfl
theorem ap_La_addEdge : am_P0 m_La_addEdge = some (am_code at_La_addEdge, am_hd ah_La_addEdge, 6) := rfl
theorem ap_La_removeEdge : am_P0 m_La_removeEdge = some (am_code at_La_removeEdge, am_hd ah_La_removeEdge, 4) := rfl
theorem ap_La_setTerminal : am_P0 m_La_setTerminal = some (am_code at_La_setTerminal, am_hd ah_La_setTerminal, 5) := rfl
theorem ap_La_law : am_P0 m_La_law = some (am_code at_La_law, am_hd ah_La_law, 9) := rfl
end
section
/-! the resolved program is the printed one: decided -/
def am_isr (ci k : Nat) : Bool := match am_ty ci k with
  | .int => false
  | .boolean => false
  | _ => true
def am_dec (cc : ByteArray) (pc : Nat) : Option (Instr × Nat) := match decode cc pc with
  | .ok x => some x
  | _ => none
theorem am_dec_of {cc : ByteArray} {pc : Nat} {x : Instr × Nat} (h : am_dec cc pc = some x) : decode cc pc = .ok x := by
  unfold am_dec at h
  split at h
  · cases h; assumption
  · cases h
def am_tgt (pc : Nat) (off t : Int) : Bool := decide ((pc : Int) + off = t) && decide (0 ≤ t)
def am_kind (m : Nat) : Nat := match am_inf[m]? with
  | some i => i.2.2.2.2.2.2
  | none => 9
def am_mcls (m : Nat) : Nat := match am_inf[m]? with
  | some i => i.2.1
  | none => 99
def am_npar (m : Nat) : Nat := match am_inf[m]? with
  | some i => ((parseMethodDescriptor i.1.desc).map (fun d => d.parameters.length)).getD 99
  | none => 99
def am_okb (own kind : Nat) (cc : ByteArray) (ret : Option FieldType) (pc : Nat) (op : Instr) (nx : Nat) : Bool :=
  match op with
  | .ldc k => match am_dec cc pc with
    | some (.iconst n, 1) => decide (Int32.ofInt n = nI k) && nx == pc + 1
    | some (.bipush n, 2) => decide ((Int8.ofInt n).toInt32 = nI k) && nx == pc + 2
    | some (.sipush n, 3) => decide ((Int16.ofInt n).toInt32 = nI k) && nx == pc + 3
    | some (.ldc i, 2) => am_il_.contains (own, i, (k : Int)) && nx == pc + 2
    | some (.ldc_w i, 3) => am_il_.contains (own, i, (k : Int)) && nx == pc + 3
    | _ => false
  | .ldc_w k => match am_dec cc pc with
    | some (.iconst n, 1) => decide (Int32.ofInt n = -nI k) && nx == pc + 1
    | some (.bipush n, 2) => decide ((Int8.ofInt n).toInt32 = -nI k) && nx == pc + 2
    | some (.sipush n, 3) => decide ((Int16.ofInt n).toInt32 = -nI k) && nx == pc + 3
    | _ => false
  | .ldc2_w k => match am_dec cc pc with
    | some (.lconst l, 1) => decide (Int64.ofNat (l : Nat) = lN k) && nx == pc + 1
    | some (.ldc2_w i, 3) => am_ll_.contains (own, i, (k : Int)) && nx == pc + 3
    | _ => false
  | .goto_w k => match am_dec cc pc with
    | some (.ldc2_w i, 3) => am_ll_.contains (own, i, k) && nx == pc + 3
    | _ => false
  | .invokedynamic k => match am_dec cc pc with
    | some (.fconst 0, 1) => decide (FP.fconst0 = UInt32.ofNat k) && nx == pc + 1
    | some (.fconst 1, 1) => decide (FP.fconst1 = UInt32.ofNat k) && nx == pc + 1
    | some (.ldc i, 2) => am_ff_.contains (own, i, k) && nx == pc + 2
    | some (.ldc_w i, 3) => am_ff_.contains (own, i, k) && nx == pc + 3
    | _ => false
  | .invokeinterface j _ => match am_dec cc pc with
    | some (.ldc i, 2) => am_sl_.contains (own, i, j) && nx == pc + 2
    | _ => false
  | .pop => match am_dec cc pc with
    | some (.pop, 1) => nx == pc + 1
    | _ => false
  | .pop2 => match am_dec cc pc with
    | some (.invokespecial i, 3) => am_ol_.contains (own, i) && nx == pc + 3
    | _ => false
  | .goto t => match am_dec cc pc with
    | some (.goto off, 3) => am_tgt pc off t && nx == pc + 3
    | _ => false
  | .if_icmp c t => match am_dec cc pc with
    | some (.if_icmp c' off, 3) => decide (c' = c) && am_tgt pc off t && nx == pc + 3
    | _ => false
  | .ifCond c t => match am_dec cc pc with
    | some (.ifCond c' off, 3) => decide (c' = c) && am_tgt pc off t && nx == pc + 3
    | _ => false
  | .ifnull t => match am_dec cc pc with
    | some (.ifnull off, 3) => am_tgt pc off t && nx == pc + 3
    | _ => false
  | .tableswitch d lo hi offs => match am_dec cc pc with
    | some (.tableswitch d' lo' hi' offs', _) => am_tgt pc d' d && decide (lo' = lo) && decide (hi' = hi) && decide (offs'.size = offs.size) && decide (hi - lo + 1 = (offs.size : Int)) && (List.range offs.size).all (fun i => am_tgt pc (offs'.getD i 0) (offs.getD i (-1)))
    | _ => false
  | .getfield e => match am_dec cc pc with
    | some (.getfield i, 3) => am_fl_.contains (own, i, e) && am_isr (e / 64) (e % 64) == false && nx == pc + 3
    | _ => false
  | .getstatic e => match am_dec cc pc with
    | some (.getfield i, 3) => am_fl_.contains (own, i, e) && am_isr (e / 64) (e % 64) == true && nx == pc + 3
    | _ => false
  | .putfield e => match am_dec cc pc with
    | some (.putfield i, 3) => am_fl_.contains (own, i, e) && decide (am_ty (e / 64) (e % 64) = .int) && (!(am_tf (e / 64) (e % 64)).2.2.2 || (kind == 2 && own == e / 64)) && nx == pc + 3
    | _ => false
  | .putstatic e => match am_dec cc pc with
    | some (.putfield i, 3) => am_fl_.contains (own, i, e) && decide (am_ty (e / 64) (e % 64) = .boolean) && (!(am_tf (e / 64) (e % 64)).2.2.2 || (kind == 2 && own == e / 64)) && nx == pc + 3
    | _ => false
  | .checkcast e => match am_dec cc pc with
    | some (.putfield i, 3) => am_fl_.contains (own, i, e) && am_isr (e / 64) (e % 64) == true && (!(am_tf (e / 64) (e % 64)).2.2.2 || (kind == 2 && own == e / 64)) && nx == pc + 3
    | _ => false
  | .saload => match am_dec cc pc with
    | some (.baload, 1) => nx == pc + 1
    | _ => false
  | .sastore => match am_dec cc pc with
    | some (.bastore, 1) => nx == pc + 1
    | _ => false
  | .daload => match am_dec cc pc with
    | some (.iaload, 1) => nx == pc + 1
    | _ => false
  | .monitorenter => match am_dec cc pc with
    | some (.arraylength, 1) => nx == pc + 1
    | _ => false
  | .new e => match am_dec cc pc with
    | some (.new i, 3) => am_cl_.contains (own, i, e) && nx == pc + 3
    | _ => false
  | .anewarray t => match am_dec cc pc with
    | some (.newarray .int, 2) => t == 2 && nx == pc + 2
    | some (.newarray .byte, 2) => t == 3 && nx == pc + 2
    | some (.newarray .boolean, 2) => t == 4 && nx == pc + 2
    | some (.newarray .long, 2) => t == 5 && nx == pc + 2
    | some (.anewarray i, 3) => t == 6 && am_cl_.contains (own, i, 138) && nx == pc + 3
    | _ => false
  | .multianewarray _ _ => match am_dec cc pc with
    | some (.invokestatic i, 3) => am_al_.contains (own, i) && nx == pc + 3
    | _ => false
  | .dadd => match am_dec cc pc with
    | some (.invokestatic i, 3) => am_mm_.contains (own, i, 0) && nx == pc + 3
    | _ => false
  | .dsub => match am_dec cc pc with
    | some (.invokestatic i, 3) => am_mm_.contains (own, i, 1) && nx == pc + 3
    | _ => false
  | .dmul => match am_dec cc pc with
    | some (.invokestatic i, 3) => am_mm_.contains (own, i, 2) && nx == pc + 3
    | _ => false
  | .ddiv => match am_dec cc pc with
    | some (.invokestatic i, 3) => am_mm_.contains (own, i, 3) && nx == pc + 3
    | _ => false
  | .monitorexit => match am_dec cc pc with
    | some (.invokevirtual i, 3) => am_s1_.contains (own, i) && nx == pc + 3
    | _ => false
  | .instanceof _ => match am_dec cc pc with
    | some (.invokevirtual i, 3) => am_s2_.contains (own, i) && nx == pc + 3
    | _ => false
  | .ireturn => decide (am_dec cc pc = some (.ireturn, 1)) && decide (ret = some .int)
  | .areturn => decide (am_dec cc pc = some (.ireturn, 1)) && decide (ret = some .boolean)
  | .dreturn => decide (am_dec cc pc = some (.areturn, 1)) && decide (ret = some (.array .int))
  | .lreturn => decide (am_dec cc pc = some (.lreturn, 1)) && decide (ret = some .long)
  | .freturn => decide (am_dec cc pc = some (.freturn, 1)) && decide (ret = some .float)
  | .return_ => decide (am_dec cc pc = some (.return_, 1)) && decide (ret = none)
  | .jsr t => match am_dec cc pc, am_dec cc (pc + 3), am_dec cc (pc + 4) with
    | some (.new ik, 3), some (.dup, 1), some (.ldc is, 2) => match am_dec cc (pc + 6), am_dec cc (pc + 9) with
      | some (.invokespecial ic, 3), some (.athrow, 1) => am_xl_.any (fun q => decide (q.1 = own) && decide (q.2.1 = ik) && decide (q.2.2.1 = is) && decide (q.2.2.2.1 = ic) && decide ((q.2.2.2.2.1 : Int) = t))
      | _, _ => false
    | some (.new ik, 3), some (.dup, 1), some (.ldc_w is, 3) => match am_dec cc (pc + 7), am_dec cc (pc + 10) with
      | some (.invokespecial ic, 3), some (.athrow, 1) => am_xl_.any (fun q => decide (q.1 = own) && decide (q.2.1 = ik) && decide (q.2.2.1 = is) && decide (q.2.2.2.1 = ic) && decide ((q.2.2.2.2.1 : Int) = t))
      | _, _ => false
    | _, _, _ => false
  | .invokestatic e => match am_dec cc pc with
    | some (.invokestatic i, 3) => am_ml_.contains (own, i, e / 16) && am_kind (e / 16) == 1 && am_npar (e / 16) == e % 16 && nx == pc + 3
    | _ => false
  | .invokevirtual e => match am_dec cc pc with
    | some (.invokevirtual i, 3) => am_ml_.contains (own, i, e / 16 % 512) && am_kind (e / 16 % 512) == 0 && am_npar (e / 16 % 512) == e % 16 && am_mcls (e / 16 % 512) == e / 8192 && nx == pc + 3
    | some (.invokespecial i, 3) => (am_ml_.contains (own, i, e / 16 % 512) || am_nl_.contains (own, i, e / 16 % 512)) && am_kind (e / 16 % 512) == 2 && am_npar (e / 16 % 512) == e % 16 && am_mcls (e / 16 % 512) == e / 8192 && nx == pc + 3
    | _ => false
  | .iload i => match am_dec cc pc with
    | some (.iload j, 2) => j == i && nx == pc + 2
    | some (.iload_n j, 1) => j.val == i && nx == pc + 1
    | _ => false
  | .aload i => match am_dec cc pc with
    | some (.aload j, 2) => j == i && nx == pc + 2
    | some (.aload_n j, 1) => j.val == i && nx == pc + 1
    | _ => false
  | .lload i => match am_dec cc pc with
    | some (.lload j, 2) => j == i && nx == pc + 2
    | some (.lload_n j, 1) => j.val == i && nx == pc + 1
    | _ => false
  | .fload i => match am_dec cc pc with
    | some (.fload j, 2) => j == i && nx == pc + 2
    | some (.fload_n j, 1) => j.val == i && nx == pc + 1
    | _ => false
  | .dload i => match am_dec cc pc with
    | some (.dload j, 2) => j == i && nx == pc + 2
    | some (.dload_n j, 1) => j.val == i && nx == pc + 1
    | _ => false
  | .istore i => match am_dec cc pc with
    | some (.istore j, 2) => j == i && nx == pc + 2
    | some (.istore_n j, 1) => j.val == i && nx == pc + 1
    | _ => false
  | .astore i => match am_dec cc pc with
    | some (.astore j, 2) => j == i && nx == pc + 2
    | some (.astore_n j, 1) => j.val == i && nx == pc + 1
    | _ => false
  | .lstore i => match am_dec cc pc with
    | some (.lstore j, 2) => j == i && nx == pc + 2
    | some (.lstore_n j, 1) => j.val == i && nx == pc + 1
    | _ => false
  | .fstore i => match am_dec cc pc with
    | some (.fstore j, 2) => j == i && nx == pc + 2
    | some (.fstore_n j, 1) => j.val == i && nx == pc + 1
    | _ => false
  | .dstore i => match am_dec cc pc with
    | some (.dstore j, 2) => j == i && nx == pc + 2
    | some (.dstore_n j, 1) => j.val == i && nx == pc + 1
    | _ => false
  | .iinc i n => match am_dec cc pc with
    | some (.iinc j k, 3) => j == i && decide (k = n) && nx == pc + 3
    | _ => false
  | .iadd | .isub | .imul | .idiv | .irem | .iand | .ior | .ixor | .ishl | .ishr | .iushr | .i2l | .l2i | .i2b | .i2f | .ladd | .lsub | .lmul | .ldiv | .lneg | .lcmp | .fadd | .fmul | .fdiv | .f2d | .dup | .dup2 | .iaload | .baload | .laload | .aaload | .iastore | .bastore | .lastore | .aastore | .arraylength | .aconst_null => decide (am_dec cc pc = some (op, 1)) && nx == pc + 1
  | .dcmp _ => decide (am_dec cc pc = some (op, 1)) && nx == pc + 1
  | _ => false
def am_okt (i : am_I) (t : am_T) : Bool := t.all (fun l => l.all (fun q => am_okb i.2.1 i.2.2.2.2.2.2 i.2.2.1 i.2.2.2.2.1 q.1 q.2.1 q.2.2))
end
section
/-! the links and the classes: decided -/
theorem am_il_ok : ∀ q ∈ am_il_, Cond.constant (am_cn q.1) q.2.1 (Int32.ofInt q.2.2) ∈ lw_tbl := by decide +kernel
theorem am_ll_ok : ∀ q ∈ am_ll_, Cond.constantLong (am_cn q.1) q.2.1 (Int64.ofInt q.2.2) ∈ lw_tbl := by decide +kernel
theorem am_ff_ok : ∀ q ∈ am_ff_, Cond.constantFloat (am_cn q.1) q.2.1 (UInt32.ofNat q.2.2) ∈ lw_tbl := by decide +kernel
theorem am_fl_ok : ∀ q ∈ am_fl_, Cond.fieldLink (am_cn q.1) q.2.1 (am_tf (q.2.2 / 64) (q.2.2 % 64)).1 (am_tf (q.2.2 / 64) (q.2.2 % 64)).2.1 (am_tf (q.2.2 / 64) (q.2.2 % 64)).2.2.1 ∈ lw_tbl := by decide +kernel
theorem am_fl_ok2 : ∀ q ∈ am_fl_, q.2.2 / 64 < 10 ∧ q.2.2 % 64 < am_nf (q.2.2 / 64) := by decide +kernel
theorem am_cl_ok : ∀ q ∈ am_cl_, Cond.classLink (am_cn q.1) q.2.1 (am_cn (q.2.2 / 64)) ∈ lw_tbl := by decide +kernel
theorem am_cl_ok2 : ∀ q ∈ am_cl_, q.2.2 / 64 < 10 ∧ q.2.2 % 64 = am_nf (q.2.2 / 64) := by decide +kernel
theorem am_ol_ok : ∀ q ∈ am_ol_, Cond.methodLink (am_cn q.1) q.2 objectInit ∈ lw_tbl := by decide +kernel
theorem am_al_ok : ∀ q ∈ am_al_, Cond.methodLink (am_cn q.1) q.2 arraycopyName ∈ lw_tbl := by decide +kernel
theorem am_ci_ok : ∀ k, k < 10 → Cond.instantiable (am_cn k) (am_nf k) ∈ lw_tbl ∧ Cond.initialized (am_cn k) ∈ lw_tbl ∧ (∀ w ∈ u_ws (am_cn k) (am_tf k) (am_nf k), w ∈ lw_tbl ∧ goodWord w = true) ∧ am_cl[k]? = some (am_cn k, am_tf k, am_nf k) := by
  intro k hk
  match k, hk with
  | 0, _ => exact ⟨by decide +kernel, by decide +kernel, by decide +kernel, rfl⟩
  | 1, _ => exact ⟨by decide +kernel, by decide +kernel, by decide +kernel, rfl⟩
  | 2, _ => exact ⟨by decide +kernel, by decide +kernel, by decide +kernel, rfl⟩
  | 3, _ => exact ⟨by decide +kernel, by decide +kernel, by decide +kernel, rfl⟩
  | 4, _ => exact ⟨by decide +kernel, by decide +kernel, by decide +kernel, rfl⟩
  | 5, _ => exact ⟨by decide +kernel, by decide +kernel, by decide +kernel, rfl⟩
  | 6, _ => exact ⟨by decide +kernel, by decide +kernel, by decide +kernel, rfl⟩
  | 7, _ => exact ⟨by decide +kernel, by decide +kernel, by decide +kernel, rfl⟩
  | 8, _ => exact ⟨by decide +kernel, by decide +kernel, by decide +kernel, rfl⟩
  | 9, _ => exact ⟨by decide +kernel, by decide +kernel, by decide +kernel, rfl⟩
theorem am_ty_ok : ∀ c, c < 10 → ∀ k, k < am_nf c → parseFieldDescriptor (am_tf c k).2.2.1 = some (am_ty c k) := by
  intro c hc
  match c, hc with
  | 0, _ => exact tyX1_ok
  | 1, _ => exact tyX2_ok
  | 2, _ => exact tyX3_ok
  | 3, _ => exact tyX4_ok
  | 4, _ => exact tyX5_ok
  | 5, _ => exact tyX6_ok
  | 6, _ => exact tyX7_ok
  | 7, _ => exact tyX8_ok
  | 8, _ => exact tyX9_ok
  | 9, _ => exact tyX10_ok
theorem am_nm_ok : ∀ c, c < 10 → ∀ a, a < am_nf c → ∀ b, b < am_nf c → a ≠ b → (am_tf c a).2.1 ≠ (am_tf c b).2.1 := by
  intro c hc
  match c, hc with
  | 0, _ => exact nmX1
  | 1, _ => exact nmX2
  | 2, _ => exact nmX3
  | 3, _ => exact nmX4
  | 4, _ => exact nmX5
  | 5, _ => exact nmX6
  | 6, _ => exact nmX7
  | 7, _ => exact nmX8
  | 8, _ => exact nmX9
  | 9, _ => exact nmX10
theorem am_own_ok : ∀ c, c < 10 → ∀ k, k < am_nf c → (am_tf c k).1 = am_cn c := by
  intro c hc
  match c, hc with
  | 0, _ => decide +kernel
  | 1, _ => decide +kernel
  | 2, _ => decide +kernel
  | 3, _ => decide +kernel
  | 4, _ => decide +kernel
  | 5, _ => decide +kernel
  | 6, _ => decide +kernel
  | 7, _ => decide +kernel
  | 8, _ => decide +kernel
  | 9, _ => decide +kernel
theorem am_ty_all : ∀ c, c < 10 → ∀ k, k < am_nf c → am_ty c k = .int ∨ am_ty c k = .boolean ∨ (am_isr c k = true ∧ defaultValue (am_ty c k) = .null ∧ (∀ a, narrow (am_ty c k) (.ref a) = .ref a ∧ fits (am_ty c k) (.ref a) = true) ∧ narrow (am_ty c k) .null = .null ∧ fits (am_ty c k) .null = true) := by
  have key : ∀ t : FieldType, ((∃ n, t = .object n) ∨ ∃ e, t = .array e) → defaultValue t = .null ∧ (∀ a, narrow t (.ref a) = .ref a ∧ fits t (.ref a) = true) ∧ narrow t .null = .null ∧ fits t .null = true := by
    rintro t (⟨n, rfl⟩ | ⟨e, rfl⟩) <;> exact ⟨rfl, fun a => ⟨rfl, rfl⟩, rfl, rfl⟩
  have h2 : ∀ c, c < 10 → ∀ k, k < am_nf c → am_ty c k = .int ∨ am_ty c k = .boolean ∨ am_isr c k = true := by decide +kernel
  intro c hc k hk
  rcases h2 c hc k hk with h | h | h
  · exact Or.inl h
  · exact Or.inr (Or.inl h)
  · refine Or.inr (Or.inr ⟨h, key _ ?_⟩)
    have h3 : ∀ c, c < 10 → ∀ k, k < am_nf c → am_ty c k = .int ∨ am_ty c k = .boolean ∨ (match am_ty c k with | .object _ => true | .array _ => true | _ => false) = true := by decide +kernel
    rcases h3 c hc k hk with z | z | z
    · unfold am_isr at h; rw [z] at h; cases h
    · unfold am_isr at h; rw [z] at h; cases h
    · cases e : am_ty c k <;> rw [e] at z <;> first | exact Or.inl ⟨_, rfl⟩ | exact Or.inr ⟨_, rfl⟩ | cases z
theorem am_sl_lt : ∀ q ∈ am_sl_, q.2.2 < 1000000 := by decide +kernel
def am_mmn (k : Nat) : MethodName := match k with
  | 0 => ⟨"java/lang/Math", "max", "(II)I"⟩
  | 1 => ⟨"java/lang/Math", "min", "(II)I"⟩
  | 2 => ⟨"java/lang/Math", "max", "(JJ)J"⟩
  | _ => ⟨"java/lang/Math", "min", "(JJ)J"⟩
theorem am_mm_ok : ∀ q ∈ am_mm_, Cond.methodLink (am_cn q.1) q.2.1 (am_mmn q.2.2) ∈ lw_tbl := by decide +kernel
end
section
/-! what the tables say of each method, by places -/
def am_cw (i : am_I) : Cond := match i.2.2.2.2.2.1 with
  | [] => Cond.code i.1 i.2.2.1 i.2.2.2.1 i.2.2.2.2.1
  | h :: t => Cond.codeWith i.1 i.2.2.1 i.2.2.2.1 i.2.2.2.2.1 (h :: t)
def am_y (m : Nat) : MethodName := match am_inf[m]? with
  | some i => i.1
  | none => ⟨"", "", ""⟩
def am_kw (i : am_I) : Prop := match i.2.2.2.2.2.2 with
  | 0 => Cond.instanceMethod i.1 ∈ lw_tbl ∧ Cond.selects i.1.cls i.1 i.1 ∈ lw_tbl ∧ i.2.2.2.2.2.1 = []
  | 1 => Cond.static i.1 ∈ lw_tbl
  | _ => Cond.instanceMethod i.1 ∈ lw_tbl ∧ i.1.name = "<init>" ∧ i.2.2.2.2.1 = none ∧ i.2.2.2.2.2.1 = []
def am_mok (i : am_I) : Prop := (plainName i.1.cls = true ∧ goodWord (am_cw i) = true ∧ i.2.2.2.1 ≤ 45 ∧ am_cn i.2.1 = i.1.cls ∧ i.1.cls ≠ "java/lang/invoke/MethodHandle" ∧ i.1.cls ≠ "java/lang/invoke/VarHandle") ∧ am_cw i ∈ lw_tbl ∧ Cond.initialized i.1.cls ∈ lw_tbl ∧ am_kw i
set_option maxRecDepth 100000 in
theorem aq_Cu_keepsApart : am_mok am_i_Cu_keepsApart := ⟨⟨by decide +kernel, rfl, by decide +kernel, rfl, by decide +kernel, by decide +kernel⟩, List.mem_of_getElem? (i := 877) rfl, List.mem_of_getElem? (i := 105) (by decide +kernel), List.mem_of_getElem? (i := 876) (by decide +kernel)⟩
set_option maxRecDepth 100000 in
theorem aq_Cu_reachedFrom : am_mok am_i_Cu_reachedFrom := ⟨⟨by decide +kernel, rfl, by decide +kernel, rfl, by decide +kernel, by decide +kernel⟩, List.mem_of_getElem? (i := 880) rfl, List.mem_of_getElem? (i := 105) (by decide +kernel), List.mem_of_getElem? (i := 879) (by decide +kernel)⟩
set_option maxRecDepth 100000 in
theorem aq_Cu_cheapestSet : am_mok am_i_Cu_cheapestSet := ⟨⟨by decide +kernel, rfl, by decide +kernel, rfl, by decide +kernel, by decide +kernel⟩, List.mem_of_getElem? (i := 401) rfl, List.mem_of_getElem? (i := 105) (by decide +kernel), List.mem_of_getElem? (i := 400) (by decide +kernel)⟩
set_option maxRecDepth 100000 in
theorem aq_Cu_setOf : am_mok am_i_Cu_setOf := ⟨⟨by decide +kernel, rfl, by decide +kernel, rfl, by decide +kernel, by decide +kernel⟩, List.mem_of_getElem? (i := 394) rfl, List.mem_of_getElem? (i := 105) (by decide +kernel), List.mem_of_getElem? (i := 393) (by decide +kernel)⟩
set_option maxRecDepth 100000 in
theorem aq_Cu_valueOf : am_mok am_i_Cu_valueOf := ⟨⟨by decide +kernel, rfl, by decide +kernel, rfl, by decide +kernel, by decide +kernel⟩, List.mem_of_getElem? (i := 391) rfl, List.mem_of_getElem? (i := 105) (by decide +kernel), List.mem_of_getElem? (i := 390) (by decide +kernel)⟩
set_option maxRecDepth 100000 in
theorem aq_Cu_dearestOf : am_mok am_i_Cu_dearestOf := ⟨⟨by decide +kernel, rfl, by decide +kernel, rfl, by decide +kernel, by decide +kernel⟩, List.mem_of_getElem? (i := 933) rfl, List.mem_of_getElem? (i := 105) (by decide +kernel), List.mem_of_getElem? (i := 932) (by decide +kernel)⟩
set_option maxRecDepth 100000 in
theorem aq_Cu_unionOf : am_mok am_i_Cu_unionOf := ⟨⟨by decide +kernel, rfl, by decide +kernel, rfl, by decide +kernel, by decide +kernel⟩, List.mem_of_getElem? (i := 944) rfl, List.mem_of_getElem? (i := 105) (by decide +kernel), List.mem_of_getElem? (i := 943) (by decide +kernel)⟩
set_option maxRecDepth 100000 in
theorem aq_Cu_labelByUnion : am_mok am_i_Cu_labelByUnion := ⟨⟨by decide +kernel, rfl, by decide +kernel, rfl, by decide +kernel, by decide +kernel⟩, List.mem_of_getElem? (i := 1036) rfl, List.mem_of_getElem? (i := 105) (by decide +kernel), List.mem_of_getElem? (i := 1035) (by decide +kernel)⟩
set_option maxRecDepth 100000 in
theorem aq_Cu_labelSet : am_mok am_i_Cu_labelSet := ⟨⟨by decide +kernel, rfl, by decide +kernel, rfl, by decide +kernel, by decide +kernel⟩, List.mem_of_getElem? (i := 1040) rfl, List.mem_of_getElem? (i := 105) (by decide +kernel), List.mem_of_getElem? (i := 1039) (by decide +kernel)⟩
set_option maxRecDepth 100000 in
theorem aq_Ex_init : am_mok am_i_Ex_init := ⟨⟨by decide +kernel, rfl, by decide +kernel, rfl, by decide +kernel, by decide +kernel⟩, List.mem_of_getElem? (i := 274) rfl, List.mem_of_getElem? (i := 87) (by decide +kernel), ⟨List.mem_of_getElem? (i := 273) (by decide +kernel), rfl, rfl, rfl⟩⟩
set_option maxRecDepth 100000 in
theorem aq_Ex_run : am_mok am_i_Ex_run := ⟨⟨by decide +kernel, rfl, by decide +kernel, rfl, by decide +kernel, by decide +kernel⟩, List.mem_of_getElem? (i := 446) rfl, List.mem_of_getElem? (i := 87) (by decide +kernel), ⟨List.mem_of_getElem? (i := 444) (by decide +kernel), List.mem_of_getElem? (i := 445) (by decide +kernel), rfl⟩⟩
set_option maxRecDepth 100000 in
theorem aq_Ex_extend : am_mok am_i_Ex_extend := ⟨⟨by decide +kernel, rfl, by decide +kernel, rfl, by decide +kernel, by decide +kernel⟩, List.mem_of_getElem? (i := 453) rfl, List.mem_of_getElem? (i := 87) (by decide +kernel), List.mem_of_getElem? (i := 452) (by decide +kernel)⟩
set_option maxRecDepth 100000 in
theorem aq_Ex_costToEarlier : am_mok am_i_Ex_costToEarlier := ⟨⟨by decide +kernel, rfl, by decide +kernel, rfl, by decide +kernel, by decide +kernel⟩, List.mem_of_getElem? (i := 460) rfl, List.mem_of_getElem? (i := 87) (by decide +kernel), ⟨List.mem_of_getElem? (i := 459) (by decide +kernel), List.mem_of_getElem? (i := 3) (by decide +kernel), rfl⟩⟩
set_option maxRecDepth 100000 in
theorem aq_Fo_init : am_mok am_i_Fo_init := ⟨⟨by decide +kernel, rfl, by decide +kernel, rfl, by decide +kernel, by decide +kernel⟩, List.mem_of_getElem? (i := 782) rfl, List.mem_of_getElem? (i := 102) (by decide +kernel), ⟨List.mem_of_getElem? (i := 781) (by decide +kernel), rfl, rfl, rfl⟩⟩
set_option maxRecDepth 100000 in
theorem aq_Fo_evaluate : am_mok am_i_Fo_evaluate := ⟨⟨by decide +kernel, rfl, by decide +kernel, rfl, by decide +kernel, by decide +kernel⟩, List.mem_of_getElem? (i := 798) rfl, List.mem_of_getElem? (i := 102) (by decide +kernel), ⟨List.mem_of_getElem? (i := 796) (by decide +kernel), List.mem_of_getElem? (i := 797) (by decide +kernel), rfl⟩⟩
set_option maxRecDepth 100000 in
theorem aq_Fo_operand : am_mok am_i_Fo_operand := ⟨⟨by decide +kernel, rfl, by decide +kernel, rfl, by decide +kernel, by decide +kernel⟩, List.mem_of_getElem? (i := 812) rfl, List.mem_of_getElem? (i := 102) (by decide +kernel), List.mem_of_getElem? (i := 811) (by decide +kernel)⟩
set_option maxRecDepth 100000 in
theorem aq_Fo_combine : am_mok am_i_Fo_combine := ⟨⟨by decide +kernel, rfl, by decide +kernel, rfl, by decide +kernel, by decide +kernel⟩, List.mem_of_getElem? (i := 801) rfl, List.mem_of_getElem? (i := 102) (by decide +kernel), List.mem_of_getElem? (i := 800) (by decide +kernel)⟩
set_option maxRecDepth 100000 in
theorem aq_Gr_init : am_mok am_i_Gr_init := ⟨⟨by decide +kernel, rfl, by decide +kernel, rfl, by decide +kernel, by decide +kernel⟩, List.mem_of_getElem? (i := 119) rfl, List.mem_of_getElem? (i := 83) (by decide +kernel), ⟨List.mem_of_getElem? (i := 118) (by decide +kernel), rfl, rfl, rfl⟩⟩
set_option maxRecDepth 100000 in
theorem aq_Gr_clear : am_mok am_i_Gr_clear := ⟨⟨by decide +kernel, rfl, by decide +kernel, rfl, by decide +kernel, by decide +kernel⟩, List.mem_of_getElem? (i := 620) rfl, List.mem_of_getElem? (i := 83) (by decide +kernel), ⟨List.mem_of_getElem? (i := 618) (by decide +kernel), List.mem_of_getElem? (i := 619) (by decide +kernel), rfl⟩⟩
set_option maxRecDepth 100000 in
theorem aq_Gr_copyFrom : am_mok am_i_Gr_copyFrom := ⟨⟨by decide +kernel, rfl, by decide +kernel, rfl, by decide +kernel, by decide +kernel⟩, List.mem_of_getElem? (i := 499) rfl, List.mem_of_getElem? (i := 83) (by decide +kernel), ⟨List.mem_of_getElem? (i := 497) (by decide +kernel), List.mem_of_getElem? (i := 498) (by decide +kernel), rfl⟩⟩
set_option maxRecDepth 100000 in
theorem aq_Gr_hasVertex : am_mok am_i_Gr_hasVertex := ⟨⟨by decide +kernel, rfl, by decide +kernel, rfl, by decide +kernel, by decide +kernel⟩, List.mem_of_getElem? (i := 388) rfl, List.mem_of_getElem? (i := 83) (by decide +kernel), ⟨List.mem_of_getElem? (i := 386) (by decide +kernel), List.mem_of_getElem? (i := 387) (by decide +kernel), rfl⟩⟩
set_option maxRecDepth 100000 in
theorem aq_Gr_isTerminal : am_mok am_i_Gr_isTerminal := ⟨⟨by decide +kernel, rfl, by decide +kernel, rfl, by decide +kernel, by decide +kernel⟩, List.mem_of_getElem? (i := 384) rfl, List.mem_of_getElem? (i := 83) (by decide +kernel), ⟨List.mem_of_getElem? (i := 382) (by decide +kernel), List.mem_of_getElem? (i := 383) (by decide +kernel), rfl⟩⟩
set_option maxRecDepth 100000 in
theorem aq_Gr_allVertices : am_mok am_i_Gr_allVertices := ⟨⟨by decide +kernel, rfl, by decide +kernel, rfl, by decide +kernel, by decide +kernel⟩, List.mem_of_getElem? (i := 398) rfl, List.mem_of_getElem? (i := 83) (by decide +kernel), ⟨List.mem_of_getElem? (i := 396) (by decide +kernel), List.mem_of_getElem? (i := 397) (by decide +kernel), rfl⟩⟩
set_option maxRecDepth 100000 in
theorem aq_Gr_hasEdgeBetween : am_mok am_i_Gr_hasEdgeBetween := ⟨⟨by decide +kernel, rfl, by decide +kernel, rfl, by decide +kernel, by decide +kernel⟩, List.mem_of_getElem? (i := 720) rfl, List.mem_of_getElem? (i := 83) (by decide +kernel), ⟨List.mem_of_getElem? (i := 718) (by decide +kernel), List.mem_of_getElem? (i := 719) (by decide +kernel), rfl⟩⟩
set_option maxRecDepth 100000 in
theorem aq_Gr_endsOf : am_mok am_i_Gr_endsOf := ⟨⟨by decide +kernel, rfl, by decide +kernel, rfl, by decide +kernel, by decide +kernel⟩, List.mem_of_getElem? (i := 724) rfl, List.mem_of_getElem? (i := 83) (by decide +kernel), ⟨List.mem_of_getElem? (i := 722) (by decide +kernel), List.mem_of_getElem? (i := 723) (by decide +kernel), rfl⟩⟩
set_option maxRecDepth 100000 in
theorem aq_Gr_lengthOf : am_mok am_i_Gr_lengthOf := ⟨⟨by decide +kernel, rfl, by decide +kernel, rfl, by decide +kernel, by decide +kernel⟩, List.mem_of_getElem? (i := 512) rfl, List.mem_of_getElem? (i := 83) (by decide +kernel), ⟨List.mem_of_getElem? (i := 510) (by decide +kernel), List.mem_of_getElem? (i := 511) (by decide +kernel), rfl⟩⟩
set_option maxRecDepth 100000 in
theorem aq_Gr_putEdge : am_mok am_i_Gr_putEdge := ⟨⟨by decide +kernel, rfl, by decide +kernel, rfl, by decide +kernel, by decide +kernel⟩, List.mem_of_getElem? (i := 728) rfl, List.mem_of_getElem? (i := 83) (by decide +kernel), ⟨List.mem_of_getElem? (i := 726) (by decide +kernel), List.mem_of_getElem? (i := 727) (by decide +kernel), rfl⟩⟩
set_option maxRecDepth 100000 in
theorem aq_Gr_updateCost : am_mok am_i_Gr_updateCost := ⟨⟨by decide +kernel, rfl, by decide +kernel, rfl, by decide +kernel, by decide +kernel⟩, List.mem_of_getElem? (i := 794) rfl, List.mem_of_getElem? (i := 83) (by decide +kernel), ⟨List.mem_of_getElem? (i := 792) (by decide +kernel), List.mem_of_getElem? (i := 793) (by decide +kernel), rfl⟩⟩
set_option maxRecDepth 100000 in
theorem aq_Gr_dropEdge : am_mok am_i_Gr_dropEdge := ⟨⟨by decide +kernel, rfl, by decide +kernel, rfl, by decide +kernel, by decide +kernel⟩, List.mem_of_getElem? (i := 1088) rfl, List.mem_of_getElem? (i := 83) (by decide +kernel), ⟨List.mem_of_getElem? (i := 1086) (by decide +kernel), List.mem_of_getElem? (i := 1087) (by decide +kernel), rfl⟩⟩
set_option maxRecDepth 100000 in
theorem aq_Gr_startTerminal : am_mok am_i_Gr_startTerminal := ⟨⟨by decide +kernel, rfl, by decide +kernel, rfl, by decide +kernel, by decide +kernel⟩, List.mem_of_getElem? (i := 1100) rfl, List.mem_of_getElem? (i := 83) (by decide +kernel), ⟨List.mem_of_getElem? (i := 1098) (by decide +kernel), List.mem_of_getElem? (i := 1099) (by decide +kernel), rfl⟩⟩
set_option maxRecDepth 100000 in
theorem aq_Gr_endTerminal : am_mok am_i_Gr_endTerminal := ⟨⟨by decide +kernel, rfl, by decide +kernel, rfl, by decide +kernel, by decide +kernel⟩, List.mem_of_getElem? (i := 1104) rfl, List.mem_of_getElem? (i := 83) (by decide +kernel), ⟨List.mem_of_getElem? (i := 1102) (by decide +kernel), List.mem_of_getElem? (i := 1103) (by decide +kernel), rfl⟩⟩
set_option maxRecDepth 100000 in
theorem aq_Gr_takeLabels : am_mok am_i_Gr_takeLabels := ⟨⟨by decide +kernel, rfl, by decide +kernel, rfl, by decide +kernel, by decide +kernel⟩, List.mem_of_getElem? (i := 520) rfl, List.mem_of_getElem? (i := 83) (by decide +kernel), ⟨List.mem_of_getElem? (i := 518) (by decide +kernel), List.mem_of_getElem? (i := 519) (by decide +kernel), rfl⟩⟩
set_option maxRecDepth 100000 in
theorem aq_Gr_borderOf : am_mok am_i_Gr_borderOf := ⟨⟨by decide +kernel, rfl, by decide +kernel, rfl, by decide +kernel, by decide +kernel⟩, List.mem_of_getElem? (i := 409) rfl, List.mem_of_getElem? (i := 83) (by decide +kernel), ⟨List.mem_of_getElem? (i := 407) (by decide +kernel), List.mem_of_getElem? (i := 408) (by decide +kernel), rfl⟩⟩
set_option maxRecDepth 100000 in
theorem aq_Gr_costOfEdges : am_mok am_i_Gr_costOfEdges := ⟨⟨by decide +kernel, rfl, by decide +kernel, rfl, by decide +kernel, by decide +kernel⟩, List.mem_of_getElem? (i := 413) rfl, List.mem_of_getElem? (i := 83) (by decide +kernel), ⟨List.mem_of_getElem? (i := 411) (by decide +kernel), List.mem_of_getElem? (i := 412) (by decide +kernel), rfl⟩⟩
set_option maxRecDepth 100000 in
theorem aq_Gr_costOfSet : am_mok am_i_Gr_costOfSet := ⟨⟨by decide +kernel, rfl, by decide +kernel, rfl, by decide +kernel, by decide +kernel⟩, List.mem_of_getElem? (i := 405) rfl, List.mem_of_getElem? (i := 83) (by decide +kernel), ⟨List.mem_of_getElem? (i := 403) (by decide +kernel), List.mem_of_getElem? (i := 404) (by decide +kernel), rfl⟩⟩
set_option maxRecDepth 100000 in
theorem aq_Gr_presentCut : am_mok am_i_Gr_presentCut := ⟨⟨by decide +kernel, rfl, by decide +kernel, rfl, by decide +kernel, by decide +kernel⟩, List.mem_of_getElem? (i := 472) rfl, List.mem_of_getElem? (i := 83) (by decide +kernel), ⟨List.mem_of_getElem? (i := 470) (by decide +kernel), List.mem_of_getElem? (i := 471) (by decide +kernel), rfl⟩⟩
set_option maxRecDepth 100000 in
theorem aq_Gr_presentCost : am_mok am_i_Gr_presentCost := ⟨⟨by decide +kernel, rfl, by decide +kernel, rfl, by decide +kernel, by decide +kernel⟩, List.mem_of_getElem? (i := 468) rfl, List.mem_of_getElem? (i := 83) (by decide +kernel), ⟨List.mem_of_getElem? (i := 466) (by decide +kernel), List.mem_of_getElem? (i := 467) (by decide +kernel), rfl⟩⟩
set_option maxRecDepth 100000 in
theorem aq_Gp_init : am_mok am_i_Gp_init := ⟨⟨by decide +kernel, rfl, by decide +kernel, rfl, by decide +kernel, by decide +kernel⟩, List.mem_of_getElem? (i := 260) rfl, List.mem_of_getElem? (i := 86) (by decide +kernel), ⟨List.mem_of_getElem? (i := 259) (by decide +kernel), rfl, rfl, rfl⟩⟩
set_option maxRecDepth 100000 in
theorem aq_Gp_run : am_mok am_i_Gp_run := ⟨⟨by decide +kernel, rfl, by decide +kernel, rfl, by decide +kernel, by decide +kernel⟩, List.mem_of_getElem? (i := 427) rfl, List.mem_of_getElem? (i := 86) (by decide +kernel), ⟨List.mem_of_getElem? (i := 425) (by decide +kernel), List.mem_of_getElem? (i := 426) (by decide +kernel), rfl⟩⟩
set_option maxRecDepth 100000 in
theorem aq_Gp_makeRound : am_mok am_i_Gp_makeRound := ⟨⟨by decide +kernel, rfl, by decide +kernel, rfl, by decide +kernel, by decide +kernel⟩, List.mem_of_getElem? (i := 432) rfl, List.mem_of_getElem? (i := 86) (by decide +kernel), ⟨List.mem_of_getElem? (i := 431) (by decide +kernel), List.mem_of_getElem? (i := 1) (by decide +kernel), rfl⟩⟩
set_option maxRecDepth 100000 in
theorem aq_Gp_grouped : am_mok am_i_Gp_grouped := ⟨⟨by decide +kernel, rfl, by decide +kernel, rfl, by decide +kernel, by decide +kernel⟩, List.mem_of_getElem? (i := 437) rfl, List.mem_of_getElem? (i := 86) (by decide +kernel), ⟨List.mem_of_getElem? (i := 436) (by decide +kernel), List.mem_of_getElem? (i := 2) (by decide +kernel), rfl⟩⟩
set_option maxRecDepth 100000 in
theorem aq_Gp_ownerOf : am_mok am_i_Gp_ownerOf := ⟨⟨by decide +kernel, rfl, by decide +kernel, rfl, by decide +kernel, by decide +kernel⟩, List.mem_of_getElem? (i := 965) rfl, List.mem_of_getElem? (i := 86) (by decide +kernel), ⟨List.mem_of_getElem? (i := 963) (by decide +kernel), List.mem_of_getElem? (i := 964) (by decide +kernel), rfl⟩⟩
set_option maxRecDepth 100000 in
theorem aq_Hi_init : am_mok am_i_Hi_init := ⟨⟨by decide +kernel, rfl, by decide +kernel, rfl, by decide +kernel, by decide +kernel⟩, List.mem_of_getElem? (i := 190) rfl, List.mem_of_getElem? (i := 84) (by decide +kernel), ⟨List.mem_of_getElem? (i := 189) (by decide +kernel), rfl, rfl, rfl⟩⟩
set_option maxRecDepth 100000 in
theorem aq_Hi_save : am_mok am_i_Hi_save := ⟨⟨by decide +kernel, rfl, by decide +kernel, rfl, by decide +kernel, by decide +kernel⟩, List.mem_of_getElem? (i := 495) rfl, List.mem_of_getElem? (i := 84) (by decide +kernel), ⟨List.mem_of_getElem? (i := 493) (by decide +kernel), List.mem_of_getElem? (i := 494) (by decide +kernel), rfl⟩⟩
set_option maxRecDepth 100000 in
theorem aq_Hi_restore : am_mok am_i_Hi_restore := ⟨⟨by decide +kernel, rfl, by decide +kernel, rfl, by decide +kernel, by decide +kernel⟩, List.mem_of_getElem? (i := 532) rfl, List.mem_of_getElem? (i := 84) (by decide +kernel), ⟨List.mem_of_getElem? (i := 530) (by decide +kernel), List.mem_of_getElem? (i := 531) (by decide +kernel), rfl⟩⟩
set_option maxRecDepth 100000 in
theorem aq_Mv_init : am_mok am_i_Mv_init := ⟨⟨by decide +kernel, rfl, by decide +kernel, rfl, by decide +kernel, by decide +kernel⟩, List.mem_of_getElem? (i := 307) rfl, List.mem_of_getElem? (i := 89) (by decide +kernel), ⟨List.mem_of_getElem? (i := 306) (by decide +kernel), rfl, rfl, rfl⟩⟩
set_option maxRecDepth 100000 in
theorem aq_Mv_run : am_mok am_i_Mv_run := ⟨⟨by decide +kernel, rfl, by decide +kernel, rfl, by decide +kernel, by decide +kernel⟩, List.mem_of_getElem? (i := 1012) rfl, List.mem_of_getElem? (i := 89) (by decide +kernel), ⟨List.mem_of_getElem? (i := 1010) (by decide +kernel), List.mem_of_getElem? (i := 1011) (by decide +kernel), rfl⟩⟩
set_option maxRecDepth 100000 in
theorem aq_Mv_consider : am_mok am_i_Mv_consider := ⟨⟨by decide +kernel, rfl, by decide +kernel, rfl, by decide +kernel, by decide +kernel⟩, List.mem_of_getElem? (i := 1017) rfl, List.mem_of_getElem? (i := 89) (by decide +kernel), ⟨List.mem_of_getElem? (i := 1016) (by decide +kernel), List.mem_of_getElem? (i := 27) (by decide +kernel), rfl⟩⟩
set_option maxRecDepth 100000 in
theorem aq_Mv_makeImprovement : am_mok am_i_Mv_makeImprovement := ⟨⟨by decide +kernel, rfl, by decide +kernel, rfl, by decide +kernel, by decide +kernel⟩, List.mem_of_getElem? (i := 1052) rfl, List.mem_of_getElem? (i := 89) (by decide +kernel), ⟨List.mem_of_getElem? (i := 1050) (by decide +kernel), List.mem_of_getElem? (i := 1051) (by decide +kernel), rfl⟩⟩
set_option maxRecDepth 100000 in
theorem aq_Ne_init : am_mok am_i_Ne_init := ⟨⟨by decide +kernel, rfl, by decide +kernel, rfl, by decide +kernel, by decide +kernel⟩, List.mem_of_getElem? (i := 292) rfl, List.mem_of_getElem? (i := 88) (by decide +kernel), ⟨List.mem_of_getElem? (i := 291) (by decide +kernel), rfl, rfl, rfl⟩⟩
set_option maxRecDepth 100000 in
theorem aq_Ne_run : am_mok am_i_Ne_run := ⟨⟨by decide +kernel, rfl, by decide +kernel, rfl, by decide +kernel, by decide +kernel⟩, List.mem_of_getElem? (i := 507) rfl, List.mem_of_getElem? (i := 88) (by decide +kernel), ⟨List.mem_of_getElem? (i := 505) (by decide +kernel), List.mem_of_getElem? (i := 506) (by decide +kernel), rfl⟩⟩
set_option maxRecDepth 100000 in
theorem aq_Ne_offer : am_mok am_i_Ne_offer := ⟨⟨by decide +kernel, rfl, by decide +kernel, rfl, by decide +kernel, by decide +kernel⟩, List.mem_of_getElem? (i := 516) rfl, List.mem_of_getElem? (i := 88) (by decide +kernel), ⟨List.mem_of_getElem? (i := 515) (by decide +kernel), List.mem_of_getElem? (i := 4) (by decide +kernel), rfl⟩⟩
set_option maxRecDepth 100000 in
theorem aq_Rd_init : am_mok am_i_Rd_init := ⟨⟨by decide +kernel, rfl, by decide +kernel, rfl, by decide +kernel, by decide +kernel⟩, List.mem_of_getElem? (i := 209) rfl, List.mem_of_getElem? (i := 85) (by decide +kernel), ⟨List.mem_of_getElem? (i := 208) (by decide +kernel), rfl, rfl, rfl⟩⟩
set_option maxRecDepth 100000 in
theorem aq_Rd_read : am_mok am_i_Rd_read := ⟨⟨by decide +kernel, rfl, by decide +kernel, rfl, by decide +kernel, by decide +kernel⟩, List.mem_of_getElem? (i := 616) rfl, List.mem_of_getElem? (i := 85) (by decide +kernel), ⟨List.mem_of_getElem? (i := 614) (by decide +kernel), List.mem_of_getElem? (i := 615) (by decide +kernel), rfl⟩⟩
set_option maxRecDepth 100000 in
theorem aq_Rd_finish : am_mok am_i_Rd_finish := ⟨⟨by decide +kernel, rfl, by decide +kernel, rfl, by decide +kernel, by decide +kernel⟩, List.mem_of_getElem? (i := 765) rfl, List.mem_of_getElem? (i := 85) (by decide +kernel), ⟨List.mem_of_getElem? (i := 764) (by decide +kernel), List.mem_of_getElem? (i := 22) (by decide +kernel), rfl⟩⟩
set_option maxRecDepth 100000 in
theorem aq_Rd_readGraph : am_mok am_i_Rd_readGraph := ⟨⟨by decide +kernel, rfl, by decide +kernel, rfl, by decide +kernel, by decide +kernel⟩, List.mem_of_getElem? (i := 631) rfl, List.mem_of_getElem? (i := 85) (by decide +kernel), ⟨List.mem_of_getElem? (i := 630) (by decide +kernel), List.mem_of_getElem? (i := 7) (by decide +kernel), rfl⟩⟩
set_option maxRecDepth 100000 in
theorem aq_Rd_readStatement : am_mok am_i_Rd_readStatement := ⟨⟨by decide +kernel, rfl, by decide +kernel, rfl, by decide +kernel, by decide +kernel⟩, List.mem_of_getElem? (i := 700) rfl, List.mem_of_getElem? (i := 85) (by decide +kernel), ⟨List.mem_of_getElem? (i := 699) (by decide +kernel), List.mem_of_getElem? (i := 12) (by decide +kernel), rfl⟩⟩
set_option maxRecDepth 100000 in
theorem aq_Rd_readTerminal : am_mok am_i_Rd_readTerminal := ⟨⟨by decide +kernel, rfl, by decide +kernel, rfl, by decide +kernel, by decide +kernel⟩, List.mem_of_getElem? (i := 705) rfl, List.mem_of_getElem? (i := 85) (by decide +kernel), ⟨List.mem_of_getElem? (i := 704) (by decide +kernel), List.mem_of_getElem? (i := 13) (by decide +kernel), rfl⟩⟩
set_option maxRecDepth 100000 in
theorem aq_Rd_readEdge : am_mok am_i_Rd_readEdge := ⟨⟨by decide +kernel, rfl, by decide +kernel, rfl, by decide +kernel, by decide +kernel⟩, List.mem_of_getElem? (i := 716) rfl, List.mem_of_getElem? (i := 85) (by decide +kernel), ⟨List.mem_of_getElem? (i := 715) (by decide +kernel), List.mem_of_getElem? (i := 15) (by decide +kernel), rfl⟩⟩
set_option maxRecDepth 100000 in
theorem aq_Rd_readLoad : am_mok am_i_Rd_readLoad := ⟨⟨by decide +kernel, rfl, by decide +kernel, rfl, by decide +kernel, by decide +kernel⟩, List.mem_of_getElem? (i := 737) rfl, List.mem_of_getElem? (i := 85) (by decide +kernel), ⟨List.mem_of_getElem? (i := 736) (by decide +kernel), List.mem_of_getElem? (i := 16) (by decide +kernel), rfl⟩⟩
set_option maxRecDepth 100000 in
theorem aq_Rd_startCost : am_mok am_i_Rd_startCost := ⟨⟨by decide +kernel, rfl, by decide +kernel, rfl, by decide +kernel, by decide +kernel⟩, List.mem_of_getElem? (i := 742) rfl, List.mem_of_getElem? (i := 85) (by decide +kernel), ⟨List.mem_of_getElem? (i := 741) (by decide +kernel), List.mem_of_getElem? (i := 17) (by decide +kernel), rfl⟩⟩
set_option maxRecDepth 100000 in
theorem aq_Rd_readSum : am_mok am_i_Rd_readSum := ⟨⟨by decide +kernel, rfl, by decide +kernel, rfl, by decide +kernel, by decide +kernel⟩, List.mem_of_getElem? (i := 746) rfl, List.mem_of_getElem? (i := 85) (by decide +kernel), ⟨List.mem_of_getElem? (i := 745) (by decide +kernel), List.mem_of_getElem? (i := 18) (by decide +kernel), rfl⟩⟩
set_option maxRecDepth 100000 in
theorem aq_Rd_readTerm : am_mok am_i_Rd_readTerm := ⟨⟨by decide +kernel, rfl, by decide +kernel, rfl, by decide +kernel, by decide +kernel⟩, List.mem_of_getElem? (i := 750) rfl, List.mem_of_getElem? (i := 85) (by decide +kernel), ⟨List.mem_of_getElem? (i := 749) (by decide +kernel), List.mem_of_getElem? (i := 19) (by decide +kernel), rfl⟩⟩
set_option maxRecDepth 100000 in
theorem aq_Rd_readFactor : am_mok am_i_Rd_readFactor := ⟨⟨by decide +kernel, rfl, by decide +kernel, rfl, by decide +kernel, by decide +kernel⟩, List.mem_of_getElem? (i := 754) rfl, List.mem_of_getElem? (i := 85) (by decide +kernel), ⟨List.mem_of_getElem? (i := 753) (by decide +kernel), List.mem_of_getElem? (i := 20) (by decide +kernel), rfl⟩⟩
set_option maxRecDepth 100000 in
theorem aq_Rd_putCode : am_mok am_i_Rd_putCode := ⟨⟨by decide +kernel, rfl, by decide +kernel, rfl, by decide +kernel, by decide +kernel⟩, List.mem_of_getElem? (i := 758) rfl, List.mem_of_getElem? (i := 85) (by decide +kernel), ⟨List.mem_of_getElem? (i := 757) (by decide +kernel), List.mem_of_getElem? (i := 21) (by decide +kernel), rfl⟩⟩
set_option maxRecDepth 100000 in
theorem aq_Rd_readSymbol : am_mok am_i_Rd_readSymbol := ⟨⟨by decide +kernel, rfl, by decide +kernel, rfl, by decide +kernel, by decide +kernel⟩, List.mem_of_getElem? (i := 696) rfl, List.mem_of_getElem? (i := 85) (by decide +kernel), ⟨List.mem_of_getElem? (i := 695) (by decide +kernel), List.mem_of_getElem? (i := 11) (by decide +kernel), rfl⟩⟩
set_option maxRecDepth 100000 in
theorem aq_Rd_vertexHere : am_mok am_i_Rd_vertexHere := ⟨⟨by decide +kernel, rfl, by decide +kernel, rfl, by decide +kernel, by decide +kernel⟩, List.mem_of_getElem? (i := 710) rfl, List.mem_of_getElem? (i := 85) (by decide +kernel), ⟨List.mem_of_getElem? (i := 709) (by decide +kernel), List.mem_of_getElem? (i := 14) (by decide +kernel), rfl⟩⟩
set_option maxRecDepth 100000 in
theorem aq_Rd_numberHere : am_mok am_i_Rd_numberHere := ⟨⟨by decide +kernel, rfl, by decide +kernel, rfl, by decide +kernel, by decide +kernel⟩, List.mem_of_getElem? (i := 692) rfl, List.mem_of_getElem? (i := 85) (by decide +kernel), ⟨List.mem_of_getElem? (i := 691) (by decide +kernel), List.mem_of_getElem? (i := 10) (by decide +kernel), rfl⟩⟩
set_option maxRecDepth 100000 in
theorem aq_Rd_isWord : am_mok am_i_Rd_isWord := ⟨⟨by decide +kernel, rfl, by decide +kernel, rfl, by decide +kernel, by decide +kernel⟩, List.mem_of_getElem? (i := 636) rfl, List.mem_of_getElem? (i := 85) (by decide +kernel), ⟨List.mem_of_getElem? (i := 635) (by decide +kernel), List.mem_of_getElem? (i := 8) (by decide +kernel), rfl⟩⟩
set_option maxRecDepth 100000 in
theorem aq_Rd_fail : am_mok am_i_Rd_fail := ⟨⟨by decide +kernel, rfl, by decide +kernel, rfl, by decide +kernel, by decide +kernel⟩, List.mem_of_getElem? (i := 688) rfl, List.mem_of_getElem? (i := 85) (by decide +kernel), ⟨List.mem_of_getElem? (i := 687) (by decide +kernel), List.mem_of_getElem? (i := 9) (by decide +kernel), rfl⟩⟩
set_option maxRecDepth 100000 in
theorem aq_Rd_advance : am_mok am_i_Rd_advance := ⟨⟨by decide +kernel, rfl, by decide +kernel, rfl, by decide +kernel, by decide +kernel⟩, List.mem_of_getElem? (i := 626) rfl, List.mem_of_getElem? (i := 85) (by decide +kernel), ⟨List.mem_of_getElem? (i := 625) (by decide +kernel), List.mem_of_getElem? (i := 6) (by decide +kernel), rfl⟩⟩
set_option maxRecDepth 100000 in
theorem aq_Mc_init : am_mok am_i_Mc_init := ⟨⟨by decide +kernel, rfl, by decide +kernel, rfl, by decide +kernel, by decide +kernel⟩, List.mem_of_getElem? (i := 111) rfl, List.mem_of_getElem? (i := 82) (by decide +kernel), ⟨List.mem_of_getElem? (i := 110) (by decide +kernel), rfl, rfl, rfl⟩⟩
set_option maxRecDepth 100000 in
theorem aq_Mc_append : am_mok am_i_Mc_append := ⟨⟨by decide +kernel, rfl, by decide +kernel, rfl, by decide +kernel, by decide +kernel⟩, List.mem_of_getElem? (i := 356) rfl, List.mem_of_getElem? (i := 82) (by decide +kernel), ⟨List.mem_of_getElem? (i := 354) (by decide +kernel), List.mem_of_getElem? (i := 355) (by decide +kernel), rfl⟩⟩
set_option maxRecDepth 100000 in
theorem aq_Mc_putWord : am_mok am_i_Mc_putWord := ⟨⟨by decide +kernel, rfl, by decide +kernel, rfl, by decide +kernel, by decide +kernel⟩, List.mem_of_getElem? (i := 360) rfl, List.mem_of_getElem? (i := 82) (by decide +kernel), ⟨List.mem_of_getElem? (i := 359) (by decide +kernel), List.mem_of_getElem? (i := 0) (by decide +kernel), rfl⟩⟩
set_option maxRecDepth 100000 in
theorem aq_Mc_load : am_mok am_i_Mc_load := ⟨⟨by decide +kernel, rfl, by decide +kernel, rfl, by decide +kernel, by decide +kernel⟩, List.mem_of_getElem? (i := 545) rfl, List.mem_of_getElem? (i := 82) (by decide +kernel), ⟨List.mem_of_getElem? (i := 543) (by decide +kernel), List.mem_of_getElem? (i := 544) (by decide +kernel), rfl⟩⟩
set_option maxRecDepth 100000 in
theorem aq_Mc_errorOffset : am_mok am_i_Mc_errorOffset := ⟨⟨by decide +kernel, rfl, by decide +kernel, rfl, by decide +kernel, by decide +kernel⟩, List.mem_of_getElem? (i := 364) rfl, List.mem_of_getElem? (i := 82) (by decide +kernel), ⟨List.mem_of_getElem? (i := 362) (by decide +kernel), List.mem_of_getElem? (i := 363) (by decide +kernel), rfl⟩⟩
set_option maxRecDepth 100000 in
theorem aq_Mc_size : am_mok am_i_Mc_size := ⟨⟨by decide +kernel, rfl, by decide +kernel, rfl, by decide +kernel, by decide +kernel⟩, List.mem_of_getElem? (i := 368) rfl, List.mem_of_getElem? (i := 82) (by decide +kernel), ⟨List.mem_of_getElem? (i := 366) (by decide +kernel), List.mem_of_getElem? (i := 367) (by decide +kernel), rfl⟩⟩
set_option maxRecDepth 100000 in
theorem aq_Mc_edgeCount : am_mok am_i_Mc_edgeCount := ⟨⟨by decide +kernel, rfl, by decide +kernel, rfl, by decide +kernel, by decide +kernel⟩, List.mem_of_getElem? (i := 372) rfl, List.mem_of_getElem? (i := 82) (by decide +kernel), ⟨List.mem_of_getElem? (i := 370) (by decide +kernel), List.mem_of_getElem? (i := 371) (by decide +kernel), rfl⟩⟩
set_option maxRecDepth 100000 in
theorem aq_Mc_terminals : am_mok am_i_Mc_terminals := ⟨⟨by decide +kernel, rfl, by decide +kernel, rfl, by decide +kernel, by decide +kernel⟩, List.mem_of_getElem? (i := 376) rfl, List.mem_of_getElem? (i := 82) (by decide +kernel), ⟨List.mem_of_getElem? (i := 374) (by decide +kernel), List.mem_of_getElem? (i := 375) (by decide +kernel), rfl⟩⟩
set_option maxRecDepth 100000 in
theorem aq_Mc_burden : am_mok am_i_Mc_burden := ⟨⟨by decide +kernel, rfl, by decide +kernel, rfl, by decide +kernel, by decide +kernel⟩, List.mem_of_getElem? (i := 821) rfl, List.mem_of_getElem? (i := 82) (by decide +kernel), ⟨List.mem_of_getElem? (i := 819) (by decide +kernel), List.mem_of_getElem? (i := 820) (by decide +kernel), rfl⟩⟩
set_option maxRecDepth 100000 in
theorem aq_Mc_edge : am_mok am_i_Mc_edge := ⟨⟨by decide +kernel, rfl, by decide +kernel, rfl, by decide +kernel, by decide +kernel⟩, List.mem_of_getElem? (i := 849) rfl, List.mem_of_getElem? (i := 82) (by decide +kernel), ⟨List.mem_of_getElem? (i := 847) (by decide +kernel), List.mem_of_getElem? (i := 848) (by decide +kernel), rfl⟩⟩
set_option maxRecDepth 100000 in
theorem aq_Mc_cutCost : am_mok am_i_Mc_cutCost := ⟨⟨by decide +kernel, rfl, by decide +kernel, rfl, by decide +kernel, by decide +kernel⟩, List.mem_of_getElem? (i := 863) rfl, List.mem_of_getElem? (i := 82) (by decide +kernel), ⟨List.mem_of_getElem? (i := 861) (by decide +kernel), List.mem_of_getElem? (i := 862) (by decide +kernel), rfl⟩⟩
set_option maxRecDepth 100000 in
theorem aq_Mc_separates : am_mok am_i_Mc_separates := ⟨⟨by decide +kernel, rfl, by decide +kernel, rfl, by decide +kernel, by decide +kernel⟩, List.mem_of_getElem? (i := 873) rfl, List.mem_of_getElem? (i := 82) (by decide +kernel), ⟨List.mem_of_getElem? (i := 871) (by decide +kernel), List.mem_of_getElem? (i := 872) (by decide +kernel), rfl⟩⟩
set_option maxRecDepth 100000 in
theorem aq_Mc_isolatingValue : am_mok am_i_Mc_isolatingValue := ⟨⟨by decide +kernel, rfl, by decide +kernel, rfl, by decide +kernel, by decide +kernel⟩, List.mem_of_getElem? (i := 889) rfl, List.mem_of_getElem? (i := 82) (by decide +kernel), ⟨List.mem_of_getElem? (i := 887) (by decide +kernel), List.mem_of_getElem? (i := 888) (by decide +kernel), rfl⟩⟩
set_option maxRecDepth 100000 in
theorem aq_Mc_isolatingSet : am_mok am_i_Mc_isolatingSet := ⟨⟨by decide +kernel, rfl, by decide +kernel, rfl, by decide +kernel, by decide +kernel⟩, List.mem_of_getElem? (i := 901) rfl, List.mem_of_getElem? (i := 82) (by decide +kernel), ⟨List.mem_of_getElem? (i := 899) (by decide +kernel), List.mem_of_getElem? (i := 900) (by decide +kernel), rfl⟩⟩
set_option maxRecDepth 100000 in
theorem aq_Mc_lowerBound : am_mok am_i_Mc_lowerBound := ⟨⟨by decide +kernel, rfl, by decide +kernel, rfl, by decide +kernel, by decide +kernel⟩, List.mem_of_getElem? (i := 380) rfl, List.mem_of_getElem? (i := 82) (by decide +kernel), ⟨List.mem_of_getElem? (i := 378) (by decide +kernel), List.mem_of_getElem? (i := 379) (by decide +kernel), rfl⟩⟩
set_option maxRecDepth 100000 in
theorem aq_Mc_dearest : am_mok am_i_Mc_dearest := ⟨⟨by decide +kernel, rfl, by decide +kernel, rfl, by decide +kernel, by decide +kernel⟩, List.mem_of_getElem? (i := 910) rfl, List.mem_of_getElem? (i := 82) (by decide +kernel), ⟨List.mem_of_getElem? (i := 908) (by decide +kernel), List.mem_of_getElem? (i := 909) (by decide +kernel), rfl⟩⟩
set_option maxRecDepth 100000 in
theorem aq_Mc_unionCut : am_mok am_i_Mc_unionCut := ⟨⟨by decide +kernel, rfl, by decide +kernel, rfl, by decide +kernel, by decide +kernel⟩, List.mem_of_getElem? (i := 941) rfl, List.mem_of_getElem? (i := 82) (by decide +kernel), ⟨List.mem_of_getElem? (i := 939) (by decide +kernel), List.mem_of_getElem? (i := 940) (by decide +kernel), rfl⟩⟩
set_option maxRecDepth 100000 in
theorem aq_Mc_unionCost : am_mok am_i_Mc_unionCost := ⟨⟨by decide +kernel, rfl, by decide +kernel, rfl, by decide +kernel, by decide +kernel⟩, List.mem_of_getElem? (i := 953) rfl, List.mem_of_getElem? (i := 82) (by decide +kernel), ⟨List.mem_of_getElem? (i := 951) (by decide +kernel), List.mem_of_getElem? (i := 952) (by decide +kernel), rfl⟩⟩
set_option maxRecDepth 100000 in
theorem aq_Mc_rounds : am_mok am_i_Mc_rounds := ⟨⟨by decide +kernel, rfl, by decide +kernel, rfl, by decide +kernel, by decide +kernel⟩, List.mem_of_getElem? (i := 423) rfl, List.mem_of_getElem? (i := 82) (by decide +kernel), ⟨List.mem_of_getElem? (i := 421) (by decide +kernel), List.mem_of_getElem? (i := 422) (by decide +kernel), rfl⟩⟩
set_option maxRecDepth 100000 in
theorem aq_Mc_fixed : am_mok am_i_Mc_fixed := ⟨⟨by decide +kernel, rfl, by decide +kernel, rfl, by decide +kernel, by decide +kernel⟩, List.mem_of_getElem? (i := 961) rfl, List.mem_of_getElem? (i := 82) (by decide +kernel), ⟨List.mem_of_getElem? (i := 959) (by decide +kernel), List.mem_of_getElem? (i := 960) (by decide +kernel), rfl⟩⟩
set_option maxRecDepth 100000 in
theorem aq_Mc_exactCost : am_mok am_i_Mc_exactCost := ⟨⟨by decide +kernel, rfl, by decide +kernel, rfl, by decide +kernel, by decide +kernel⟩, List.mem_of_getElem? (i := 442) rfl, List.mem_of_getElem? (i := 82) (by decide +kernel), ⟨List.mem_of_getElem? (i := 440) (by decide +kernel), List.mem_of_getElem? (i := 441) (by decide +kernel), rfl⟩⟩
set_option maxRecDepth 100000 in
theorem aq_Mc_exact : am_mok am_i_Mc_exact := ⟨⟨by decide +kernel, rfl, by decide +kernel, rfl, by decide +kernel, by decide +kernel⟩, List.mem_of_getElem? (i := 972) rfl, List.mem_of_getElem? (i := 82) (by decide +kernel), ⟨List.mem_of_getElem? (i := 970) (by decide +kernel), List.mem_of_getElem? (i := 971) (by decide +kernel), rfl⟩⟩
set_option maxRecDepth 100000 in
theorem aq_Mc_price : am_mok am_i_Mc_price := ⟨⟨by decide +kernel, rfl, by decide +kernel, rfl, by decide +kernel, by decide +kernel⟩, List.mem_of_getElem? (i := 979) rfl, List.mem_of_getElem? (i := 82) (by decide +kernel), ⟨List.mem_of_getElem? (i := 977) (by decide +kernel), List.mem_of_getElem? (i := 978) (by decide +kernel), rfl⟩⟩
set_option maxRecDepth 100000 in
theorem aq_Mc_nearest : am_mok am_i_Mc_nearest := ⟨⟨by decide +kernel, rfl, by decide +kernel, rfl, by decide +kernel, by decide +kernel⟩, List.mem_of_getElem? (i := 986) rfl, List.mem_of_getElem? (i := 82) (by decide +kernel), ⟨List.mem_of_getElem? (i := 984) (by decide +kernel), List.mem_of_getElem? (i := 985) (by decide +kernel), rfl⟩⟩
set_option maxRecDepth 100000 in
theorem aq_Mc_distance : am_mok am_i_Mc_distance := ⟨⟨by decide +kernel, rfl, by decide +kernel, rfl, by decide +kernel, by decide +kernel⟩, List.mem_of_getElem? (i := 993) rfl, List.mem_of_getElem? (i := 82) (by decide +kernel), ⟨List.mem_of_getElem? (i := 991) (by decide +kernel), List.mem_of_getElem? (i := 992) (by decide +kernel), rfl⟩⟩
set_option maxRecDepth 100000 in
theorem aq_Mc_label : am_mok am_i_Mc_label := ⟨⟨by decide +kernel, rfl, by decide +kernel, rfl, by decide +kernel, by decide +kernel⟩, List.mem_of_getElem? (i := 1000) rfl, List.mem_of_getElem? (i := 82) (by decide +kernel), ⟨List.mem_of_getElem? (i := 998) (by decide +kernel), List.mem_of_getElem? (i := 999) (by decide +kernel), rfl⟩⟩
set_option maxRecDepth 100000 in
theorem aq_Mc_cost : am_mok am_i_Mc_cost := ⟨⟨by decide +kernel, rfl, by decide +kernel, rfl, by decide +kernel, by decide +kernel⟩, List.mem_of_getElem? (i := 464) rfl, List.mem_of_getElem? (i := 82) (by decide +kernel), ⟨List.mem_of_getElem? (i := 462) (by decide +kernel), List.mem_of_getElem? (i := 463) (by decide +kernel), rfl⟩⟩
set_option maxRecDepth 100000 in
theorem aq_Mc_cut : am_mok am_i_Mc_cut := ⟨⟨by decide +kernel, rfl, by decide +kernel, rfl, by decide +kernel, by decide +kernel⟩, List.mem_of_getElem? (i := 476) rfl, List.mem_of_getElem? (i := 82) (by decide +kernel), ⟨List.mem_of_getElem? (i := 474) (by decide +kernel), List.mem_of_getElem? (i := 475) (by decide +kernel), rfl⟩⟩
set_option maxRecDepth 100000 in
theorem aq_Mc_ratio : am_mok am_i_Mc_ratio := ⟨⟨by decide +kernel, rfl, by decide +kernel, rfl, by decide +kernel, by decide +kernel⟩, List.mem_of_getElem? (i := 481) rfl, List.mem_of_getElem? (i := 82) (by decide +kernel), ⟨List.mem_of_getElem? (i := 479) (by decide +kernel), List.mem_of_getElem? (i := 480) (by decide +kernel), rfl⟩⟩
set_option maxRecDepth 100000 in
theorem aq_Mc_meanCost : am_mok am_i_Mc_meanCost := ⟨⟨by decide +kernel, rfl, by decide +kernel, rfl, by decide +kernel, by decide +kernel⟩, List.mem_of_getElem? (i := 486) rfl, List.mem_of_getElem? (i := 82) (by decide +kernel), ⟨List.mem_of_getElem? (i := 484) (by decide +kernel), List.mem_of_getElem? (i := 485) (by decide +kernel), rfl⟩⟩
set_option maxRecDepth 100000 in
theorem aq_Mc_bestMove : am_mok am_i_Mc_bestMove := ⟨⟨by decide +kernel, rfl, by decide +kernel, rfl, by decide +kernel, by decide +kernel⟩, List.mem_of_getElem? (i := 1007) rfl, List.mem_of_getElem? (i := 82) (by decide +kernel), ⟨List.mem_of_getElem? (i := 1005) (by decide +kernel), List.mem_of_getElem? (i := 1006) (by decide +kernel), rfl⟩⟩
set_option maxRecDepth 100000 in
theorem aq_Mc_setLabel : am_mok am_i_Mc_setLabel := ⟨⟨by decide +kernel, rfl, by decide +kernel, rfl, by decide +kernel, by decide +kernel⟩, List.mem_of_getElem? (i := 1025) rfl, List.mem_of_getElem? (i := 82) (by decide +kernel), ⟨List.mem_of_getElem? (i := 1023) (by decide +kernel), List.mem_of_getElem? (i := 1024) (by decide +kernel), rfl⟩⟩
set_option maxRecDepth 100000 in
theorem aq_Mc_useNearest : am_mok am_i_Mc_useNearest := ⟨⟨by decide +kernel, rfl, by decide +kernel, rfl, by decide +kernel, by decide +kernel⟩, List.mem_of_getElem? (i := 491) rfl, List.mem_of_getElem? (i := 82) (by decide +kernel), ⟨List.mem_of_getElem? (i := 489) (by decide +kernel), List.mem_of_getElem? (i := 490) (by decide +kernel), rfl⟩⟩
set_option maxRecDepth 100000 in
theorem aq_Mc_useUnion : am_mok am_i_Mc_useUnion := ⟨⟨by decide +kernel, rfl, by decide +kernel, rfl, by decide +kernel, by decide +kernel⟩, List.mem_of_getElem? (i := 1033) rfl, List.mem_of_getElem? (i := 82) (by decide +kernel), ⟨List.mem_of_getElem? (i := 1031) (by decide +kernel), List.mem_of_getElem? (i := 1032) (by decide +kernel), rfl⟩⟩
set_option maxRecDepth 100000 in
theorem aq_Mc_useExact : am_mok am_i_Mc_useExact := ⟨⟨by decide +kernel, rfl, by decide +kernel, rfl, by decide +kernel, by decide +kernel⟩, List.mem_of_getElem? (i := 524) rfl, List.mem_of_getElem? (i := 82) (by decide +kernel), ⟨List.mem_of_getElem? (i := 522) (by decide +kernel), List.mem_of_getElem? (i := 523) (by decide +kernel), rfl⟩⟩
set_option maxRecDepth 100000 in
theorem aq_Mc_improve : am_mok am_i_Mc_improve := ⟨⟨by decide +kernel, rfl, by decide +kernel, rfl, by decide +kernel, by decide +kernel⟩, List.mem_of_getElem? (i := 1047) rfl, List.mem_of_getElem? (i := 82) (by decide +kernel), ⟨List.mem_of_getElem? (i := 1045) (by decide +kernel), List.mem_of_getElem? (i := 1046) (by decide +kernel), rfl⟩⟩
set_option maxRecDepth 100000 in
theorem aq_Mc_setWeight : am_mok am_i_Mc_setWeight := ⟨⟨by decide +kernel, rfl, by decide +kernel, rfl, by decide +kernel, by decide +kernel⟩, List.mem_of_getElem? (i := 1060) rfl, List.mem_of_getElem? (i := 82) (by decide +kernel), ⟨List.mem_of_getElem? (i := 1058) (by decide +kernel), List.mem_of_getElem? (i := 1059) (by decide +kernel), rfl⟩⟩
set_option maxRecDepth 100000 in
theorem aq_Mc_addEdge : am_mok am_i_Mc_addEdge := ⟨⟨by decide +kernel, rfl, by decide +kernel, rfl, by decide +kernel, by decide +kernel⟩, List.mem_of_getElem? (i := 1073) rfl, List.mem_of_getElem? (i := 82) (by decide +kernel), ⟨List.mem_of_getElem? (i := 1071) (by decide +kernel), List.mem_of_getElem? (i := 1072) (by decide +kernel), rfl⟩⟩
set_option maxRecDepth 100000 in
theorem aq_Mc_removeEdge : am_mok am_i_Mc_removeEdge := ⟨⟨by decide +kernel, rfl, by decide +kernel, rfl, by decide +kernel, by decide +kernel⟩, List.mem_of_getElem? (i := 1084) rfl, List.mem_of_getElem? (i := 82) (by decide +kernel), ⟨List.mem_of_getElem? (i := 1082) (by decide +kernel), List.mem_of_getElem? (i := 1083) (by decide +kernel), rfl⟩⟩
set_option maxRecDepth 100000 in
theorem aq_Mc_setTerminal : am_mok am_i_Mc_setTerminal := ⟨⟨by decide +kernel, rfl, by decide +kernel, rfl, by decide +kernel, by decide +kernel⟩, List.mem_of_getElem? (i := 1095) rfl, List.mem_of_getElem? (i := 82) (by decide +kernel), ⟨List.mem_of_getElem? (i := 1093) (by decide +kernel), List.mem_of_getElem? (i := 1094) (by decide +kernel), rfl⟩⟩
set_option maxRecDepth 100000 in
theorem aq_Mc_undo : am_mok am_i_Mc_undo := ⟨⟨by decide +kernel, rfl, by decide +kernel, rfl, by decide +kernel, by decide +kernel⟩, List.mem_of_getElem? (i := 528) rfl, List.mem_of_getElem? (i := 82) (by decide +kernel), ⟨List.mem_of_getElem? (i := 526) (by decide +kernel), List.mem_of_getElem? (i := 527) (by decide +kernel), rfl⟩⟩
set_option maxRecDepth 100000 in
theorem aq_Mc_checksum : am_mok am_i_Mc_checksum := ⟨⟨by decide +kernel, rfl, by decide +kernel, rfl, by decide +kernel, by decide +kernel⟩, List.mem_of_getElem? (i := 536) rfl, List.mem_of_getElem? (i := 82) (by decide +kernel), ⟨List.mem_of_getElem? (i := 534) (by decide +kernel), List.mem_of_getElem? (i := 535) (by decide +kernel), rfl⟩⟩
set_option maxRecDepth 100000 in
theorem aq_Mc_requireVertex : am_mok am_i_Mc_requireVertex := ⟨⟨by decide +kernel, rfl, by decide +kernel, rfl, by decide +kernel, by decide +kernel⟩, List.mem_of_getElem? (i := 825) rfl, List.mem_of_getElem? (i := 82) (by decide +kernel), ⟨List.mem_of_getElem? (i := 824) (by decide +kernel), List.mem_of_getElem? (i := 23) (by decide +kernel), rfl⟩⟩
set_option maxRecDepth 100000 in
theorem aq_Mc_requireEdge : am_mok am_i_Mc_requireEdge := ⟨⟨by decide +kernel, rfl, by decide +kernel, rfl, by decide +kernel, by decide +kernel⟩, List.mem_of_getElem? (i := 853) rfl, List.mem_of_getElem? (i := 82) (by decide +kernel), ⟨List.mem_of_getElem? (i := 852) (by decide +kernel), List.mem_of_getElem? (i := 24) (by decide +kernel), rfl⟩⟩
set_option maxRecDepth 100000 in
theorem aq_Mc_requireTerminal : am_mok am_i_Mc_requireTerminal := ⟨⟨by decide +kernel, rfl, by decide +kernel, rfl, by decide +kernel, by decide +kernel⟩, List.mem_of_getElem? (i := 893) rfl, List.mem_of_getElem? (i := 82) (by decide +kernel), ⟨List.mem_of_getElem? (i := 892) (by decide +kernel), List.mem_of_getElem? (i := 25) (by decide +kernel), rfl⟩⟩
set_option maxRecDepth 100000 in
theorem aq_Mc_requireSomeTerminal : am_mok am_i_Mc_requireSomeTerminal := ⟨⟨by decide +kernel, rfl, by decide +kernel, rfl, by decide +kernel, by decide +kernel⟩, List.mem_of_getElem? (i := 914) rfl, List.mem_of_getElem? (i := 82) (by decide +kernel), ⟨List.mem_of_getElem? (i := 913) (by decide +kernel), List.mem_of_getElem? (i := 26) (by decide +kernel), rfl⟩⟩
set_option maxRecDepth 100000 in
theorem aq_Mc_requireWeight : am_mok am_i_Mc_requireWeight := ⟨⟨by decide +kernel, rfl, by decide +kernel, rfl, by decide +kernel, by decide +kernel⟩, List.mem_of_getElem? (i := 1064) rfl, List.mem_of_getElem? (i := 82) (by decide +kernel), ⟨List.mem_of_getElem? (i := 1063) (by decide +kernel), List.mem_of_getElem? (i := 28) (by decide +kernel), rfl⟩⟩
set_option maxRecDepth 100000 in
theorem aq_Mo_init : am_mok am_i_Mo_init := ⟨⟨by decide +kernel, rfl, by decide +kernel, rfl, by decide +kernel, by decide +kernel⟩, List.mem_of_getElem? (i := 1109) rfl, List.mem_of_getElem? (i := 90) (by decide +kernel), ⟨List.mem_of_getElem? (i := 1108) (by decide +kernel), rfl, rfl, rfl⟩⟩
set_option maxRecDepth 100000 in
theorem aq_Mo_thrown : am_mok am_i_Mo_thrown := ⟨⟨by decide +kernel, rfl, by decide +kernel, rfl, by decide +kernel, by decide +kernel⟩, List.mem_of_getElem? (i := 1222) rfl, List.mem_of_getElem? (i := 90) (by decide +kernel), ⟨List.mem_of_getElem? (i := 1220) (by decide +kernel), List.mem_of_getElem? (i := 1221) (by decide +kernel), rfl⟩⟩
set_option maxRecDepth 100000 in
theorem aq_Mo_isIn : am_mok am_i_Mo_isIn := ⟨⟨by decide +kernel, rfl, by decide +kernel, rfl, by decide +kernel, by decide +kernel⟩, List.mem_of_getElem? (i := 1233) rfl, List.mem_of_getElem? (i := 90) (by decide +kernel), List.mem_of_getElem? (i := 1232) (by decide +kernel)⟩
set_option maxRecDepth 100000 in
theorem aq_Mo_get : am_mok am_i_Mo_get := ⟨⟨by decide +kernel, rfl, by decide +kernel, rfl, by decide +kernel, by decide +kernel⟩, List.mem_of_getElem? (i := 1329) rfl, List.mem_of_getElem? (i := 90) (by decide +kernel), ⟨List.mem_of_getElem? (i := 1328) (by decide +kernel), List.mem_of_getElem? (i := 48) (by decide +kernel), rfl⟩⟩
set_option maxRecDepth 100000 in
theorem aq_Mo_put : am_mok am_i_Mo_put := ⟨⟨by decide +kernel, rfl, by decide +kernel, rfl, by decide +kernel, by decide +kernel⟩, List.mem_of_getElem? (i := 1333) rfl, List.mem_of_getElem? (i := 90) (by decide +kernel), ⟨List.mem_of_getElem? (i := 1332) (by decide +kernel), List.mem_of_getElem? (i := 49) (by decide +kernel), rfl⟩⟩
set_option maxRecDepth 100000 in
theorem aq_Mo_change : am_mok am_i_Mo_change := ⟨⟨by decide +kernel, rfl, by decide +kernel, rfl, by decide +kernel, by decide +kernel⟩, List.mem_of_getElem? (i := 1325) rfl, List.mem_of_getElem? (i := 90) (by decide +kernel), ⟨List.mem_of_getElem? (i := 1324) (by decide +kernel), List.mem_of_getElem? (i := 47) (by decide +kernel), rfl⟩⟩
set_option maxRecDepth 100000 in
theorem aq_Mo_right : am_mok am_i_Mo_right := ⟨⟨by decide +kernel, rfl, by decide +kernel, rfl, by decide +kernel, by decide +kernel⟩, List.mem_of_getElem? (i := 1237) rfl, List.mem_of_getElem? (i := 90) (by decide +kernel), ⟨List.mem_of_getElem? (i := 1236) (by decide +kernel), List.mem_of_getElem? (i := 29) (by decide +kernel), rfl⟩⟩
set_option maxRecDepth 100000 in
theorem aq_Mo_append : am_mok am_i_Mo_append := ⟨⟨by decide +kernel, rfl, by decide +kernel, rfl, by decide +kernel, by decide +kernel⟩, List.mem_of_getElem? (i := 1226) rfl, List.mem_of_getElem? (i := 90) (by decide +kernel), ⟨List.mem_of_getElem? (i := 1224) (by decide +kernel), List.mem_of_getElem? (i := 1225) (by decide +kernel), rfl⟩⟩
set_option maxRecDepth 100000 in
theorem aq_Mo_fails : am_mok am_i_Mo_fails := ⟨⟨by decide +kernel, rfl, by decide +kernel, rfl, by decide +kernel, by decide +kernel⟩, List.mem_of_getElem? (i := 1256) rfl, List.mem_of_getElem? (i := 90) (by decide +kernel), ⟨List.mem_of_getElem? (i := 1255) (by decide +kernel), List.mem_of_getElem? (i := 33) (by decide +kernel), rfl⟩⟩
set_option maxRecDepth 100000 in
theorem aq_Mo_sees : am_mok am_i_Mo_sees := ⟨⟨by decide +kernel, rfl, by decide +kernel, rfl, by decide +kernel, by decide +kernel⟩, List.mem_of_getElem? (i := 1250) rfl, List.mem_of_getElem? (i := 90) (by decide +kernel), ⟨List.mem_of_getElem? (i := 1249) (by decide +kernel), List.mem_of_getElem? (i := 32) (by decide +kernel), rfl⟩⟩
set_option maxRecDepth 100000 in
theorem aq_Mo_takes : am_mok am_i_Mo_takes := ⟨⟨by decide +kernel, rfl, by decide +kernel, rfl, by decide +kernel, by decide +kernel⟩, List.mem_of_getElem? (i := 1246) rfl, List.mem_of_getElem? (i := 90) (by decide +kernel), ⟨List.mem_of_getElem? (i := 1245) (by decide +kernel), List.mem_of_getElem? (i := 31) (by decide +kernel), rfl⟩⟩
set_option maxRecDepth 100000 in
theorem aq_Mo_wants : am_mok am_i_Mo_wants := ⟨⟨by decide +kernel, rfl, by decide +kernel, rfl, by decide +kernel, by decide +kernel⟩, List.mem_of_getElem? (i := 1270) rfl, List.mem_of_getElem? (i := 90) (by decide +kernel), ⟨List.mem_of_getElem? (i := 1269) (by decide +kernel), List.mem_of_getElem? (i := 36) (by decide +kernel), rfl⟩⟩
set_option maxRecDepth 100000 in
theorem aq_Mo_isDigit : am_mok am_i_Mo_isDigit := ⟨⟨by decide +kernel, rfl, by decide +kernel, rfl, by decide +kernel, by decide +kernel⟩, List.mem_of_getElem? (i := 1264) rfl, List.mem_of_getElem? (i := 90) (by decide +kernel), ⟨List.mem_of_getElem? (i := 1263) (by decide +kernel), List.mem_of_getElem? (i := 35) (by decide +kernel), rfl⟩⟩
set_option maxRecDepth 100000 in
theorem aq_Mo_reads : am_mok am_i_Mo_reads := ⟨⟨by decide +kernel, rfl, by decide +kernel, rfl, by decide +kernel, by decide +kernel⟩, List.mem_of_getElem? (i := 1260) rfl, List.mem_of_getElem? (i := 90) (by decide +kernel), ⟨List.mem_of_getElem? (i := 1259) (by decide +kernel), List.mem_of_getElem? (i := 34) (by decide +kernel), rfl⟩⟩
set_option maxRecDepth 100000 in
theorem aq_Mo_codes : am_mok am_i_Mo_codes := ⟨⟨by decide +kernel, rfl, by decide +kernel, rfl, by decide +kernel, by decide +kernel⟩, List.mem_of_getElem? (i := 1318) rfl, List.mem_of_getElem? (i := 90) (by decide +kernel), ⟨List.mem_of_getElem? (i := 1317) (by decide +kernel), List.mem_of_getElem? (i := 46) (by decide +kernel), rfl⟩⟩
set_option maxRecDepth 100000 in
theorem aq_Mo_sum : am_mok am_i_Mo_sum := ⟨⟨by decide +kernel, rfl, by decide +kernel, rfl, by decide +kernel, by decide +kernel⟩, List.mem_of_getElem? (i := 1306) rfl, List.mem_of_getElem? (i := 90) (by decide +kernel), ⟨List.mem_of_getElem? (i := 1305) (by decide +kernel), List.mem_of_getElem? (i := 43) (by decide +kernel), rfl⟩⟩
set_option maxRecDepth 100000 in
theorem aq_Mo_term : am_mok am_i_Mo_term := ⟨⟨by decide +kernel, rfl, by decide +kernel, rfl, by decide +kernel, by decide +kernel⟩, List.mem_of_getElem? (i := 1310) rfl, List.mem_of_getElem? (i := 90) (by decide +kernel), ⟨List.mem_of_getElem? (i := 1309) (by decide +kernel), List.mem_of_getElem? (i := 44) (by decide +kernel), rfl⟩⟩
set_option maxRecDepth 100000 in
theorem aq_Mo_factor : am_mok am_i_Mo_factor := ⟨⟨by decide +kernel, rfl, by decide +kernel, rfl, by decide +kernel, by decide +kernel⟩, List.mem_of_getElem? (i := 1314) rfl, List.mem_of_getElem? (i := 90) (by decide +kernel), ⟨List.mem_of_getElem? (i := 1313) (by decide +kernel), List.mem_of_getElem? (i := 45) (by decide +kernel), rfl⟩⟩
set_option maxRecDepth 100000 in
theorem aq_Mo_readsVertex : am_mok am_i_Mo_readsVertex := ⟨⟨by decide +kernel, rfl, by decide +kernel, rfl, by decide +kernel, by decide +kernel⟩, List.mem_of_getElem? (i := 1286) rfl, List.mem_of_getElem? (i := 90) (by decide +kernel), ⟨List.mem_of_getElem? (i := 1285) (by decide +kernel), List.mem_of_getElem? (i := 39) (by decide +kernel), rfl⟩⟩
set_option maxRecDepth 100000 in
theorem aq_Mo_terminalLine : am_mok am_i_Mo_terminalLine := ⟨⟨by decide +kernel, rfl, by decide +kernel, rfl, by decide +kernel, by decide +kernel⟩, List.mem_of_getElem? (i := 1279) rfl, List.mem_of_getElem? (i := 90) (by decide +kernel), ⟨List.mem_of_getElem? (i := 1278) (by decide +kernel), List.mem_of_getElem? (i := 38) (by decide +kernel), rfl⟩⟩
set_option maxRecDepth 100000 in
theorem aq_Mo_bitsOf : am_mok am_i_Mo_bitsOf := ⟨⟨by decide +kernel, rfl, by decide +kernel, rfl, by decide +kernel, by decide +kernel⟩, List.mem_of_getElem? (i := 1282) rfl, List.mem_of_getElem? (i := 90) (by decide +kernel), List.mem_of_getElem? (i := 1281) (by decide +kernel)⟩
set_option maxRecDepth 100000 in
theorem aq_Mo_isJoined : am_mok am_i_Mo_isJoined := ⟨⟨by decide +kernel, rfl, by decide +kernel, rfl, by decide +kernel, by decide +kernel⟩, List.mem_of_getElem? (i := 1295) rfl, List.mem_of_getElem? (i := 90) (by decide +kernel), ⟨List.mem_of_getElem? (i := 1294) (by decide +kernel), List.mem_of_getElem? (i := 41) (by decide +kernel), rfl⟩⟩
set_option maxRecDepth 100000 in
theorem aq_Mo_edgeLine : am_mok am_i_Mo_edgeLine := ⟨⟨by decide +kernel, rfl, by decide +kernel, rfl, by decide +kernel, by decide +kernel⟩, List.mem_of_getElem? (i := 1291) rfl, List.mem_of_getElem? (i := 90) (by decide +kernel), ⟨List.mem_of_getElem? (i := 1290) (by decide +kernel), List.mem_of_getElem? (i := 40) (by decide +kernel), rfl⟩⟩
set_option maxRecDepth 100000 in
theorem aq_Mo_loadLine : am_mok am_i_Mo_loadLine := ⟨⟨by decide +kernel, rfl, by decide +kernel, rfl, by decide +kernel, by decide +kernel⟩, List.mem_of_getElem? (i := 1301) rfl, List.mem_of_getElem? (i := 90) (by decide +kernel), ⟨List.mem_of_getElem? (i := 1300) (by decide +kernel), List.mem_of_getElem? (i := 42) (by decide +kernel), rfl⟩⟩
set_option maxRecDepth 100000 in
theorem aq_Mo_statement : am_mok am_i_Mo_statement := ⟨⟨by decide +kernel, rfl, by decide +kernel, rfl, by decide +kernel, by decide +kernel⟩, List.mem_of_getElem? (i := 1274) rfl, List.mem_of_getElem? (i := 90) (by decide +kernel), ⟨List.mem_of_getElem? (i := 1273) (by decide +kernel), List.mem_of_getElem? (i := 37) (by decide +kernel), rfl⟩⟩
set_option maxRecDepth 100000 in
theorem aq_Mo_texts : am_mok am_i_Mo_texts := ⟨⟨by decide +kernel, rfl, by decide +kernel, rfl, by decide +kernel, by decide +kernel⟩, List.mem_of_getElem? (i := 1241) rfl, List.mem_of_getElem? (i := 90) (by decide +kernel), ⟨List.mem_of_getElem? (i := 1240) (by decide +kernel), List.mem_of_getElem? (i := 30) (by decide +kernel), rfl⟩⟩
set_option maxRecDepth 100000 in
theorem aq_Mo_load : am_mok am_i_Mo_load := ⟨⟨by decide +kernel, rfl, by decide +kernel, rfl, by decide +kernel, by decide +kernel⟩, List.mem_of_getElem? (i := 1230) rfl, List.mem_of_getElem? (i := 90) (by decide +kernel), ⟨List.mem_of_getElem? (i := 1228) (by decide +kernel), List.mem_of_getElem? (i := 1229) (by decide +kernel), rfl⟩⟩
set_option maxRecDepth 100000 in
theorem aq_Mo_errorOffset : am_mok am_i_Mo_errorOffset := ⟨⟨by decide +kernel, rfl, by decide +kernel, rfl, by decide +kernel, by decide +kernel⟩, List.mem_of_getElem? (i := 1344) rfl, List.mem_of_getElem? (i := 90) (by decide +kernel), ⟨List.mem_of_getElem? (i := 1342) (by decide +kernel), List.mem_of_getElem? (i := 1343) (by decide +kernel), rfl⟩⟩
set_option maxRecDepth 100000 in
theorem aq_Mo_within : am_mok am_i_Mo_within := ⟨⟨by decide +kernel, rfl, by decide +kernel, rfl, by decide +kernel, by decide +kernel⟩, List.mem_of_getElem? (i := 1389) rfl, List.mem_of_getElem? (i := 90) (by decide +kernel), List.mem_of_getElem? (i := 1388) (by decide +kernel)⟩
set_option maxRecDepth 100000 in
theorem aq_Mo_costOf : am_mok am_i_Mo_costOf := ⟨⟨by decide +kernel, rfl, by decide +kernel, rfl, by decide +kernel, by decide +kernel⟩, List.mem_of_getElem? (i := 1385) rfl, List.mem_of_getElem? (i := 90) (by decide +kernel), ⟨List.mem_of_getElem? (i := 1384) (by decide +kernel), List.mem_of_getElem? (i := 55) (by decide +kernel), rfl⟩⟩
set_option maxRecDepth 100000 in
theorem aq_Mo_laysCosts : am_mok am_i_Mo_laysCosts := ⟨⟨by decide +kernel, rfl, by decide +kernel, rfl, by decide +kernel, by decide +kernel⟩, List.mem_of_getElem? (i := 1381) rfl, List.mem_of_getElem? (i := 90) (by decide +kernel), ⟨List.mem_of_getElem? (i := 1380) (by decide +kernel), List.mem_of_getElem? (i := 54) (by decide +kernel), rfl⟩⟩
set_option maxRecDepth 100000 in
theorem aq_Mo_count : am_mok am_i_Mo_count := ⟨⟨by decide +kernel, rfl, by decide +kernel, rfl, by decide +kernel, by decide +kernel⟩, List.mem_of_getElem? (i := 1352) rfl, List.mem_of_getElem? (i := 90) (by decide +kernel), ⟨List.mem_of_getElem? (i := 1351) (by decide +kernel), List.mem_of_getElem? (i := 51) (by decide +kernel), rfl⟩⟩
set_option maxRecDepth 100000 in
theorem aq_Mo_edges : am_mok am_i_Mo_edges := ⟨⟨by decide +kernel, rfl, by decide +kernel, rfl, by decide +kernel, by decide +kernel⟩, List.mem_of_getElem? (i := 1360) rfl, List.mem_of_getElem? (i := 90) (by decide +kernel), ⟨List.mem_of_getElem? (i := 1359) (by decide +kernel), List.mem_of_getElem? (i := 52) (by decide +kernel), rfl⟩⟩
set_option maxRecDepth 100000 in
theorem aq_Mo_low : am_mok am_i_Mo_low := ⟨⟨by decide +kernel, rfl, by decide +kernel, rfl, by decide +kernel, by decide +kernel⟩, List.mem_of_getElem? (i := 1410) rfl, List.mem_of_getElem? (i := 90) (by decide +kernel), ⟨List.mem_of_getElem? (i := 1409) (by decide +kernel), List.mem_of_getElem? (i := 59) (by decide +kernel), rfl⟩⟩
set_option maxRecDepth 100000 in
theorem aq_Mo_high : am_mok am_i_Mo_high := ⟨⟨by decide +kernel, rfl, by decide +kernel, rfl, by decide +kernel, by decide +kernel⟩, List.mem_of_getElem? (i := 1414) rfl, List.mem_of_getElem? (i := 90) (by decide +kernel), ⟨List.mem_of_getElem? (i := 1413) (by decide +kernel), List.mem_of_getElem? (i := 60) (by decide +kernel), rfl⟩⟩
set_option maxRecDepth 100000 in
theorem aq_Mo_has : am_mok am_i_Mo_has := ⟨⟨by decide +kernel, rfl, by decide +kernel, rfl, by decide +kernel, by decide +kernel⟩, List.mem_of_getElem? (i := 1340) rfl, List.mem_of_getElem? (i := 90) (by decide +kernel), List.mem_of_getElem? (i := 1339) (by decide +kernel)⟩
set_option maxRecDepth 100000 in
theorem aq_Mo_isTerminal : am_mok am_i_Mo_isTerminal := ⟨⟨by decide +kernel, rfl, by decide +kernel, rfl, by decide +kernel, by decide +kernel⟩, List.mem_of_getElem? (i := 1337) rfl, List.mem_of_getElem? (i := 90) (by decide +kernel), ⟨List.mem_of_getElem? (i := 1336) (by decide +kernel), List.mem_of_getElem? (i := 50) (by decide +kernel), rfl⟩⟩
set_option maxRecDepth 100000 in
theorem aq_Mo_all : am_mok am_i_Mo_all := ⟨⟨by decide +kernel, rfl, by decide +kernel, rfl, by decide +kernel, by decide +kernel⟩, List.mem_of_getElem? (i := 1402) rfl, List.mem_of_getElem? (i := 90) (by decide +kernel), ⟨List.mem_of_getElem? (i := 1401) (by decide +kernel), List.mem_of_getElem? (i := 57) (by decide +kernel), rfl⟩⟩
set_option maxRecDepth 100000 in
theorem aq_Mo_cutOf : am_mok am_i_Mo_cutOf := ⟨⟨by decide +kernel, rfl, by decide +kernel, rfl, by decide +kernel, by decide +kernel⟩, List.mem_of_getElem? (i := 1406) rfl, List.mem_of_getElem? (i := 90) (by decide +kernel), ⟨List.mem_of_getElem? (i := 1405) (by decide +kernel), List.mem_of_getElem? (i := 58) (by decide +kernel), rfl⟩⟩
set_option maxRecDepth 100000 in
theorem aq_Mo_bestSet : am_mok am_i_Mo_bestSet := ⟨⟨by decide +kernel, rfl, by decide +kernel, rfl, by decide +kernel, by decide +kernel⟩, List.mem_of_getElem? (i := 1434) rfl, List.mem_of_getElem? (i := 90) (by decide +kernel), ⟨List.mem_of_getElem? (i := 1433) (by decide +kernel), List.mem_of_getElem? (i := 63) (by decide +kernel), rfl⟩⟩
set_option maxRecDepth 100000 in
theorem aq_Mo_isolating : am_mok am_i_Mo_isolating := ⟨⟨by decide +kernel, rfl, by decide +kernel, rfl, by decide +kernel, by decide +kernel⟩, List.mem_of_getElem? (i := 1430) rfl, List.mem_of_getElem? (i := 90) (by decide +kernel), ⟨List.mem_of_getElem? (i := 1429) (by decide +kernel), List.mem_of_getElem? (i := 62) (by decide +kernel), rfl⟩⟩
set_option maxRecDepth 100000 in
theorem aq_Mo_laysIsolating : am_mok am_i_Mo_laysIsolating := ⟨⟨by decide +kernel, rfl, by decide +kernel, rfl, by decide +kernel, by decide +kernel⟩, List.mem_of_getElem? (i := 1447) rfl, List.mem_of_getElem? (i := 90) (by decide +kernel), ⟨List.mem_of_getElem? (i := 1446) (by decide +kernel), List.mem_of_getElem? (i := 64) (by decide +kernel), rfl⟩⟩
set_option maxRecDepth 100000 in
theorem aq_Mo_dearestNow : am_mok am_i_Mo_dearestNow := ⟨⟨by decide +kernel, rfl, by decide +kernel, rfl, by decide +kernel, by decide +kernel⟩, List.mem_of_getElem? (i := 1459) rfl, List.mem_of_getElem? (i := 90) (by decide +kernel), ⟨List.mem_of_getElem? (i := 1458) (by decide +kernel), List.mem_of_getElem? (i := 66) (by decide +kernel), rfl⟩⟩
set_option maxRecDepth 100000 in
theorem aq_Mo_othersOf : am_mok am_i_Mo_othersOf := ⟨⟨by decide +kernel, rfl, by decide +kernel, rfl, by decide +kernel, by decide +kernel⟩, List.mem_of_getElem? (i := 1487) rfl, List.mem_of_getElem? (i := 90) (by decide +kernel), ⟨List.mem_of_getElem? (i := 1486) (by decide +kernel), List.mem_of_getElem? (i := 70) (by decide +kernel), rfl⟩⟩
set_option maxRecDepth 100000 in
theorem aq_Mo_goesRound : am_mok am_i_Mo_goesRound := ⟨⟨by decide +kernel, rfl, by decide +kernel, rfl, by decide +kernel, by decide +kernel⟩, List.mem_of_getElem? (i := 1483) rfl, List.mem_of_getElem? (i := 90) (by decide +kernel), ⟨List.mem_of_getElem? (i := 1482) (by decide +kernel), List.mem_of_getElem? (i := 69) (by decide +kernel), rfl⟩⟩
set_option maxRecDepth 100000 in
theorem aq_Mo_laysGroups : am_mok am_i_Mo_laysGroups := ⟨⟨by decide +kernel, rfl, by decide +kernel, rfl, by decide +kernel, by decide +kernel⟩, List.mem_of_getElem? (i := 1479) rfl, List.mem_of_getElem? (i := 90) (by decide +kernel), ⟨List.mem_of_getElem? (i := 1478) (by decide +kernel), List.mem_of_getElem? (i := 68) (by decide +kernel), rfl⟩⟩
set_option maxRecDepth 100000 in
theorem aq_Mo_costBy : am_mok am_i_Mo_costBy := ⟨⟨by decide +kernel, rfl, by decide +kernel, rfl, by decide +kernel, by decide +kernel⟩, List.mem_of_getElem? (i := 1507) rfl, List.mem_of_getElem? (i := 90) (by decide +kernel), ⟨List.mem_of_getElem? (i := 1506) (by decide +kernel), List.mem_of_getElem? (i := 73) (by decide +kernel), rfl⟩⟩
set_option maxRecDepth 100000 in
theorem aq_Mo_goesOn : am_mok am_i_Mo_goesOn := ⟨⟨by decide +kernel, rfl, by decide +kernel, rfl, by decide +kernel, by decide +kernel⟩, List.mem_of_getElem? (i := 1511) rfl, List.mem_of_getElem? (i := 90) (by decide +kernel), ⟨List.mem_of_getElem? (i := 1510) (by decide +kernel), List.mem_of_getElem? (i := 74) (by decide +kernel), rfl⟩⟩
set_option maxRecDepth 100000 in
theorem aq_Mo_laysExact : am_mok am_i_Mo_laysExact := ⟨⟨by decide +kernel, rfl, by decide +kernel, rfl, by decide +kernel, by decide +kernel⟩, List.mem_of_getElem? (i := 1503) rfl, List.mem_of_getElem? (i := 90) (by decide +kernel), ⟨List.mem_of_getElem? (i := 1502) (by decide +kernel), List.mem_of_getElem? (i := 72) (by decide +kernel), rfl⟩⟩
set_option maxRecDepth 100000 in
theorem aq_Mo_exactNow : am_mok am_i_Mo_exactNow := ⟨⟨by decide +kernel, rfl, by decide +kernel, rfl, by decide +kernel, by decide +kernel⟩, List.mem_of_getElem? (i := 1499) rfl, List.mem_of_getElem? (i := 90) (by decide +kernel), ⟨List.mem_of_getElem? (i := 1498) (by decide +kernel), List.mem_of_getElem? (i := 71) (by decide +kernel), rfl⟩⟩
set_option maxRecDepth 100000 in
theorem aq_Mo_costNow : am_mok am_i_Mo_costNow := ⟨⟨by decide +kernel, rfl, by decide +kernel, rfl, by decide +kernel, by decide +kernel⟩, List.mem_of_getElem? (i := 1547) rfl, List.mem_of_getElem? (i := 90) (by decide +kernel), ⟨List.mem_of_getElem? (i := 1546) (by decide +kernel), List.mem_of_getElem? (i := 77) (by decide +kernel), rfl⟩⟩
set_option maxRecDepth 100000 in
theorem aq_Mo_lengthOf : am_mok am_i_Mo_lengthOf := ⟨⟨by decide +kernel, rfl, by decide +kernel, rfl, by decide +kernel, by decide +kernel⟩, List.mem_of_getElem? (i := 1394) rfl, List.mem_of_getElem? (i := 90) (by decide +kernel), ⟨List.mem_of_getElem? (i := 1393) (by decide +kernel), List.mem_of_getElem? (i := 56) (by decide +kernel), rfl⟩⟩
set_option maxRecDepth 100000 in
theorem aq_Mo_laysFar : am_mok am_i_Mo_laysFar := ⟨⟨by decide +kernel, rfl, by decide +kernel, rfl, by decide +kernel, by decide +kernel⟩, List.mem_of_getElem? (i := 1531) rfl, List.mem_of_getElem? (i := 90) (by decide +kernel), ⟨List.mem_of_getElem? (i := 1530) (by decide +kernel), List.mem_of_getElem? (i := 76) (by decide +kernel), rfl⟩⟩
set_option maxRecDepth 100000 in
theorem aq_Mo_laysNear : am_mok am_i_Mo_laysNear := ⟨⟨by decide +kernel, rfl, by decide +kernel, rfl, by decide +kernel, by decide +kernel⟩, List.mem_of_getElem? (i := 1527) rfl, List.mem_of_getElem? (i := 90) (by decide +kernel), ⟨List.mem_of_getElem? (i := 1526) (by decide +kernel), List.mem_of_getElem? (i := 75) (by decide +kernel), rfl⟩⟩
set_option maxRecDepth 100000 in
theorem aq_Mo_size : am_mok am_i_Mo_size := ⟨⟨by decide +kernel, rfl, by decide +kernel, rfl, by decide +kernel, by decide +kernel⟩, List.mem_of_getElem? (i := 1348) rfl, List.mem_of_getElem? (i := 90) (by decide +kernel), ⟨List.mem_of_getElem? (i := 1346) (by decide +kernel), List.mem_of_getElem? (i := 1347) (by decide +kernel), rfl⟩⟩
set_option maxRecDepth 100000 in
theorem aq_Mo_edgeCount : am_mok am_i_Mo_edgeCount := ⟨⟨by decide +kernel, rfl, by decide +kernel, rfl, by decide +kernel, by decide +kernel⟩, List.mem_of_getElem? (i := 1356) rfl, List.mem_of_getElem? (i := 90) (by decide +kernel), ⟨List.mem_of_getElem? (i := 1354) (by decide +kernel), List.mem_of_getElem? (i := 1355) (by decide +kernel), rfl⟩⟩
set_option maxRecDepth 100000 in
theorem aq_Mo_terminals : am_mok am_i_Mo_terminals := ⟨⟨by decide +kernel, rfl, by decide +kernel, rfl, by decide +kernel, by decide +kernel⟩, List.mem_of_getElem? (i := 1364) rfl, List.mem_of_getElem? (i := 90) (by decide +kernel), ⟨List.mem_of_getElem? (i := 1362) (by decide +kernel), List.mem_of_getElem? (i := 1363) (by decide +kernel), rfl⟩⟩
set_option maxRecDepth 100000 in
theorem aq_Mo_isVertex : am_mok am_i_Mo_isVertex := ⟨⟨by decide +kernel, rfl, by decide +kernel, rfl, by decide +kernel, by decide +kernel⟩, List.mem_of_getElem? (i := 1372) rfl, List.mem_of_getElem? (i := 90) (by decide +kernel), ⟨List.mem_of_getElem? (i := 1371) (by decide +kernel), List.mem_of_getElem? (i := 53) (by decide +kernel), rfl⟩⟩
set_option maxRecDepth 100000 in
theorem aq_Mo_burden : am_mok am_i_Mo_burden := ⟨⟨by decide +kernel, rfl, by decide +kernel, rfl, by decide +kernel, by decide +kernel⟩, List.mem_of_getElem? (i := 1368) rfl, List.mem_of_getElem? (i := 90) (by decide +kernel), ⟨List.mem_of_getElem? (i := 1366) (by decide +kernel), List.mem_of_getElem? (i := 1367) (by decide +kernel), rfl⟩⟩
set_option maxRecDepth 100000 in
theorem aq_Mo_edge : am_mok am_i_Mo_edge := ⟨⟨by decide +kernel, rfl, by decide +kernel, rfl, by decide +kernel, by decide +kernel⟩, List.mem_of_getElem? (i := 1376) rfl, List.mem_of_getElem? (i := 90) (by decide +kernel), ⟨List.mem_of_getElem? (i := 1374) (by decide +kernel), List.mem_of_getElem? (i := 1375) (by decide +kernel), rfl⟩⟩
set_option maxRecDepth 100000 in
theorem aq_Mo_cutCost : am_mok am_i_Mo_cutCost := ⟨⟨by decide +kernel, rfl, by decide +kernel, rfl, by decide +kernel, by decide +kernel⟩, List.mem_of_getElem? (i := 1398) rfl, List.mem_of_getElem? (i := 90) (by decide +kernel), ⟨List.mem_of_getElem? (i := 1396) (by decide +kernel), List.mem_of_getElem? (i := 1397) (by decide +kernel), rfl⟩⟩
set_option maxRecDepth 100000 in
theorem aq_Mo_separates : am_mok am_i_Mo_separates := ⟨⟨by decide +kernel, rfl, by decide +kernel, rfl, by decide +kernel, by decide +kernel⟩, List.mem_of_getElem? (i := 1418) rfl, List.mem_of_getElem? (i := 90) (by decide +kernel), ⟨List.mem_of_getElem? (i := 1416) (by decide +kernel), List.mem_of_getElem? (i := 1417) (by decide +kernel), rfl⟩⟩
set_option maxRecDepth 100000 in
theorem aq_Mo_mustBe : am_mok am_i_Mo_mustBe := ⟨⟨by decide +kernel, rfl, by decide +kernel, rfl, by decide +kernel, by decide +kernel⟩, List.mem_of_getElem? (i := 1426) rfl, List.mem_of_getElem? (i := 90) (by decide +kernel), ⟨List.mem_of_getElem? (i := 1425) (by decide +kernel), List.mem_of_getElem? (i := 61) (by decide +kernel), rfl⟩⟩
set_option maxRecDepth 100000 in
theorem aq_Mo_isolatingValue : am_mok am_i_Mo_isolatingValue := ⟨⟨by decide +kernel, rfl, by decide +kernel, rfl, by decide +kernel, by decide +kernel⟩, List.mem_of_getElem? (i := 1422) rfl, List.mem_of_getElem? (i := 90) (by decide +kernel), ⟨List.mem_of_getElem? (i := 1420) (by decide +kernel), List.mem_of_getElem? (i := 1421) (by decide +kernel), rfl⟩⟩
set_option maxRecDepth 100000 in
theorem aq_Mo_isolatingSet : am_mok am_i_Mo_isolatingSet := ⟨⟨by decide +kernel, rfl, by decide +kernel, rfl, by decide +kernel, by decide +kernel⟩, List.mem_of_getElem? (i := 1439) rfl, List.mem_of_getElem? (i := 90) (by decide +kernel), ⟨List.mem_of_getElem? (i := 1437) (by decide +kernel), List.mem_of_getElem? (i := 1438) (by decide +kernel), rfl⟩⟩
set_option maxRecDepth 100000 in
theorem aq_Mo_lowerBound : am_mok am_i_Mo_lowerBound := ⟨⟨by decide +kernel, rfl, by decide +kernel, rfl, by decide +kernel, by decide +kernel⟩, List.mem_of_getElem? (i := 1443) rfl, List.mem_of_getElem? (i := 90) (by decide +kernel), ⟨List.mem_of_getElem? (i := 1441) (by decide +kernel), List.mem_of_getElem? (i := 1442) (by decide +kernel), rfl⟩⟩
set_option maxRecDepth 100000 in
theorem aq_Mo_hasTerminal : am_mok am_i_Mo_hasTerminal := ⟨⟨by decide +kernel, rfl, by decide +kernel, rfl, by decide +kernel, by decide +kernel⟩, List.mem_of_getElem? (i := 1455) rfl, List.mem_of_getElem? (i := 90) (by decide +kernel), ⟨List.mem_of_getElem? (i := 1454) (by decide +kernel), List.mem_of_getElem? (i := 65) (by decide +kernel), rfl⟩⟩
set_option maxRecDepth 100000 in
theorem aq_Mo_dearest : am_mok am_i_Mo_dearest := ⟨⟨by decide +kernel, rfl, by decide +kernel, rfl, by decide +kernel, by decide +kernel⟩, List.mem_of_getElem? (i := 1451) rfl, List.mem_of_getElem? (i := 90) (by decide +kernel), ⟨List.mem_of_getElem? (i := 1449) (by decide +kernel), List.mem_of_getElem? (i := 1450) (by decide +kernel), rfl⟩⟩
set_option maxRecDepth 100000 in
theorem aq_Mo_unionNow : am_mok am_i_Mo_unionNow := ⟨⟨by decide +kernel, rfl, by decide +kernel, rfl, by decide +kernel, by decide +kernel⟩, List.mem_of_getElem? (i := 1467) rfl, List.mem_of_getElem? (i := 90) (by decide +kernel), ⟨List.mem_of_getElem? (i := 1466) (by decide +kernel), List.mem_of_getElem? (i := 67) (by decide +kernel), rfl⟩⟩
set_option maxRecDepth 100000 in
theorem aq_Mo_unionCut : am_mok am_i_Mo_unionCut := ⟨⟨by decide +kernel, rfl, by decide +kernel, rfl, by decide +kernel, by decide +kernel⟩, List.mem_of_getElem? (i := 1463) rfl, List.mem_of_getElem? (i := 90) (by decide +kernel), ⟨List.mem_of_getElem? (i := 1461) (by decide +kernel), List.mem_of_getElem? (i := 1462) (by decide +kernel), rfl⟩⟩
set_option maxRecDepth 100000 in
theorem aq_Mo_unionCost : am_mok am_i_Mo_unionCost := ⟨⟨by decide +kernel, rfl, by decide +kernel, rfl, by decide +kernel, by decide +kernel⟩, List.mem_of_getElem? (i := 1471) rfl, List.mem_of_getElem? (i := 90) (by decide +kernel), ⟨List.mem_of_getElem? (i := 1469) (by decide +kernel), List.mem_of_getElem? (i := 1470) (by decide +kernel), rfl⟩⟩
set_option maxRecDepth 100000 in
theorem aq_Mo_rounds : am_mok am_i_Mo_rounds := ⟨⟨by decide +kernel, rfl, by decide +kernel, rfl, by decide +kernel, by decide +kernel⟩, List.mem_of_getElem? (i := 1475) rfl, List.mem_of_getElem? (i := 90) (by decide +kernel), ⟨List.mem_of_getElem? (i := 1473) (by decide +kernel), List.mem_of_getElem? (i := 1474) (by decide +kernel), rfl⟩⟩
set_option maxRecDepth 100000 in
theorem aq_Mo_fixed : am_mok am_i_Mo_fixed := ⟨⟨by decide +kernel, rfl, by decide +kernel, rfl, by decide +kernel, by decide +kernel⟩, List.mem_of_getElem? (i := 1491) rfl, List.mem_of_getElem? (i := 90) (by decide +kernel), ⟨List.mem_of_getElem? (i := 1489) (by decide +kernel), List.mem_of_getElem? (i := 1490) (by decide +kernel), rfl⟩⟩
set_option maxRecDepth 100000 in
theorem aq_Mo_exactCost : am_mok am_i_Mo_exactCost := ⟨⟨by decide +kernel, rfl, by decide +kernel, rfl, by decide +kernel, by decide +kernel⟩, List.mem_of_getElem? (i := 1495) rfl, List.mem_of_getElem? (i := 90) (by decide +kernel), ⟨List.mem_of_getElem? (i := 1493) (by decide +kernel), List.mem_of_getElem? (i := 1494) (by decide +kernel), rfl⟩⟩
set_option maxRecDepth 100000 in
theorem aq_Mo_exact : am_mok am_i_Mo_exact := ⟨⟨by decide +kernel, rfl, by decide +kernel, rfl, by decide +kernel, by decide +kernel⟩, List.mem_of_getElem? (i := 1515) rfl, List.mem_of_getElem? (i := 90) (by decide +kernel), ⟨List.mem_of_getElem? (i := 1513) (by decide +kernel), List.mem_of_getElem? (i := 1514) (by decide +kernel), rfl⟩⟩
set_option maxRecDepth 100000 in
theorem aq_Mo_price : am_mok am_i_Mo_price := ⟨⟨by decide +kernel, rfl, by decide +kernel, rfl, by decide +kernel, by decide +kernel⟩, List.mem_of_getElem? (i := 1519) rfl, List.mem_of_getElem? (i := 90) (by decide +kernel), ⟨List.mem_of_getElem? (i := 1517) (by decide +kernel), List.mem_of_getElem? (i := 1518) (by decide +kernel), rfl⟩⟩
set_option maxRecDepth 100000 in
theorem aq_Mo_nearest : am_mok am_i_Mo_nearest := ⟨⟨by decide +kernel, rfl, by decide +kernel, rfl, by decide +kernel, by decide +kernel⟩, List.mem_of_getElem? (i := 1523) rfl, List.mem_of_getElem? (i := 90) (by decide +kernel), ⟨List.mem_of_getElem? (i := 1521) (by decide +kernel), List.mem_of_getElem? (i := 1522) (by decide +kernel), rfl⟩⟩
set_option maxRecDepth 100000 in
theorem aq_Mo_distance : am_mok am_i_Mo_distance := ⟨⟨by decide +kernel, rfl, by decide +kernel, rfl, by decide +kernel, by decide +kernel⟩, List.mem_of_getElem? (i := 1535) rfl, List.mem_of_getElem? (i := 90) (by decide +kernel), ⟨List.mem_of_getElem? (i := 1533) (by decide +kernel), List.mem_of_getElem? (i := 1534) (by decide +kernel), rfl⟩⟩
set_option maxRecDepth 100000 in
theorem aq_Mo_label : am_mok am_i_Mo_label := ⟨⟨by decide +kernel, rfl, by decide +kernel, rfl, by decide +kernel, by decide +kernel⟩, List.mem_of_getElem? (i := 1539) rfl, List.mem_of_getElem? (i := 90) (by decide +kernel), ⟨List.mem_of_getElem? (i := 1537) (by decide +kernel), List.mem_of_getElem? (i := 1538) (by decide +kernel), rfl⟩⟩
set_option maxRecDepth 100000 in
theorem aq_Mo_cost : am_mok am_i_Mo_cost := ⟨⟨by decide +kernel, rfl, by decide +kernel, rfl, by decide +kernel, by decide +kernel⟩, List.mem_of_getElem? (i := 1543) rfl, List.mem_of_getElem? (i := 90) (by decide +kernel), ⟨List.mem_of_getElem? (i := 1541) (by decide +kernel), List.mem_of_getElem? (i := 1542) (by decide +kernel), rfl⟩⟩
set_option maxRecDepth 100000 in
theorem aq_Mo_cut : am_mok am_i_Mo_cut := ⟨⟨by decide +kernel, rfl, by decide +kernel, rfl, by decide +kernel, by decide +kernel⟩, List.mem_of_getElem? (i := 1551) rfl, List.mem_of_getElem? (i := 90) (by decide +kernel), ⟨List.mem_of_getElem? (i := 1549) (by decide +kernel), List.mem_of_getElem? (i := 1550) (by decide +kernel), rfl⟩⟩
set_option maxRecDepth 100000 in
theorem aq_Mo_ratio : am_mok am_i_Mo_ratio := ⟨⟨by decide +kernel, rfl, by decide +kernel, rfl, by decide +kernel, by decide +kernel⟩, List.mem_of_getElem? (i := 1555) rfl, List.mem_of_getElem? (i := 90) (by decide +kernel), ⟨List.mem_of_getElem? (i := 1553) (by decide +kernel), List.mem_of_getElem? (i := 1554) (by decide +kernel), rfl⟩⟩
set_option maxRecDepth 100000 in
theorem aq_Mo_meanCost : am_mok am_i_Mo_meanCost := ⟨⟨by decide +kernel, rfl, by decide +kernel, rfl, by decide +kernel, by decide +kernel⟩, List.mem_of_getElem? (i := 1560) rfl, List.mem_of_getElem? (i := 90) (by decide +kernel), ⟨List.mem_of_getElem? (i := 1558) (by decide +kernel), List.mem_of_getElem? (i := 1559) (by decide +kernel), rfl⟩⟩
set_option maxRecDepth 100000 in
theorem aq_Mo_laysMove : am_mok am_i_Mo_laysMove := ⟨⟨by decide +kernel, rfl, by decide +kernel, rfl, by decide +kernel, by decide +kernel⟩, List.mem_of_getElem? (i := 1569) rfl, List.mem_of_getElem? (i := 90) (by decide +kernel), ⟨List.mem_of_getElem? (i := 1568) (by decide +kernel), List.mem_of_getElem? (i := 78) (by decide +kernel), rfl⟩⟩
set_option maxRecDepth 100000 in
theorem aq_Mo_bestMove : am_mok am_i_Mo_bestMove := ⟨⟨by decide +kernel, rfl, by decide +kernel, rfl, by decide +kernel, by decide +kernel⟩, List.mem_of_getElem? (i := 1564) rfl, List.mem_of_getElem? (i := 90) (by decide +kernel), ⟨List.mem_of_getElem? (i := 1562) (by decide +kernel), List.mem_of_getElem? (i := 1563) (by decide +kernel), rfl⟩⟩
set_option maxRecDepth 100000 in
theorem aq_Mo_setLabel : am_mok am_i_Mo_setLabel := ⟨⟨by decide +kernel, rfl, by decide +kernel, rfl, by decide +kernel, by decide +kernel⟩, List.mem_of_getElem? (i := 1573) rfl, List.mem_of_getElem? (i := 90) (by decide +kernel), ⟨List.mem_of_getElem? (i := 1571) (by decide +kernel), List.mem_of_getElem? (i := 1572) (by decide +kernel), rfl⟩⟩
set_option maxRecDepth 100000 in
theorem aq_Mo_useNearest : am_mok am_i_Mo_useNearest := ⟨⟨by decide +kernel, rfl, by decide +kernel, rfl, by decide +kernel, by decide +kernel⟩, List.mem_of_getElem? (i := 1577) rfl, List.mem_of_getElem? (i := 90) (by decide +kernel), ⟨List.mem_of_getElem? (i := 1575) (by decide +kernel), List.mem_of_getElem? (i := 1576) (by decide +kernel), rfl⟩⟩
set_option maxRecDepth 100000 in
theorem aq_Mo_useUnion : am_mok am_i_Mo_useUnion := ⟨⟨by decide +kernel, rfl, by decide +kernel, rfl, by decide +kernel, by decide +kernel⟩, List.mem_of_getElem? (i := 1581) rfl, List.mem_of_getElem? (i := 90) (by decide +kernel), ⟨List.mem_of_getElem? (i := 1579) (by decide +kernel), List.mem_of_getElem? (i := 1580) (by decide +kernel), rfl⟩⟩
set_option maxRecDepth 100000 in
theorem aq_Mo_useExact : am_mok am_i_Mo_useExact := ⟨⟨by decide +kernel, rfl, by decide +kernel, rfl, by decide +kernel, by decide +kernel⟩, List.mem_of_getElem? (i := 1585) rfl, List.mem_of_getElem? (i := 90) (by decide +kernel), ⟨List.mem_of_getElem? (i := 1583) (by decide +kernel), List.mem_of_getElem? (i := 1584) (by decide +kernel), rfl⟩⟩
set_option maxRecDepth 100000 in
theorem aq_Mo_improve : am_mok am_i_Mo_improve := ⟨⟨by decide +kernel, rfl, by decide +kernel, rfl, by decide +kernel, by decide +kernel⟩, List.mem_of_getElem? (i := 1589) rfl, List.mem_of_getElem? (i := 90) (by decide +kernel), ⟨List.mem_of_getElem? (i := 1587) (by decide +kernel), List.mem_of_getElem? (i := 1588) (by decide +kernel), rfl⟩⟩
set_option maxRecDepth 100000 in
theorem aq_Mo_isEdge : am_mok am_i_Mo_isEdge := ⟨⟨by decide +kernel, rfl, by decide +kernel, rfl, by decide +kernel, by decide +kernel⟩, List.mem_of_getElem? (i := 1598) rfl, List.mem_of_getElem? (i := 90) (by decide +kernel), ⟨List.mem_of_getElem? (i := 1597) (by decide +kernel), List.mem_of_getElem? (i := 79) (by decide +kernel), rfl⟩⟩
set_option maxRecDepth 100000 in
theorem aq_Mo_setWeight : am_mok am_i_Mo_setWeight := ⟨⟨by decide +kernel, rfl, by decide +kernel, rfl, by decide +kernel, by decide +kernel⟩, List.mem_of_getElem? (i := 1594) rfl, List.mem_of_getElem? (i := 90) (by decide +kernel), ⟨List.mem_of_getElem? (i := 1592) (by decide +kernel), List.mem_of_getElem? (i := 1593) (by decide +kernel), rfl⟩⟩
set_option maxRecDepth 100000 in
theorem aq_Mo_areJoined : am_mok am_i_Mo_areJoined := ⟨⟨by decide +kernel, rfl, by decide +kernel, rfl, by decide +kernel, by decide +kernel⟩, List.mem_of_getElem? (i := 1607) rfl, List.mem_of_getElem? (i := 90) (by decide +kernel), ⟨List.mem_of_getElem? (i := 1606) (by decide +kernel), List.mem_of_getElem? (i := 80) (by decide +kernel), rfl⟩⟩
set_option maxRecDepth 100000 in
theorem aq_Mo_addEdge : am_mok am_i_Mo_addEdge := ⟨⟨by decide +kernel, rfl, by decide +kernel, rfl, by decide +kernel, by decide +kernel⟩, List.mem_of_getElem? (i := 1603) rfl, List.mem_of_getElem? (i := 90) (by decide +kernel), ⟨List.mem_of_getElem? (i := 1601) (by decide +kernel), List.mem_of_getElem? (i := 1602) (by decide +kernel), rfl⟩⟩
set_option maxRecDepth 100000 in
theorem aq_Mo_removeEdge : am_mok am_i_Mo_removeEdge := ⟨⟨by decide +kernel, rfl, by decide +kernel, rfl, by decide +kernel, by decide +kernel⟩, List.mem_of_getElem? (i := 1611) rfl, List.mem_of_getElem? (i := 90) (by decide +kernel), ⟨List.mem_of_getElem? (i := 1609) (by decide +kernel), List.mem_of_getElem? (i := 1610) (by decide +kernel), rfl⟩⟩
set_option maxRecDepth 100000 in
theorem aq_Mo_setTerminal : am_mok am_i_Mo_setTerminal := ⟨⟨by decide +kernel, rfl, by decide +kernel, rfl, by decide +kernel, by decide +kernel⟩, List.mem_of_getElem? (i := 1615) rfl, List.mem_of_getElem? (i := 90) (by decide +kernel), ⟨List.mem_of_getElem? (i := 1613) (by decide +kernel), List.mem_of_getElem? (i := 1614) (by decide +kernel), rfl⟩⟩
set_option maxRecDepth 100000 in
theorem aq_Mo_undo : am_mok am_i_Mo_undo := ⟨⟨by decide +kernel, rfl, by decide +kernel, rfl, by decide +kernel, by decide +kernel⟩, List.mem_of_getElem? (i := 1619) rfl, List.mem_of_getElem? (i := 90) (by decide +kernel), ⟨List.mem_of_getElem? (i := 1617) (by decide +kernel), List.mem_of_getElem? (i := 1618) (by decide +kernel), rfl⟩⟩
set_option maxRecDepth 100000 in
theorem aq_Mo_checksum : am_mok am_i_Mo_checksum := ⟨⟨by decide +kernel, rfl, by decide +kernel, rfl, by decide +kernel, by decide +kernel⟩, List.mem_of_getElem? (i := 1623) rfl, List.mem_of_getElem? (i := 90) (by decide +kernel), ⟨List.mem_of_getElem? (i := 1621) (by decide +kernel), List.mem_of_getElem? (i := 1622) (by decide +kernel), rfl⟩⟩
set_option maxRecDepth 100000 in
theorem aq_JI_bitCount : am_mok am_i_JI_bitCount := ⟨⟨by decide +kernel, rfl, by decide +kernel, rfl, by decide +kernel, by decide +kernel⟩, List.mem_of_getElem? (i := 416) rfl, List.mem_of_getElem? (i := 101) (by decide +kernel), List.mem_of_getElem? (i := 415) (by decide +kernel)⟩
set_option maxRecDepth 100000 in
theorem aq_JA_fill : am_mok am_i_JA_fill := ⟨⟨by decide +kernel, rfl, by decide +kernel, rfl, by decide +kernel, by decide +kernel⟩, List.mem_of_getElem? (i := 449) rfl, List.mem_of_getElem? (i := 95) (by decide +kernel), List.mem_of_getElem? (i := 448) (by decide +kernel)⟩
set_option maxRecDepth 100000 in
theorem aq_JA_copyOf : am_mok am_i_JA_copyOf := ⟨⟨by decide +kernel, rfl, by decide +kernel, rfl, by decide +kernel, by decide +kernel⟩, List.mem_of_getElem? (i := 770) rfl, List.mem_of_getElem? (i := 95) (by decide +kernel), List.mem_of_getElem? (i := 769) (by decide +kernel)⟩
set_option maxRecDepth 100000 in
theorem aq_La_load : am_mok am_i_La_load := ⟨⟨by decide +kernel, rfl, by decide +kernel, rfl, by decide +kernel, by decide +kernel⟩, List.mem_of_getElem? (i := 540) rfl, List.mem_of_getElem? (i := 81) (by decide +kernel), List.mem_of_getElem? (i := 539) (by decide +kernel)⟩
set_option maxRecDepth 100000 in
theorem aq_La_burden : am_mok am_i_La_burden := ⟨⟨by decide +kernel, rfl, by decide +kernel, rfl, by decide +kernel, by decide +kernel⟩, List.mem_of_getElem? (i := 816) rfl, List.mem_of_getElem? (i := 81) (by decide +kernel), List.mem_of_getElem? (i := 815) (by decide +kernel)⟩
set_option maxRecDepth 100000 in
theorem aq_La_edge : am_mok am_i_La_edge := ⟨⟨by decide +kernel, rfl, by decide +kernel, rfl, by decide +kernel, by decide +kernel⟩, List.mem_of_getElem? (i := 845) rfl, List.mem_of_getElem? (i := 81) (by decide +kernel), List.mem_of_getElem? (i := 844) (by decide +kernel)⟩
set_option maxRecDepth 100000 in
theorem aq_La_cutCost : am_mok am_i_La_cutCost := ⟨⟨by decide +kernel, rfl, by decide +kernel, rfl, by decide +kernel, by decide +kernel⟩, List.mem_of_getElem? (i := 859) rfl, List.mem_of_getElem? (i := 81) (by decide +kernel), List.mem_of_getElem? (i := 858) (by decide +kernel)⟩
set_option maxRecDepth 100000 in
theorem aq_La_separates : am_mok am_i_La_separates := ⟨⟨by decide +kernel, rfl, by decide +kernel, rfl, by decide +kernel, by decide +kernel⟩, List.mem_of_getElem? (i := 869) rfl, List.mem_of_getElem? (i := 81) (by decide +kernel), List.mem_of_getElem? (i := 868) (by decide +kernel)⟩
set_option maxRecDepth 100000 in
theorem aq_La_isolatingValue : am_mok am_i_La_isolatingValue := ⟨⟨by decide +kernel, rfl, by decide +kernel, rfl, by decide +kernel, by decide +kernel⟩, List.mem_of_getElem? (i := 885) rfl, List.mem_of_getElem? (i := 81) (by decide +kernel), List.mem_of_getElem? (i := 884) (by decide +kernel)⟩
set_option maxRecDepth 100000 in
theorem aq_La_isolatingSet : am_mok am_i_La_isolatingSet := ⟨⟨by decide +kernel, rfl, by decide +kernel, rfl, by decide +kernel, by decide +kernel⟩, List.mem_of_getElem? (i := 897) rfl, List.mem_of_getElem? (i := 81) (by decide +kernel), List.mem_of_getElem? (i := 896) (by decide +kernel)⟩
set_option maxRecDepth 100000 in
theorem aq_La_dearest : am_mok am_i_La_dearest := ⟨⟨by decide +kernel, rfl, by decide +kernel, rfl, by decide +kernel, by decide +kernel⟩, List.mem_of_getElem? (i := 905) rfl, List.mem_of_getElem? (i := 81) (by decide +kernel), List.mem_of_getElem? (i := 904) (by decide +kernel)⟩
set_option maxRecDepth 100000 in
theorem aq_La_unionCut : am_mok am_i_La_unionCut := ⟨⟨by decide +kernel, rfl, by decide +kernel, rfl, by decide +kernel, by decide +kernel⟩, List.mem_of_getElem? (i := 937) rfl, List.mem_of_getElem? (i := 81) (by decide +kernel), List.mem_of_getElem? (i := 936) (by decide +kernel)⟩
set_option maxRecDepth 100000 in
theorem aq_La_unionCost : am_mok am_i_La_unionCost := ⟨⟨by decide +kernel, rfl, by decide +kernel, rfl, by decide +kernel, by decide +kernel⟩, List.mem_of_getElem? (i := 949) rfl, List.mem_of_getElem? (i := 81) (by decide +kernel), List.mem_of_getElem? (i := 948) (by decide +kernel)⟩
set_option maxRecDepth 100000 in
theorem aq_La_fixed : am_mok am_i_La_fixed := ⟨⟨by decide +kernel, rfl, by decide +kernel, rfl, by decide +kernel, by decide +kernel⟩, List.mem_of_getElem? (i := 957) rfl, List.mem_of_getElem? (i := 81) (by decide +kernel), List.mem_of_getElem? (i := 956) (by decide +kernel)⟩
set_option maxRecDepth 100000 in
theorem aq_La_exact : am_mok am_i_La_exact := ⟨⟨by decide +kernel, rfl, by decide +kernel, rfl, by decide +kernel, by decide +kernel⟩, List.mem_of_getElem? (i := 968) rfl, List.mem_of_getElem? (i := 81) (by decide +kernel), List.mem_of_getElem? (i := 967) (by decide +kernel)⟩
set_option maxRecDepth 100000 in
theorem aq_La_price : am_mok am_i_La_price := ⟨⟨by decide +kernel, rfl, by decide +kernel, rfl, by decide +kernel, by decide +kernel⟩, List.mem_of_getElem? (i := 975) rfl, List.mem_of_getElem? (i := 81) (by decide +kernel), List.mem_of_getElem? (i := 974) (by decide +kernel)⟩
set_option maxRecDepth 100000 in
theorem aq_La_nearest : am_mok am_i_La_nearest := ⟨⟨by decide +kernel, rfl, by decide +kernel, rfl, by decide +kernel, by decide +kernel⟩, List.mem_of_getElem? (i := 982) rfl, List.mem_of_getElem? (i := 81) (by decide +kernel), List.mem_of_getElem? (i := 981) (by decide +kernel)⟩
set_option maxRecDepth 100000 in
theorem aq_La_distance : am_mok am_i_La_distance := ⟨⟨by decide +kernel, rfl, by decide +kernel, rfl, by decide +kernel, by decide +kernel⟩, List.mem_of_getElem? (i := 989) rfl, List.mem_of_getElem? (i := 81) (by decide +kernel), List.mem_of_getElem? (i := 988) (by decide +kernel)⟩
set_option maxRecDepth 100000 in
theorem aq_La_label : am_mok am_i_La_label := ⟨⟨by decide +kernel, rfl, by decide +kernel, rfl, by decide +kernel, by decide +kernel⟩, List.mem_of_getElem? (i := 996) rfl, List.mem_of_getElem? (i := 81) (by decide +kernel), List.mem_of_getElem? (i := 995) (by decide +kernel)⟩
set_option maxRecDepth 100000 in
theorem aq_La_bestMove : am_mok am_i_La_bestMove := ⟨⟨by decide +kernel, rfl, by decide +kernel, rfl, by decide +kernel, by decide +kernel⟩, List.mem_of_getElem? (i := 1003) rfl, List.mem_of_getElem? (i := 81) (by decide +kernel), List.mem_of_getElem? (i := 1002) (by decide +kernel)⟩
set_option maxRecDepth 100000 in
theorem aq_La_setLabel : am_mok am_i_La_setLabel := ⟨⟨by decide +kernel, rfl, by decide +kernel, rfl, by decide +kernel, by decide +kernel⟩, List.mem_of_getElem? (i := 1021) rfl, List.mem_of_getElem? (i := 81) (by decide +kernel), List.mem_of_getElem? (i := 1020) (by decide +kernel)⟩
set_option maxRecDepth 100000 in
theorem aq_La_useUnion : am_mok am_i_La_useUnion := ⟨⟨by decide +kernel, rfl, by decide +kernel, rfl, by decide +kernel, by decide +kernel⟩, List.mem_of_getElem? (i := 1029) rfl, List.mem_of_getElem? (i := 81) (by decide +kernel), List.mem_of_getElem? (i := 1028) (by decide +kernel)⟩
set_option maxRecDepth 100000 in
theorem aq_La_improve : am_mok am_i_La_improve := ⟨⟨by decide +kernel, rfl, by decide +kernel, rfl, by decide +kernel, by decide +kernel⟩, List.mem_of_getElem? (i := 1043) rfl, List.mem_of_getElem? (i := 81) (by decide +kernel), List.mem_of_getElem? (i := 1042) (by decide +kernel)⟩
set_option maxRecDepth 100000 in
theorem aq_La_setWeight : am_mok am_i_La_setWeight := ⟨⟨by decide +kernel, rfl, by decide +kernel, rfl, by decide +kernel, by decide +kernel⟩, List.mem_of_getElem? (i := 1056) rfl, List.mem_of_getElem? (i := 81) (by decide +kernel), List.mem_of_getElem? (i := 1055) (by decide +kernel)⟩
set_option maxRecDepth 100000 in
theorem aq_La_addEdge : am_mok am_i_La_addEdge := ⟨⟨by decide +kernel, rfl, by decide +kernel, rfl, by decide +kernel, by decide +kernel⟩, List.mem_of_getElem? (i := 1069) rfl, List.mem_of_getElem? (i := 81) (by decide +kernel), List.mem_of_getElem? (i := 1068) (by decide +kernel)⟩
set_option maxRecDepth 100000 in
theorem aq_La_removeEdge : am_mok am_i_La_removeEdge := ⟨⟨by decide +kernel, rfl, by decide +kernel, rfl, by decide +kernel, by decide +kernel⟩, List.mem_of_getElem? (i := 1080) rfl, List.mem_of_getElem? (i := 81) (by decide +kernel), List.mem_of_getElem? (i := 1079) (by decide +kernel)⟩
set_option maxRecDepth 100000 in
theorem aq_La_setTerminal : am_mok am_i_La_setTerminal := ⟨⟨by decide +kernel, rfl, by decide +kernel, rfl, by decide +kernel, by decide +kernel⟩, List.mem_of_getElem? (i := 1091) rfl, List.mem_of_getElem? (i := 81) (by decide +kernel), List.mem_of_getElem? (i := 1090) (by decide +kernel)⟩
theorem am_moks_0 : ∀ i ∈ ([am_i_Cu_keepsApart, am_i_Cu_reachedFrom, am_i_Cu_cheapestSet, am_i_Cu_setOf, am_i_Cu_valueOf, am_i_Cu_dearestOf, am_i_Cu_unionOf, am_i_Cu_labelByUnion, am_i_Cu_labelSet, am_i_Ex_init, am_i_Ex_run, am_i_Ex_extend, am_i_Ex_costToEarlier, am_i_Fo_init, am_i_Fo_evaluate, am_i_Fo_operand, am_i_Fo_combine, am_i_Gr_init, am_i_Gr_clear, am_i_Gr_copyFrom, am_i_Gr_hasVertex, am_i_Gr_isTerminal, am_i_Gr_allVertices, am_i_Gr_hasEdgeBetween, am_i_Gr_endsOf, am_i_Gr_lengthOf, am_i_Gr_putEdge, am_i_Gr_updateCost, am_i_Gr_dropEdge, am_i_Gr_startTerminal, am_i_Gr_endTerminal, am_i_Gr_takeLabels, am_i_Gr_borderOf, am_i_Gr_costOfEdges, am_i_Gr_costOfSet, am_i_Gr_presentCut, am_i_Gr_presentCost, am_i_Gp_init, am_i_Gp_run, am_i_Gp_makeRound, am_i_Gp_grouped, am_i_Gp_ownerOf, am_i_Hi_init, am_i_Hi_save, am_i_Hi_restore, am_i_Mv_init, am_i_Mv_run, am_i_Mv_consider, am_i_Mv_makeImprovement, am_i_Ne_init] : List am_I), am_mok i := List.forall_mem_cons.mpr ⟨aq_Cu_keepsApart, List.forall_mem_cons.mpr ⟨aq_Cu_reachedFrom, List.forall_mem_cons.mpr ⟨aq_Cu_cheapestSet, List.forall_mem_cons.mpr ⟨aq_Cu_setOf, List.forall_mem_cons.mpr ⟨aq_Cu_valueOf, List.forall_mem_cons.mpr ⟨aq_Cu_dearestOf, List.forall_mem_cons.mpr ⟨aq_Cu_unionOf, List.forall_mem_cons.mpr ⟨aq_Cu_labelByUnion, List.forall_mem_cons.mpr ⟨aq_Cu_labelSet, List.forall_mem_cons.mpr ⟨aq_Ex_init, List.forall_mem_cons.mpr ⟨aq_Ex_run, List.forall_mem_cons.mpr ⟨aq_Ex_extend, List.forall_mem_cons.mpr ⟨aq_Ex_costToEarlier, List.forall_mem_cons.mpr ⟨aq_Fo_init, List.forall_mem_cons.mpr ⟨aq_Fo_evaluate, List.forall_mem_cons.mpr ⟨aq_Fo_operand, List.forall_mem_cons.mpr ⟨aq_Fo_combine, List.forall_mem_cons.mpr ⟨aq_Gr_init, List.forall_mem_cons.mpr ⟨aq_Gr_clear, List.forall_mem_cons.mpr ⟨aq_Gr_copyFrom, List.forall_mem_cons.mpr ⟨aq_Gr_hasVertex, List.forall_mem_cons.mpr ⟨aq_Gr_isTerminal, List.forall_mem_cons.mpr ⟨aq_Gr_allVertices, List.forall_mem_cons.mpr ⟨aq_Gr_hasEdgeBetween, List.forall_mem_cons.mpr ⟨aq_Gr_endsOf, List.forall_mem_cons.mpr ⟨aq_Gr_lengthOf, List.forall_mem_cons.mpr ⟨aq_Gr_putEdge, List.forall_mem_cons.mpr ⟨aq_Gr_updateCost, List.forall_mem_cons.mpr ⟨aq_Gr_dropEdge, List.forall_mem_cons.mpr ⟨aq_Gr_startTerminal, List.forall_mem_cons.mpr ⟨aq_Gr_endTerminal, List.forall_mem_cons.mpr ⟨aq_Gr_takeLabels, List.forall_mem_cons.mpr ⟨aq_Gr_borderOf, List.forall_mem_cons.mpr ⟨aq_Gr_costOfEdges, List.forall_mem_cons.mpr ⟨aq_Gr_costOfSet, List.forall_mem_cons.mpr ⟨aq_Gr_presentCut, List.forall_mem_cons.mpr ⟨aq_Gr_presentCost, List.forall_mem_cons.mpr ⟨aq_Gp_init, List.forall_mem_cons.mpr ⟨aq_Gp_run, List.forall_mem_cons.mpr ⟨aq_Gp_makeRound, List.forall_mem_cons.mpr ⟨aq_Gp_grouped, List.forall_mem_cons.mpr ⟨aq_Gp_ownerOf, List.forall_mem_cons.mpr ⟨aq_Hi_init, List.forall_mem_cons.mpr ⟨aq_Hi_save, List.forall_mem_cons.mpr ⟨aq_Hi_restore, List.forall_mem_cons.mpr ⟨aq_Mv_init, List.forall_mem_cons.mpr ⟨aq_Mv_run, List.forall_mem_cons.mpr ⟨aq_Mv_consider, List.forall_mem_cons.mpr ⟨aq_Mv_makeImprovement, List.forall_mem_cons.mpr ⟨aq_Ne_init, fun _ h => absurd h List.not_mem_nil⟩⟩⟩⟩⟩⟩⟩⟩⟩⟩⟩⟩⟩⟩⟩⟩⟩⟩⟩⟩⟩⟩⟩⟩⟩⟩⟩⟩⟩⟩⟩⟩⟩⟩⟩⟩⟩⟩⟩⟩⟩⟩⟩⟩⟩⟩⟩⟩⟩⟩
theorem am_moks_1 : ∀ i ∈ ([am_i_Ne_run, am_i_Ne_offer, am_i_Rd_init, am_i_Rd_read, am_i_Rd_finish, am_i_Rd_readGraph, am_i_Rd_readStatement, am_i_Rd_readTerminal, am_i_Rd_readEdge, am_i_Rd_readLoad, am_i_Rd_startCost, am_i_Rd_readSum, am_i_Rd_readTerm, am_i_Rd_readFactor, am_i_Rd_putCode, am_i_Rd_readSymbol, am_i_Rd_vertexHere, am_i_Rd_numberHere, am_i_Rd_isWord, am_i_Rd_fail, am_i_Rd_advance, am_i_Mc_init, am_i_Mc_append, am_i_Mc_putWord, am_i_Mc_load, am_i_Mc_errorOffset, am_i_Mc_size, am_i_Mc_edgeCount, am_i_Mc_terminals, am_i_Mc_burden, am_i_Mc_edge, am_i_Mc_cutCost, am_i_Mc_separates, am_i_Mc_isolatingValue, am_i_Mc_isolatingSet, am_i_Mc_lowerBound, am_i_Mc_dearest, am_i_Mc_unionCut, am_i_Mc_unionCost, am_i_Mc_rounds, am_i_Mc_fixed, am_i_Mc_exactCost, am_i_Mc_exact, am_i_Mc_price, am_i_Mc_nearest, am_i_Mc_distance, am_i_Mc_label, am_i_Mc_cost, am_i_Mc_cut, am_i_Mc_ratio] : List am_I), am_mok i := List.forall_mem_cons.mpr ⟨aq_Ne_run, List.forall_mem_cons.mpr ⟨aq_Ne_offer, List.forall_mem_cons.mpr ⟨aq_Rd_init, List.forall_mem_cons.mpr ⟨aq_Rd_read, List.forall_mem_cons.mpr ⟨aq_Rd_finish, List.forall_mem_cons.mpr ⟨aq_Rd_readGraph, List.forall_mem_cons.mpr ⟨aq_Rd_readStatement, List.forall_mem_cons.mpr ⟨aq_Rd_readTerminal, List.forall_mem_cons.mpr ⟨aq_Rd_readEdge, List.forall_mem_cons.mpr ⟨aq_Rd_readLoad, List.forall_mem_cons.mpr ⟨aq_Rd_startCost, List.forall_mem_cons.mpr ⟨aq_Rd_readSum, List.forall_mem_cons.mpr ⟨aq_Rd_readTerm, List.forall_mem_cons.mpr ⟨aq_Rd_readFactor, List.forall_mem_cons.mpr ⟨aq_Rd_putCode, List.forall_mem_cons.mpr ⟨aq_Rd_readSymbol, List.forall_mem_cons.mpr ⟨aq_Rd_vertexHere, List.forall_mem_cons.mpr ⟨aq_Rd_numberHere, List.forall_mem_cons.mpr ⟨aq_Rd_isWord, List.forall_mem_cons.mpr ⟨aq_Rd_fail, List.forall_mem_cons.mpr ⟨aq_Rd_advance, List.forall_mem_cons.mpr ⟨aq_Mc_init, List.forall_mem_cons.mpr ⟨aq_Mc_append, List.forall_mem_cons.mpr ⟨aq_Mc_putWord, List.forall_mem_cons.mpr ⟨aq_Mc_load, List.forall_mem_cons.mpr ⟨aq_Mc_errorOffset, List.forall_mem_cons.mpr ⟨aq_Mc_size, List.forall_mem_cons.mpr ⟨aq_Mc_edgeCount, List.forall_mem_cons.mpr ⟨aq_Mc_terminals, List.forall_mem_cons.mpr ⟨aq_Mc_burden, List.forall_mem_cons.mpr ⟨aq_Mc_edge, List.forall_mem_cons.mpr ⟨aq_Mc_cutCost, List.forall_mem_cons.mpr ⟨aq_Mc_separates, List.forall_mem_cons.mpr ⟨aq_Mc_isolatingValue, List.forall_mem_cons.mpr ⟨aq_Mc_isolatingSet, List.forall_mem_cons.mpr ⟨aq_Mc_lowerBound, List.forall_mem_cons.mpr ⟨aq_Mc_dearest, List.forall_mem_cons.mpr ⟨aq_Mc_unionCut, List.forall_mem_cons.mpr ⟨aq_Mc_unionCost, List.forall_mem_cons.mpr ⟨aq_Mc_rounds, List.forall_mem_cons.mpr ⟨aq_Mc_fixed, List.forall_mem_cons.mpr ⟨aq_Mc_exactCost, List.forall_mem_cons.mpr ⟨aq_Mc_exact, List.forall_mem_cons.mpr ⟨aq_Mc_price, List.forall_mem_cons.mpr ⟨aq_Mc_nearest, List.forall_mem_cons.mpr ⟨aq_Mc_distance, List.forall_mem_cons.mpr ⟨aq_Mc_label, List.forall_mem_cons.mpr ⟨aq_Mc_cost, List.forall_mem_cons.mpr ⟨aq_Mc_cut, List.forall_mem_cons.mpr ⟨aq_Mc_ratio, fun _ h => absurd h List.not_mem_nil⟩⟩⟩⟩⟩⟩⟩⟩⟩⟩⟩⟩⟩⟩⟩⟩⟩⟩⟩⟩⟩⟩⟩⟩⟩⟩⟩⟩⟩⟩⟩⟩⟩⟩⟩⟩⟩⟩⟩⟩⟩⟩⟩⟩⟩⟩⟩⟩⟩⟩
theorem am_moks_2 : ∀ i ∈ ([am_i_Mc_meanCost, am_i_Mc_bestMove, am_i_Mc_setLabel, am_i_Mc_useNearest, am_i_Mc_useUnion, am_i_Mc_useExact, am_i_Mc_improve, am_i_Mc_setWeight, am_i_Mc_addEdge, am_i_Mc_removeEdge, am_i_Mc_setTerminal, am_i_Mc_undo, am_i_Mc_checksum, am_i_Mc_requireVertex, am_i_Mc_requireEdge, am_i_Mc_requireTerminal, am_i_Mc_requireSomeTerminal, am_i_Mc_requireWeight, am_i_Mo_init, am_i_Mo_thrown, am_i_Mo_isIn, am_i_Mo_get, am_i_Mo_put, am_i_Mo_change, am_i_Mo_right, am_i_Mo_append, am_i_Mo_fails, am_i_Mo_sees, am_i_Mo_takes, am_i_Mo_wants, am_i_Mo_isDigit, am_i_Mo_reads, am_i_Mo_codes, am_i_Mo_sum, am_i_Mo_term, am_i_Mo_factor, am_i_Mo_readsVertex, am_i_Mo_terminalLine, am_i_Mo_bitsOf, am_i_Mo_isJoined, am_i_Mo_edgeLine, am_i_Mo_loadLine, am_i_Mo_statement, am_i_Mo_texts, am_i_Mo_load, am_i_Mo_errorOffset, am_i_Mo_within, am_i_Mo_costOf, am_i_Mo_laysCosts, am_i_Mo_count] : List am_I), am_mok i := List.forall_mem_cons.mpr ⟨aq_Mc_meanCost, List.forall_mem_cons.mpr ⟨aq_Mc_bestMove, List.forall_mem_cons.mpr ⟨aq_Mc_setLabel, List.forall_mem_cons.mpr ⟨aq_Mc_useNearest, List.forall_mem_cons.mpr ⟨aq_Mc_useUnion, List.forall_mem_cons.mpr ⟨aq_Mc_useExact, List.forall_mem_cons.mpr ⟨aq_Mc_improve, List.forall_mem_cons.mpr ⟨aq_Mc_setWeight, List.forall_mem_cons.mpr ⟨aq_Mc_addEdge, List.forall_mem_cons.mpr ⟨aq_Mc_removeEdge, List.forall_mem_cons.mpr ⟨aq_Mc_setTerminal, List.forall_mem_cons.mpr ⟨aq_Mc_undo, List.forall_mem_cons.mpr ⟨aq_Mc_checksum, List.forall_mem_cons.mpr ⟨aq_Mc_requireVertex, List.forall_mem_cons.mpr ⟨aq_Mc_requireEdge, List.forall_mem_cons.mpr ⟨aq_Mc_requireTerminal, List.forall_mem_cons.mpr ⟨aq_Mc_requireSomeTerminal, List.forall_mem_cons.mpr ⟨aq_Mc_requireWeight, List.forall_mem_cons.mpr ⟨aq_Mo_init, List.forall_mem_cons.mpr ⟨aq_Mo_thrown, List.forall_mem_cons.mpr ⟨aq_Mo_isIn, List.forall_mem_cons.mpr ⟨aq_Mo_get, List.forall_mem_cons.mpr ⟨aq_Mo_put, List.forall_mem_cons.mpr ⟨aq_Mo_change, List.forall_mem_cons.mpr ⟨aq_Mo_right, List.forall_mem_cons.mpr ⟨aq_Mo_append, List.forall_mem_cons.mpr ⟨aq_Mo_fails, List.forall_mem_cons.mpr ⟨aq_Mo_sees, List.forall_mem_cons.mpr ⟨aq_Mo_takes, List.forall_mem_cons.mpr ⟨aq_Mo_wants, List.forall_mem_cons.mpr ⟨aq_Mo_isDigit, List.forall_mem_cons.mpr ⟨aq_Mo_reads, List.forall_mem_cons.mpr ⟨aq_Mo_codes, List.forall_mem_cons.mpr ⟨aq_Mo_sum, List.forall_mem_cons.mpr ⟨aq_Mo_term, List.forall_mem_cons.mpr ⟨aq_Mo_factor, List.forall_mem_cons.mpr ⟨aq_Mo_readsVertex, List.forall_mem_cons.mpr ⟨aq_Mo_terminalLine, List.forall_mem_cons.mpr ⟨aq_Mo_bitsOf, List.forall_mem_cons.mpr ⟨aq_Mo_isJoined, List.forall_mem_cons.mpr ⟨aq_Mo_edgeLine, List.forall_mem_cons.mpr ⟨aq_Mo_loadLine, List.forall_mem_cons.mpr ⟨aq_Mo_statement, List.forall_mem_cons.mpr ⟨aq_Mo_texts, List.forall_mem_cons.mpr ⟨aq_Mo_load, List.forall_mem_cons.mpr ⟨aq_Mo_errorOffset, List.forall_mem_cons.mpr ⟨aq_Mo_within, List.forall_mem_cons.mpr ⟨aq_Mo_costOf, List.forall_mem_cons.mpr ⟨aq_Mo_laysCosts, List.forall_mem_cons.mpr ⟨aq_Mo_count, fun _ h => absurd h List.not_mem_nil⟩⟩⟩⟩⟩⟩⟩⟩⟩⟩⟩⟩⟩⟩⟩⟩⟩⟩⟩⟩⟩⟩⟩⟩⟩⟩⟩⟩⟩⟩⟩⟩⟩⟩⟩⟩⟩⟩⟩⟩⟩⟩⟩⟩⟩⟩⟩⟩⟩⟩
theorem am_moks_3 : ∀ i ∈ ([am_i_Mo_edges, am_i_Mo_low, am_i_Mo_high, am_i_Mo_has, am_i_Mo_isTerminal, am_i_Mo_all, am_i_Mo_cutOf, am_i_Mo_bestSet, am_i_Mo_isolating, am_i_Mo_laysIsolating, am_i_Mo_dearestNow, am_i_Mo_othersOf, am_i_Mo_goesRound, am_i_Mo_laysGroups, am_i_Mo_costBy, am_i_Mo_goesOn, am_i_Mo_laysExact, am_i_Mo_exactNow, am_i_Mo_costNow, am_i_Mo_lengthOf, am_i_Mo_laysFar, am_i_Mo_laysNear, am_i_Mo_size, am_i_Mo_edgeCount, am_i_Mo_terminals, am_i_Mo_isVertex, am_i_Mo_burden, am_i_Mo_edge, am_i_Mo_cutCost, am_i_Mo_separates, am_i_Mo_mustBe, am_i_Mo_isolatingValue, am_i_Mo_isolatingSet, am_i_Mo_lowerBound, am_i_Mo_hasTerminal, am_i_Mo_dearest, am_i_Mo_unionNow, am_i_Mo_unionCut, am_i_Mo_unionCost, am_i_Mo_rounds, am_i_Mo_fixed, am_i_Mo_exactCost, am_i_Mo_exact, am_i_Mo_price, am_i_Mo_nearest, am_i_Mo_distance, am_i_Mo_label, am_i_Mo_cost, am_i_Mo_cut, am_i_Mo_ratio] : List am_I), am_mok i := List.forall_mem_cons.mpr ⟨aq_Mo_edges, List.forall_mem_cons.mpr ⟨aq_Mo_low, List.forall_mem_cons.mpr ⟨aq_Mo_high, List.forall_mem_cons.mpr ⟨aq_Mo_has, List.forall_mem_cons.mpr ⟨aq_Mo_isTerminal, List.forall_mem_cons.mpr ⟨aq_Mo_all, List.forall_mem_cons.mpr ⟨aq_Mo_cutOf, List.forall_mem_cons.mpr ⟨aq_Mo_bestSet, List.forall_mem_cons.mpr ⟨aq_Mo_isolating, List.forall_mem_cons.mpr ⟨aq_Mo_laysIsolating, List.forall_mem_cons.mpr ⟨aq_Mo_dearestNow, List.forall_mem_cons.mpr ⟨aq_Mo_othersOf, List.forall_mem_cons.mpr ⟨aq_Mo_goesRound, List.forall_mem_cons.mpr ⟨aq_Mo_laysGroups, List.forall_mem_cons.mpr ⟨aq_Mo_costBy, List.forall_mem_cons.mpr ⟨aq_Mo_goesOn, List.forall_mem_cons.mpr ⟨aq_Mo_laysExact, List.forall_mem_cons.mpr ⟨aq_Mo_exactNow, List.forall_mem_cons.mpr ⟨aq_Mo_costNow, List.forall_mem_cons.mpr ⟨aq_Mo_lengthOf, List.forall_mem_cons.mpr ⟨aq_Mo_laysFar, List.forall_mem_cons.mpr ⟨aq_Mo_laysNear, List.forall_mem_cons.mpr ⟨aq_Mo_size, List.forall_mem_cons.mpr ⟨aq_Mo_edgeCount, List.forall_mem_cons.mpr ⟨aq_Mo_terminals, List.forall_mem_cons.mpr ⟨aq_Mo_isVertex, List.forall_mem_cons.mpr ⟨aq_Mo_burden, List.forall_mem_cons.mpr ⟨aq_Mo_edge, List.forall_mem_cons.mpr ⟨aq_Mo_cutCost, List.forall_mem_cons.mpr ⟨aq_Mo_separates, List.forall_mem_cons.mpr ⟨aq_Mo_mustBe, List.forall_mem_cons.mpr ⟨aq_Mo_isolatingValue, List.forall_mem_cons.mpr ⟨aq_Mo_isolatingSet, List.forall_mem_cons.mpr ⟨aq_Mo_lowerBound, List.forall_mem_cons.mpr ⟨aq_Mo_hasTerminal, List.forall_mem_cons.mpr ⟨aq_Mo_dearest, List.forall_mem_cons.mpr ⟨aq_Mo_unionNow, List.forall_mem_cons.mpr ⟨aq_Mo_unionCut, List.forall_mem_cons.mpr ⟨aq_Mo_unionCost, List.forall_mem_cons.mpr ⟨aq_Mo_rounds, List.forall_mem_cons.mpr ⟨aq_Mo_fixed, List.forall_mem_cons.mpr ⟨aq_Mo_exactCost, List.forall_mem_cons.mpr ⟨aq_Mo_exact, List.forall_mem_cons.mpr ⟨aq_Mo_price, List.forall_mem_cons.mpr ⟨aq_Mo_nearest, List.forall_mem_cons.mpr ⟨aq_Mo_distance, List.forall_mem_cons.mpr ⟨aq_Mo_label, List.forall_mem_cons.mpr ⟨aq_Mo_cost, List.forall_mem_cons.mpr ⟨aq_Mo_cut, List.forall_mem_cons.mpr ⟨aq_Mo_ratio, fun _ h => absurd h List.not_mem_nil⟩⟩⟩⟩⟩⟩⟩⟩⟩⟩⟩⟩⟩⟩⟩⟩⟩⟩⟩⟩⟩⟩⟩⟩⟩⟩⟩⟩⟩⟩⟩⟩⟩⟩⟩⟩⟩⟩⟩⟩⟩⟩⟩⟩⟩⟩⟩⟩⟩⟩
theorem am_moks_4 : ∀ i ∈ ([am_i_Mo_meanCost, am_i_Mo_laysMove, am_i_Mo_bestMove, am_i_Mo_setLabel, am_i_Mo_useNearest, am_i_Mo_useUnion, am_i_Mo_useExact, am_i_Mo_improve, am_i_Mo_isEdge, am_i_Mo_setWeight, am_i_Mo_areJoined, am_i_Mo_addEdge, am_i_Mo_removeEdge, am_i_Mo_setTerminal, am_i_Mo_undo, am_i_Mo_checksum, am_i_JI_bitCount, am_i_JA_fill, am_i_JA_copyOf, am_i_La_load, am_i_La_burden, am_i_La_edge, am_i_La_cutCost, am_i_La_separates, am_i_La_isolatingValue, am_i_La_isolatingSet, am_i_La_dearest, am_i_La_unionCut, am_i_La_unionCost, am_i_La_fixed, am_i_La_exact, am_i_La_price, am_i_La_nearest, am_i_La_distance, am_i_La_label, am_i_La_bestMove, am_i_La_setLabel, am_i_La_useUnion, am_i_La_improve, am_i_La_setWeight, am_i_La_addEdge, am_i_La_removeEdge, am_i_La_setTerminal] : List am_I), am_mok i := List.forall_mem_cons.mpr ⟨aq_Mo_meanCost, List.forall_mem_cons.mpr ⟨aq_Mo_laysMove, List.forall_mem_cons.mpr ⟨aq_Mo_bestMove, List.forall_mem_cons.mpr ⟨aq_Mo_setLabel, List.forall_mem_cons.mpr ⟨aq_Mo_useNearest, List.forall_mem_cons.mpr ⟨aq_Mo_useUnion, List.forall_mem_cons.mpr ⟨aq_Mo_useExact, List.forall_mem_cons.mpr ⟨aq_Mo_improve, List.forall_mem_cons.mpr ⟨aq_Mo_isEdge, List.forall_mem_cons.mpr ⟨aq_Mo_setWeight, List.forall_mem_cons.mpr ⟨aq_Mo_areJoined, List.forall_mem_cons.mpr ⟨aq_Mo_addEdge, List.forall_mem_cons.mpr ⟨aq_Mo_removeEdge, List.forall_mem_cons.mpr ⟨aq_Mo_setTerminal, List.forall_mem_cons.mpr ⟨aq_Mo_undo, List.forall_mem_cons.mpr ⟨aq_Mo_checksum, List.forall_mem_cons.mpr ⟨aq_JI_bitCount, List.forall_mem_cons.mpr ⟨aq_JA_fill, List.forall_mem_cons.mpr ⟨aq_JA_copyOf, List.forall_mem_cons.mpr ⟨aq_La_load, List.forall_mem_cons.mpr ⟨aq_La_burden, List.forall_mem_cons.mpr ⟨aq_La_edge, List.forall_mem_cons.mpr ⟨aq_La_cutCost, List.forall_mem_cons.mpr ⟨aq_La_separates, List.forall_mem_cons.mpr ⟨aq_La_isolatingValue, List.forall_mem_cons.mpr ⟨aq_La_isolatingSet, List.forall_mem_cons.mpr ⟨aq_La_dearest, List.forall_mem_cons.mpr ⟨aq_La_unionCut, List.forall_mem_cons.mpr ⟨aq_La_unionCost, List.forall_mem_cons.mpr ⟨aq_La_fixed, List.forall_mem_cons.mpr ⟨aq_La_exact, List.forall_mem_cons.mpr ⟨aq_La_price, List.forall_mem_cons.mpr ⟨aq_La_nearest, List.forall_mem_cons.mpr ⟨aq_La_distance, List.forall_mem_cons.mpr ⟨aq_La_label, List.forall_mem_cons.mpr ⟨aq_La_bestMove, List.forall_mem_cons.mpr ⟨aq_La_setLabel, List.forall_mem_cons.mpr ⟨aq_La_useUnion, List.forall_mem_cons.mpr ⟨aq_La_improve, List.forall_mem_cons.mpr ⟨aq_La_setWeight, List.forall_mem_cons.mpr ⟨aq_La_addEdge, List.forall_mem_cons.mpr ⟨aq_La_removeEdge, List.forall_mem_cons.mpr ⟨aq_La_setTerminal, fun _ h => absurd h List.not_mem_nil⟩⟩⟩⟩⟩⟩⟩⟩⟩⟩⟩⟩⟩⟩⟩⟩⟩⟩⟩⟩⟩⟩⟩⟩⟩⟩⟩⟩⟩⟩⟩⟩⟩⟩⟩⟩⟩⟩⟩⟩⟩⟩⟩
theorem am_mlp_0 : ∀ q ∈ ([(0, 22, 217, 447), (0, 31, 11, 451), (0, 46, 12, 457), (1, 18, 16, 799), (1, 22, 15, 810), (2, 44, 217, 621), (2, 56, 20, 385), (2, 60, 24, 721), (2, 73, 14, 795), (2, 79, 32, 406), (2, 82, 33, 410), (2, 85, 35, 469), (3, 19, 21, 428), (3, 28, 39, 429), (3, 35, 22, 433), (3, 39, 40, 434), (3, 42, 2, 438), (4, 22, 19, 496), (5, 26, 21, 1013), (5, 34, 47, 1014), (5, 38, 36, 1018), (5, 42, 46, 1053), (6, 18, 21, 508), (6, 37, 25, 509), (6, 41, 51, 513), (7, 26, 18, 617), (7, 52, 70, 623), (7, 55, 55, 628), (7, 62, 56, 697), (7, 65, 65, 693), (7, 69, 54, 762), (7, 74, 218, 768), (7, 80, 13, 780), (7, 93, 21, 711), (7, 99, 27, 791), (7, 104, 68, 633), (7, 108, 69, 685), (7, 111, 67, 689), (7, 116, 57, 702), (7, 121, 58, 713), (7, 126, 59, 734), (7, 131, 60, 739), (7, 134, 61, 743), (7, 140, 216, 706), (7, 146, 66, 707), (7, 150, 23, 717), (7, 154, 26, 725), (7, 161, 62, 747), (7, 164, 64, 755), (7, 167, 63, 751), (8, 26, 42, 188), (8, 69, 73, 357), (8, 80, 53, 613), (8, 90, 43, 492), (8, 95, 19, 813), (8, 107, 113, 822), (8, 114, 114, 850), (8, 129, 25, 855), (8, 135, 22, 864), (8, 141, 34, 866), (8, 146, 0, 875), (8, 152, 115, 890), (8, 155, 4, 389), (8, 159, 3, 902), (8, 162, 21, 381), (8, 166, 116, 911), (8, 169, 5, 931), (8, 173, 6, 942), (8, 176, 33, 954), (8, 179, 38, 424)] : List (Nat × Nat × Nat × Nat)), lw_tbl[q.2.2.2]? = some (Cond.methodLink (am_cn q.1) q.2.1 (am_y q.2.2.1)) := by decide +kernel
theorem am_mlp_1 : ∀ q ∈ ([(8, 185, 41, 962), (8, 188, 10, 443), (8, 197, 50, 504), (8, 207, 36, 465), (8, 210, 35, 477), (8, 214, 216, 487), (8, 221, 46, 1009), (8, 236, 31, 517), (8, 240, 7, 1034), (8, 245, 48, 1049), (8, 249, 117, 1061), (8, 252, 27, 1066), (8, 257, 23, 1075), (8, 263, 26, 1077), (8, 267, 28, 1085), (8, 272, 29, 1097), (8, 275, 30, 1101), (8, 278, 44, 529), (8, 283, 20, 826), (9, 70, 121, 1326), (9, 92, 127, 1247), (9, 105, 126, 1253), (9, 109, 130, 1261), (9, 123, 120, 1231), (9, 127, 134, 1307), (9, 130, 132, 1315), (9, 133, 135, 1311), (9, 139, 133, 1303), (9, 142, 129, 1267), (9, 146, 131, 1257), (9, 151, 128, 1243), (9, 159, 138, 1280), (9, 162, 136, 1283), (9, 168, 139, 1292), (9, 174, 137, 1276), (9, 179, 140, 1288), (9, 184, 141, 1298), (9, 195, 142, 1271), (9, 198, 124, 1234), (9, 202, 143, 1238), (9, 205, 123, 1322), (9, 208, 122, 1330), (9, 211, 154, 1334), (9, 217, 146, 1387), (9, 223, 150, 1357), (9, 226, 147, 1382), (9, 229, 153, 1338), (9, 232, 149, 1349), (9, 235, 151, 1407), (9, 237, 152, 1411), (9, 243, 155, 1399), (9, 246, 156, 1403), (9, 249, 157, 1431), (9, 253, 148, 1378), (9, 256, 158, 1427), (9, 259, 161, 1484), (9, 265, 162, 1480), (9, 271, 164, 1504), (9, 278, 165, 1508), (9, 281, 166, 1500), (9, 284, 169, 1391), (9, 287, 170, 1528), (9, 290, 175, 1369), (9, 295, 180, 1423), (9, 298, 159, 1444), (9, 301, 184, 1452), (9, 304, 160, 1456), (9, 307, 186, 1464), (9, 310, 163, 1476), (9, 313, 167, 1496)] : List (Nat × Nat × Nat × Nat)), lw_tbl[q.2.2.2]? = some (Cond.methodLink (am_cn q.1) q.2.1 (am_y q.2.2.1)) := by decide +kernel
theorem am_mlp_2 : ∀ q ∈ ([(9, 316, 171, 1524), (9, 319, 168, 1544), (9, 334, 201, 1566), (9, 339, 208, 1595), (9, 344, 210, 1604), (10, 15, 1, 878), (10, 24, 21, 882), (10, 31, 24, 881), (10, 35, 34, 402), (10, 38, 216, 414), (10, 43, 22, 395), (10, 47, 2, 399), (10, 51, 3, 392), (10, 55, 4, 934), (10, 58, 5, 945), (10, 62, 32, 946), (10, 69, 217, 1037), (10, 75, 8, 1038), (11, 7, 74, 542), (11, 15, 79, 818), (11, 20, 80, 846), (11, 24, 81, 860), (11, 27, 82, 870), (11, 31, 83, 886), (11, 34, 84, 898), (11, 37, 86, 907), (11, 43, 87, 938), (11, 46, 88, 950), (11, 49, 90, 958), (11, 52, 92, 969), (11, 55, 93, 976), (11, 58, 94, 983), (11, 61, 95, 990), (11, 64, 96, 997), (11, 67, 101, 1004), (11, 70, 102, 1022), (11, 73, 104, 1030), (11, 76, 106, 1044), (11, 79, 107, 1057), (11, 82, 108, 1070), (11, 86, 109, 1081), (11, 89, 110, 1092), (11, 93, 71, 109), (11, 96, 118, 1107), (11, 97, 72, 353), (11, 101, 125, 1223), (11, 102, 219, 538), (11, 107, 144, 1227), (11, 108, 119, 1219), (11, 111, 75, 361), (11, 114, 145, 1341), (11, 115, 76, 365), (11, 118, 172, 1345), (11, 119, 77, 369), (11, 122, 173, 1353), (11, 123, 78, 373), (11, 126, 174, 1361), (11, 127, 220, 814), (11, 129, 176, 1365), (11, 130, 221, 843), (11, 133, 177, 1373), (11, 134, 222, 857), (11, 136, 178, 1395), (11, 137, 223, 867), (11, 139, 179, 1415), (11, 140, 224, 883), (11, 142, 181, 1419), (11, 143, 225, 895), (11, 145, 182, 1436), (11, 146, 85, 377)] : List (Nat × Nat × Nat × Nat)), lw_tbl[q.2.2.2]? = some (Cond.methodLink (am_cn q.1) q.2.1 (am_y q.2.2.1)) := by decide +kernel
theorem am_mlp_3 : ∀ q ∈ ([(11, 149, 183, 1440), (11, 150, 226, 903), (11, 153, 185, 1448), (11, 154, 227, 935), (11, 156, 187, 1460), (11, 157, 228, 947), (11, 159, 188, 1468), (11, 160, 89, 420), (11, 163, 189, 1472), (11, 164, 229, 955), (11, 166, 190, 1488), (11, 167, 91, 439), (11, 170, 191, 1492), (11, 171, 230, 966), (11, 173, 192, 1512), (11, 174, 231, 973), (11, 176, 193, 1516), (11, 177, 232, 980), (11, 179, 194, 1520), (11, 180, 233, 987), (11, 182, 195, 1532), (11, 183, 234, 994), (11, 185, 196, 1536), (11, 186, 97, 461), (11, 189, 197, 1540), (11, 190, 98, 473), (11, 193, 198, 1548), (11, 194, 99, 478), (11, 198, 199, 1552), (11, 199, 100, 483), (11, 202, 200, 1557), (11, 203, 235, 1001), (11, 205, 202, 1561), (11, 206, 236, 1019), (11, 208, 203, 1570), (11, 209, 103, 488), (11, 212, 204, 1574), (11, 213, 237, 1027), (11, 215, 205, 1578), (11, 216, 105, 521), (11, 219, 206, 1582), (11, 220, 238, 1041), (11, 222, 207, 1586), (11, 223, 239, 1054), (11, 225, 209, 1591), (11, 226, 240, 1067), (11, 229, 211, 1600), (11, 230, 241, 1078), (11, 232, 212, 1608), (11, 233, 242, 1089), (11, 236, 213, 1612), (11, 237, 111, 525), (11, 240, 214, 1616), (11, 241, 112, 533), (11, 245, 215, 1620)] : List (Nat × Nat × Nat × Nat)), lw_tbl[q.2.2.2]? = some (Cond.methodLink (am_cn q.1) q.2.1 (am_y q.2.2.1)) := by decide +kernel
theorem am_ml_ok : ∀ q ∈ am_ml_, Cond.methodLink (am_cn q.1) q.2.1 (am_y q.2.2) ∈ lw_tbl := by
  have key : ∀ (l : List (Nat × Nat × Nat × Nat)), (∀ q ∈ l, lw_tbl[q.2.2.2]? = some (Cond.methodLink (am_cn q.1) q.2.1 (am_y q.2.2.1))) → ∀ q ∈ l.map (fun q => (q.1, q.2.1, q.2.2.1)), Cond.methodLink (am_cn q.1) q.2.1 (am_y q.2.2) ∈ lw_tbl := by
    intro l h q hq
    obtain ⟨z, hz, rfl⟩ := List.mem_map.mp hq
    exact List.mem_of_getElem? (h z hz)
  intro q hq
  have e9 : am_ml_ = List.map (fun q => (q.1, q.2.1, q.2.2.1)) ([(0, 22, 217, 447), (0, 31, 11, 451), (0, 46, 12, 457), (1, 18, 16, 799), (1, 22, 15, 810), (2, 44, 217, 621), (2, 56, 20, 385), (2, 60, 24, 721), (2, 73, 14, 795), (2, 79, 32, 406), (2, 82, 33, 410), (2, 85, 35, 469), (3, 19, 21, 428), (3, 28, 39, 429), (3, 35, 22, 433), (3, 39, 40, 434), (3, 42, 2, 438), (4, 22, 19, 496), (5, 26, 21, 1013), (5, 34, 47, 1014), (5, 38, 36, 1018), (5, 42, 46, 1053), (6, 18, 21, 508), (6, 37, 25, 509), (6, 41, 51, 513), (7, 26, 18, 617), (7, 52, 70, 623), (7, 55, 55, 628), (7, 62, 56, 697), (7, 65, 65, 693), (7, 69, 54, 762), (7, 74, 218, 768), (7, 80, 13, 780), (7, 93, 21, 711), (7, 99, 27, 791), (7, 104, 68, 633), (7, 108, 69, 685), (7, 111, 67, 689), (7, 116, 57, 702), (7, 121, 58, 713), (7, 126, 59, 734), (7, 131, 60, 739), (7, 134, 61, 743), (7, 140, 216, 706), (7, 146, 66, 707), (7, 150, 23, 717), (7, 154, 26, 725), (7, 161, 62, 747), (7, 164, 64, 755), (7, 167, 63, 751), (8, 26, 42, 188), (8, 69, 73, 357), (8, 80, 53, 613), (8, 90, 43, 492), (8, 95, 19, 813), (8, 107, 113, 822), (8, 114, 114, 850), (8, 129, 25, 855), (8, 135, 22, 864), (8, 141, 34, 866), (8, 146, 0, 875), (8, 152, 115, 890), (8, 155, 4, 389), (8, 159, 3, 902), (8, 162, 21, 381), (8, 166, 116, 911), (8, 169, 5, 931), (8, 173, 6, 942), (8, 176, 33, 954), (8, 179, 38, 424)] : List (Nat × Nat × Nat × Nat)) ++ (List.map (fun q => (q.1, q.2.1, q.2.2.1)) ([(8, 185, 41, 962), (8, 188, 10, 443), (8, 197, 50, 504), (8, 207, 36, 465), (8, 210, 35, 477), (8, 214, 216, 487), (8, 221, 46, 1009), (8, 236, 31, 517), (8, 240, 7, 1034), (8, 245, 48, 1049), (8, 249, 117, 1061), (8, 252, 27, 1066), (8, 257, 23, 1075), (8, 263, 26, 1077), (8, 267, 28, 1085), (8, 272, 29, 1097), (8, 275, 30, 1101), (8, 278, 44, 529), (8, 283, 20, 826), (9, 70, 121, 1326), (9, 92, 127, 1247), (9, 105, 126, 1253), (9, 109, 130, 1261), (9, 123, 120, 1231), (9, 127, 134, 1307), (9, 130, 132, 1315), (9, 133, 135, 1311), (9, 139, 133, 1303), (9, 142, 129, 1267), (9, 146, 131, 1257), (9, 151, 128, 1243), (9, 159, 138, 1280), (9, 162, 136, 1283), (9, 168, 139, 1292), (9, 174, 137, 1276), (9, 179, 140, 1288), (9, 184, 141, 1298), (9, 195, 142, 1271), (9, 198, 124, 1234), (9, 202, 143, 1238), (9, 205, 123, 1322), (9, 208, 122, 1330), (9, 211, 154, 1334), (9, 217, 146, 1387), (9, 223, 150, 1357), (9, 226, 147, 1382), (9, 229, 153, 1338), (9, 232, 149, 1349), (9, 235, 151, 1407), (9, 237, 152, 1411), (9, 243, 155, 1399), (9, 246, 156, 1403), (9, 249, 157, 1431), (9, 253, 148, 1378), (9, 256, 158, 1427), (9, 259, 161, 1484), (9, 265, 162, 1480), (9, 271, 164, 1504), (9, 278, 165, 1508), (9, 281, 166, 1500), (9, 284, 169, 1391), (9, 287, 170, 1528), (9, 290, 175, 1369), (9, 295, 180, 1423), (9, 298, 159, 1444), (9, 301, 184, 1452), (9, 304, 160, 1456), (9, 307, 186, 1464), (9, 310, 163, 1476), (9, 313, 167, 1496)] : List (Nat × Nat × Nat × Nat)) ++ (List.map (fun q => (q.1, q.2.1, q.2.2.1)) ([(9, 316, 171, 1524), (9, 319, 168, 1544), (9, 334, 201, 1566), (9, 339, 208, 1595), (9, 344, 210, 1604), (10, 15, 1, 878), (10, 24, 21, 882), (10, 31, 24, 881), (10, 35, 34, 402), (10, 38, 216, 414), (10, 43, 22, 395), (10, 47, 2, 399), (10, 51, 3, 392), (10, 55, 4, 934), (10, 58, 5, 945), (10, 62, 32, 946), (10, 69, 217, 1037), (10, 75, 8, 1038), (11, 7, 74, 542), (11, 15, 79, 818), (11, 20, 80, 846), (11, 24, 81, 860), (11, 27, 82, 870), (11, 31, 83, 886), (11, 34, 84, 898), (11, 37, 86, 907), (11, 43, 87, 938), (11, 46, 88, 950), (11, 49, 90, 958), (11, 52, 92, 969), (11, 55, 93, 976), (11, 58, 94, 983), (11, 61, 95, 990), (11, 64, 96, 997), (11, 67, 101, 1004), (11, 70, 102, 1022), (11, 73, 104, 1030), (11, 76, 106, 1044), (11, 79, 107, 1057), (11, 82, 108, 1070), (11, 86, 109, 1081), (11, 89, 110, 1092), (11, 93, 71, 109), (11, 96, 118, 1107), (11, 97, 72, 353), (11, 101, 125, 1223), (11, 102, 219, 538), (11, 107, 144, 1227), (11, 108, 119, 1219), (11, 111, 75, 361), (11, 114, 145, 1341), (11, 115, 76, 365), (11, 118, 172, 1345), (11, 119, 77, 369), (11, 122, 173, 1353), (11, 123, 78, 373), (11, 126, 174, 1361), (11, 127, 220, 814), (11, 129, 176, 1365), (11, 130, 221, 843), (11, 133, 177, 1373), (11, 134, 222, 857), (11, 136, 178, 1395), (11, 137, 223, 867), (11, 139, 179, 1415), (11, 140, 224, 883), (11, 142, 181, 1419), (11, 143, 225, 895), (11, 145, 182, 1436), (11, 146, 85, 377)] : List (Nat × Nat × Nat × Nat)) ++ (List.map (fun q => (q.1, q.2.1, q.2.2.1)) ([(11, 149, 183, 1440), (11, 150, 226, 903), (11, 153, 185, 1448), (11, 154, 227, 935), (11, 156, 187, 1460), (11, 157, 228, 947), (11, 159, 188, 1468), (11, 160, 89, 420), (11, 163, 189, 1472), (11, 164, 229, 955), (11, 166, 190, 1488), (11, 167, 91, 439), (11, 170, 191, 1492), (11, 171, 230, 966), (11, 173, 192, 1512), (11, 174, 231, 973), (11, 176, 193, 1516), (11, 177, 232, 980), (11, 179, 194, 1520), (11, 180, 233, 987), (11, 182, 195, 1532), (11, 183, 234, 994), (11, 185, 196, 1536), (11, 186, 97, 461), (11, 189, 197, 1540), (11, 190, 98, 473), (11, 193, 198, 1548), (11, 194, 99, 478), (11, 198, 199, 1552), (11, 199, 100, 483), (11, 202, 200, 1557), (11, 203, 235, 1001), (11, 205, 202, 1561), (11, 206, 236, 1019), (11, 208, 203, 1570), (11, 209, 103, 488), (11, 212, 204, 1574), (11, 213, 237, 1027), (11, 215, 205, 1578), (11, 216, 105, 521), (11, 219, 206, 1582), (11, 220, 238, 1041), (11, 222, 207, 1586), (11, 223, 239, 1054), (11, 225, 209, 1591), (11, 226, 240, 1067), (11, 229, 211, 1600), (11, 230, 241, 1078), (11, 232, 212, 1608), (11, 233, 242, 1089), (11, 236, 213, 1612), (11, 237, 111, 525), (11, 240, 214, 1616), (11, 241, 112, 533), (11, 245, 215, 1620)] : List (Nat × Nat × Nat × Nat))))) := by decide +kernel
  rw [e9] at hq
  rcases List.mem_append.mp hq with hq | hq
  · exact key _ am_mlp_0 q hq
  rcases List.mem_append.mp hq with hq | hq
  · exact key _ am_mlp_1 q hq
  rcases List.mem_append.mp hq with hq | hq
  · exact key _ am_mlp_2 q hq
  exact key _ am_mlp_3 q hq
theorem am_nl_ok : ∀ q ∈ am_nl_, Cond.methodLinkNest (am_cn q.1) q.2.1 (am_y q.2.2) "MultiwayCut" ∈ lw_tbl := by decide +kernel
end
section
set_option maxRecDepth 100000 in
theorem am_mok_at (mid : Nat) (i : am_I) (h : mid < 243) (hi : am_inf[mid]? = some i) : am_mok i := by
  have hi2 : (([am_i_Cu_keepsApart, am_i_Cu_reachedFrom, am_i_Cu_cheapestSet, am_i_Cu_setOf, am_i_Cu_valueOf, am_i_Cu_dearestOf, am_i_Cu_unionOf, am_i_Cu_labelByUnion, am_i_Cu_labelSet, am_i_Ex_init, am_i_Ex_run, am_i_Ex_extend, am_i_Ex_costToEarlier, am_i_Fo_init, am_i_Fo_evaluate, am_i_Fo_operand, am_i_Fo_combine, am_i_Gr_init, am_i_Gr_clear, am_i_Gr_copyFrom, am_i_Gr_hasVertex, am_i_Gr_isTerminal, am_i_Gr_allVertices, am_i_Gr_hasEdgeBetween, am_i_Gr_endsOf, am_i_Gr_lengthOf, am_i_Gr_putEdge, am_i_Gr_updateCost, am_i_Gr_dropEdge, am_i_Gr_startTerminal, am_i_Gr_endTerminal, am_i_Gr_takeLabels, am_i_Gr_borderOf, am_i_Gr_costOfEdges, am_i_Gr_costOfSet, am_i_Gr_presentCut, am_i_Gr_presentCost, am_i_Gp_init, am_i_Gp_run, am_i_Gp_makeRound, am_i_Gp_grouped, am_i_Gp_ownerOf, am_i_Hi_init, am_i_Hi_save, am_i_Hi_restore, am_i_Mv_init, am_i_Mv_run, am_i_Mv_consider, am_i_Mv_makeImprovement, am_i_Ne_init, am_i_Ne_run, am_i_Ne_offer, am_i_Rd_init, am_i_Rd_read, am_i_Rd_finish, am_i_Rd_readGraph, am_i_Rd_readStatement, am_i_Rd_readTerminal, am_i_Rd_readEdge, am_i_Rd_readLoad, am_i_Rd_startCost, am_i_Rd_readSum, am_i_Rd_readTerm, am_i_Rd_readFactor, am_i_Rd_putCode, am_i_Rd_readSymbol, am_i_Rd_vertexHere, am_i_Rd_numberHere, am_i_Rd_isWord, am_i_Rd_fail, am_i_Rd_advance, am_i_Mc_init, am_i_Mc_append, am_i_Mc_putWord, am_i_Mc_load, am_i_Mc_errorOffset, am_i_Mc_size, am_i_Mc_edgeCount, am_i_Mc_terminals, am_i_Mc_burden, am_i_Mc_edge, am_i_Mc_cutCost, am_i_Mc_separates, am_i_Mc_isolatingValue, am_i_Mc_isolatingSet, am_i_Mc_lowerBound, am_i_Mc_dearest, am_i_Mc_unionCut, am_i_Mc_unionCost, am_i_Mc_rounds, am_i_Mc_fixed, am_i_Mc_exactCost, am_i_Mc_exact, am_i_Mc_price, am_i_Mc_nearest, am_i_Mc_distance, am_i_Mc_label, am_i_Mc_cost, am_i_Mc_cut, am_i_Mc_ratio, am_i_Mc_meanCost, am_i_Mc_bestMove, am_i_Mc_setLabel, am_i_Mc_useNearest, am_i_Mc_useUnion, am_i_Mc_useExact, am_i_Mc_improve, am_i_Mc_setWeight, am_i_Mc_addEdge, am_i_Mc_removeEdge, am_i_Mc_setTerminal, am_i_Mc_undo, am_i_Mc_checksum, am_i_Mc_requireVertex, am_i_Mc_requireEdge, am_i_Mc_requireTerminal, am_i_Mc_requireSomeTerminal, am_i_Mc_requireWeight, am_i_Mo_init, am_i_Mo_thrown, am_i_Mo_isIn, am_i_Mo_get, am_i_Mo_put, am_i_Mo_change, am_i_Mo_right, am_i_Mo_append, am_i_Mo_fails, am_i_Mo_sees, am_i_Mo_takes, am_i_Mo_wants, am_i_Mo_isDigit, am_i_Mo_reads, am_i_Mo_codes, am_i_Mo_sum, am_i_Mo_term, am_i_Mo_factor, am_i_Mo_readsVertex, am_i_Mo_terminalLine, am_i_Mo_bitsOf, am_i_Mo_isJoined, am_i_Mo_edgeLine, am_i_Mo_loadLine, am_i_Mo_statement, am_i_Mo_texts, am_i_Mo_load, am_i_Mo_errorOffset, am_i_Mo_within, am_i_Mo_costOf, am_i_Mo_laysCosts, am_i_Mo_count, am_i_Mo_edges, am_i_Mo_low, am_i_Mo_high, am_i_Mo_has, am_i_Mo_isTerminal, am_i_Mo_all, am_i_Mo_cutOf, am_i_Mo_bestSet, am_i_Mo_isolating, am_i_Mo_laysIsolating, am_i_Mo_dearestNow, am_i_Mo_othersOf, am_i_Mo_goesRound, am_i_Mo_laysGroups, am_i_Mo_costBy, am_i_Mo_goesOn, am_i_Mo_laysExact, am_i_Mo_exactNow, am_i_Mo_costNow, am_i_Mo_lengthOf, am_i_Mo_laysFar, am_i_Mo_laysNear, am_i_Mo_size, am_i_Mo_edgeCount, am_i_Mo_terminals, am_i_Mo_isVertex, am_i_Mo_burden, am_i_Mo_edge, am_i_Mo_cutCost, am_i_Mo_separates, am_i_Mo_mustBe, am_i_Mo_isolatingValue, am_i_Mo_isolatingSet, am_i_Mo_lowerBound, am_i_Mo_hasTerminal, am_i_Mo_dearest, am_i_Mo_unionNow, am_i_Mo_unionCut, am_i_Mo_unionCost, am_i_Mo_rounds, am_i_Mo_fixed, am_i_Mo_exactCost, am_i_Mo_exact, am_i_Mo_price, am_i_Mo_nearest, am_i_Mo_distance, am_i_Mo_label, am_i_Mo_cost, am_i_Mo_cut, am_i_Mo_ratio, am_i_Mo_meanCost, am_i_Mo_laysMove, am_i_Mo_bestMove, am_i_Mo_setLabel, am_i_Mo_useNearest, am_i_Mo_useUnion, am_i_Mo_useExact, am_i_Mo_improve, am_i_Mo_isEdge, am_i_Mo_setWeight, am_i_Mo_areJoined, am_i_Mo_addEdge, am_i_Mo_removeEdge, am_i_Mo_setTerminal, am_i_Mo_undo, am_i_Mo_checksum, am_i_JI_bitCount, am_i_JA_fill, am_i_JA_copyOf, am_i_La_load, am_i_La_burden, am_i_La_edge, am_i_La_cutCost, am_i_La_separates, am_i_La_isolatingValue, am_i_La_isolatingSet, am_i_La_dearest, am_i_La_unionCut, am_i_La_unionCost, am_i_La_fixed, am_i_La_exact, am_i_La_price, am_i_La_nearest, am_i_La_distance, am_i_La_label, am_i_La_bestMove, am_i_La_setLabel, am_i_La_useUnion, am_i_La_improve, am_i_La_setWeight, am_i_La_addEdge, am_i_La_removeEdge, am_i_La_setTerminal] : List am_I) ++ [am_i_La_law])[mid]? = some i := hi
  rw [List.getElem?_append_left (show mid < 243 from h)] at hi2
  have hi3 := List.mem_of_getElem? hi2
  have hi : i ∈ ([am_i_Cu_keepsApart, am_i_Cu_reachedFrom, am_i_Cu_cheapestSet, am_i_Cu_setOf, am_i_Cu_valueOf, am_i_Cu_dearestOf, am_i_Cu_unionOf, am_i_Cu_labelByUnion, am_i_Cu_labelSet, am_i_Ex_init, am_i_Ex_run, am_i_Ex_extend, am_i_Ex_costToEarlier, am_i_Fo_init, am_i_Fo_evaluate, am_i_Fo_operand, am_i_Fo_combine, am_i_Gr_init, am_i_Gr_clear, am_i_Gr_copyFrom, am_i_Gr_hasVertex, am_i_Gr_isTerminal, am_i_Gr_allVertices, am_i_Gr_hasEdgeBetween, am_i_Gr_endsOf, am_i_Gr_lengthOf, am_i_Gr_putEdge, am_i_Gr_updateCost, am_i_Gr_dropEdge, am_i_Gr_startTerminal, am_i_Gr_endTerminal, am_i_Gr_takeLabels, am_i_Gr_borderOf, am_i_Gr_costOfEdges, am_i_Gr_costOfSet, am_i_Gr_presentCut, am_i_Gr_presentCost, am_i_Gp_init, am_i_Gp_run, am_i_Gp_makeRound, am_i_Gp_grouped, am_i_Gp_ownerOf, am_i_Hi_init, am_i_Hi_save, am_i_Hi_restore, am_i_Mv_init, am_i_Mv_run, am_i_Mv_consider, am_i_Mv_makeImprovement, am_i_Ne_init] : List am_I) ++ (([am_i_Ne_run, am_i_Ne_offer, am_i_Rd_init, am_i_Rd_read, am_i_Rd_finish, am_i_Rd_readGraph, am_i_Rd_readStatement, am_i_Rd_readTerminal, am_i_Rd_readEdge, am_i_Rd_readLoad, am_i_Rd_startCost, am_i_Rd_readSum, am_i_Rd_readTerm, am_i_Rd_readFactor, am_i_Rd_putCode, am_i_Rd_readSymbol, am_i_Rd_vertexHere, am_i_Rd_numberHere, am_i_Rd_isWord, am_i_Rd_fail, am_i_Rd_advance, am_i_Mc_init, am_i_Mc_append, am_i_Mc_putWord, am_i_Mc_load, am_i_Mc_errorOffset, am_i_Mc_size, am_i_Mc_edgeCount, am_i_Mc_terminals, am_i_Mc_burden, am_i_Mc_edge, am_i_Mc_cutCost, am_i_Mc_separates, am_i_Mc_isolatingValue, am_i_Mc_isolatingSet, am_i_Mc_lowerBound, am_i_Mc_dearest, am_i_Mc_unionCut, am_i_Mc_unionCost, am_i_Mc_rounds, am_i_Mc_fixed, am_i_Mc_exactCost, am_i_Mc_exact, am_i_Mc_price, am_i_Mc_nearest, am_i_Mc_distance, am_i_Mc_label, am_i_Mc_cost, am_i_Mc_cut, am_i_Mc_ratio] : List am_I) ++ (([am_i_Mc_meanCost, am_i_Mc_bestMove, am_i_Mc_setLabel, am_i_Mc_useNearest, am_i_Mc_useUnion, am_i_Mc_useExact, am_i_Mc_improve, am_i_Mc_setWeight, am_i_Mc_addEdge, am_i_Mc_removeEdge, am_i_Mc_setTerminal, am_i_Mc_undo, am_i_Mc_checksum, am_i_Mc_requireVertex, am_i_Mc_requireEdge, am_i_Mc_requireTerminal, am_i_Mc_requireSomeTerminal, am_i_Mc_requireWeight, am_i_Mo_init, am_i_Mo_thrown, am_i_Mo_isIn, am_i_Mo_get, am_i_Mo_put, am_i_Mo_change, am_i_Mo_right, am_i_Mo_append, am_i_Mo_fails, am_i_Mo_sees, am_i_Mo_takes, am_i_Mo_wants, am_i_Mo_isDigit, am_i_Mo_reads, am_i_Mo_codes, am_i_Mo_sum, am_i_Mo_term, am_i_Mo_factor, am_i_Mo_readsVertex, am_i_Mo_terminalLine, am_i_Mo_bitsOf, am_i_Mo_isJoined, am_i_Mo_edgeLine, am_i_Mo_loadLine, am_i_Mo_statement, am_i_Mo_texts, am_i_Mo_load, am_i_Mo_errorOffset, am_i_Mo_within, am_i_Mo_costOf, am_i_Mo_laysCosts, am_i_Mo_count] : List am_I) ++ (([am_i_Mo_edges, am_i_Mo_low, am_i_Mo_high, am_i_Mo_has, am_i_Mo_isTerminal, am_i_Mo_all, am_i_Mo_cutOf, am_i_Mo_bestSet, am_i_Mo_isolating, am_i_Mo_laysIsolating, am_i_Mo_dearestNow, am_i_Mo_othersOf, am_i_Mo_goesRound, am_i_Mo_laysGroups, am_i_Mo_costBy, am_i_Mo_goesOn, am_i_Mo_laysExact, am_i_Mo_exactNow, am_i_Mo_costNow, am_i_Mo_lengthOf, am_i_Mo_laysFar, am_i_Mo_laysNear, am_i_Mo_size, am_i_Mo_edgeCount, am_i_Mo_terminals, am_i_Mo_isVertex, am_i_Mo_burden, am_i_Mo_edge, am_i_Mo_cutCost, am_i_Mo_separates, am_i_Mo_mustBe, am_i_Mo_isolatingValue, am_i_Mo_isolatingSet, am_i_Mo_lowerBound, am_i_Mo_hasTerminal, am_i_Mo_dearest, am_i_Mo_unionNow, am_i_Mo_unionCut, am_i_Mo_unionCost, am_i_Mo_rounds, am_i_Mo_fixed, am_i_Mo_exactCost, am_i_Mo_exact, am_i_Mo_price, am_i_Mo_nearest, am_i_Mo_distance, am_i_Mo_label, am_i_Mo_cost, am_i_Mo_cut, am_i_Mo_ratio] : List am_I) ++ (([am_i_Mo_meanCost, am_i_Mo_laysMove, am_i_Mo_bestMove, am_i_Mo_setLabel, am_i_Mo_useNearest, am_i_Mo_useUnion, am_i_Mo_useExact, am_i_Mo_improve, am_i_Mo_isEdge, am_i_Mo_setWeight, am_i_Mo_areJoined, am_i_Mo_addEdge, am_i_Mo_removeEdge, am_i_Mo_setTerminal, am_i_Mo_undo, am_i_Mo_checksum, am_i_JI_bitCount, am_i_JA_fill, am_i_JA_copyOf, am_i_La_load, am_i_La_burden, am_i_La_edge, am_i_La_cutCost, am_i_La_separates, am_i_La_isolatingValue, am_i_La_isolatingSet, am_i_La_dearest, am_i_La_unionCut, am_i_La_unionCost, am_i_La_fixed, am_i_La_exact, am_i_La_price, am_i_La_nearest, am_i_La_distance, am_i_La_label, am_i_La_bestMove, am_i_La_setLabel, am_i_La_useUnion, am_i_La_improve, am_i_La_setWeight, am_i_La_addEdge, am_i_La_removeEdge, am_i_La_setTerminal] : List am_I))))) := hi3
  rcases List.mem_append.mp hi with hi | hi
  · exact am_moks_0 i hi
  rcases List.mem_append.mp hi with hi | hi
  · exact am_moks_1 i hi
  rcases List.mem_append.mp hi with hi | hi
  · exact am_moks_2 i hi
  rcases List.mem_append.mp hi with hi | hi
  · exact am_moks_3 i hi
  exact am_moks_4 i hi
theorem am_ml_lt : ∀ q ∈ am_ml_, q.2.2 < 243 := by decide +kernel
theorem am_nl_lt : ∀ q ∈ am_nl_, q.2.2 < 243 := by decide +kernel
end
section
/-! THE TIE, 1: what a state of the abstract machine says of the machine -/
/-- the classes (with their slots), the arrays' classes by tag, the base of the cells, the strings, their bytes, the script -/
abbrev am_G : Type := va_G × (Nat → ClassId) × Nat × (Nat → Nat) × (Nat → Nat) × Nat
abbrev am_tys (G : am_G) : List (ClassId × FieldType) := [(G.2.1 2, .int), (G.2.1 3, .byte), (G.2.1 4, .boolean), (G.2.1 5, .long), (G.2.1 6, .object "MultiwayCut$Graph")]
def am_ad (G : am_G) (a : Nat) : Nat := if a ≤ am_top then G.2.2.1 + a else if a < am_scr then G.2.2.2.1 (a - am_S0) else G.2.2.2.2.2
def am_v (G : am_G) (v : Value) : Value := match v with
  | .ref a => if a = 0 then .null else .ref (am_ad G a)
  | v => v
def am_cell (G : am_G) (h : am_H) (a : Nat) : va_E := match am_k h a with
  | (1, ci) => .inr (ci, (List.range (am_nf ci)).map (fun k => if am_isr ci k = true then am_v G (.ref (am_r h a k)) else .int (am_i h a k)))
  | (2, n) => .inl (G.2.1 2, n, .inl (am_i h a))
  | (3, n) => .inl (G.2.1 3, n, .inl (am_i h a))
  | (4, n) => .inl (G.2.1 4, n, .inl (am_i h a))
  | (5, n) => .inl (G.2.1 5, n, .inr (.inl (am_l h a)))
  | (_, n) => .inl (G.2.1 6, n, .inr (.inr (.inr (.inr (fun j => if am_r h a j = 0 then none else some (am_ad G (am_r h a j)))))))
def am_Rel (G : am_G) (h : am_H) (H : Heap) : Prop := H.size = G.2.2.1 + am_n h ∧ am_n h ≤ am_top ∧ 1 ≤ am_n h ∧ (∀ a, a = 0 ∨ am_n h ≤ a → (am_k h a).1 = 0) ∧ ∀ a, (am_k h a).1 ≠ 0 → va_at G.1 am_cl (am_ad G a, am_cell G h a) H
def am_A (G : am_G) : Nat → Prop := fun q => G.2.2.1 + 1 ≤ q
theorem am_in {G : am_G} {h : am_H} {H : Heap} {a : Nat} (R : am_Rel G h H) (hk : (am_k h a).1 ≠ 0) : 1 ≤ a ∧ a < am_n h ∧ am_ad G a = G.2.2.1 + a := by
  obtain ⟨-, h2, -, h4, -⟩ := R
  have h1 : a ≠ 0 := fun e => hk (h4 a (Or.inl e))
  have h3 : a < am_n h := Nat.not_le.mp fun e => hk (h4 a (Or.inr e))
  refine ⟨by omega, h3, ?_⟩
  unfold am_ad
  rw [if_pos (by omega)]
theorem am_Rel.P1 {G : am_G} {h : am_H} {H : Heap} {a : Nat} (R : am_Rel G h H) (hk : (am_k h a).1 ≠ 0) {e : va_E} (he : am_cell G h a = e) : va_P G.1 am_cl [(am_ad G a, e)] H := by
  intro k q hq
  have hz : k < 1 := (List.getElem?_eq_some_iff.mp hq).1
  rw [show k = 0 by omega] at hq
  cases hq
  rw [← he]
  exact R.2.2.2.2 a hk
theorem am_Rel.wr {G : am_G} {h h' : am_H} {H H1 : Heap} {a : Nat} (R : am_Rel G h H) (ha : (am_k h a).1 ≠ 0) (hn : am_n h' = am_n h) (hk : ∀ x, am_k h' x = am_k h x) (hz : H1.size = H.size) (oq : ∀ q : Nat, q ≠ am_ad G a → H1[q]? = H[q]?) (hc : va_at G.1 am_cl (am_ad G a, am_cell G h' a) H1) (ho : ∀ x, x ≠ a → am_cell G h' x = am_cell G h x) : am_Rel G h' H1 := by
  refine ⟨by rw [hz, hn]; exact R.1, by rw [hn]; exact R.2.1, by rw [hn]; exact R.2.2.1, fun x hx => by rw [hk]; rw [hn] at hx; exact R.2.2.2.1 x hx, fun x hx => ?_⟩
  by_cases hxa : x = a
  · subst hxa
    exact hc
  · rw [hk] at hx
    rw [ho x hxa]
    refine (R.2.2.2.2 x hx).kept (oq _ fun e => hxa ?_)
    have e1 := (am_in R hx).2.2
    have e2 := (am_in R ha).2.2
    have e3 : am_ad G x = am_ad G a := e
    omega
theorem am_Rel.nw {G : am_G} {h h' : am_H} {H H1 : Heap} (R : am_Rel G h H) (ht : am_n h < am_top) (hn : am_n h' = am_n h + 1) (hk : ∀ x, x ≠ am_n h → am_k h' x = am_k h x) (hz : H1.size = H.size + 1) (oq : ∀ q : Nat, q < H.size → H1[q]? = H[q]?) (hc : (am_k h' (am_n h)).1 ≠ 0 → va_at G.1 am_cl (am_ad G (am_n h), am_cell G h' (am_n h)) H1) (ho : ∀ x, x ≠ am_n h → am_cell G h' x = am_cell G h x) : am_Rel G h' H1 := by
  refine ⟨by rw [hz, hn, R.1]; rfl, by omega, by omega, fun x hx => ?_, fun x hx => ?_⟩
  · rw [hn] at hx
    have := R.2.2.1
    rw [hk x (by omega)]
    exact R.2.2.2.1 x (by omega)
  · by_cases hxa : x = am_n h
    · subst hxa
      exact hc hx
    · rw [hk x hxa] at hx
      rw [ho x hxa]
      refine (R.2.2.2.2 x hx).kept (oq _ ?_)
      exact (R.2.2.2.2 x hx).lt
theorem am_cell_eq {G : am_G} {h h' : am_H} {x : Nat} (h1 : am_k h' x = am_k h x) (h2 : am_i h' x = am_i h x) (h3 : am_l h' x = am_l h x) (h4 : am_r h' x = am_r h x) : am_cell G h' x = am_cell G h x := by
  unfold am_cell
  rw [h1, h2, h3, h4]
/-- locals -/
def am_lh (G : am_G) (ls : Array Slot) (L : List Value) : Prop := ls.size = L.length ∧ lv_wf ls ∧ ∀ (i : Nat) (v : Value), L[i]? = some v → v ≠ am_J → ls[i]? = some (.val (am_v G v))
def am_as (G : am_G) (L : List Value) : List (Nat × Value) := (List.range L.length).filterMap (fun i => match L[i]? with
  | some v => if v = am_J then none else some (i, am_v G v)
  | none => none)
theorem am_as_mem {G : am_G} {L : List Value} {q : Nat × Value} : q ∈ am_as G L ↔ ∃ v, L[q.1]? = some v ∧ v ≠ am_J ∧ q.2 = am_v G v := by
  unfold am_as
  rw [List.mem_filterMap]
  constructor
  · rintro ⟨i, hi, he⟩
    cases hv : L[i]? with
    | none => rw [hv] at he; cases he
    | some v =>
      rw [hv] at he
      dsimp only at he
      by_cases hj : v = am_J
      · rw [if_pos hj] at he; cases he
      · rw [if_neg hj] at he
        cases he
        exact ⟨v, hv, hj, rfl⟩
  · rintro ⟨v, hv, hj, e⟩
    refine ⟨q.1, List.mem_range.mpr (List.getElem?_eq_some_iff.mp hv).1, ?_⟩
    rw [hv]
    dsimp only
    rw [if_neg hj, ← e]
theorem am_lh.has {G : am_G} {ls : Array Slot} {L : List Value} (h : am_lh G ls L) : lv_has ls L.length (am_as G L) :=
  ⟨h.1, h.2.1, fun q hq => by
    obtain ⟨v, h1, h2, h3⟩ := am_as_mem.mp hq
    rw [h3]
    exact h.2.2 q.1 v h1 h2⟩
theorem am_v_cat (G : am_G) (v : Value) : (am_v G v).category = v.category := by
  cases v <;> try rfl
  rename_i a
  unfold am_v
  dsimp only
  split <;> rfl
theorem am_set_len (L : List Value) (i : Nat) (v : Value) : (am_set L i v).length = L.length := by
  unfold am_set
  cases i with
  | zero => simp
  | succ j =>
    dsimp only
    split <;> simp
theorem am_set_get {L : List Value} {i : Nat} {v : Value} {j : Nat} {w : Value} (h : (am_set L i v)[j]? = some w) (hw : w ≠ am_J) : (j = i ∧ w = v) ∨ (j ≠ i ∧ L[j]? = some w ∧ ¬ (j + 1 = i ∧ w.category = 2)) := by
  unfold am_set at h
  cases i with
  | zero =>
    by_cases hj : j = 0
    · subst hj
      left
      refine ⟨rfl, ?_⟩
      simp [List.getElem?_set] at h
      exact h.2.symm
    · right
      dsimp only at h
      rw [List.getElem?_set_ne (Ne.symm hj)] at h
      exact ⟨hj, h, fun z => by omega⟩
  | succ k =>
    dsimp only at h
    have key : ∀ (L' : List Value), (∀ t, t ≠ k → L'[t]? = L[t]?) → (L'[k]? = some am_J ∨ L'[k]? = none ∨ (L'[k]? = L[k]? ∧ ∀ z, L[k]? = some z → z.category ≠ 2)) → (L'.set (k + 1) v)[j]? = some w → (j = k + 1 ∧ w = v) ∨ (j ≠ k + 1 ∧ L[j]? = some w ∧ ¬ (j + 1 = k + 1 ∧ w.category = 2)) := by
      intro L' h1 h2 h3
      by_cases hj : j = k + 1
      · subst hj
        left
        refine ⟨rfl, ?_⟩
        rw [List.getElem?_set] at h3
        simp at h3
        exact h3.2.symm
      · right
        rw [List.getElem?_set_ne (Ne.symm hj)] at h3
        refine ⟨hj, ?_⟩
        by_cases hk : j = k
        · subst hk
          rcases h2 with h2 | h2 | ⟨h2, h4⟩
          · rw [h2] at h3
            cases h3
            exact absurd rfl hw
          · rw [h2] at h3
            cases h3
          · rw [h2] at h3
            exact ⟨h3, fun z => h4 w h3 z.2⟩
        · rw [h1 j hk] at h3
          exact ⟨h3, fun z => by omega⟩
    have kJ : (L.set k am_J)[k]? = some am_J ∨ (L.set k am_J)[k]? = none := by
      rw [List.getElem?_set]
      simp
      omega
    split at h
    · exact key _ (fun t ht => List.getElem?_set_ne (Ne.symm ht)) (by rcases kJ with z | z; exact Or.inl z; exact Or.inr (Or.inl z)) h
    · exact key _ (fun t ht => List.getElem?_set_ne (Ne.symm ht)) (by rcases kJ with z | z; exact Or.inl z; exact Or.inr (Or.inl z)) h
    · rename_i n1 n2
      refine key _ (fun t ht => rfl) (Or.inr (Or.inr ⟨rfl, fun z hz hc => ?_⟩)) h
      cases z <;> simp [Value.category] at hc
      · exact n1 _ hz
      · exact n2 _ hz
theorem am_lh.store1 {G : am_G} {ls' : Array Slot} {L : List Value} {i : Nat} {v : Value} (h2 : lv_has ls' L.length ((i, am_v G v) :: (am_as G L).filter (fun q => !(q.1 == i) && !(q.1 + 1 == i && q.2.category == 2)))) : am_lh G ls' (am_set L i v) := by
  refine ⟨h2.1.trans (am_set_len L i v).symm, h2.2.1, fun j w hj hw => ?_⟩
  rcases am_set_get hj hw with ⟨rfl, rfl⟩ | ⟨n1, hl, n2⟩
  · exact h2.2.2 _ List.mem_cons_self
  · refine h2.2.2 (j, am_v G w) (List.mem_cons_of_mem _ (List.mem_filter.mpr ⟨am_as_mem.mpr ⟨w, hl, hw, rfl⟩, ?_⟩))
    dsimp only
    rw [am_v_cat]
    have e1 : (j == i) = false := by simpa using n1
    rw [e1]
    by_cases z : j + 1 = i
    · have : ¬ w.category = 2 := fun q => n2 ⟨z, q⟩
      simp [this]
    · simp [z]
theorem am_lh.store2 {G : am_G} {ls' : Array Slot} {L : List Value} {i : Nat} {v : Value} (h2 : lv_has ls' L.length ((i, am_v G v) :: (am_as G L).filter (fun q => !(q.1 == i) && (!(q.1 == i + 1) && !(q.1 + 1 == i && q.2.category == 2))))) : am_lh G ls' (am_set2 L i v) := by
  unfold am_set2
  refine ⟨h2.1.trans (by simp [am_set_len]), h2.2.1, fun j w hj hw => ?_⟩
  by_cases hj1 : j = i + 1
  · subst hj1
    rw [List.getElem?_set] at hj
    simp at hj
    exact absurd hj.2.symm hw
  rw [List.getElem?_set_ne (Ne.symm hj1)] at hj
  rcases am_set_get hj hw with ⟨rfl, rfl⟩ | ⟨n1, hl, n2⟩
  · exact h2.2.2 _ List.mem_cons_self
  · refine h2.2.2 (j, am_v G w) (List.mem_cons_of_mem _ (List.mem_filter.mpr ⟨am_as_mem.mpr ⟨w, hl, hw, rfl⟩, ?_⟩))
    dsimp only
    rw [am_v_cat]
    have e1 : (j == i) = false := by simpa using n1
    have e2 : (j == i + 1) = false := by simpa using hj1
    rw [e1, e2]
    by_cases z : j + 1 = i
    · have : ¬ w.category = 2 := fun q => n2 ⟨z, q⟩
      simp [this]
    · simp [z]
end
section
/-! THE TIE, 2: one instruction that neither calls nor ends -/
/-- words that are kept by laws of their own -/
def am_nwb (w : Cond) : Bool := match w with
  | .castable _ _ => true
  | .declares _ => true
  | .methodLinkNest _ _ _ _ => true
  | _ => false
/-- a String constant: its coder, its bytes -/
def am_ST1 (k v : Nat) (tx : List Nat) (A : Nat → Prop) (U : State) (H : Heap) : Prop := va_O "java/lang/String" k A U H ∧ va_OF "java/lang/String" "coder" "B" (.int 0) k A U H ∧ va_OF "java/lang/String" "value" "[B" (.ref v) k A U H ∧ va_T .byte v tx.length (fun j => .int (nI (tx.getD j 0))) A U H
theorem am_ST1.moved {k v : Nat} {tx : List Nat} {A : Nat → Prop} {u U : State} {H : Heap} (hvm : u.vm.Alike U.vm) (h : am_ST1 k v tx A u H) : am_ST1 k v tx A U H := ⟨va_O.moved hvm h.1, va_OF.moved hvm h.2.1, va_OF.moved hvm h.2.2.1, va_T.moved hvm h.2.2.2⟩
theorem am_ST1.kept {k v : Nat} {tx : List Nat} {A : Nat → Prop} {U : State} {H H1 : Heap} (h : am_ST1 k v tx A U H) (hq : ∀ a : Nat, a < H.size → ¬ A a → H1[a]? = H[a]?) : am_ST1 k v tx A U H1 := ⟨h.1.kept hq, h.2.1.kept hq, h.2.2.1.kept hq, h.2.2.2.kept hq⟩
abbrev am_ZC : String := "java/lang/String"
abbrev am_ZP : String := "jdk/internal/util/Preconditions"
abbrev am_ZF : String := "Ljava/util/function/BiFunction;"
def am_ST (ad : Nat → Nat) (A : Nat → Prop) (U : State) (H : Heap) : Prop := (∀ j, j < 8 → ∃ v, am_ST1 (ad j) v (am_strs.getD j []) A U H) ∧ va_Z am_ZC "COMPACT_STRINGS" "Z" (.int 1) A U H ∧ va_Zq am_ZP "SIOOBE_FORMATTER" am_ZF A U H
theorem am_ST.moved {ad : Nat → Nat} {A : Nat → Prop} {u U : State} {H : Heap} (hvm : u.vm.Alike U.vm) (h : am_ST ad A u H) : am_ST ad A U H := ⟨fun j hj => by obtain ⟨v, hv⟩ := h.1 j hj; exact ⟨v, hv.moved hvm⟩, va_Z.moved hvm h.2.1, va_Zq.moved hvm h.2.2⟩
theorem am_ST.kept {ad : Nat → Nat} {A : Nat → Prop} {U : State} {H H1 : Heap} (h : am_ST ad A U H) (hq : ∀ a : Nat, a < H.size → ¬ A a → H1[a]? = H[a]?) : am_ST ad A U H1 := ⟨fun j hj => by obtain ⟨v, hv⟩ := h.1 j hj; exact ⟨v, hv.kept hq⟩, h.2.1.kept hq, h.2.2.kept hq⟩
def am_ex (k : Nat) : String := match k with
  | 1 => "java/lang/IllegalArgumentException"
  | 2 => "java/lang/IndexOutOfBoundsException"
  | _ => "java/lang/IllegalStateException"
def am_NC (U : State) : Prop := ∀ a b : Nat, 1 ≤ a → a ≤ 3 → 1 ≤ b → b ≤ 3 → a ≠ b → va_Nc (am_ex a) (am_ex b) U
theorem am_NC.moved {u U : State} (hvm : u.vm.Alike U.vm) (h : am_NC u) : am_NC U := fun a b h1 h2 h3 h4 h5 => (h a b h1 h2 h3 h4 h5).moved hvm
/-- what stands at a method's entry beside its cells -/
def am_SF (G : am_G) (xs : am_X) (s : State) : Prop :=
  va_K G.1 am_cl (am_tys G) s ∧ (∀ q ∈ am_sl_, vk_R (am_cn q.1) q.2.1 (am_txt q.2.2) (G.2.2.2.1 q.2.2) s) ∧ (∀ q ∈ am_xl_, ∃ sa, vk_R (am_cn q.1) q.2.2.1 q.2.2.2.2.2 sa s) ∧ va_X G.2.2.2.2.2 xs.1 xs.2 s s.heap ∧ G.2.2.2.2.2 < G.2.2.1 + 1 ∧ G.2.2.1 + 1 ≤ s.heap.size ∧ va_AO "MultiwayCut$Graph" s ∧ vx_Zq Bundle.tN "UNASSIGNED_STACK" Bundle.steD (fun q => G.2.2.1 + 1 ≤ q) s s.heap ∧ vx_Zq Bundle.tN "SUPPRESSED_SENTINEL" Bundle.listD (fun q => G.2.2.1 + 1 ≤ q) s s.heap ∧ (∀ w, w ∈ lw_tbl → am_nwb w = true → va_Nw w s) ∧ am_ST G.2.2.2.1 (am_A G) s s.heap ∧ am_NC s
def am_Env (G : am_G) (xs : am_X) (own kind : Nat) (cc : ByteArray) (p : Program) (R : Room) (s : State) (m : MethodId) (args : Array Value) (meth : Method) (c : Code) : Prop :=
  p.tables.exec = Jvm.exec ∧ c.code = cc ∧ s.vm.findClass (am_cn own) = some m.cls ∧ (∀ w ∈ am_TT, w.before args s = true) ∧ am_SF G xs s ∧ (kind = 2 → meth.name = "<init>") ∧ 12 ≤ R.frames ∧ 768 ≤ R.locals
theorem am_w {args : Array Value} {s : State} (hts : ∀ w ∈ am_TT, w.before args s = true) {w : Cond} (h : w ∈ lw_tbl) (g : goodWord w = true) : w.before args s = true := hts w (am_TT_of h g)
def am_nosp (op : Instr) : Bool := match op with
  | .ireturn | .areturn | .dreturn | .lreturn | .freturn | .return_ | .jsr _ | .invokestatic _ | .invokevirtual _ | .monitorexit | .instanceof _ => false
  | _ => true
theorem am_nw_warm {w : Cond} (hw : am_nwb w = true) {s U : State} (hW : s.WarmedH U.vm) (h : va_Nw w s) : va_Nw w U := by
  cases w <;> first | (exfalso; simp only [am_nwb] at hw; cases hw; done) | exact va_Nw.warmC hW h | exact va_Nw.warmD hW h | exact va_Nw.warmM hW h
theorem am_nw_use {w : Cond} (hw : am_nwb w = true) {A : Array Value} {U : State} (h : va_Nw w U) : w.before A U = true := by
  cases w <;> first | (exfalso; simp only [am_nwb] at hw; cases hw; done) | exact va_Nw.use rfl h
theorem am_nw_of {w : Cond} (hw : am_nwb w = true) {A : Array Value} {U : State} (h : w.before A U = true) : va_Nw w U := by
  cases w <;> first | (exfalso; simp only [am_nwb] at hw; cases hw; done) | exact va_Nw.of rfl h
/-- it goes on into a callee -/
theorem am_SF.to {G : am_G} {xs : am_X} {s U : State} (h : am_SF G xs s) (hW : s.WarmedH U.vm) (hz : s.heap.size ≤ U.heap.size) (hq : ∀ q : Nat, q < s.heap.size → ¬ am_A G q → U.heap[q]? = s.heap[q]?) : am_SF G xs U := by
  obtain ⟨h1, h2, h3, h4, h5, h6, h7, h8, h9, h10⟩ := h
  have hA : ¬ am_A G G.2.2.2.2.2 := Nat.not_le.mpr h5
  exact ⟨va_K.moved hW.alike h1, fun q hq => vk_R.warm hW (h2 q hq), fun q hq => by obtain ⟨sa, hs⟩ := h3 q hq; exact ⟨sa, vk_R.warm hW hs⟩, va_X.moved hW.alike (h4.kept (hq _ (by omega) hA)), h5, Nat.le_trans h6 hz, h7.moved hW.alike, vx_Zq.moved hW.alike (h8.kept hq), vx_Zq.moved hW.alike (h9.kept hq), ⟨fun w m g => am_nw_warm g hW (h10.1 w m g), (h10.2.1.kept hq).moved hW.alike, h10.2.2.moved hW.alike⟩⟩
theorem am_SF.blind {G : am_G} {xs : am_X} {U : State} (h : am_SF G xs U) (g : JFrame) (mk : MethodId) (a : Array Value) : am_SF G xs (U.calling g mk a) := by
  obtain ⟨h1, h2, h3, h4, h5, h6, h7, h8, h9, h10⟩ := h
  have hA : U.vm.Alike (U.calling g mk a).vm := Vm.Alike.refl U.vm
  exact ⟨va_K.moved (u := U) hA h1, fun q hq => vk_R.same (u := U) rfl (h2 q hq), fun q hq => by obtain ⟨sa, hs⟩ := h3 q hq; exact ⟨sa, vk_R.same (u := U) rfl hs⟩, va_X.moved (u := U) hA h4, h5, h6, h7.moved (u := U) hA, vx_Zq.moved (u := U) hA h8, vx_Zq.moved (u := U) hA h9, ⟨fun w m g => by
    have h := h10.1 w m g
    cases w <;> first | (exfalso; simp only [am_nwb] at g; cases g; done) | exact va_Nw.same (u := U) rfl rfl h, h10.2.1.moved (u := U) hA, h10.2.2.moved (u := U) hA⟩⟩
end
section
/-- what is shown of a point of the walk -/
def am_PP (G : am_G) (p : Program) (l : Launch) (e : Env) (R : Room) (s : State) (m : MethodId) (args : Array Value) (below : List Frame) (meth : Method) (c : Code) (Q : State → Prop) (n0 s0 N1 C1 : Nat) : am_K := fun pc L S h =>
  am_n h ≤ N1 ∧ am_cs h ≤ C1 ∧ (n0 ≤ am_n h → s0 ≤ am_cs h → L.length = c.maxLocals → ∀ (H : Heap) (locs : List Loc) (ls : Array Slot), am_Rel G h H → va_S (am_A G) s.heap H locs → am_lh G ls L → W p l e R s m args below meth c H locs (am_n h - n0) (am_cs h - s0) Q (F0 m pc ls (S.map (am_v G))))
section
variable {G : am_G} {xs : am_X} {own kind : Nat} {cc : ByteArray} {ret : Option FieldType} {p : Program} {l : Launch} {e : Env} {R : Room} {s : State} {m : MethodId} {args : Array Value} {below : List Frame} {meth : Method} {c : Code} {Q : State → Prop} {n0 s0 N1 C1 : Nat} {pc nx : Nat} {op : Instr} {L S L' S' : List Value} {h : am_H} {cal : am_Cal} {hdl : Nat → Nat → Option (Nat × Nat)} {Qq : am_Q}
theorem am_inc_eq (x : Int32) (n : Int) : x + Int32.ofInt n = am_inc x n := by
  unfold am_inc
  cases n with
  | ofNat k => rfl
  | negSucc k =>
    show x + Int32.ofInt (Int.negSucc k) = x - Int32.ofNat (k + 1)
    rw [Int32.sub_eq_add_neg, Int.negSucc_eq, Int32.ofInt_neg]
    rfl
theorem am_ld {ls : Array Slot} {i : Nat} {v : Value} (hl : am_lh G ls L) (hi : L[i]? = some v) (hv : v ≠ am_J) : ls[i]? = some (.val (am_v G v)) := hl.2.2 i v hi hv
set_option maxHeartbeats 4000000 in
theorem am_lopW (E : am_Env G xs own kind cc p R s m args meth c) (ok : am_okb own kind cc ret pc op nx = true) (hop : am_lop op L S = some (some (L', S'))) (HS : am_PP G p l e R s m args below meth c Q n0 s0 N1 C1 nx L' S' h) : am_PP G p l e R s m args below meth c Q n0 s0 N1 C1 pc L S h := by
  obtain ⟨hx, hb, hown, hts, hsf, -⟩ := E
  refine ⟨HS.1, HS.2.1, fun q1 q2 q3 H locs ls hR hS hl => ?_⟩
  have K : ∀ ls', L'.length = c.maxLocals → am_lh G ls' L' → W p l e R s m args below meth c H locs (am_n h - n0) (am_cs h - s0) Q (F0 m nx ls' (S'.map (am_v G))) := fun ls' q hl' => HS.2.2 q1 q2 q H locs ls' hR hS hl'
  clear HS
  have len : ∀ {i : Nat} {v : Value}, L[i]? = some v → i < L.length := fun z => (List.getElem?_eq_some_iff.mp z).1
  cases op <;> first | (exfalso; simp only [am_lop] at hop; cases hop; done) | skip
  case iload i =>
    simp only [am_lop] at hop
    split at hop
    · rename_i x hi
      cases hop
      have hv := am_ld (G := G) hl hi (by simp)
      simp only [am_okb] at ok
      split at ok <;> (try (cases ok; done)) <;> simp only [Bool.and_eq_true, beq_iff_eq, decide_eq_true_eq] at ok
      · rename_i hd
        obtain ⟨rfl, rfl⟩ := ok
        exact lv_iload hx hb (am_dec_of hd) hv (K ls q3 hl)
      · rename_i hd
        obtain ⟨e1, rfl⟩ := ok
        exact lv_iload_n hx hb (am_dec_of hd) e1 hv (K ls q3 hl)
    · cases hop
  case aload i =>
    simp only [am_lop] at hop
    split at hop
    · rename_i x hi
      cases hop
      have hv := am_ld (G := G) hl hi (by simp)
      unfold am_v at hv
      dsimp only at hv
      have K := K ls q3 hl
      by_cases hx0 : x = 0
      · subst hx0
        rw [if_pos rfl] at hv
        simp only [am_okb] at ok
        split at ok <;> (try (cases ok; done)) <;> simp only [Bool.and_eq_true, beq_iff_eq, decide_eq_true_eq] at ok
        · rename_i hd
          obtain ⟨rfl, rfl⟩ := ok
          exact lv_aloadN hx hb (am_dec_of hd) hv K
        · rename_i hd
          obtain ⟨e1, rfl⟩ := ok
          exact lv_aload_nN hx hb (am_dec_of hd) e1 hv K
      · rw [if_neg hx0] at hv
        have K : W p l e R s m args below meth c H locs (am_n h - n0) (am_cs h - s0) Q (F0 m nx ls (.ref (am_ad G x) :: S.map (am_v G))) := by
          have e9 : (Value.ref x :: S).map (am_v G) = .ref (am_ad G x) :: S.map (am_v G) := by
            show am_v G (.ref x) :: _ = _
            unfold am_v
            dsimp only
            rw [if_neg hx0]
          rw [e9] at K
          exact K
        simp only [am_okb] at ok
        split at ok <;> (try (cases ok; done)) <;> simp only [Bool.and_eq_true, beq_iff_eq, decide_eq_true_eq] at ok
        · rename_i hd
          obtain ⟨rfl, rfl⟩ := ok
          exact lv_aload hx hb (am_dec_of hd) hv K
        · rename_i hd
          obtain ⟨e1, rfl⟩ := ok
          exact lv_aload_n hx hb (am_dec_of hd) e1 hv K
    · cases hop
  case lload i =>
    simp only [am_lop] at hop
    split at hop
    · rename_i x hi
      cases hop
      have hv := am_ld (G := G) hl hi (by simp)
      simp only [am_okb] at ok
      split at ok <;> (try (cases ok; done)) <;> simp only [Bool.and_eq_true, beq_iff_eq, decide_eq_true_eq] at ok
      · rename_i hd
        obtain ⟨rfl, rfl⟩ := ok
        exact lv_lload hx hb (am_dec_of hd) hv (K ls q3 hl)
      · rename_i hd
        obtain ⟨e1, rfl⟩ := ok
        exact lv_lload_n hx hb (am_dec_of hd) e1 hv (K ls q3 hl)
    · cases hop
  case fload i =>
    simp only [am_lop] at hop
    split at hop
    · rename_i x hi
      cases hop
      have hv := am_ld (G := G) hl hi (by simp)
      simp only [am_okb] at ok
      split at ok <;> (try (cases ok; done)) <;> simp only [Bool.and_eq_true, beq_iff_eq, decide_eq_true_eq] at ok
      · rename_i hd
        obtain ⟨rfl, rfl⟩ := ok
        exact lv_fload hx hb (am_dec_of hd) hv (K ls q3 hl)
      · rename_i hd
        obtain ⟨e1, rfl⟩ := ok
        exact lv_fload_n hx hb (am_dec_of hd) e1 hv (K ls q3 hl)
    · cases hop
  case dload i =>
    simp only [am_lop] at hop
    split at hop
    · rename_i x hi
      cases hop
      have hv := am_ld (G := G) hl hi (by simp)
      simp only [am_okb] at ok
      split at ok <;> (try (cases ok; done)) <;> simp only [Bool.and_eq_true, beq_iff_eq, decide_eq_true_eq] at ok
      · rename_i hd
        obtain ⟨rfl, rfl⟩ := ok
        exact lv_dload hx hb (am_dec_of hd) hv (K ls q3 hl)
      · rename_i hd
        obtain ⟨e1, rfl⟩ := ok
        exact lv_dload_n hx hb (am_dec_of hd) e1 hv (K ls q3 hl)
    · cases hop
  case istore i =>
    simp only [am_lop] at hop
    split at hop
    · rename_i x S0 w hi
      cases hop
      simp only [am_okb] at ok
      split at ok <;> (try (cases ok; done)) <;> simp only [Bool.and_eq_true, beq_iff_eq, decide_eq_true_eq] at ok
      · rename_i hd
        obtain ⟨rfl, rfl⟩ := ok
        exact lv_istore hx hb (am_dec_of hd) hl.has (len hi) rfl (fun ls' h' => K ls' ((am_set_len _ _ _).trans q3) (am_lh.store1 h'))
      · rename_i hd
        obtain ⟨e1, rfl⟩ := ok
        exact lv_istore_n hx hb (am_dec_of hd) e1 hl.has (len hi) rfl (fun ls' h' => K ls' ((am_set_len _ _ _).trans q3) (am_lh.store1 h'))
    · cases hop
  case fstore i =>
    simp only [am_lop] at hop
    split at hop
    · rename_i x S0 w hi
      cases hop
      simp only [am_okb] at ok
      split at ok <;> (try (cases ok; done)) <;> simp only [Bool.and_eq_true, beq_iff_eq, decide_eq_true_eq] at ok
      · rename_i hd
        obtain ⟨rfl, rfl⟩ := ok
        exact lv_fstore hx hb (am_dec_of hd) hl.has (len hi) rfl (fun ls' h' => K ls' ((am_set_len _ _ _).trans q3) (am_lh.store1 h'))
      · rename_i hd
        obtain ⟨e1, rfl⟩ := ok
        exact lv_fstore_n hx hb (am_dec_of hd) e1 hl.has (len hi) rfl (fun ls' h' => K ls' ((am_set_len _ _ _).trans q3) (am_lh.store1 h'))
    · cases hop
  case astore i =>
    simp only [am_lop] at hop
    split at hop
    · rename_i x S0 w hi
      cases hop
      have K2 : ∀ ls', lv_has ls' L.length ((i, am_v G (.ref x)) :: (am_as G L).filter (fun q => !(q.1 == i) && !(q.1 + 1 == i && q.2.category == 2))) → W p l e R s m args below meth c H locs (am_n h - n0) (am_cs h - s0) Q (F0 m nx ls' (S'.map (am_v G))) := fun ls' h' => K ls' ((am_set_len _ _ _).trans q3) (am_lh.store1 h')
      by_cases hx0 : x = 0
      · subst hx0
        simp only [am_okb] at ok
        split at ok <;> (try (cases ok; done)) <;> simp only [Bool.and_eq_true, beq_iff_eq, decide_eq_true_eq] at ok
        · rename_i hd
          obtain ⟨rfl, rfl⟩ := ok
          exact lv_astoreN hx hb (am_dec_of hd) hl.has (len hi) rfl K2
        · rename_i hd
          obtain ⟨e1, rfl⟩ := ok
          exact lv_astore_nN hx hb (am_dec_of hd) e1 hl.has (len hi) rfl K2
      · have e9 : am_v G (.ref x) = .ref (am_ad G x) := by
          unfold am_v
          dsimp only
          rw [if_neg hx0]
        rw [e9] at K2
        show W p l e R s m args below meth c H locs (am_n h - n0) (am_cs h - s0) Q (F0 m pc ls (am_v G (.ref x) :: S'.map (am_v G)))
        rw [e9]
        simp only [am_okb] at ok
        split at ok <;> (try (cases ok; done)) <;> simp only [Bool.and_eq_true, beq_iff_eq, decide_eq_true_eq] at ok
        · rename_i hd
          obtain ⟨rfl, rfl⟩ := ok
          exact lv_astore hx hb (am_dec_of hd) hl.has (len hi) rfl K2
        · rename_i hd
          obtain ⟨e1, rfl⟩ := ok
          exact lv_astore_n hx hb (am_dec_of hd) e1 hl.has (len hi) rfl K2
    · cases hop
  case lstore i =>
    simp only [am_lop] at hop
    split at hop
    · rename_i x S0 w hi
      cases hop
      simp only [am_okb] at ok
      split at ok <;> (try (cases ok; done)) <;> simp only [Bool.and_eq_true, beq_iff_eq, decide_eq_true_eq] at ok
      · rename_i hd
        obtain ⟨rfl, rfl⟩ := ok
        exact lv_lstore hx hb (am_dec_of hd) hl.has (len hi) rfl (fun ls' h' => K ls' (by unfold am_set2; simp [am_set_len, q3]) (am_lh.store2 h'))
      · rename_i hd
        obtain ⟨e1, rfl⟩ := ok
        exact lv_lstore_n hx hb (am_dec_of hd) e1 hl.has (len hi) rfl (fun ls' h' => K ls' (by unfold am_set2; simp [am_set_len, q3]) (am_lh.store2 h'))
    · cases hop
  case dstore i =>
    simp only [am_lop] at hop
    split at hop
    · rename_i x S0 w hi
      cases hop
      simp only [am_okb] at ok
      split at ok <;> (try (cases ok; done)) <;> simp only [Bool.and_eq_true, beq_iff_eq, decide_eq_true_eq] at ok
      · rename_i hd
        obtain ⟨rfl, rfl⟩ := ok
        exact lv_dstore hx hb (am_dec_of hd) hl.has (len hi) rfl (fun ls' h' => K ls' (by unfold am_set2; simp [am_set_len, q3]) (am_lh.store2 h'))
      · rename_i hd
        obtain ⟨e1, rfl⟩ := ok
        exact lv_dstore_n hx hb (am_dec_of hd) e1 hl.has (len hi) rfl (fun ls' h' => K ls' (by unfold am_set2; simp [am_set_len, q3]) (am_lh.store2 h'))
    · cases hop
  case iinc i n =>
    simp only [am_lop] at hop
    split at hop
    · rename_i x hi
      cases hop
      simp only [am_okb] at ok
      split at ok <;> (try (cases ok; done)) <;> simp only [Bool.and_eq_true, beq_iff_eq, decide_eq_true_eq] at ok
      rename_i j n9 hd
      obtain ⟨⟨e1, e2⟩, rfl⟩ := ok
      subst e1
      subst e2
      obtain ⟨k, hk⟩ := List.getElem?_of_mem (am_as_mem (G := G) (L := L) (q := (j, .int x)) |>.mpr ⟨.int x, hi, by simp, rfl⟩)
      exact lv_iinc hx hb (am_dec_of hd) hl.has hk (am_inc_eq x n9) (len hi) rfl (fun ls' h' => K ls' ((am_set_len _ _ _).trans q3) (am_lh.store1 h'))
    · cases hop
end
end
section
section
variable {G : am_G} {xs : am_X} {own kind : Nat} {cc : ByteArray} {ret : Option FieldType} {p : Program} {l : Launch} {e : Env} {R : Room} {s : State} {m : MethodId} {args : Array Value} {below : List Frame} {meth : Method} {c : Code} {Q : State → Prop} {n0 s0 N1 C1 : Nat} {pc nx : Nat} {op : Instr} {L S L' S' : List Value} {h : am_H} {cal : am_Cal} {hdl : Nat → Nat → Option (Nat × Nat)} {Qq : am_Q}
def am_pure (op : Instr) : Bool := match op with
  | .ldc _ | .ldc_w _ | .ldc2_w _ | .goto_w _ | .invokedynamic _ | .invokeinterface _ _ | .aconst_null | .iadd | .isub | .imul | .idiv | .irem | .iand | .ior | .ixor | .ishl | .ishr | .iushr | .i2l | .l2i | .i2b | .i2f | .ladd | .lsub | .lmul | .ldiv | .lneg | .lcmp | .fadd | .fmul | .fdiv | .f2d | .dcmp _ | .dup | .dup2 | .pop | .goto _ | .if_icmp _ _ | .ifCond _ _ | .ifnull _ | .pop2 | .tableswitch _ _ _ _ => true
  | _ => false
theorem am_v0 (G : am_G) : am_v G (.ref 0) = .null := rfl
theorem am_v1 (G : am_G) {a : Nat} (h : a ≠ 0) : am_v G (.ref a) = .ref (am_ad G a) := by
  unfold am_v
  dsimp only
  rw [if_neg h]
theorem am_tg {off t : Int} (h : am_tgt pc off t = true) : (pc : Int) + off = (t.toNat : Int) := by
  simp only [am_tgt, Bool.and_eq_true, decide_eq_true_eq] at h
  omega
theorem am_ldcwf {H : Heap} {locs : List Loc} {cells slots : Nat} {ls : Array Slot} {rest : List Value} (hexec : p.tables.exec = Jvm.exec) (hb : c.code = cc) {own : String} {index : Nat} {v : UInt32} (hown : s.vm.findClass own = some m.cls) (hconst : (Jvm.Cond.constantFloat own index v).before args s = true) (hdg : decode cc pc = .ok (.ldc_w index, 3)) (k : W p l e R s m args below meth c H locs cells slots Q (F0 m (pc + 3) ls (.float v :: rest))) : W p l e R s m args below meth c H locs cells slots Q (F0 m pc ls rest) := by
  intro T hT X
  obtain ⟨t, a, b⟩ := k T hT X
  refine ⟨t, ?_, b⟩
  obtain ⟨k9, cf, hk, hcf, hcp⟩ := Cond.constantFloat_spec hown hconst
  obtain ⟨k', hk', he⟩ := X.warmed.alike.2.2 _ _ hk
  have hdg' : decode c.code pc = .ok (.ldc_w index, 3) := by rw [hb]; exact hdg
  jvm_step X.here [hexec, hdg', ldc_w.wp_float (s := T) (f := F0 m pc ls rest) X.here.top hk' (by rw [he]; exact hcf) hcp]
  exact a
set_option maxHeartbeats 8000000 in
theorem am_pureW (E : am_Env G xs own kind cc p R s m args meth c) (hop : am_pure op = true) (ok : am_okb own kind cc ret pc op nx = true) (HS : am_out (am_PP G p l e R s m args below meth c Q n0 s0 N1 C1) cal hdl Qq pc nx L h (am_stp xs op nx S h)) : am_PP G p l e R s m args below meth c Q n0 s0 N1 C1 pc L S h := by
  obtain ⟨hx, hb, hown, hts, hsf, hki, hr1, hr2⟩ := E
  cases op <;> first | (exfalso; simp only [am_pure] at hop; cases hop; done) | skip
  case iadd =>
    simp only [am_stp] at HS
    split at HS
    · rename_i y x S0
      replace HS : am_PP G p l e R s m args below meth c Q n0 s0 N1 C1 nx L (.int (x + y) :: S0) h := HS
      simp only [am_okb, Bool.and_eq_true, beq_iff_eq, decide_eq_true_eq] at ok
      obtain ⟨hd, rfl⟩ := ok
      exact ⟨HS.1, HS.2.1, fun q1 q2 q3 H locs ls hR hS hl => lv_iadd hx hb (am_dec_of hd) (HS.2.2 q1 q2 q3 H locs ls hR hS hl)⟩
    · exact HS.elim
  case isub =>
    simp only [am_stp] at HS
    split at HS
    · rename_i y x S0
      replace HS : am_PP G p l e R s m args below meth c Q n0 s0 N1 C1 nx L (.int (x - y) :: S0) h := HS
      simp only [am_okb, Bool.and_eq_true, beq_iff_eq, decide_eq_true_eq] at ok
      obtain ⟨hd, rfl⟩ := ok
      exact ⟨HS.1, HS.2.1, fun q1 q2 q3 H locs ls hR hS hl => lv_isub hx hb (am_dec_of hd) (HS.2.2 q1 q2 q3 H locs ls hR hS hl)⟩
    · exact HS.elim
  case imul =>
    simp only [am_stp] at HS
    split at HS
    · rename_i y x S0
      replace HS : am_PP G p l e R s m args below meth c Q n0 s0 N1 C1 nx L (.int (x * y) :: S0) h := HS
      simp only [am_okb, Bool.and_eq_true, beq_iff_eq, decide_eq_true_eq] at ok
      obtain ⟨hd, rfl⟩ := ok
      exact ⟨HS.1, HS.2.1, fun q1 q2 q3 H locs ls hR hS hl => lv_imul hx hb (am_dec_of hd) (HS.2.2 q1 q2 q3 H locs ls hR hS hl)⟩
    · exact HS.elim
  case iand =>
    simp only [am_stp] at HS
    split at HS
    · rename_i y x S0
      replace HS : am_PP G p l e R s m args below meth c Q n0 s0 N1 C1 nx L (.int (x &&& y) :: S0) h := HS
      simp only [am_okb, Bool.and_eq_true, beq_iff_eq, decide_eq_true_eq] at ok
      obtain ⟨hd, rfl⟩ := ok
      exact ⟨HS.1, HS.2.1, fun q1 q2 q3 H locs ls hR hS hl => lv_iand hx hb (am_dec_of hd) (HS.2.2 q1 q2 q3 H locs ls hR hS hl)⟩
    · exact HS.elim
  case ior =>
    simp only [am_stp] at HS
    split at HS
    · rename_i y x S0
      replace HS : am_PP G p l e R s m args below meth c Q n0 s0 N1 C1 nx L (.int (x ||| y) :: S0) h := HS
      simp only [am_okb, Bool.and_eq_true, beq_iff_eq, decide_eq_true_eq] at ok
      obtain ⟨hd, rfl⟩ := ok
      exact ⟨HS.1, HS.2.1, fun q1 q2 q3 H locs ls hR hS hl => lv_ior hx hb (am_dec_of hd) (HS.2.2 q1 q2 q3 H locs ls hR hS hl)⟩
    · exact HS.elim
  case ixor =>
    simp only [am_stp] at HS
    split at HS
    · rename_i y x S0
      replace HS : am_PP G p l e R s m args below meth c Q n0 s0 N1 C1 nx L (.int (x ^^^ y) :: S0) h := HS
      simp only [am_okb, Bool.and_eq_true, beq_iff_eq, decide_eq_true_eq] at ok
      obtain ⟨hd, rfl⟩ := ok
      exact ⟨HS.1, HS.2.1, fun q1 q2 q3 H locs ls hR hS hl => lv_ixor hx hb (am_dec_of hd) (HS.2.2 q1 q2 q3 H locs ls hR hS hl)⟩
    · exact HS.elim
  case ishl =>
    simp only [am_stp] at HS
    split at HS
    · rename_i y x S0
      replace HS : am_PP G p l e R s m args below meth c Q n0 s0 N1 C1 nx L (.int (x <<< (y &&& 31)) :: S0) h := HS
      simp only [am_okb, Bool.and_eq_true, beq_iff_eq, decide_eq_true_eq] at ok
      obtain ⟨hd, rfl⟩ := ok
      exact ⟨HS.1, HS.2.1, fun q1 q2 q3 H locs ls hR hS hl => lv_ishl hx hb (am_dec_of hd) (HS.2.2 q1 q2 q3 H locs ls hR hS hl)⟩
    · exact HS.elim
  case ishr =>
    simp only [am_stp] at HS
    split at HS
    · rename_i y x S0
      replace HS : am_PP G p l e R s m args below meth c Q n0 s0 N1 C1 nx L (.int (x >>> (y &&& 31)) :: S0) h := HS
      simp only [am_okb, Bool.and_eq_true, beq_iff_eq, decide_eq_true_eq] at ok
      obtain ⟨hd, rfl⟩ := ok
      exact ⟨HS.1, HS.2.1, fun q1 q2 q3 H locs ls hR hS hl => lv_ishr hx hb (am_dec_of hd) (HS.2.2 q1 q2 q3 H locs ls hR hS hl)⟩
    · exact HS.elim
  case iushr =>
    simp only [am_stp] at HS
    split at HS
    · rename_i y x S0
      replace HS : am_PP G p l e R s m args below meth c Q n0 s0 N1 C1 nx L (.int ((x.toUInt32 >>> (y.toUInt32 &&& Int32.toUInt32 31)).toInt32) :: S0) h := HS
      simp only [am_okb, Bool.and_eq_true, beq_iff_eq, decide_eq_true_eq] at ok
      obtain ⟨hd, rfl⟩ := ok
      exact ⟨HS.1, HS.2.1, fun q1 q2 q3 H locs ls hR hS hl => lv_iushr hx hb (am_dec_of hd) rfl (HS.2.2 q1 q2 q3 H locs ls hR hS hl)⟩
    · exact HS.elim
  case idiv =>
    simp only [am_stp] at HS
    split at HS
    · rename_i y x S0
      obtain ⟨hc, HS⟩ := (show (¬ y = 0) ∧ am_PP G p l e R s m args below meth c Q n0 s0 N1 C1 nx L (.int (x / y) :: S0) h from HS)
      simp only [am_okb, Bool.and_eq_true, beq_iff_eq, decide_eq_true_eq] at ok
      obtain ⟨hd, rfl⟩ := ok
      exact ⟨HS.1, HS.2.1, fun q1 q2 q3 H locs ls hR hS hl => lv_idiv hx hb (am_dec_of hd) hc (HS.2.2 q1 q2 q3 H locs ls hR hS hl)⟩
    · exact HS.elim
  case irem =>
    simp only [am_stp] at HS
    split at HS
    · rename_i y x S0
      obtain ⟨hc, HS⟩ := (show (¬ y = 0) ∧ am_PP G p l e R s m args below meth c Q n0 s0 N1 C1 nx L (.int (x - x / y * y) :: S0) h from HS)
      simp only [am_okb, Bool.and_eq_true, beq_iff_eq, decide_eq_true_eq] at ok
      obtain ⟨hd, rfl⟩ := ok
      exact ⟨HS.1, HS.2.1, fun q1 q2 q3 H locs ls hR hS hl => lv_irem hx hb (am_dec_of hd) hc (HS.2.2 q1 q2 q3 H locs ls hR hS hl)⟩
    · exact HS.elim
  case i2l =>
    simp only [am_stp] at HS
    split at HS
    · rename_i x S0
      replace HS : am_PP G p l e R s m args below meth c Q n0 s0 N1 C1 nx L (.long x.toInt64 :: S0) h := HS
      simp only [am_okb, Bool.and_eq_true, beq_iff_eq, decide_eq_true_eq] at ok
      obtain ⟨hd, rfl⟩ := ok
      exact ⟨HS.1, HS.2.1, fun q1 q2 q3 H locs ls hR hS hl => lv_i2l hx hb (am_dec_of hd) rfl (HS.2.2 q1 q2 q3 H locs ls hR hS hl)⟩
    · exact HS.elim
  case l2i =>
    simp only [am_stp] at HS
    split at HS
    · rename_i x S0
      replace HS : am_PP G p l e R s m args below meth c Q n0 s0 N1 C1 nx L (.int x.toInt32 :: S0) h := HS
      simp only [am_okb, Bool.and_eq_true, beq_iff_eq, decide_eq_true_eq] at ok
      obtain ⟨hd, rfl⟩ := ok
      exact ⟨HS.1, HS.2.1, fun q1 q2 q3 H locs ls hR hS hl => lv_l2i hx hb (am_dec_of hd) rfl (HS.2.2 q1 q2 q3 H locs ls hR hS hl)⟩
    · exact HS.elim
  case i2b =>
    simp only [am_stp] at HS
    split at HS
    · rename_i x S0
      replace HS : am_PP G p l e R s m args below meth c Q n0 s0 N1 C1 nx L (.int x.toInt8.toInt32 :: S0) h := HS
      simp only [am_okb, Bool.and_eq_true, beq_iff_eq, decide_eq_true_eq] at ok
      obtain ⟨hd, rfl⟩ := ok
      exact ⟨HS.1, HS.2.1, fun q1 q2 q3 H locs ls hR hS hl => lv_i2b hx hb (am_dec_of hd) rfl (HS.2.2 q1 q2 q3 H locs ls hR hS hl)⟩
    · exact HS.elim
  case i2f =>
    simp only [am_stp] at HS
    split at HS
    · rename_i x S0
      replace HS : am_PP G p l e R s m args below meth c Q n0 s0 N1 C1 nx L (.float (FP.i2f x) :: S0) h := HS
      simp only [am_okb, Bool.and_eq_true, beq_iff_eq, decide_eq_true_eq] at ok
      obtain ⟨hd, rfl⟩ := ok
      exact ⟨HS.1, HS.2.1, fun q1 q2 q3 H locs ls hR hS hl => lv_i2f hx hb (am_dec_of hd) (HS.2.2 q1 q2 q3 H locs ls hR hS hl)⟩
    · exact HS.elim
  case ladd =>
    simp only [am_stp] at HS
    split at HS
    · rename_i y x S0
      replace HS : am_PP G p l e R s m args below meth c Q n0 s0 N1 C1 nx L (.long (x + y) :: S0) h := HS
      simp only [am_okb, Bool.and_eq_true, beq_iff_eq, decide_eq_true_eq] at ok
      obtain ⟨hd, rfl⟩ := ok
      exact ⟨HS.1, HS.2.1, fun q1 q2 q3 H locs ls hR hS hl => lv_ladd hx hb (am_dec_of hd) (HS.2.2 q1 q2 q3 H locs ls hR hS hl)⟩
    · exact HS.elim
  case lsub =>
    simp only [am_stp] at HS
    split at HS
    · rename_i y x S0
      replace HS : am_PP G p l e R s m args below meth c Q n0 s0 N1 C1 nx L (.long (x - y) :: S0) h := HS
      simp only [am_okb, Bool.and_eq_true, beq_iff_eq, decide_eq_true_eq] at ok
      obtain ⟨hd, rfl⟩ := ok
      exact ⟨HS.1, HS.2.1, fun q1 q2 q3 H locs ls hR hS hl => lv_lsub hx hb (am_dec_of hd) (HS.2.2 q1 q2 q3 H locs ls hR hS hl)⟩
    · exact HS.elim
  case lmul =>
    simp only [am_stp] at HS
    split at HS
    · rename_i y x S0
      replace HS : am_PP G p l e R s m args below meth c Q n0 s0 N1 C1 nx L (.long (x * y) :: S0) h := HS
      simp only [am_okb, Bool.and_eq_true, beq_iff_eq, decide_eq_true_eq] at ok
      obtain ⟨hd, rfl⟩ := ok
      exact ⟨HS.1, HS.2.1, fun q1 q2 q3 H locs ls hR hS hl => lv_lmul hx hb (am_dec_of hd) (HS.2.2 q1 q2 q3 H locs ls hR hS hl)⟩
    · exact HS.elim
  case ldiv =>
    simp only [am_stp] at HS
    split at HS
    · rename_i y x S0
      obtain ⟨hc, HS⟩ := (show (¬ y = 0) ∧ am_PP G p l e R s m args below meth c Q n0 s0 N1 C1 nx L (.long (x / y) :: S0) h from HS)
      simp only [am_okb, Bool.and_eq_true, beq_iff_eq, decide_eq_true_eq] at ok
      obtain ⟨hd, rfl⟩ := ok
      exact ⟨HS.1, HS.2.1, fun q1 q2 q3 H locs ls hR hS hl => lv_ldiv hx hb (am_dec_of hd) hc (HS.2.2 q1 q2 q3 H locs ls hR hS hl)⟩
    · exact HS.elim
  case lneg =>
    simp only [am_stp] at HS
    split at HS
    · rename_i x S0
      replace HS : am_PP G p l e R s m args below meth c Q n0 s0 N1 C1 nx L (.long (-x) :: S0) h := HS
      simp only [am_okb, Bool.and_eq_true, beq_iff_eq, decide_eq_true_eq] at ok
      obtain ⟨hd, rfl⟩ := ok
      exact ⟨HS.1, HS.2.1, fun q1 q2 q3 H locs ls hR hS hl => lv_lneg hx hb (am_dec_of hd) (HS.2.2 q1 q2 q3 H locs ls hR hS hl)⟩
    · exact HS.elim
  case lcmp =>
    simp only [am_stp] at HS
    split at HS
    · rename_i y x S0
      replace HS : am_PP G p l e R s m args below meth c Q n0 s0 N1 C1 nx L (.int (lg_cmp x y) :: S0) h := HS
      simp only [am_okb, Bool.and_eq_true, beq_iff_eq, decide_eq_true_eq] at ok
      obtain ⟨hd, rfl⟩ := ok
      exact ⟨HS.1, HS.2.1, fun q1 q2 q3 H locs ls hR hS hl => W.lcmp hx hb (am_dec_of hd) (HS.2.2 q1 q2 q3 H locs ls hR hS hl)⟩
    · exact HS.elim
  case fadd =>
    simp only [am_stp] at HS
    split at HS
    · rename_i y x S0
      obtain ⟨hc, HS⟩ := (show (vf_n32 (FP.fadd x y)) ∧ am_PP G p l e R s m args below meth c Q n0 s0 N1 C1 nx L (.float (FP.fadd x y) :: S0) h from HS)
      simp only [am_okb, Bool.and_eq_true, beq_iff_eq, decide_eq_true_eq] at ok
      obtain ⟨hd, rfl⟩ := ok
      exact ⟨HS.1, HS.2.1, fun q1 q2 q3 H locs ls hR hS hl => lv_fadd hx hb (am_dec_of hd) hc (HS.2.2 q1 q2 q3 H locs ls hR hS hl)⟩
    · exact HS.elim
  case fmul =>
    simp only [am_stp] at HS
    split at HS
    · rename_i y x S0
      obtain ⟨hc, HS⟩ := (show (vf_n32 (FP.fmul x y)) ∧ am_PP G p l e R s m args below meth c Q n0 s0 N1 C1 nx L (.float (FP.fmul x y) :: S0) h from HS)
      simp only [am_okb, Bool.and_eq_true, beq_iff_eq, decide_eq_true_eq] at ok
      obtain ⟨hd, rfl⟩ := ok
      exact ⟨HS.1, HS.2.1, fun q1 q2 q3 H locs ls hR hS hl => lv_fmul hx hb (am_dec_of hd) hc (HS.2.2 q1 q2 q3 H locs ls hR hS hl)⟩
    · exact HS.elim
  case fdiv =>
    simp only [am_stp] at HS
    split at HS
    · rename_i y x S0
      obtain ⟨hc, HS⟩ := (show (vf_n32 (FP.fdiv x y)) ∧ am_PP G p l e R s m args below meth c Q n0 s0 N1 C1 nx L (.float (FP.fdiv x y) :: S0) h from HS)
      simp only [am_okb, Bool.and_eq_true, beq_iff_eq, decide_eq_true_eq] at ok
      obtain ⟨hd, rfl⟩ := ok
      exact ⟨HS.1, HS.2.1, fun q1 q2 q3 H locs ls hR hS hl => lv_fdiv hx hb (am_dec_of hd) hc (HS.2.2 q1 q2 q3 H locs ls hR hS hl)⟩
    · exact HS.elim
  case f2d =>
    simp only [am_stp] at HS
    split at HS
    · rename_i x S0
      obtain ⟨hc, HS⟩ := (show (vf_n64 (FP.f2d x)) ∧ am_PP G p l e R s m args below meth c Q n0 s0 N1 C1 nx L (.double (FP.f2d x) :: S0) h from HS)
      simp only [am_okb, Bool.and_eq_true, beq_iff_eq, decide_eq_true_eq] at ok
      obtain ⟨hd, rfl⟩ := ok
      exact ⟨HS.1, HS.2.1, fun q1 q2 q3 H locs ls hR hS hl => lv_f2d hx hb (am_dec_of hd) hc (HS.2.2 q1 q2 q3 H locs ls hR hS hl)⟩
    · exact HS.elim
  case dcmp c9 =>
    simp only [am_stp] at HS
    split at HS
    · rename_i y x S0
      replace HS : am_PP G p l e R s m args below meth c Q n0 s0 N1 C1 nx L (.int (Op.cmpValue (FP.dcmp x y) c9) :: S0) h := HS
      simp only [am_okb, Bool.and_eq_true, beq_iff_eq, decide_eq_true_eq] at ok
      obtain ⟨hd, rfl⟩ := ok
      exact ⟨HS.1, HS.2.1, fun q1 q2 q3 H locs ls hR hS hl => lv_dcmp hx hb (am_dec_of hd) (HS.2.2 q1 q2 q3 H locs ls hR hS hl)⟩
    · exact HS.elim
  case aconst_null =>
    simp only [am_stp] at HS
    replace HS : am_PP G p l e R s m args below meth c Q n0 s0 N1 C1 nx L (.ref 0 :: S) h := HS
    simp only [am_okb, Bool.and_eq_true, beq_iff_eq, decide_eq_true_eq] at ok
    obtain ⟨hd, rfl⟩ := ok
    exact ⟨HS.1, HS.2.1, fun q1 q2 q3 H locs ls hR hS hl => lv_null hx hb (am_dec_of hd) (HS.2.2 q1 q2 q3 H locs ls hR hS hl)⟩
  case dup2 =>
    simp only [am_stp] at HS
    split at HS
    · rename_i x y S0
      replace HS : am_PP G p l e R s m args below meth c Q n0 s0 N1 C1 nx L (.int x :: .ref y :: .int x :: .ref y :: S0) h := HS
      simp only [am_okb, Bool.and_eq_true, beq_iff_eq, decide_eq_true_eq] at ok
      obtain ⟨hd, rfl⟩ := ok
      exact ⟨HS.1, HS.2.1, fun q1 q2 q3 H locs ls hR hS hl => lv_dup2_11 hx hb (am_dec_of hd) rfl (am_v_cat G (.ref y)) (HS.2.2 q1 q2 q3 H locs ls hR hS hl)⟩
    · exact HS.elim
  case dup =>
    simp only [am_stp] at HS
    simp only [am_okb, Bool.and_eq_true, beq_iff_eq, decide_eq_true_eq] at ok
    obtain ⟨hd, rfl⟩ := ok
    split at HS
    · rename_i x S0
      replace HS : am_PP G p l e R s m args below meth c Q n0 s0 N1 C1 (pc + 1) L (.int x :: .int x :: S0) h := HS
      exact ⟨HS.1, HS.2.1, fun q1 q2 q3 H locs ls hR hS hl => lv_dup hx hb (am_dec_of hd) rfl (HS.2.2 q1 q2 q3 H locs ls hR hS hl)⟩
    · rename_i x S0
      replace HS : am_PP G p l e R s m args below meth c Q n0 s0 N1 C1 (pc + 1) L (.ref x :: .ref x :: S0) h := HS
      exact ⟨HS.1, HS.2.1, fun q1 q2 q3 H locs ls hR hS hl => lv_dup hx hb (am_dec_of hd) (am_v_cat G (.ref x)) (HS.2.2 q1 q2 q3 H locs ls hR hS hl)⟩
    · exact HS.elim
  case pop =>
    simp only [am_stp] at HS
    simp only [am_okb] at ok
    split at ok
    · rename_i hd
      simp only [beq_iff_eq] at ok
      subst ok
      split at HS
      · rename_i x S0
        replace HS : am_PP G p l e R s m args below meth c Q n0 s0 N1 C1 (pc + 1) L S0 h := HS
        exact ⟨HS.1, HS.2.1, fun q1 q2 q3 H locs ls hR hS hl => lv_pop hx hb (am_dec_of hd) rfl (HS.2.2 q1 q2 q3 H locs ls hR hS hl)⟩
      · rename_i x S0
        replace HS : am_PP G p l e R s m args below meth c Q n0 s0 N1 C1 (pc + 1) L S0 h := HS
        exact ⟨HS.1, HS.2.1, fun q1 q2 q3 H locs ls hR hS hl => lv_pop hx hb (am_dec_of hd) (am_v_cat G (.ref x)) (HS.2.2 q1 q2 q3 H locs ls hR hS hl)⟩
      · exact HS.elim
    · cases ok
  case pop2 =>
    simp only [am_stp] at HS
    split at HS
    · rename_i x
      obtain ⟨z, HS⟩ := (show x ≠ 0 ∧ am_PP G p l e R s m args below meth c Q n0 s0 N1 C1 nx L [] h from HS)
      simp only [am_okb] at ok
      split at ok
      · rename_i i9 hd
        simp only [Bool.and_eq_true, beq_iff_eq, List.contains_iff_mem] at ok
        obtain ⟨ok, rfl⟩ := ok
        refine ⟨HS.1, HS.2.1, fun q1 q2 q3 H locs ls hR hS hl => ?_⟩
        have K := HS.2.2 q1 q2 q3 H locs ls hR hS hl
        rw [List.map_cons, am_v1 G z]
        exact W.objInit hx hb hown (am_w hts (am_ol_ok _ ok) rfl) (am_w hts (by decide +kernel) rfl) (am_w hts (by decide +kernel) rfl) rfl (hl.1.trans q3) rfl (am_dec_of hd) (by omega) (by show 2 * 0 + ([].map _).sum + 12 ≤ _; simp; omega) K
      · cases ok
    · exact HS.elim
  case ldc k =>
    simp only [am_stp] at HS
    replace HS : am_PP G p l e R s m args below meth c Q n0 s0 N1 C1 nx L (.int (nI k) :: S) h := HS
    simp only [am_okb] at ok
    split at ok
    · rename_i n hd
      simp only [Bool.and_eq_true, beq_iff_eq, decide_eq_true_eq, List.contains_iff_mem] at ok
      obtain ⟨ok, rfl⟩ := ok
      exact ⟨HS.1, HS.2.1, fun q1 q2 q3 H locs ls hR hS hl => lv_iconst hx hb (am_dec_of hd) ok (HS.2.2 q1 q2 q3 H locs ls hR hS hl)⟩
    · rename_i n hd
      simp only [Bool.and_eq_true, beq_iff_eq, decide_eq_true_eq, List.contains_iff_mem] at ok
      obtain ⟨ok, rfl⟩ := ok
      exact ⟨HS.1, HS.2.1, fun q1 q2 q3 H locs ls hR hS hl => lv_bipush hx hb (am_dec_of hd) ok (HS.2.2 q1 q2 q3 H locs ls hR hS hl)⟩
    · rename_i n hd
      simp only [Bool.and_eq_true, beq_iff_eq, decide_eq_true_eq, List.contains_iff_mem] at ok
      obtain ⟨ok, rfl⟩ := ok
      exact ⟨HS.1, HS.2.1, fun q1 q2 q3 H locs ls hR hS hl => lv_sipush hx hb (am_dec_of hd) ok (HS.2.2 q1 q2 q3 H locs ls hR hS hl)⟩
    · rename_i i hd
      simp only [Bool.and_eq_true, beq_iff_eq, decide_eq_true_eq, List.contains_iff_mem] at ok
      obtain ⟨ok, rfl⟩ := ok
      exact ⟨HS.1, HS.2.1, fun q1 q2 q3 H locs ls hR hS hl => lv_ldc hx hb hown (am_w hts (am_il_ok _ ok) rfl) (am_dec_of hd) (HS.2.2 q1 q2 q3 H locs ls hR hS hl)⟩
    · rename_i i hd
      simp only [Bool.and_eq_true, beq_iff_eq, decide_eq_true_eq, List.contains_iff_mem] at ok
      obtain ⟨ok, rfl⟩ := ok
      exact ⟨HS.1, HS.2.1, fun q1 q2 q3 H locs ls hR hS hl => lv_ldcw hx hb hown (am_w hts (am_il_ok _ ok) rfl) (am_dec_of hd) (HS.2.2 q1 q2 q3 H locs ls hR hS hl)⟩
    · cases ok
  case ldc_w k =>
    simp only [am_stp] at HS
    replace HS : am_PP G p l e R s m args below meth c Q n0 s0 N1 C1 nx L (.int (-nI k) :: S) h := HS
    simp only [am_okb] at ok
    split at ok
    · rename_i n hd
      simp only [Bool.and_eq_true, beq_iff_eq, decide_eq_true_eq, List.contains_iff_mem] at ok
      obtain ⟨ok, rfl⟩ := ok
      exact ⟨HS.1, HS.2.1, fun q1 q2 q3 H locs ls hR hS hl => lv_iconst hx hb (am_dec_of hd) ok (HS.2.2 q1 q2 q3 H locs ls hR hS hl)⟩
    · rename_i n hd
      simp only [Bool.and_eq_true, beq_iff_eq, decide_eq_true_eq, List.contains_iff_mem] at ok
      obtain ⟨ok, rfl⟩ := ok
      exact ⟨HS.1, HS.2.1, fun q1 q2 q3 H locs ls hR hS hl => lv_bipush hx hb (am_dec_of hd) ok (HS.2.2 q1 q2 q3 H locs ls hR hS hl)⟩
    · rename_i n hd
      simp only [Bool.and_eq_true, beq_iff_eq, decide_eq_true_eq, List.contains_iff_mem] at ok
      obtain ⟨ok, rfl⟩ := ok
      exact ⟨HS.1, HS.2.1, fun q1 q2 q3 H locs ls hR hS hl => lv_sipush hx hb (am_dec_of hd) ok (HS.2.2 q1 q2 q3 H locs ls hR hS hl)⟩
    · cases ok
  case ldc2_w k =>
    simp only [am_stp] at HS
    replace HS : am_PP G p l e R s m args below meth c Q n0 s0 N1 C1 nx L (.long (lN k) :: S) h := HS
    simp only [am_okb] at ok
    split at ok
    · rename_i n hd
      simp only [Bool.and_eq_true, beq_iff_eq, decide_eq_true_eq, List.contains_iff_mem] at ok
      obtain ⟨ok, rfl⟩ := ok
      exact ⟨HS.1, HS.2.1, fun q1 q2 q3 H locs ls hR hS hl => lv_lconst hx hb (am_dec_of hd) ok (HS.2.2 q1 q2 q3 H locs ls hR hS hl)⟩
    · rename_i i hd
      simp only [Bool.and_eq_true, beq_iff_eq, decide_eq_true_eq, List.contains_iff_mem] at ok
      obtain ⟨ok, rfl⟩ := ok
      exact ⟨HS.1, HS.2.1, fun q1 q2 q3 H locs ls hR hS hl => lv_ldc2 hx hb hown (am_w hts (am_ll_ok _ ok) rfl) (am_dec_of hd) (HS.2.2 q1 q2 q3 H locs ls hR hS hl)⟩
    · cases ok
  case goto_w k =>
    simp only [am_stp] at HS
    replace HS : am_PP G p l e R s m args below meth c Q n0 s0 N1 C1 nx L (.long (Int64.ofInt k) :: S) h := HS
    simp only [am_okb] at ok
    split at ok
    · rename_i i hd
      simp only [Bool.and_eq_true, beq_iff_eq, decide_eq_true_eq, List.contains_iff_mem] at ok
      obtain ⟨ok, rfl⟩ := ok
      exact ⟨HS.1, HS.2.1, fun q1 q2 q3 H locs ls hR hS hl => lv_ldc2 hx hb hown (am_w hts (am_ll_ok _ ok) rfl) (am_dec_of hd) (HS.2.2 q1 q2 q3 H locs ls hR hS hl)⟩
    · cases ok
  case invokedynamic k =>
    simp only [am_stp] at HS
    replace HS : am_PP G p l e R s m args below meth c Q n0 s0 N1 C1 nx L (.float (UInt32.ofNat k) :: S) h := HS
    simp only [am_okb] at ok
    split at ok
    · rename_i hd
      simp only [Bool.and_eq_true, beq_iff_eq, decide_eq_true_eq] at ok
      obtain ⟨ok, rfl⟩ := ok
      rw [← ok] at HS
      exact ⟨HS.1, HS.2.1, fun q1 q2 q3 H locs ls hR hS hl => lv_fconst0 hx hb (am_dec_of hd) (HS.2.2 q1 q2 q3 H locs ls hR hS hl)⟩
    · rename_i hd
      simp only [Bool.and_eq_true, beq_iff_eq, decide_eq_true_eq] at ok
      obtain ⟨ok, rfl⟩ := ok
      rw [← ok] at HS
      exact ⟨HS.1, HS.2.1, fun q1 q2 q3 H locs ls hR hS hl => lv_fconst1 hx hb (am_dec_of hd) (HS.2.2 q1 q2 q3 H locs ls hR hS hl)⟩
    · rename_i i hd
      simp only [Bool.and_eq_true, beq_iff_eq, List.contains_iff_mem] at ok
      obtain ⟨ok, rfl⟩ := ok
      exact ⟨HS.1, HS.2.1, fun q1 q2 q3 H locs ls hR hS hl => lv_ldcf hx hb hown (am_w hts (am_ff_ok _ ok) rfl) (am_dec_of hd) (HS.2.2 q1 q2 q3 H locs ls hR hS hl)⟩
    · rename_i i hd
      simp only [Bool.and_eq_true, beq_iff_eq, List.contains_iff_mem] at ok
      obtain ⟨ok, rfl⟩ := ok
      exact ⟨HS.1, HS.2.1, fun q1 q2 q3 H locs ls hR hS hl => am_ldcwf hx hb hown (am_w hts (am_ff_ok _ ok) rfl) (am_dec_of hd) (HS.2.2 q1 q2 q3 H locs ls hR hS hl)⟩
    · cases ok
  case invokeinterface j w9 =>
    simp only [am_stp] at HS
    replace HS : am_PP G p l e R s m args below meth c Q n0 s0 N1 C1 nx L (.ref (am_S0 + j) :: S) h := HS
    simp only [am_okb] at ok
    split at ok
    · rename_i i hd
      simp only [Bool.and_eq_true, beq_iff_eq, List.contains_iff_mem] at ok
      obtain ⟨ok, rfl⟩ := ok
      have e1 : am_v G (.ref (am_S0 + j)) = .ref (G.2.2.2.1 j) := by
        have hj : j < 1000000 := am_sl_lt _ ok
        show am_v G (.ref (2000000 + j)) = _
        rw [am_v1 G (by omega)]
        unfold am_ad
        rw [if_neg (show ¬ 2000000 + j ≤ 1000000 by omega), if_pos (show 2000000 + j < 3000000 by omega), show 2000000 + j - am_S0 = j from Nat.add_sub_cancel_left _ _]
      refine ⟨HS.1, HS.2.1, fun q1 q2 q3 H locs ls hR hS hl => ?_⟩
      have K := HS.2.2 q1 q2 q3 H locs ls hR hS hl
      rw [List.map_cons, e1] at K
      exact va_ldcS hx hb hown (hsf.2.1 _ ok) (am_dec_of hd) K
    · cases ok
  case goto t =>
    simp only [am_stp] at HS
    replace HS : am_PP G p l e R s m args below meth c Q n0 s0 N1 C1 t.toNat L S h := HS
    simp only [am_okb] at ok
    split at ok
    · rename_i off hd
      simp only [Bool.and_eq_true, beq_iff_eq] at ok
      exact ⟨HS.1, HS.2.1, fun q1 q2 q3 H locs ls hR hS hl => lv_goto hx hb (am_dec_of hd) (am_tg ok.1) (HS.2.2 q1 q2 q3 H locs ls hR hS hl)⟩
    · cases ok
  case if_icmp c9 t =>
    simp only [am_stp] at HS
    split at HS
    · rename_i y x S0
      obtain ⟨H1, H2⟩ := (show (am_cond c9 x y → am_PP G p l e R s m args below meth c Q n0 s0 N1 C1 t.toNat L S0 h) ∧ (¬ am_cond c9 x y → am_PP G p l e R s m args below meth c Q n0 s0 N1 C1 nx L S0 h) from HS)
      simp only [am_okb] at ok
      split at ok
      · rename_i c8 off hd
        simp only [Bool.and_eq_true, beq_iff_eq, decide_eq_true_eq] at ok
        obtain ⟨⟨e1, ok⟩, e2⟩ := ok
        subst e1
        subst e2
        refine ⟨?_, ?_, fun q1 q2 q3 H locs ls hR hS hl => ?_⟩
        · by_cases z : am_cond c8 x y
          · exact (H1 z).1
          · exact (H2 z).1
        · by_cases z : am_cond c8 x y
          · exact (H1 z).2.1
          · exact (H2 z).2.1
        · have K1 := fun z => (H1 z).2.2 q1 q2 q3 H locs ls hR hS hl
          have K2 := fun z => (H2 z).2.2 q1 q2 q3 H locs ls hR hS hl
          cases c8
          · exact lv_icmp_eq hx hb (am_dec_of hd) (am_tg ok) K1 K2
          · exact lv_icmp_ne hx hb (am_dec_of hd) (am_tg ok) K1 (fun z => K2 (fun w => w z))
          · exact lv_icmp_lt hx hb (am_dec_of hd) (am_tg ok) K1 K2
          · exact lv_icmp_ge hx hb (am_dec_of hd) (am_tg ok) K1 K2
          · exact lv_icmp_gt hx hb (am_dec_of hd) (am_tg ok) K1 K2
          · exact lv_icmp_le hx hb (am_dec_of hd) (am_tg ok) K1 K2
      · cases ok
    · exact HS.elim
  case ifCond c9 t =>
    simp only [am_stp] at HS
    split at HS
    · rename_i x S0
      obtain ⟨H1, H2⟩ := (show (am_cond c9 x 0 → am_PP G p l e R s m args below meth c Q n0 s0 N1 C1 t.toNat L S0 h) ∧ (¬ am_cond c9 x 0 → am_PP G p l e R s m args below meth c Q n0 s0 N1 C1 nx L S0 h) from HS)
      simp only [am_okb] at ok
      split at ok
      · rename_i c8 off hd
        simp only [Bool.and_eq_true, beq_iff_eq, decide_eq_true_eq] at ok
        obtain ⟨⟨e1, ok⟩, e2⟩ := ok
        subst e1
        subst e2
        refine ⟨?_, ?_, fun q1 q2 q3 H locs ls hR hS hl => ?_⟩
        · by_cases z : am_cond c8 x 0
          · exact (H1 z).1
          · exact (H2 z).1
        · by_cases z : am_cond c8 x 0
          · exact (H1 z).2.1
          · exact (H2 z).2.1
        · have K1 := fun z => (H1 z).2.2 q1 q2 q3 H locs ls hR hS hl
          have K2 := fun z => (H2 z).2.2 q1 q2 q3 H locs ls hR hS hl
          cases c8
          · exact lv_if_eq hx hb (am_dec_of hd) (am_tg ok) K1 K2
          · exact lv_if_ne hx hb (am_dec_of hd) (am_tg ok) K1 (fun z => K2 (fun w => w z))
          · exact lv_if_lt hx hb (am_dec_of hd) (am_tg ok) K1 K2
          · exact lv_if_ge hx hb (am_dec_of hd) (am_tg ok) K1 K2
          · exact lv_if_gt hx hb (am_dec_of hd) (am_tg ok) K1 K2
          · exact lv_if_le hx hb (am_dec_of hd) (am_tg ok) K1 K2
      · cases ok
    · exact HS.elim
  case ifnull t =>
    simp only [am_stp] at HS
    split at HS
    · rename_i x S0
      obtain ⟨H1, H2⟩ := (show (x = 0 → am_PP G p l e R s m args below meth c Q n0 s0 N1 C1 t.toNat L S0 h) ∧ (¬ x = 0 → am_PP G p l e R s m args below meth c Q n0 s0 N1 C1 nx L S0 h) from HS)
      simp only [am_okb] at ok
      split at ok
      · rename_i off hd
        simp only [Bool.and_eq_true, beq_iff_eq] at ok
        obtain ⟨ok, rfl⟩ := ok
        by_cases z : x = 0
        · subst z
          have HS := H1 rfl
          exact ⟨HS.1, HS.2.1, fun q1 q2 q3 H locs ls hR hS hl => lv_ifnullN hx hb (am_dec_of hd) (am_tg ok) (HS.2.2 q1 q2 q3 H locs ls hR hS hl)⟩
        · have HS := H2 z
          refine ⟨HS.1, HS.2.1, fun q1 q2 q3 H locs ls hR hS hl => ?_⟩
          have K := HS.2.2 q1 q2 q3 H locs ls hR hS hl
          rw [List.map_cons, am_v1 G z]
          exact lv_ifnull hx hb (am_dec_of hd) K
      · cases ok
    · exact HS.elim
  case tableswitch d lo hi offs =>
    simp only [am_stp] at HS
    split at HS
    · rename_i x S0
      replace HS : am_PP G p l e R s m args below meth c Q n0 s0 N1 C1 (am_tsw d lo hi offs x) L S0 h := HS
      simp only [am_okb] at ok
      split at ok
      · rename_i d' lo' hi' offs' w9 hd
        simp only [Bool.and_eq_true, beq_iff_eq, decide_eq_true_eq, List.all_eq_true, List.mem_range] at ok
        obtain ⟨⟨⟨⟨⟨t1, rfl⟩, rfl⟩, e3⟩, e4⟩, t2⟩ := ok
        refine ⟨HS.1, HS.2.1, fun q1 q2 q3 H locs ls hR hS hl => ?_⟩
        have K := HS.2.2 q1 q2 q3 H locs ls hR hS hl
        unfold am_tsw at K
        by_cases z : x.toInt < lo' ∨ hi' < x.toInt
        · rw [if_pos z] at K
          exact lv_tableOut hx hb (am_dec_of hd) z (am_tg t1) K
        · rw [if_neg z] at K
          have z1 : ¬ x.toInt < lo' := fun q => z (Or.inl q)
          have z2 : ¬ hi' < x.toInt := fun q => z (Or.inr q)
          have hlt : (x.toInt - lo').toNat < offs.size := by omega
          have t3 := t2 _ hlt
          have e5 : offs'[(x.toInt - lo').toNat]? = some (offs'.getD (x.toInt - lo').toNat 0) := by
            rw [Array.getD_eq_getD_getElem?, Array.getElem?_eq_getElem (by omega)]
            rfl
          have e6 : offs.getD (x.toInt - lo').toNat (-1) = offs.getD (x.toInt - lo').toNat 0 := by
            rw [Array.getD_eq_getD_getElem?, Array.getD_eq_getD_getElem?, Array.getElem?_eq_getElem hlt]
            rfl
          rw [e6] at t3
          exact lv_tableIn hx hb (am_dec_of hd) z1 z2 e5 (am_tg t3) K
      · cases ok
    · exact HS.elim
end
end
section
section
variable {G : am_G} {xs : am_X} {own kind : Nat} {cc : ByteArray} {ret : Option FieldType} {p : Program} {l : Launch} {e : Env} {R : Room} {s : State} {m : MethodId} {args : Array Value} {below : List Frame} {meth : Method} {c : Code} {Q : State → Prop} {n0 s0 N1 C1 : Nat} {pc nx : Nat} {op : Instr} {L S L' S' : List Value} {h : am_H} {cal : am_Cal} {hdl : Nat → Nat → Option (Nat × Nat)} {Qq : am_Q}
def am_fs (G : am_G) (h : am_H) (a ci : Nat) : List Value := (List.range (am_nf ci)).map (fun k => if am_isr ci k = true then am_v G (.ref (am_r h a k)) else .int (am_i h a k))
theorem am_cell1 {a ci : Nat} (hk : am_k h a = (1, ci)) : am_cell G h a = .inr (ci, am_fs G h a ci) := by
  unfold am_cell
  rw [hk]
  rfl
theorem am_fs_get {a ci k : Nat} (hk : k < am_nf ci) : (am_fs G h a ci)[k]? = some (if am_isr ci k = true then am_v G (.ref (am_r h a k)) else .int (am_i h a k)) := by
  unfold am_fs
  rw [List.getElem?_map, List.getElem?_range hk]
  rfl
theorem am_fs_len {a ci : Nat} : (am_fs G h a ci).length = am_nf ci := by
  unfold am_fs
  simp
theorem am_k0 {a t n : Nat} (hk : am_k h a = (t + 1, n)) : (am_k h a).1 ≠ 0 := by
  rw [hk]
  exact Nat.succ_ne_zero _
theorem am_nz {H : Heap} {a : Nat} (R : am_Rel G h H) (hk : (am_k h a).1 ≠ 0) : a ≠ 0 := by
  have := (am_in R hk).1
  omega
theorem am_Aa {H : Heap} {a : Nat} (R : am_Rel G h H) (hk : (am_k h a).1 ≠ 0) : am_A G (am_ad G a) := by
  have := am_in R hk
  show G.2.2.1 + 1 ≤ am_ad G a
  omega
/-- a field is written -/
theorem am_putW {H : Heap} {locs : List Loc} {cells slots : Nat} {ls : Array Slot} {rest : List Value} (E : am_Env G xs own kind cc p R s m args meth c) (hR : am_Rel G h H) (hS : va_S (am_A G) s.heap H locs) {a i e9 : Nat} {v : Value} {h' : am_H} (hk : am_k h a = (1, e9 / 64)) (ok : (own, i, e9) ∈ am_fl_)
    (hf : (am_tf (e9 / 64) (e9 % 64)).2.2.2 = false ∨ (kind = 2 ∧ own = e9 / 64)) (hn : narrow (am_ty (e9 / 64) (e9 % 64)) v = v) (hfit : fits (am_ty (e9 / 64) (e9 % 64)) v = true)
    (h1 : am_n h' = am_n h) (h2 : ∀ x, am_k h' x = am_k h x) (h3 : am_fs G h' a (e9 / 64) = (am_fs G h a (e9 / 64)).set (e9 % 64) v) (h4 : ∀ x, x ≠ a → am_cell G h' x = am_cell G h x)
    (hdg : decode cc pc = .ok (.putfield i, 3)) (kk : ∀ (H1 : Heap) (locs1 : List Loc), am_Rel G h' H1 → va_S (am_A G) s.heap H1 locs1 → W p l e R s m args below meth c H1 locs1 cells slots Q (F0 m (pc + 3) ls rest)) : W p l e R s m args below meth c H locs cells slots Q (F0 m pc ls (v :: .ref (am_ad G a) :: rest)) := by
  obtain ⟨hx, hb, hown, hts, hsf, hki, hr1, hr2⟩ := E
  obtain ⟨c1, c2⟩ := am_fl_ok2 _ ok
  obtain ⟨-, -, g3, hc⟩ := am_ci_ok _ c1
  have hin : ∀ w ∈ u_ws (am_cn (e9 / 64)) (am_tf (e9 / 64)) (am_nf (e9 / 64)), w ∈ am_TT := fun w hw => am_TT_of (g3 w hw).1 (g3 w hw).2
  have hk0 := am_k0 hk
  have hK := hsf.1
  have hap := va_apart (own := am_cn own) hts hin (am_ty (e9 / 64)) (am_ty_ok _ c1) (am_nm_ok _ c1) hK hc
  have hat := hR.2.2.2.2 a hk0
  rw [am_cell1 hk] at hat
  obtain ⟨r, h9, cell, q1, q2, q3, q4⟩ := hat
  have hr : r = (am_cn (e9 / 64), am_tf (e9 / 64), am_nf (e9 / 64)) := Option.some.inj (h9.symm.trans hc)
  subst hr
  obtain ⟨hSl, hfc, kC, hkC, hkind⟩ := hK.1 _ _ hc
  obtain ⟨cf, kf, fi, f, hi, hsl⟩ := hSl _ c2
  have hd := am_ty_ok _ c1 _ c2
  have hlay := hts _ (hin _ (u_in_lay c2))
  have hlink := am_w hts (am_fl_ok _ ok) rfl
  have hst := (u_facts hfc hkC (u_lays hts hin c2) hi).1
  have hl : e9 % 64 < (am_fs G h a (e9 / 64)).length := by rw [am_fs_len]; exact c2
  have fin : ∀ (H1 : Heap), H1[am_ad G a]? = some (cell.setSlot (G.1.2 (e9 / 64) (e9 % 64)) v) → H1.size = H.size → (∀ q, q ≠ am_ad G a → H1[q]? = H[q]?) → am_Rel G h' H1 := fun H1 e1 e2 e3 =>
    hR.wr hk0 h1 h2 e2 e3 (by
      rw [am_cell1 ((h2 a).trans hk), h3]
      exact ⟨_, hc, t_OB.to (V := updV (vp_V (am_fs G h a (e9 / 64))) (e9 % 64) v) ⟨_, e1, q2, q3, t_set q4 hap c2 v⟩ (fun j _ => vp_updV_set hl v j)⟩) h4
  rcases hf with hfin | ⟨rfl, ho⟩
  · unfold u_lay at hlay
    rw [if_neg (by rw [hfin]; decide)] at hlay
    have h6 := u_store hfc hkC hkind hlay hi hd hn hfit
    refine W.putK hx hb (f := f) ⟨hown, hlink, ⟨_, _, _, hi⟩, hst⟩ (by rw [q2]; exact h6) q1 q3 (by rw [hsl]; exact k2_hasslot (q4 _ c2)) rfl rfl hdg fun H' e1 e2 e3 => ?_
    rw [hsl] at e1 ⊢
    exact kk H' _ (fin H' e1 e2 e3) (hS.put e2 e3 (am_Aa hR hk0))
  · by_cases hfin : (am_tf (e9 / 64) (e9 % 64)).2.2.2 = true
    · unfold u_lay at hlay
      rw [if_pos hfin] at hlay
      have hcf : m.cls = cf := by
        obtain ⟨_, _, c', _, _, _, -, -, hf', -, -, -, hown2, -⟩ := Cond.laysFinal_spec hlay
        have e1 : c' = cf := by have := hi.symm.trans hf'; simp at this; exact this.1.symm
        rw [am_own_ok _ c1 _ c2, ← ho] at hown2
        rw [← e1]; exact Option.some.inj (hown.symm.trans hown2)
      have h6 := u_fits hfc hkC hkind (Or.inr hlay) hi hd hn hfit
      refine W.putFinK hx hb hown hlink hi hst hcf (hki rfl) (by rw [q2]; exact h6) q1 q3 (by rw [hsl]; exact k2_hasslot (q4 _ c2)) rfl rfl hdg fun H' e1 e2 e3 => ?_
      rw [hsl] at e1 ⊢
      exact kk H' _ (fin H' e1 e2 e3) (hS.put e2 e3 (am_Aa hR hk0))
    · unfold u_lay at hlay
      rw [if_neg hfin] at hlay
      have h6 := u_store hfc hkC hkind hlay hi hd hn hfit
      refine W.putK hx hb (f := f) ⟨hown, hlink, ⟨_, _, _, hi⟩, hst⟩ (by rw [q2]; exact h6) q1 q3 (by rw [hsl]; exact k2_hasslot (q4 _ c2)) rfl rfl hdg fun H' e1 e2 e3 => ?_
      rw [hsl] at e1 ⊢
      exact kk H' _ (fin H' e1 e2 e3) (hS.put e2 e3 (am_Aa hR hk0))
theorem am_pi_fs {a ci k : Nat} {x : Int32} (hk : k < am_nf ci) (hr : am_isr ci k = false) : am_fs G (am_pi h a k x) a ci = (am_fs G h a ci).set k (.int x) := by
  apply List.ext_getElem?
  intro j
  rw [List.getElem?_set]
  by_cases hj : j < am_nf ci
  · rw [am_fs_get hj]
    by_cases hjk : k = j
    · subst hjk
      rw [hr, if_neg Bool.false_ne_true, if_pos rfl, if_pos (show k < (am_fs G h a ci).length by rw [am_fs_len]; exact hj)]
      simp [am_pi, am_i, va_up, upd]
    · rw [if_neg hjk, am_fs_get hj]
      simp [am_pi, am_i, am_r, va_up, upd, Ne.symm hjk]
  · have e1 : (am_fs G (am_pi h a k x) a ci)[j]? = none := by rw [List.getElem?_eq_none_iff, am_fs_len]; omega
    have e2 : (am_fs G h a ci)[j]? = none := by rw [List.getElem?_eq_none_iff, am_fs_len]; omega
    rw [e1, if_neg (by omega), e2]
theorem am_pr_fs {a ci k b : Nat} (hk : k < am_nf ci) (hr : am_isr ci k = true) : am_fs G (am_pr h a k b) a ci = (am_fs G h a ci).set k (am_v G (.ref b)) := by
  apply List.ext_getElem?
  intro j
  rw [List.getElem?_set]
  by_cases hj : j < am_nf ci
  · rw [am_fs_get hj]
    by_cases hjk : k = j
    · subst hjk
      rw [hr, if_pos rfl, if_pos rfl, if_pos (show k < (am_fs G h a ci).length by rw [am_fs_len]; exact hj)]
      simp [am_pr, am_r, va_up]
    · rw [if_neg hjk, am_fs_get hj]
      simp [am_pr, am_i, am_r, va_up, Ne.symm hjk]
  · have e1 : (am_fs G (am_pr h a k b) a ci)[j]? = none := by rw [List.getElem?_eq_none_iff, am_fs_len]; omega
    have e2 : (am_fs G h a ci)[j]? = none := by rw [List.getElem?_eq_none_iff, am_fs_len]; omega
    rw [e1, if_neg (by omega), e2]
theorem am_pi_o {a k x : Nat} {v : Int32} (hx : x ≠ a) : am_cell G (am_pi h a k v) x = am_cell G h x := am_cell_eq rfl (by funext z; simp [am_pi, am_i, va_up, hx]) rfl rfl
theorem am_pl_o {a k x : Nat} {v : Int64} (hx : x ≠ a) : am_cell G (am_pl h a k v) x = am_cell G h x := am_cell_eq rfl rfl (by funext z; simp [am_pl, am_l, va_up, hx]) rfl
theorem am_pr_o {a k x b : Nat} (hx : x ≠ a) : am_cell G (am_pr h a k b) x = am_cell G h x := am_cell_eq rfl rfl rfl (by funext z; simp [am_pr, am_r, va_up, hx])
theorem am_cp_o {b sp a dp n x : Nat} (hx : x ≠ a) : am_cell G (am_cp h b sp a dp n) x = am_cell G h x := am_cell_eq rfl (by funext z; simp [am_cp, am_i, va_up, hx]) rfl rfl
theorem am_arr_k {a t : Nat} {i : Int32} (hk : am_arr h a t i) : am_k h a = (t, (am_k h a).2) := Prod.ext hk.1 rfl
theorem am_cell2 {a n : Nat} (hk : am_k h a = (2, n)) : am_cell G h a = .inl (G.2.1 2, n, .inl (am_i h a)) := by unfold am_cell; rw [hk]; rfl
theorem am_cell3 {a n : Nat} (hk : am_k h a = (3, n)) : am_cell G h a = .inl (G.2.1 3, n, .inl (am_i h a)) := by unfold am_cell; rw [hk]; rfl
theorem am_cell4 {a n : Nat} (hk : am_k h a = (4, n)) : am_cell G h a = .inl (G.2.1 4, n, .inl (am_i h a)) := by unfold am_cell; rw [hk]; rfl
theorem am_cell5 {a n : Nat} (hk : am_k h a = (5, n)) : am_cell G h a = .inl (G.2.1 5, n, .inr (.inl (am_l h a))) := by unfold am_cell; rw [hk]; rfl
theorem am_cell6 {a n : Nat} (hk : am_k h a = (6, n)) : am_cell G h a = .inl (G.2.1 6, n, .inr (.inr (.inr (.inr (fun j => if am_r h a j = 0 then none else some (am_ad G (am_r h a j))))))) := by unfold am_cell; rw [hk]; rfl
theorem am_new_o {t n w x : Nat} (hx : x ≠ am_n h) : am_cell G (am_new h t n w) x = am_cell G h x := am_cell_eq (by simp [am_new, am_k, va_up, hx]) (by funext z; simp [am_new, am_i, va_up, hx]) (by funext z; simp [am_new, am_l, va_up, hx]) (by funext z; simp [am_new, am_r, va_up, hx])
theorem am_new_k {t n w : Nat} : am_k (am_new h t n w) (am_n h) = (t, n) := by simp [am_new, am_k, va_up]
theorem am_new_ko {t n w x : Nat} (hx : x ≠ am_n h) : am_k (am_new h t n w) x = am_k h x := by simp [am_new, am_k, va_up, hx]
theorem am_S_new {H H1 : Heap} {locs : List Loc} (hS : va_S (am_A G) s.heap H locs) (hz : H1.size = H.size + 1) (oq : ∀ q : Nat, q < H.size → H1[q]? = H[q]?) : va_S (am_A G) s.heap H1 locs :=
  ⟨Nat.le_trans hS.1 (by omega), fun x h1 h2 => (oq x (Nat.lt_of_lt_of_le h1 hS.1)).trans (hS.2.1 x h1 h2), hS.2.2⟩
end
end
section
section
variable {G : am_G} {xs : am_X} {own kind : Nat} {cc : ByteArray} {ret : Option FieldType} {p : Program} {l : Launch} {e : Env} {R : Room} {s : State} {m : MethodId} {args : Array Value} {below : List Frame} {meth : Method} {c : Code} {Q : State → Prop} {n0 s0 N1 C1 : Nat} {pc nx : Nat} {op : Instr} {L S L' S' : List Value} {h : am_H} {cal : am_Cal} {hdl : Nat → Nat → Option (Nat × Nat)} {Qq : am_Q}
def am_memo (op : Instr) : Bool := match op with
  | .getfield _ | .getstatic _ | .putfield _ | .putstatic _ | .checkcast _ | .iaload | .baload | .saload | .laload | .aaload | .daload | .monitorenter | .iastore | .bastore | .sastore | .lastore | .aastore | .arraylength => true
  | _ => false
theorem am_i8 (x : Int32) (h : x = 0 ∨ x = 1) : narrow .boolean (.int x) = .int x ∧ fits .boolean (.int x) = true := by
  rcases h with rfl | rfl <;> exact ⟨rfl, rfl⟩
set_option maxHeartbeats 8000000 in
theorem am_memW (E : am_Env G xs own kind cc p R s m args meth c) (hop : am_memo op = true) (ok : am_okb own kind cc ret pc op nx = true) (HS : am_out (am_PP G p l e R s m args below meth c Q n0 s0 N1 C1) cal hdl Qq pc nx L h (am_stp xs op nx S h)) : am_PP G p l e R s m args below meth c Q n0 s0 N1 C1 pc L S h := by
  have E0 := E
  obtain ⟨hx, hb, hown, hts, hsf, hki, hr1, hr2⟩ := E
  have hK := hsf.1
  cases op <;> first | (exfalso; simp only [am_memo] at hop; cases hop; done) | skip
  case getfield e9 =>
    simp only [am_stp] at HS
    split at HS
    · rename_i a S0
      obtain ⟨hk, HS⟩ := (show am_k h a = (1, e9 / 64) ∧ am_PP G p l e R s m args below meth c Q n0 s0 N1 C1 nx L (.int (am_i h a (e9 % 64)) :: S0) h from HS)
      simp only [am_okb] at ok
      split at ok
      · rename_i i9 hd
        simp only [Bool.and_eq_true, beq_iff_eq, List.contains_iff_mem] at ok
        obtain ⟨⟨ok, hi⟩, rfl⟩ := ok
        obtain ⟨c1, c2⟩ := am_fl_ok2 _ ok
        obtain ⟨-, -, g3, g4⟩ := am_ci_ok _ c1
        have hv := am_fs_get (G := G) (h := h) (a := a) (ci := e9 / 64) c2
        rw [hi, if_neg Bool.false_ne_true] at hv
        refine ⟨HS.1, HS.2.1, fun q1 q2 q3 H locs ls hR hS hl => ?_⟩
        have K := HS.2.2 q1 q2 q3 H locs ls hR hS hl
        rw [List.map_cons, am_v1 G (am_nz hR (am_k0 hk))]
        exact va_get (D := G.1) (cl := am_cl) hx hb (Ts := am_TT) hts (fun w hw => am_TT_of (g3 w hw).1 (g3 w hw).2) hown hK (hR.P1 (am_k0 hk) (am_cell1 hk)) 0 rfl g4 (e9 % 64) c2 (am_w hts (am_fl_ok _ ok) rfl) (fun _ z => z) (v := .int (am_i h a (e9 % 64))) hv (am_dec_of hd) K
      · cases ok
    · exact HS.elim
  case getstatic e9 =>
    simp only [am_stp] at HS
    split at HS
    · rename_i a S0
      obtain ⟨hk, HS⟩ := (show am_k h a = (1, e9 / 64) ∧ am_PP G p l e R s m args below meth c Q n0 s0 N1 C1 nx L (.ref (am_r h a (e9 % 64)) :: S0) h from HS)
      simp only [am_okb] at ok
      split at ok
      · rename_i i9 hd
        simp only [Bool.and_eq_true, beq_iff_eq, List.contains_iff_mem] at ok
        obtain ⟨⟨ok, hi⟩, rfl⟩ := ok
        obtain ⟨c1, c2⟩ := am_fl_ok2 _ ok
        obtain ⟨-, -, g3, g4⟩ := am_ci_ok _ c1
        have hv := am_fs_get (G := G) (h := h) (a := a) (ci := e9 / 64) c2
        rw [hi, if_pos rfl] at hv
        refine ⟨HS.1, HS.2.1, fun q1 q2 q3 H locs ls hR hS hl => ?_⟩
        have K := HS.2.2 q1 q2 q3 H locs ls hR hS hl
        rw [List.map_cons, am_v1 G (am_nz hR (am_k0 hk))]
        exact va_get (D := G.1) (cl := am_cl) hx hb (Ts := am_TT) hts (fun w hw => am_TT_of (g3 w hw).1 (g3 w hw).2) hown hK (hR.P1 (am_k0 hk) (am_cell1 hk)) 0 rfl g4 (e9 % 64) c2 (am_w hts (am_fl_ok _ ok) rfl) (fun _ z => z) (v := am_v G (.ref (am_r h a (e9 % 64)))) hv (am_dec_of hd) K
      · cases ok
    · exact HS.elim
  case putfield e9 =>
    simp only [am_stp] at HS
    split at HS
    · rename_i x a S0
      obtain ⟨hk, HS⟩ := (show am_k h a = (1, e9 / 64) ∧ am_PP G p l e R s m args below meth c Q n0 s0 N1 C1 nx L S0 (am_pi h a (e9 % 64) x) from HS)
      simp only [am_okb] at ok
      split at ok
      · rename_i i9 hd
        simp only [Bool.and_eq_true, beq_iff_eq, List.contains_iff_mem, decide_eq_true_eq, Bool.or_eq_true, Bool.not_eq_true'] at ok
        obtain ⟨⟨⟨ok, hi⟩, hf⟩, rfl⟩ := ok
        obtain ⟨c1, c2⟩ := am_fl_ok2 _ ok
        have hr : am_isr (e9 / 64) (e9 % 64) = false := by unfold am_isr; rw [hi]
        refine ⟨HS.1, HS.2.1, fun q1 q2 q3 H locs ls hR hS hl => ?_⟩
        rw [List.map_cons, List.map_cons, am_v1 G (am_nz hR (am_k0 hk))]
        exact am_putW E0 hR hS (h' := am_pi h a (e9 % 64) x) hk ok hf (by rw [hi]; rfl) (by rw [hi]; rfl) rfl (fun _ => rfl) (am_pi_fs c2 hr) (fun x hx => am_pi_o hx) (am_dec_of hd) (fun H1 locs1 hR1 hS1 => HS.2.2 q1 q2 q3 H1 locs1 ls hR1 hS1 hl)
      · cases ok
    · exact HS.elim
  case putstatic e9 =>
    simp only [am_stp] at HS
    split at HS
    · rename_i x a S0
      obtain ⟨hk, HS⟩ := (show (am_k h a = (1, e9 / 64) ∧ (x = 0 ∨ x = 1)) ∧ am_PP G p l e R s m args below meth c Q n0 s0 N1 C1 nx L S0 (am_pi h a (e9 % 64) x) from HS)
      simp only [am_okb] at ok
      split at ok
      · rename_i i9 hd
        simp only [Bool.and_eq_true, beq_iff_eq, List.contains_iff_mem, decide_eq_true_eq, Bool.or_eq_true, Bool.not_eq_true'] at ok
        obtain ⟨⟨⟨ok, hi⟩, hf⟩, rfl⟩ := ok
        obtain ⟨c1, c2⟩ := am_fl_ok2 _ ok
        have hr : am_isr (e9 / 64) (e9 % 64) = false := by unfold am_isr; rw [hi]
        refine ⟨HS.1, HS.2.1, fun q1 q2 q3 H locs ls hR hS hl => ?_⟩
        rw [List.map_cons, List.map_cons, am_v1 G (am_nz hR (am_k0 hk.1))]
        exact am_putW E0 hR hS (h' := am_pi h a (e9 % 64) x) hk.1 ok hf (by rw [hi]; exact (am_i8 x hk.2).1) (by rw [hi]; exact (am_i8 x hk.2).2) rfl (fun _ => rfl) (am_pi_fs c2 hr) (fun x hx => am_pi_o hx) (am_dec_of hd) (fun H1 locs1 hR1 hS1 => HS.2.2 q1 q2 q3 H1 locs1 ls hR1 hS1 hl)
      · cases ok
    · exact HS.elim
  case checkcast e9 =>
    simp only [am_stp] at HS
    split at HS
    · rename_i b a S0
      obtain ⟨hk, HS⟩ := (show am_k h a = (1, e9 / 64) ∧ am_PP G p l e R s m args below meth c Q n0 s0 N1 C1 nx L S0 (am_pr h a (e9 % 64) b) from HS)
      simp only [am_okb] at ok
      split at ok
      · rename_i i9 hd
        simp only [Bool.and_eq_true, beq_iff_eq, List.contains_iff_mem, decide_eq_true_eq, Bool.or_eq_true, Bool.not_eq_true'] at ok
        obtain ⟨⟨⟨ok, hi⟩, hf⟩, rfl⟩ := ok
        obtain ⟨c1, c2⟩ := am_fl_ok2 _ ok
        have hty : (∀ a, narrow (am_ty (e9 / 64) (e9 % 64)) (.ref a) = .ref a ∧ fits (am_ty (e9 / 64) (e9 % 64)) (.ref a) = true) ∧ narrow (am_ty (e9 / 64) (e9 % 64)) .null = .null ∧ fits (am_ty (e9 / 64) (e9 % 64)) .null = true := by
          rcases am_ty_all _ c1 _ c2 with z | z | z
          · exfalso; unfold am_isr at hi; rw [z] at hi; cases hi
          · exfalso; unfold am_isr at hi; rw [z] at hi; cases hi
          · exact z.2.2
        have hnf : narrow (am_ty (e9 / 64) (e9 % 64)) (am_v G (.ref b)) = am_v G (.ref b) ∧ fits (am_ty (e9 / 64) (e9 % 64)) (am_v G (.ref b)) = true := by
          by_cases hb0 : b = 0
          · subst hb0; exact hty.2
          · rw [am_v1 G hb0]; exact hty.1 _
        refine ⟨HS.1, HS.2.1, fun q1 q2 q3 H locs ls hR hS hl => ?_⟩
        rw [List.map_cons, List.map_cons, am_v1 G (am_nz hR (am_k0 hk))]
        exact am_putW E0 hR hS (h' := am_pr h a (e9 % 64) b) hk ok hf hnf.1 hnf.2 rfl (fun _ => rfl) (am_pr_fs c2 hi) (fun x hx => am_pr_o hx) (am_dec_of hd) (fun H1 locs1 hR1 hS1 => HS.2.2 q1 q2 q3 H1 locs1 ls hR1 hS1 hl)
      · cases ok
    · exact HS.elim
  case iaload =>
    simp only [am_stp] at HS
    split at HS
    · rename_i i a S0
      obtain ⟨hk, HS⟩ := (show am_arr h a 2 i ∧ am_PP G p l e R s m args below meth c Q n0 s0 N1 C1 nx L (.int (am_i h a i.toNatClampNeg) :: S0) h from HS)
      have hk9 := am_arr_k hk
      simp only [am_okb, Bool.and_eq_true, beq_iff_eq, decide_eq_true_eq] at ok
      obtain ⟨hd, rfl⟩ := ok
      refine ⟨HS.1, HS.2.1, fun q1 q2 q3 H locs ls hR hS hl => ?_⟩
      have K := HS.2.2 q1 q2 q3 H locs ls hR hS hl
      rw [List.map_cons, List.map_cons, am_v1 G (am_nz hR (am_k0 hk9))]
      exact va_iald (D := G.1) (cl := am_cl) hx hb hK (hR.P1 (am_k0 hk9) (am_cell2 hk9)) 0 0 rfl rfl hk.2 (am_dec_of hd) K
    · exact HS.elim
  case baload =>
    simp only [am_stp] at HS
    split at HS
    · rename_i i a S0
      obtain ⟨hk, HS⟩ := (show am_arr h a 3 i ∧ am_PP G p l e R s m args below meth c Q n0 s0 N1 C1 nx L (.int (am_i h a i.toNatClampNeg) :: S0) h from HS)
      have hk9 := am_arr_k hk
      simp only [am_okb, Bool.and_eq_true, beq_iff_eq, decide_eq_true_eq] at ok
      obtain ⟨hd, rfl⟩ := ok
      refine ⟨HS.1, HS.2.1, fun q1 q2 q3 H locs ls hR hS hl => ?_⟩
      have K := HS.2.2 q1 q2 q3 H locs ls hR hS hl
      rw [List.map_cons, List.map_cons, am_v1 G (am_nz hR (am_k0 hk9))]
      exact va_bald (D := G.1) (cl := am_cl) hx hb hK (hR.P1 (am_k0 hk9) (am_cell3 hk9)) 0 1 rfl rfl hk.2 (am_dec_of hd) K
    · exact HS.elim
  case saload =>
    simp only [am_stp] at HS
    split at HS
    · rename_i i a S0
      obtain ⟨hk, HS⟩ := (show am_arr h a 4 i ∧ am_PP G p l e R s m args below meth c Q n0 s0 N1 C1 nx L (.int (am_i h a i.toNatClampNeg) :: S0) h from HS)
      have hk9 := am_arr_k hk
      simp only [am_okb] at ok
      split at ok
      rotate_left
      · cases ok
      rename_i hd
      simp only [beq_iff_eq] at ok
      subst ok
      refine ⟨HS.1, HS.2.1, fun q1 q2 q3 H locs ls hR hS hl => ?_⟩
      have K := HS.2.2 q1 q2 q3 H locs ls hR hS hl
      rw [List.map_cons, List.map_cons, am_v1 G (am_nz hR (am_k0 hk9))]
      exact va_zald (D := G.1) (cl := am_cl) hx hb hK (hR.P1 (am_k0 hk9) (am_cell4 hk9)) 0 2 rfl rfl hk.2 (am_dec_of hd) K
    · exact HS.elim
  case laload =>
    simp only [am_stp] at HS
    split at HS
    · rename_i i a S0
      obtain ⟨hk, HS⟩ := (show am_arr h a 5 i ∧ am_PP G p l e R s m args below meth c Q n0 s0 N1 C1 nx L (.long (am_l h a i.toNatClampNeg) :: S0) h from HS)
      have hk9 := am_arr_k hk
      simp only [am_okb, Bool.and_eq_true, beq_iff_eq, decide_eq_true_eq] at ok
      obtain ⟨hd, rfl⟩ := ok
      refine ⟨HS.1, HS.2.1, fun q1 q2 q3 H locs ls hR hS hl => ?_⟩
      have K := HS.2.2 q1 q2 q3 H locs ls hR hS hl
      rw [List.map_cons, List.map_cons, am_v1 G (am_nz hR (am_k0 hk9))]
      exact va_lald (D := G.1) (cl := am_cl) hx hb hK (hR.P1 (am_k0 hk9) (am_cell5 hk9)) 0 3 rfl rfl hk.2 (am_dec_of hd) K
    · exact HS.elim
  case aaload =>
    simp only [am_stp] at HS
    split at HS
    · rename_i i a S0
      obtain ⟨hk, HS⟩ := (show am_arr h a 6 i ∧ am_PP G p l e R s m args below meth c Q n0 s0 N1 C1 nx L (.ref (am_r h a i.toNatClampNeg) :: S0) h from HS)
      have hk9 := am_arr_k hk
      simp only [am_okb, Bool.and_eq_true, beq_iff_eq, decide_eq_true_eq] at ok
      obtain ⟨hd, rfl⟩ := ok
      refine ⟨HS.1, HS.2.1, fun q1 q2 q3 H locs ls hR hS hl => ?_⟩
      have K := HS.2.2 q1 q2 q3 H locs ls hR hS hl
      rw [List.map_cons, List.map_cons, am_v1 G (am_nz hR (am_k0 hk9))]
      have e9 : am_v G (.ref (am_r h a i.toNatClampNeg)) = va_rf (if am_r h a i.toNatClampNeg = 0 then none else some (am_ad G (am_r h a i.toNatClampNeg))) := by
        by_cases z : am_r h a i.toNatClampNeg = 0
        · rw [z]; rfl
        · rw [am_v1 G z, if_neg z]; rfl
      rw [List.map_cons, e9] at K
      exact va_aldq (D := G.1) (cl := am_cl) hx hb hK (hR.P1 (am_k0 hk9) (am_cell6 hk9)) 0 4 rfl rfl hk.2 (am_dec_of hd) K
    · exact HS.elim
  case daload =>
    simp only [am_stp] at HS
    split at HS
    · rename_i i a S0
      obtain ⟨⟨ha9, hin⟩, HS2⟩ := (show (a = am_scr ∧ vp_in i xs.1) ∧ am_PP G p l e R s m args below meth c Q n0 s0 N1 C1 nx L (.int (xs.2 i.toNatClampNeg) :: S0) h from HS)
      subst ha9
      simp only [am_okb] at ok
      split at ok
      rotate_left
      · cases ok
      rename_i hd
      simp only [beq_iff_eq] at ok
      subst ok
      refine ⟨HS2.1, HS2.2.1, fun q1 q2 q3 H locs ls hR hS hl => ?_⟩
      have K := HS2.2.2 q1 q2 q3 H locs ls hR hS hl
      obtain ⟨-, -, -, hX, hbl, hbs, -⟩ := hsf
      rw [List.map_cons, List.map_cons, am_v1 G (by decide), show am_ad G am_scr = G.2.2.2.2.2 from rfl]
      exact va_sld hx hb hX (by omega) (show ¬ (am_A G) _ from Nat.not_le.mpr hbl) hS hin (am_dec_of hd) K
    · exact HS.elim
  case monitorenter =>
    simp only [am_stp] at HS
    split at HS
    · rename_i a S0
      obtain ⟨ha9, HS2⟩ := (show a = am_scr ∧ am_PP G p l e R s m args below meth c Q n0 s0 N1 C1 nx L (.int (nI xs.1) :: S0) h from HS)
      subst ha9
      simp only [am_okb] at ok
      split at ok
      rotate_left
      · cases ok
      rename_i hd
      simp only [beq_iff_eq] at ok
      subst ok
      refine ⟨HS2.1, HS2.2.1, fun q1 q2 q3 H locs ls hR hS hl => ?_⟩
      have K := HS2.2.2 q1 q2 q3 H locs ls hR hS hl
      obtain ⟨-, -, -, hX, hbl, hbs, -⟩ := hsf
      rw [List.map_cons, am_v1 G (by decide), show am_ad G am_scr = G.2.2.2.2.2 from rfl]
      exact va_slen hx hb hX (by omega) (show ¬ (am_A G) _ from Nat.not_le.mpr hbl) hS (am_dec_of hd) K
    · exact HS.elim
  case iastore =>
    simp only [am_stp] at HS
    split at HS
    · rename_i x i a S0
      obtain ⟨hk, HS⟩ := (show am_arr h a 2 i ∧ am_PP G p l e R s m args below meth c Q n0 s0 N1 C1 nx L S0 (am_pi h a i.toNatClampNeg x) from HS)
      have hk9 := am_arr_k hk
      simp only [am_okb, Bool.and_eq_true, beq_iff_eq, decide_eq_true_eq] at ok
      obtain ⟨hd, rfl⟩ := ok
      refine ⟨HS.1, HS.2.1, fun q1 q2 q3 H locs ls hR hS hl => ?_⟩
      have hk0 := am_k0 hk9
      have hat := hR.2.2.2.2 a hk0
      rw [am_cell2 hk9] at hat
      rw [List.map_cons, List.map_cons, List.map_cons, am_v1 G (am_nz hR hk0)]
      refine W.iast hx hb (a := am_ad G a) hat ((hK.2 0 _ rfl).1 _ _) (fun q => by cases q) (by show ¬ (i < 0 ∨ (arrV _ _ _).slots.size ≤ _); rw [arrV_size]; exact hk.2) rfl rfl (am_dec_of hd) fun H1 e1 z oq => ?_
      refine HS.2.2 q1 q2 q3 H1 _ ls (hR.wr hk0 rfl (fun _ => rfl) z oq ?_ (fun x9 hx9 => am_pi_o hx9)) (hS.put z oq (am_Aa hR hk0)) hl
      rw [am_cell2 (h := am_pi h a i.toNatClampNeg x) (show am_k _ a = _ from hk9)]
      show H1[am_ad G a]? = some (vp_cell _ _)
      rw [e1]
      dsimp only
      rw [vp_cell_i, vp_cell_i, arrV_store]
      congr 2
      funext q
      by_cases hq : q = i.toNatClampNeg
      · subst hq
        simp [updV, am_pi, am_i, va_up, upd]
        try rfl
      · simp [updV, am_pi, am_i, va_up, upd, hq]
    · exact HS.elim
  case bastore =>
    simp only [am_stp] at HS
    split at HS
    · rename_i x i a S0
      obtain ⟨hk, HS⟩ := (show am_arr h a 3 i ∧ am_PP G p l e R s m args below meth c Q n0 s0 N1 C1 nx L S0 (am_pi h a i.toNatClampNeg (vp_nar .byte x)) from HS)
      have hk9 := am_arr_k hk
      simp only [am_okb, Bool.and_eq_true, beq_iff_eq, decide_eq_true_eq] at ok
      obtain ⟨hd, rfl⟩ := ok
      refine ⟨HS.1, HS.2.1, fun q1 q2 q3 H locs ls hR hS hl => ?_⟩
      have hk0 := am_k0 hk9
      have hat := hR.2.2.2.2 a hk0
      rw [am_cell3 hk9] at hat
      rw [List.map_cons, List.map_cons, List.map_cons, am_v1 G (am_nz hR hk0)]
      refine W.bast hx hb (a := am_ad G a) hat ((hK.2 1 _ rfl).1 _ _) (fun q => by cases q) (by show ¬ (i < 0 ∨ (arrV _ _ _).slots.size ≤ _); rw [arrV_size]; exact hk.2) rfl rfl (am_dec_of hd) fun H1 e1 z oq => ?_
      refine HS.2.2 q1 q2 q3 H1 _ ls (hR.wr hk0 rfl (fun _ => rfl) z oq ?_ (fun x9 hx9 => am_pi_o hx9)) (hS.put z oq (am_Aa hR hk0)) hl
      rw [am_cell3 (h := am_pi h a i.toNatClampNeg (vp_nar .byte x)) (show am_k _ a = _ from hk9)]
      show H1[am_ad G a]? = some (vp_cell _ _)
      rw [e1]
      dsimp only
      rw [vp_cell_i, vp_cell_i, arrV_store]
      congr 2
      funext q
      by_cases hq : q = i.toNatClampNeg
      · subst hq
        simp [updV, am_pi, am_i, va_up, upd, vp_nar]
        try rfl
      · simp [updV, am_pi, am_i, va_up, upd, vp_nar, hq]
    · exact HS.elim
  case sastore =>
    simp only [am_stp] at HS
    split at HS
    · rename_i x i a S0
      obtain ⟨hk, HS⟩ := (show am_arr h a 4 i ∧ am_PP G p l e R s m args below meth c Q n0 s0 N1 C1 nx L S0 (am_pi h a i.toNatClampNeg (vp_nar .boolean x)) from HS)
      have hk9 := am_arr_k hk
      simp only [am_okb] at ok
      split at ok
      rotate_left
      · cases ok
      rename_i hd
      simp only [beq_iff_eq] at ok
      subst ok
      refine ⟨HS.1, HS.2.1, fun q1 q2 q3 H locs ls hR hS hl => ?_⟩
      have hk0 := am_k0 hk9
      have hat := hR.2.2.2.2 a hk0
      rw [am_cell4 hk9] at hat
      rw [List.map_cons, List.map_cons, List.map_cons, am_v1 G (am_nz hR hk0)]
      refine W.zast hx hb (a := am_ad G a) hat ((hK.2 2 _ rfl).1 _ _) (fun q => by cases q) (by show ¬ (i < 0 ∨ (arrV _ _ _).slots.size ≤ _); rw [arrV_size]; exact hk.2) rfl rfl (am_dec_of hd) fun H1 e1 z oq => ?_
      refine HS.2.2 q1 q2 q3 H1 _ ls (hR.wr hk0 rfl (fun _ => rfl) z oq ?_ (fun x9 hx9 => am_pi_o hx9)) (hS.put z oq (am_Aa hR hk0)) hl
      rw [am_cell4 (h := am_pi h a i.toNatClampNeg (vp_nar .boolean x)) (show am_k _ a = _ from hk9)]
      show H1[am_ad G a]? = some (vp_cell _ _)
      rw [e1]
      dsimp only
      rw [vp_cell_i, vp_cell_i, arrV_store]
      congr 2
      funext q
      by_cases hq : q = i.toNatClampNeg
      · subst hq
        simp [updV, am_pi, am_i, va_up, upd, vp_nar]
        try rfl
      · simp [updV, am_pi, am_i, va_up, upd, vp_nar, hq]
    · exact HS.elim
  case lastore =>
    simp only [am_stp] at HS
    split at HS
    · rename_i x i a S0
      obtain ⟨hk, HS⟩ := (show am_arr h a 5 i ∧ am_PP G p l e R s m args below meth c Q n0 s0 N1 C1 nx L S0 (am_pl h a i.toNatClampNeg x) from HS)
      have hk9 := am_arr_k hk
      simp only [am_okb, Bool.and_eq_true, beq_iff_eq, decide_eq_true_eq] at ok
      obtain ⟨hd, rfl⟩ := ok
      refine ⟨HS.1, HS.2.1, fun q1 q2 q3 H locs ls hR hS hl => ?_⟩
      have hk0 := am_k0 hk9
      have hat := hR.2.2.2.2 a hk0
      rw [am_cell5 hk9] at hat
      rw [List.map_cons, List.map_cons, List.map_cons, am_v1 G (am_nz hR hk0)]
      refine W.last hx hb (a := am_ad G a) hat ((hK.2 3 _ rfl).1 _ _) (fun q => by cases q) (by show ¬ (i < 0 ∨ (arrV _ _ _).slots.size ≤ _); rw [arrV_size]; exact hk.2) rfl rfl (am_dec_of hd) fun H1 e1 z oq => ?_
      refine HS.2.2 q1 q2 q3 H1 _ ls (hR.wr hk0 rfl (fun _ => rfl) z oq ?_ (fun x9 hx9 => am_pl_o hx9)) (hS.put z oq (am_Aa hR hk0)) hl
      rw [am_cell5 (h := am_pl h a i.toNatClampNeg x) (show am_k _ a = _ from hk9)]
      show H1[am_ad G a]? = some (vp_cell _ _)
      rw [e1]
      dsimp only
      rw [vp_cell_l, vp_cell_l, arrV_store]
      congr 2
      funext q
      by_cases hq : q = i.toNatClampNeg
      · subst hq
        simp [updV, am_pl, am_l, va_up, vp_updL]
        try rfl
      · simp [updV, am_pl, am_l, va_up, vp_updL, hq]
    · exact HS.elim
  case aastore =>
    simp only [am_stp] at HS
    split at HS
    · rename_i b i a S0
      obtain ⟨⟨hk, hkb⟩, HS⟩ := (show (am_arr h a 6 i ∧ am_k h b = (1, 2)) ∧ am_PP G p l e R s m args below meth c Q n0 s0 N1 C1 nx L S0 (am_pr h a i.toNatClampNeg b) from HS)
      have hk9 := am_arr_k hk
      simp only [am_okb, Bool.and_eq_true, beq_iff_eq, decide_eq_true_eq] at ok
      obtain ⟨hd, rfl⟩ := ok
      refine ⟨HS.1, HS.2.1, fun q1 q2 q3 H locs ls hR hS hl => ?_⟩
      have hk0 := am_k0 hk9
      have hat := hR.2.2.2.2 a hk0
      rw [am_cell6 hk9] at hat
      have hbz := am_nz hR (am_k0 hkb)
      rw [List.map_cons, List.map_cons, List.map_cons, am_v1 G (am_nz hR hk0), am_v1 G hbz]
      have hlt : i.toNatClampNeg < (am_k h a).2 := Nat.not_le.mp fun q => hk.2 (Or.inr q)
      have h0 : ¬ i < 0 := fun q => hk.2 (Or.inl q)
      have hvv := hR.2.2.2.2 b (am_k0 hkb)
      rw [am_cell1 hkb] at hvv
      obtain ⟨r', hr', cellV, g1, g2, g3, -⟩ := hvv
      have hcls := (hK.1 2 _ rfl).2
      obtain ⟨kA, comp, k1, k2, k3, -⟩ := (hK.2 4 _ rfl).2
      have hcomp : comp = G.1.1 2 := Option.some.inj (k3.symm.trans hcls.1)
      subst hcomp
      obtain ⟨kC, hkC, -⟩ := hcls.2
      refine W.aast hx hb (a := am_ad G a) (v := am_ad G b) hat (fun q h => by cases h) (fun h => by cases h) k1 k2 rfl hkC ⟨h0, by show _ < (arrV _ _ _).slots.size; rw [arrV_size]; exact hlt⟩ g1 (fun q h => by rw [g3] at h; cases h) (by rw [g2]; exact hkC) (by rw [g2]; exact va_assign hcls) rfl rfl (am_dec_of hd) fun H1 e1 z oq => ?_
      refine HS.2.2 q1 q2 q3 H1 _ ls (hR.wr hk0 rfl (fun _ => rfl) z oq ?_ (fun x9 hx9 => am_pr_o hx9)) (hS.put z oq (am_Aa hR hk0)) hl
      rw [am_cell6 (h := am_pr h a i.toNatClampNeg b) (show am_k _ a = _ from hk9)]
      show H1[am_ad G a]? = some (vp_cell _ _)
      rw [e1]
      dsimp only
      rw [vp_cell_q, vp_cell_q, arrV_store]
      congr 2
      funext q
      by_cases hq : q = i.toNatClampNeg
      · subst hq
        simp [updV, am_pr, am_r, va_up, va_rf, hbz]
      · simp [updV, am_pr, am_r, va_up, hq]
        try rfl
    · exact HS.elim
  case arraylength =>
    simp only [am_stp] at HS
    split at HS
    · rename_i a S0
      obtain ⟨⟨k1, k2⟩, HS⟩ := (show (2 ≤ (am_k h a).1 ∧ (am_k h a).1 ≤ 6) ∧ am_PP G p l e R s m args below meth c Q n0 s0 N1 C1 nx L (.int (nI (am_k h a).2) :: S0) h from HS)
      simp only [am_okb, Bool.and_eq_true, beq_iff_eq, decide_eq_true_eq] at ok
      obtain ⟨hd, rfl⟩ := ok
      refine ⟨HS.1, HS.2.1, fun q1 q2 q3 H locs ls hR hS hl => ?_⟩
      have K := HS.2.2 q1 q2 q3 H locs ls hR hS hl
      have hk0 : (am_k h a).1 ≠ 0 := by omega
      rw [List.map_cons, am_v1 G (am_nz hR hk0)]
      obtain ⟨t, n, hkk⟩ : ∃ t n, am_k h a = (t, n) := ⟨_, _, rfl⟩
      rw [hkk] at k1 k2 K
      dsimp only at k1 k2 K
      rcases (show t = 2 ∨ t = 3 ∨ t = 4 ∨ t = 5 ∨ t = 6 by omega) with rfl | rfl | rfl | rfl | rfl
      · exact va_alen (D := G.1) (cl := am_cl) hx hb hK (hR.P1 hk0 (am_cell2 hkk)) 0 0 rfl rfl rfl (am_dec_of hd) K
      · exact va_alen (D := G.1) (cl := am_cl) hx hb hK (hR.P1 hk0 (am_cell3 hkk)) 0 1 rfl rfl rfl (am_dec_of hd) K
      · exact va_alen (D := G.1) (cl := am_cl) hx hb hK (hR.P1 hk0 (am_cell4 hkk)) 0 2 rfl rfl rfl (am_dec_of hd) K
      · exact va_alen (D := G.1) (cl := am_cl) hx hb hK (hR.P1 hk0 (am_cell5 hkk)) 0 3 rfl rfl rfl (am_dec_of hd) K
      · exact va_alen (D := G.1) (cl := am_cl) hx hb hK (hR.P1 hk0 (am_cell6 hkk)) 0 4 rfl rfl rfl (am_dec_of hd) K
    · exact HS.elim
end
end
section
def am_A0 (t : ArrayType) : (Nat → Int32) ⊕ (Nat → Int64) ⊕ (Nat → UInt32) ⊕ (Nat → UInt64) ⊕ (Nat → Option Nat) := match t with
  | .long => .inr (.inl (fun _ => 0))
  | _ => .inl (fun _ => 0)
theorem am_sh_sum {G : am_G} {S : List Value} (h : am_sh S = true) : ((S.map (am_v G)).map fun v => v.category).sum ≤ 8 := by
  have hc : ∀ v, (am_v G v).category ≤ 2 := fun v => by rw [am_v_cat]; cases v <;> simp [Value.category]
  match S, h with
  | [], _ => simp
  | [a], _ => simp; have := hc a; omega
  | [a, b], _ => simp; have := hc a; have := hc b; omega
  | [a, b, d], _ => simp; have := hc a; have := hc b; have := hc d; omega
  | [a, b, d, f], _ => simp; have := hc a; have := hc b; have := hc d; have := hc f; omega
section
variable {G : am_G} {p : Program} {l : Launch} {e : Env} {R : Room} {s : State} {m : MethodId} {args : Array Value} {below : List Frame} {meth : Method} {c : Code} {H : Heap} {locs : List Loc} {cells slots : Nat} {Q : State → Prop} {h : am_H} {cc : ByteArray} {pc : Nat} {ls : Array Slot} {rest : List Value}
theorem am_cp_at {b sp a dp n : Nat} : am_i (am_cp h b sp a dp n) a = va_cpy (am_i h b) (am_i h a) sp dp n := by
  show va_up h.2.1 a (va_cpy (h.2.1 b) (h.2.1 a) sp dp n) a = _
  unfold va_up
  rw [if_pos rfl]
  rfl
theorem am_new_i {t n w : Nat} : am_i (am_new h t n w) (am_n h) = fun _ => 0 := by
  show va_up h.2.1 (am_n h) (fun _ => 0) (am_n h) = _
  unfold va_up
  rw [if_pos rfl]
theorem am_new_l {t n w : Nat} : am_l (am_new h t n w) (am_n h) = fun _ => 0 := by
  show va_up h.2.2.1 (am_n h) (fun _ => 0) (am_n h) = _
  unfold va_up
  rw [if_pos rfl]
theorem am_copyW (hexec : p.tables.exec = Jvm.exec) (hb : c.code = cc) (hml : c.maxLocals = ls.size) {own : String} {index : Nat} (hown : s.vm.findClass own = some m.cls) (hlink : (Cond.methodLink own index arraycopyName).before args s = true) (hnat : (Cond.native arraycopyName).before args s = true) (hstat : (Cond.static arraycopyName).before args s = true) (hini : (Cond.initialized "java/lang/System").before args s = true)
    (hK : va_K G.1 am_cl (am_tys G) s) (hR : am_Rel G h H) (hS : va_S (am_A G) s.heap H locs) {a a0 n0 n1 : Nat} (ha : am_k h a = (2, n1)) (ha0 : am_k h a0 = (2, n0))
    {sp dp n : Int32} (h1 : ¬ sp < 0) (h2 : ¬ dp < 0) (h3 : ¬ n < 0) (h4 : sp.toNatClampNeg + n.toNatClampNeg ≤ n0) (h5 : dp.toNatClampNeg + n.toNatClampNeg ≤ n1)
    (hframes : 1 ≤ R.frames) (hlocals : (rest.map fun v => v.category).sum + (nativeFrameWords "java/lang/System" "arraycopy" 5 + 11) ≤ R.locals) (hdg : decode cc pc = .ok (.invokestatic index, 3))
    (kk : ∀ (H1 : Heap) (locs1 : List Loc), am_Rel G (am_cp h a0 sp.toNatClampNeg a dp.toNatClampNeg n.toNatClampNeg) H1 → va_S (am_A G) s.heap H1 locs1 → W p l e R s m args below meth c H1 locs1 cells slots Q (F0 m (pc + 3) ls rest)) : W p l e R s m args below meth c H locs cells slots Q (F0 m pc ls (.int n :: .int dp :: .ref (am_ad G a) :: .int sp :: .ref (am_ad G a0) :: rest)) := by
  have nn : ∀ z : Int32, ¬ z < 0 → z.toInt = (z.toNatClampNeg : Int) := by
    intro z hz
    have hz0 : (0 : Int) ≤ z.toInt := by
      have := Int32.not_lt.mp hz
      simpa using Int32.le_iff_toInt_le.mp this
    show z.toInt = ((z.toInt.toNat : Nat) : Int)
    omega
  have hka := am_k0 ha
  have hka0 := am_k0 ha0
  obtain ⟨f, hf⟩ : ∃ f, f = am_i h a0 := ⟨_, rfl⟩
  obtain ⟨g, hg⟩ : ∃ g, g = am_i h a := ⟨_, rfl⟩
  intro T hT X
  have hc0 : H[am_ad G a0]? = some (vp_cell (G.2.1 2) (n0, .inl f)) := by
    have := hR.2.2.2.2 a0 hka0
    rw [am_cell2 ha0, ← hf] at this
    exact this
  have hc1 : H[am_ad G a]? = some (vp_cell (G.2.1 2) (n1, .inl g)) := by
    have := hR.2.2.2.2 a hka
    rw [am_cell2 ha, ← hg] at this
    exact this
  obtain ⟨-, k0, hk0, cm0, hkk0⟩ := (hK.2 0 _ rfl).1 n0 (fun j => .int (f j))
  obtain ⟨-, k1, hk1, cm1, hkk1⟩ := (hK.2 0 _ rfl).1 n1 (fun j => .int (g j))
  obtain ⟨vm', X', step⟩ := X.arraycopy hexec hown hlink hnat hstat hini (src := am_ad G a0) (dst := am_ad G a) (cs := vp_cell (G.2.1 2) (n0, .inl f)) (cd := vp_cell (G.2.1 2) (n1, .inl g)) (srcPos := sp) (destPos := dp) (n := n) (by rw [hT]; exact hc0) (by rw [hT]; exact hc1)
    (fun _ h => by cases h) (fun _ h => by cases h) (fun h => by cases h) (fun h => by cases h) hk0 hk1 hkk0 hkk1 (by simp) h1 h2 h3
    (by rw [nn sp h1, nn n h3]; show ¬ _ > ((arrV (G.2.1 2) n0 (fun j => .int (f j))).slots.size : Int); rw [arrV_size]; omega)
    (by rw [nn dp h2, nn n h3]; show ¬ _ > ((arrV (G.2.1 2) n1 (fun j => .int (g j))).slots.size : Int); rw [arrV_size]; omega)
    (fun vm₁ _ i hi => by
      have e : (vp_cell (G.2.1 2) (n0, .inl f)).slots.getD (sp.toNatClampNeg + i) .null = .int (f (sp.toNatClampNeg + i)) := by
        show (arrV (G.2.1 2) n0 (fun j => .int (f j))).slots.getD _ _ = _
        rw [Array.getD_eq_getD_getElem?, arrV_read _ _ (by omega)]
        rfl
      refine ⟨?_, ?_⟩
      · rw [e]
        rfl
      · rw [e]
        exact trivial)
    (g := F0 m pc ls (.int n :: .int dp :: .ref (am_ad G a) :: .int sp :: .ref (am_ad G a0) :: rest)) rfl (by rw [hml]) (rest := rest) rfl (by rw [hb]; exact hdg) hframes (by show 2 * 0 + _ + _ ≤ _; omega)
  have e1 : copied (vp_cell (G.2.1 2) (n0, .inl f)) (vp_cell (G.2.1 2) (n1, .inl g)) sp dp n = vp_cell (G.2.1 2) (n1, .inl (va_cpy f g sp.toNatClampNeg dp.toNatClampNeg n.toNatClampNeg)) := va_copied (fun z => .int z) (G.2.1 2) (G.2.1 2) f g h4
  rw [e1] at X' step
  have hl : am_ad G a < H.size := (Array.getElem?_eq_some_iff.mp hc1).1
  have hheap : ((T.setVm vm').setCell (am_ad G a) (vp_cell (G.2.1 2) (n1, .inl (va_cpy f g sp.toNatClampNeg dp.toNatClampNeg n.toNatClampNeg)))).heap = H.setIfInBounds (am_ad G a) (vp_cell (G.2.1 2) (n1, .inl (va_cpy f g sp.toNatClampNeg dp.toNatClampNeg n.toNatClampNeg))) := by rw [← hT]; rfl
  have oq : ∀ q : Nat, q ≠ am_ad G a → (H.setIfInBounds (am_ad G a) (vp_cell (G.2.1 2) (n1, .inl (va_cpy f g sp.toNatClampNeg dp.toNatClampNeg n.toNatClampNeg))))[q]? = H[q]? := fun q hq => by simp [Array.getElem?_setIfInBounds, Ne.symm hq]
  obtain ⟨t, a1, b1⟩ := kk _ _ (hR.wr (h' := am_cp h a0 sp.toNatClampNeg a dp.toNatClampNeg n.toNatClampNeg) hka rfl (fun _ => rfl) (by simp) oq (by
      rw [am_cell2 (h := am_cp h a0 sp.toNatClampNeg a dp.toNatClampNeg n.toNatClampNeg) (show am_k _ a = _ from ha)]
      show (H.setIfInBounds (am_ad G a) _)[am_ad G a]? = some _
      rw [Array.getElem?_setIfInBounds, if_pos rfl, if_pos hl]
      rw [am_cp_at, hf, hg]) (fun x hx => am_cp_o hx)) ⟨by simp; exact hS.1, fun q g1 g2 => by
      rw [oq q (fun e => g2 (by rw [e]; exact am_Aa hR hka))]
      exact hS.2.1 q g1 g2, fun q hq => by
      rcases List.mem_append.mp hq with h | h
      · exact hS.2.2 q h
      · obtain ⟨z, -, hz⟩ := List.mem_map.mp h
        rw [← hz]
        exact am_Aa hR hka⟩ _ hheap X'
  exact ⟨t, step t a1, b1⟩
end
section
variable {G : am_G} {xs : am_X} {own kind : Nat} {cc : ByteArray} {ret : Option FieldType} {p : Program} {l : Launch} {e : Env} {R : Room} {s : State} {m : MethodId} {args : Array Value} {below : List Frame} {meth : Method} {c : Code} {Q : State → Prop} {n0 s0 N1 C1 : Nat} {pc nx : Nat} {op : Instr} {L S L' S' : List Value} {h : am_H} {cal : am_Cal} {hdl : Nat → Nat → Option (Nat × Nat)} {Qq : am_Q}
def am_allo (op : Instr) : Bool := match op with
  | .new _ | .anewarray _ | .multianewarray _ _ | .dadd | .dsub | .dmul | .ddiv => true
  | _ => false
theorem am_new_fs {ci w j : Nat} (hc : ci < 10) (hj : j < am_nf ci) : defaultValue (am_ty ci j) = vp_V (am_fs G (am_new h 1 ci w) (am_n h) ci) j := by
  have hv : vp_V (am_fs G (am_new h 1 ci w) (am_n h) ci) j = if am_isr ci j = true then .null else .int 0 := by
    unfold vp_V
    rw [List.getD_eq_getElem?_getD, am_fs_get hj]
    simp [am_new, am_r, am_i, va_up, am_v]
  rw [hv]
  rcases am_ty_all _ hc _ hj with z | z | z
  · rw [if_neg (by unfold am_isr; rw [z]; exact Bool.false_ne_true), z]; rfl
  · rw [if_neg (by unfold am_isr; rw [z]; exact Bool.false_ne_true), z]; rfl
  · rw [if_pos z.1, z.2.1]
theorem am_vn {H : Heap} (hR : am_Rel G h H) (ht : am_n h < am_top) : am_v G (.ref (am_n h)) = .ref H.size ∧ am_ad G (am_n h) = H.size := by
  have h1 := hR.2.2.1
  have e1 : am_ad G (am_n h) = H.size := by
    unfold am_ad
    rw [if_pos (by omega), hR.1]
  exact ⟨by rw [am_v1 G (by omega), e1], e1⟩
theorem am_new_n {t n w : Nat} : am_n (am_new h t n w) = am_n h + 1 := rfl
theorem am_new_s {t n w : Nat} : am_cs (am_new h t n w) = am_cs h + w := rfl
/-- behind a new array of plain values -/
theorem am_newaW {H : Heap} {locs : List Loc} {ls : Array Slot} {S0 : List Value} {n : Int32} {t : Nat} {atype : ArrayType} (hx : p.tables.exec = Jvm.exec) (hb : c.code = cc) (hts : ∀ w ∈ am_TT, w.before args s = true) (hK : va_K G.1 am_cl (am_tys G) s) (hR : am_Rel G h H) (hS : va_S (am_A G) s.heap H locs)
    (ht : t + 1 < 6) (ty : (am_tys G)[t]? = some (G.2.1 (t + 2), newarray.typeOf atype)) (hw : Cond.arrayClass (newarray.typeOf atype) ∈ lw_tbl) (hra : va_RA s (G.2.1 (t + 2)) (newarray.typeOf atype) → s.vm.findClass ("[" ++ (newarray.typeOf atype).toString) = some (G.2.1 (t + 2)))
    (hce : ∀ N : Nat, am_cell G (am_new h (t + 2) N N) (am_n h) = .inl (G.2.1 (t + 2), N, am_A0 atype)) (hcv : ∀ N : Nat, vp_cell (G.2.1 (t + 2)) (N, am_A0 atype) = arrV (G.2.1 (t + 2)) N (fun _ => defaultValue (newarray.typeOf atype)))
    (hbt : componentBytes (newarray.typeOf atype) ≤ 8)
    (k1 : am_n h < am_top) (k2 : ¬ n < 0) (k3 : n.toNatClampNeg ≤ 100000) (q1 : n0 ≤ am_n h) (q2 : s0 ≤ am_cs h) (r1 : N1 - n0 ≤ R.cells) (r2 : C1 - s0 ≤ R.slots) (hl : am_lh G ls L) (q3 : L.length = c.maxLocals)
    (hdg : decode cc pc = .ok (.newarray atype, 2)) (HS : am_PP G p l e R s m args below meth c Q n0 s0 N1 C1 (pc + 2) L (.ref (am_n h) :: S0) (am_new h (t + 2) n.toNatClampNeg n.toNatClampNeg)) : W p l e R s m args below meth c H locs (am_n h - n0) (am_cs h - s0) Q (F0 m pc ls (.int n :: S0.map (am_v G))) := by
  have u1 := HS.1
  have u2 := HS.2.1
  rw [am_new_n] at u1
  rw [am_new_s] at u2
  refine va_newaK hx hb (am_w hts hw rfl) rfl hdg rfl k2 rfl (Nat.le_trans (Nat.mul_le_mul k3 hbt) (by decide)) (by omega) (by omega) rfl fun H1 cA e1 z1 o1 hAr hNm => ?_
  have hA : cA = G.2.1 (t + 2) := by
    have h2 := hra ((hK.2 t _ ty).2)
    exact Option.some.inj (hNm.symm.trans h2)
  subst hA
  obtain ⟨v1, v2⟩ := am_vn hR k1
  have K := HS.2.2 (by rw [am_new_n]; omega) (by rw [am_new_s]; omega) q3 H1 locs ls (hR.nw k1 rfl (fun x hx9 => am_new_ko hx9) z1 o1 (fun _ => by
    rw [hce, v2]
    show H1[H.size]? = some (vp_cell _ _)
    rw [hcv]
    exact e1) (fun x hx9 => am_new_o hx9)) (am_S_new hS z1 o1) hl
  rw [List.map_cons, v1, am_new_n, am_new_s, show am_n h + 1 - n0 = am_n h - n0 + 1 by omega, show am_cs h + n.toNatClampNeg - s0 = am_cs h - s0 + n.toNatClampNeg by omega] at K
  exact K
set_option maxHeartbeats 4000000 in
theorem am_alloW (E : am_Env G xs own kind cc p R s m args meth c) (r1 : N1 - n0 ≤ R.cells) (r2 : C1 - s0 ≤ R.slots) (hop : am_allo op = true) (ok : am_okb own kind cc ret pc op nx = true) (HS : am_out (am_PP G p l e R s m args below meth c Q n0 s0 N1 C1) cal hdl Qq pc nx L h (am_stp xs op nx S h)) : am_PP G p l e R s m args below meth c Q n0 s0 N1 C1 pc L S h := by
  have E0 := E
  obtain ⟨hx, hb, hown, hts, hsf, hki, hr1, hr2⟩ := E
  have hK := hsf.1
  cases op <;> first | (exfalso; simp only [am_allo] at hop; cases hop; done) | skip
  case dadd =>
    simp only [am_stp] at HS
    split at HS
    rotate_left
    · exact HS.elim
    rename_i y x S0
    cases hsh : am_sh S0 with
    | false => rw [hsh] at HS; exact HS.elim
    | true =>
    rw [hsh] at HS
    replace HS : am_PP G p l e R s m args below meth c Q n0 s0 N1 C1 nx L (.int (if x < y then y else x) :: S0) h := HS
    simp only [am_okb] at ok
    split at ok
    rotate_left
    · cases ok
    rename_i i9 hd
    simp only [Bool.and_eq_true, beq_iff_eq, List.contains_iff_mem] at ok
    obtain ⟨ok, rfl⟩ := ok
    have hrest : ((S0.map (am_v G)).map fun v => v.category).sum ≤ 8 := am_sh_sum hsh
    have u1 := HS.1
    have u2 := HS.2.1
    refine ⟨HS.1, HS.2.1, fun q1 q2 q3 H locs ls hR hS hl => ?_⟩
    exact va_mmax hx hb (q3.symm.trans hl.1.symm) hown (am_w hts (am_mm_ok _ ok) rfl) (am_w hts (by decide +kernel) rfl) (am_w hts (by decide +kernel) rfl) (am_w hts (by decide +kernel) rfl) (by omega) (by omega) (by omega) (by omega) (am_dec_of hd) (HS.2.2 q1 q2 q3 H locs ls hR hS hl)
  case dsub =>
    simp only [am_stp] at HS
    split at HS
    rotate_left
    · exact HS.elim
    rename_i y x S0
    cases hsh : am_sh S0 with
    | false => rw [hsh] at HS; exact HS.elim
    | true =>
    rw [hsh] at HS
    replace HS : am_PP G p l e R s m args below meth c Q n0 s0 N1 C1 nx L (.int (if y < x then y else x) :: S0) h := HS
    simp only [am_okb] at ok
    split at ok
    rotate_left
    · cases ok
    rename_i i9 hd
    simp only [Bool.and_eq_true, beq_iff_eq, List.contains_iff_mem] at ok
    obtain ⟨ok, rfl⟩ := ok
    have hrest : ((S0.map (am_v G)).map fun v => v.category).sum ≤ 8 := am_sh_sum hsh
    have u1 := HS.1
    have u2 := HS.2.1
    refine ⟨HS.1, HS.2.1, fun q1 q2 q3 H locs ls hR hS hl => ?_⟩
    exact va_mmin hx hb (q3.symm.trans hl.1.symm) hown (am_w hts (am_mm_ok _ ok) rfl) (am_w hts (by decide +kernel) rfl) (am_w hts (by decide +kernel) rfl) (am_w hts (by decide +kernel) rfl) (by omega) (by omega) (by omega) (by omega) (am_dec_of hd) (HS.2.2 q1 q2 q3 H locs ls hR hS hl)
  case dmul =>
    simp only [am_stp] at HS
    split at HS
    rotate_left
    · exact HS.elim
    rename_i y x S0
    cases hsh : am_sh S0 with
    | false => rw [hsh] at HS; exact HS.elim
    | true =>
    rw [hsh] at HS
    replace HS : am_PP G p l e R s m args below meth c Q n0 s0 N1 C1 nx L (.long (if y < x then x else y) :: S0) h := HS
    simp only [am_okb] at ok
    split at ok
    rotate_left
    · cases ok
    rename_i i9 hd
    simp only [Bool.and_eq_true, beq_iff_eq, List.contains_iff_mem] at ok
    obtain ⟨ok, rfl⟩ := ok
    have hrest : ((S0.map (am_v G)).map fun v => v.category).sum ≤ 8 := am_sh_sum hsh
    have u1 := HS.1
    have u2 := HS.2.1
    refine ⟨HS.1, HS.2.1, fun q1 q2 q3 H locs ls hR hS hl => ?_⟩
    exact va_mmax_long hx hb (q3.symm.trans hl.1.symm) hown (am_w hts (am_mm_ok _ ok) rfl) (am_w hts (by decide +kernel) rfl) (am_w hts (by decide +kernel) rfl) (am_w hts (by decide +kernel) rfl) (by omega) (by omega) (by omega) (by omega) (am_dec_of hd) (HS.2.2 q1 q2 q3 H locs ls hR hS hl)
  case ddiv =>
    simp only [am_stp] at HS
    split at HS
    rotate_left
    · exact HS.elim
    rename_i y x S0
    cases hsh : am_sh S0 with
    | false => rw [hsh] at HS; exact HS.elim
    | true =>
    rw [hsh] at HS
    replace HS : am_PP G p l e R s m args below meth c Q n0 s0 N1 C1 nx L (.long (if y < x then y else x) :: S0) h := HS
    simp only [am_okb] at ok
    split at ok
    rotate_left
    · cases ok
    rename_i i9 hd
    simp only [Bool.and_eq_true, beq_iff_eq, List.contains_iff_mem] at ok
    obtain ⟨ok, rfl⟩ := ok
    have hrest : ((S0.map (am_v G)).map fun v => v.category).sum ≤ 8 := am_sh_sum hsh
    have u1 := HS.1
    have u2 := HS.2.1
    refine ⟨HS.1, HS.2.1, fun q1 q2 q3 H locs ls hR hS hl => ?_⟩
    exact va_mmin_long hx hb (q3.symm.trans hl.1.symm) hown (am_w hts (am_mm_ok _ ok) rfl) (am_w hts (by decide +kernel) rfl) (am_w hts (by decide +kernel) rfl) (am_w hts (by decide +kernel) rfl) (by omega) (by omega) (by omega) (by omega) (am_dec_of hd) (HS.2.2 q1 q2 q3 H locs ls hR hS hl)
  case new e9 =>
    simp only [am_stp] at HS
    obtain ⟨k1, HS⟩ := (show am_n h < am_top ∧ am_PP G p l e R s m args below meth c Q n0 s0 N1 C1 nx L (.ref (am_n h) :: S) (am_new h 1 (e9 / 64) (e9 % 64)) from HS)
    simp only [am_okb] at ok
    split at ok
    rotate_left
    · cases ok
    rename_i i9 hd
    simp only [Bool.and_eq_true, beq_iff_eq, List.contains_iff_mem] at ok
    obtain ⟨ok, rfl⟩ := ok
    obtain ⟨c1, c2⟩ := am_cl_ok2 _ ok
    obtain ⟨g1, g2, g3, g4⟩ := am_ci_ok _ c1
    dsimp only at c1 c2 g1 g2 g3 g4
    rw [c2] at HS
    have u1 := HS.1
    have u2 := HS.2.1
    rw [am_new_n] at u1
    rw [am_new_s] at u2
    refine ⟨by omega, by omega, fun q1 q2 q3 H locs ls hR hS hl => ?_⟩
    have hKn := hK.1 _ _ g4
    refine W.newcK hx hb hown (am_w hts (am_cl_ok _ ok) rfl) (am_w hts g1 rfl) (am_w hts g2 rfl) rfl (am_dec_of hd) (by omega) (by omega) hKn.2.1 rfl fun H1 kC hkC e1 z1 o1 => ?_
    obtain ⟨v1, v2⟩ := am_vn hR k1
    have K := HS.2.2 (by rw [am_new_n]; omega) (by rw [am_new_s]; omega) q3 H1 locs ls (hR.nw k1 rfl (fun x hx9 => am_new_ko hx9) z1 o1 (fun _ => by
      rw [am_cell1 am_new_k, v2]
      exact ⟨_, g4, (u_born (am_ty (e9 / 64)) hts (fun w hw => am_TT_of (g3 w hw).1 (g3 w hw).2) hKn hkC e1 (am_ty_ok _ c1)).to (fun j hj => am_new_fs c1 hj)⟩) (fun x hx9 => am_new_o hx9)) (am_S_new hS z1 o1) hl
    rw [List.map_cons, v1, am_new_n, am_new_s, show am_n h + 1 - n0 = am_n h - n0 + 1 by omega, show am_cs h + am_nf (e9 / 64) - s0 = am_cs h - s0 + am_nf (e9 / 64) by omega] at K
    exact K
  case anewarray t9 =>
    simp only [am_stp] at HS
    split at HS
    rotate_left
    · exact HS.elim
    rename_i n S0
    obtain ⟨⟨k1, k2, k3⟩, HS⟩ := (show (am_n h < am_top ∧ ¬ n < 0 ∧ n.toNatClampNeg ≤ 100000) ∧ am_PP G p l e R s m args below meth c Q n0 s0 N1 C1 nx L (.ref (am_n h) :: S0) (am_new h t9 n.toNatClampNeg n.toNatClampNeg) from HS)
    have u1 := HS.1
    have u2 := HS.2.1
    rw [am_new_n] at u1
    rw [am_new_s] at u2
    refine ⟨by omega, by omega, fun q1 q2 q3 H locs ls hR hS hl => ?_⟩
    simp only [am_okb] at ok
    split at ok
    · rename_i hd
      simp only [Bool.and_eq_true, beq_iff_eq] at ok
      obtain ⟨rfl, rfl⟩ := ok
      exact am_newaW (atype := .int) hx hb hts hK hR hS (t := 0) (by decide) rfl (by decide +kernel) (fun z => z) (fun N => by rw [am_cell2 am_new_k, am_new_i]; rfl) (fun N => rfl) (by decide) k1 k2 k3 q1 q2 r1 r2 hl q3 (am_dec_of hd) HS
    · rename_i hd
      simp only [Bool.and_eq_true, beq_iff_eq] at ok
      obtain ⟨rfl, rfl⟩ := ok
      exact am_newaW (atype := .byte) hx hb hts hK hR hS (t := 1) (by decide) rfl (by decide +kernel) (fun z => z) (fun N => by rw [am_cell3 am_new_k, am_new_i]; rfl) (fun N => rfl) (by decide) k1 k2 k3 q1 q2 r1 r2 hl q3 (am_dec_of hd) HS
    · rename_i hd
      simp only [Bool.and_eq_true, beq_iff_eq] at ok
      obtain ⟨rfl, rfl⟩ := ok
      exact am_newaW (atype := .boolean) hx hb hts hK hR hS (t := 2) (by decide) rfl (by decide +kernel) (fun z => z) (fun N => by rw [am_cell4 am_new_k, am_new_i]; rfl) (fun N => rfl) (by decide) k1 k2 k3 q1 q2 r1 r2 hl q3 (am_dec_of hd) HS
    · rename_i hd
      simp only [Bool.and_eq_true, beq_iff_eq] at ok
      obtain ⟨rfl, rfl⟩ := ok
      exact am_newaW (atype := .long) hx hb hts hK hR hS (t := 3) (by decide) rfl (by decide +kernel) (fun z => z) (fun N => by rw [am_cell5 am_new_k, am_new_l]; rfl) (fun N => rfl) (by decide) k1 k2 k3 q1 q2 r1 r2 hl q3 (am_dec_of hd) HS
    · rename_i i9 hd
      simp only [Bool.and_eq_true, beq_iff_eq, List.contains_iff_mem] at ok
      obtain ⟨⟨rfl, ok⟩, rfl⟩ := ok
      have h9 := am_cl_ok _ ok
      dsimp only at h9
      rw [show am_cn (138 / 64) = "MultiwayCut$Graph" from by decide +kernel] at h9
      refine W.anew hx hb hown (C := "MultiwayCut$Graph") (am_w hts h9 rfl) (va_AO.use hsf.2.2.2.2.2.2.1) rfl (am_dec_of hd) rfl k2 (by omega) (by omega) (by omega) fun cA kA comp f1 f2 f3 f4 => ?_
      generalize hH1 : H.push ({ cls := cA, slots := Array.replicate n.toNatClampNeg .null, vm := .none } : Cell) = H1
      have z1 : H1.size = H.size + 1 := by rw [← hH1, Array.size_push]
      have e1 : H1[H.size]? = some (arrV cA n.toNatClampNeg (fun _ => .null)) := by rw [← hH1, Array.getElem?_push_size, ← arrV_new]
      have o1 : ∀ q : Nat, q < H.size → H1[q]? = H[q]? := fun q hq => by rw [← hH1, Array.getElem?_push, if_neg (Nat.ne_of_lt hq)]
      have hA : cA = G.2.1 6 := by
        obtain ⟨kA2, comp2, h21, h22, h23, h24⟩ := (hK.2 4 _ rfl).2
        exact Option.some.inj (f1.symm.trans h24)
      subst hA
      obtain ⟨v1, v2⟩ := am_vn hR k1
      have K := HS.2.2 (by rw [am_new_n]; omega) (by rw [am_new_s]; omega) q3 H1 locs ls (hR.nw k1 rfl (fun x hx9 => am_new_ko hx9) z1 o1 (fun _ => by
        rw [am_cell6 am_new_k, v2]
        show H1[H.size]? = some (vp_cell _ _)
        rw [e1, vp_cell_q]
        simp [am_new, am_r, va_up, va_rf]) (fun x hx9 => am_new_o hx9)) (am_S_new hS z1 o1) hl
      rw [List.map_cons, v1, am_new_n, am_new_s, show am_n h + 1 - n0 = am_n h - n0 + 1 by omega, show am_cs h + n.toNatClampNeg - s0 = am_cs h - s0 + n.toNatClampNeg by omega] at K
      exact K
    · cases ok
  case multianewarray x1 x2 =>
    simp only [am_stp] at HS
    split at HS
    rotate_left
    · exact HS.elim
    rename_i n dp a sp b S0
    cases hsh : am_sh S0 with
    | false => rw [hsh] at HS; exact HS.elim
    | true =>
    rw [hsh] at HS
    obtain ⟨⟨⟨ka, kb⟩, ⟨k1, k2, k3⟩, k4, k5⟩, HS⟩ := (show (((am_k h a).1 = 2 ∧ (am_k h b).1 = 2) ∧ (¬ sp < 0 ∧ ¬ dp < 0 ∧ ¬ n < 0) ∧ sp.toNatClampNeg + n.toNatClampNeg ≤ (am_k h b).2 ∧ dp.toNatClampNeg + n.toNatClampNeg ≤ (am_k h a).2) ∧ am_PP G p l e R s m args below meth c Q n0 s0 N1 C1 nx L S0 (am_cp h b sp.toNatClampNeg a dp.toNatClampNeg n.toNatClampNeg) from HS)
    simp only [am_okb] at ok
    split at ok
    rotate_left
    · cases ok
    rename_i i9 hd
    simp only [Bool.and_eq_true, beq_iff_eq, List.contains_iff_mem] at ok
    obtain ⟨ok, rfl⟩ := ok
    refine ⟨HS.1, HS.2.1, fun q1 q2 q3 H locs ls hR hS hl => ?_⟩
    have hka : am_k h a = (2, (am_k h a).2) := Prod.ext ka rfl
    have hkb : am_k h b = (2, (am_k h b).2) := Prod.ext kb rfl
    have hrest : ((S0.map (am_v G)).map fun v => v.category).sum ≤ 8 := am_sh_sum hsh
    rw [List.map_cons, List.map_cons, List.map_cons, List.map_cons, List.map_cons, am_v1 G (am_nz hR (am_k0 hka)), am_v1 G (am_nz hR (am_k0 hkb))]
    refine am_copyW hx hb (q3.symm.trans hl.1.symm) hown (am_w hts (am_al_ok _ ok) rfl) (am_w hts (by decide +kernel) rfl) (am_w hts (by decide +kernel) rfl) (am_w hts (by decide +kernel) rfl) hK hR hS hka hkb k1 k2 k3 k4 k5 (by omega) (Nat.le_trans (Nat.add_le_add_right hrest _) (Nat.le_trans (by decide) hr2)) (am_dec_of hd) fun H1 locs1 hR1 hS1 => ?_
    exact HS.2.2 q1 q2 q3 H1 locs1 ls hR1 hS1 hl
end
end
section
/-! THE TIE: String constants: length and charAt by contract; written by wip/whole/gen155.py -/
abbrev yZ_coder : MethodName := ⟨"java/lang/String", "coder", "()B"⟩
abbrev yZ_length : MethodName := ⟨"java/lang/String", "length", "()I"⟩
abbrev yZ_isLatin1 : MethodName := ⟨"java/lang/String", "isLatin1", "()Z"⟩
abbrev yZ_checkIndex : MethodName := ⟨"java/lang/String", "checkIndex", "(II)V"⟩
abbrev yZ_charAt : MethodName := ⟨"java/lang/String", "charAt", "(I)C"⟩
abbrev yZ_charAtL : MethodName := ⟨"java/lang/StringLatin1", "charAt", "([BI)C"⟩
abbrev yZ_checkP : MethodName := ⟨"jdk/internal/util/Preconditions", "checkIndex", "(IILjava/util/function/BiFunction;)I"⟩
set_option maxRecDepth 100000 in
theorem zc_coder : Cond.code yZ_coder prog_21_method_152_code 1 (some .byte) ∈ lw_tbl := List.mem_of_getElem? (i := 644) rfl
set_option maxRecDepth 100000 in
theorem zc_length : Cond.code yZ_length prog_21_method_54_code 1 (some .int) ∈ lw_tbl := List.mem_of_getElem? (i := 640) rfl
set_option maxRecDepth 100000 in
theorem zc_isLatin1 : Cond.code yZ_isLatin1 prog_21_method_154_code 1 (some .boolean) ∈ lw_tbl := List.mem_of_getElem? (i := 654) rfl
set_option maxRecDepth 100000 in
theorem zc_checkIndex : Cond.code yZ_checkIndex prog_21_method_155_code 2 none ∈ lw_tbl := List.mem_of_getElem? (i := 660) rfl
set_option maxRecDepth 100000 in
theorem zc_charAt : Cond.code yZ_charAt prog_21_method_56_code 2 (some .char) ∈ lw_tbl := List.mem_of_getElem? (i := 650) rfl
set_option maxRecDepth 100000 in
theorem zc_charAtL : Cond.code yZ_charAtL prog_22_method_2_code 2 (some .char) ∈ lw_tbl := List.mem_of_getElem? (i := 657) rfl
set_option maxRecDepth 100000 in
theorem zc_checkP : Cond.code yZ_checkP prog_27_method_11_code 3 (some .int) ∈ lw_tbl := List.mem_of_getElem? (i := 665) rfl
theorem zf_38 : Cond.fieldLink am_ZC 38 am_ZC "COMPACT_STRINGS" "Z" ∈ lw_tbl := List.mem_of_getElem? (i := 645) (by decide +kernel)
theorem zf_15 : Cond.fieldLink am_ZC 15 am_ZC "coder" "B" ∈ lw_tbl := List.mem_of_getElem? (i := 1627) (by decide +kernel)
theorem zf_9 : Cond.fieldLink am_ZC 9 am_ZC "value" "[B" ∈ lw_tbl := List.mem_of_getElem? (i := 1626) (by decide +kernel)
theorem zf_1053 : Cond.fieldLink am_ZC 1053 am_ZP "SIOOBE_FORMATTER" am_ZF ∈ lw_tbl := List.mem_of_getElem? (i := 661) (by decide +kernel)
theorem zl_335 : Cond.methodLink am_ZC 335 yZ_coder ∈ lw_tbl := List.mem_of_getElem? (i := 641) (by decide +kernel)
theorem zl_492 : Cond.methodLink am_ZC 492 yZ_isLatin1 ∈ lw_tbl := List.mem_of_getElem? (i := 651) (by decide +kernel)
theorem zl_495 : Cond.methodLink am_ZC 495 yZ_charAtL ∈ lw_tbl := List.mem_of_getElem? (i := 655) (by decide +kernel)
theorem zl_9 : Cond.methodLink "java/lang/StringLatin1" 9 yZ_checkIndex ∈ lw_tbl := List.mem_of_getElem? (i := 658) (by decide +kernel)
theorem zl_1059 : Cond.methodLink am_ZC 1059 yZ_checkP ∈ lw_tbl := List.mem_of_getElem? (i := 663) (by decide +kernel)
theorem zi_coder : Cond.instanceMethod yZ_coder ∈ lw_tbl := List.mem_of_getElem? (i := 642) (by decide +kernel)
theorem zs_coder : Cond.selects am_ZC yZ_coder yZ_coder ∈ lw_tbl := List.mem_of_getElem? (i := 643) (by decide +kernel)
theorem zi_isLatin1 : Cond.instanceMethod yZ_isLatin1 ∈ lw_tbl := List.mem_of_getElem? (i := 652) (by decide +kernel)
theorem zs_isLatin1 : Cond.selects am_ZC yZ_isLatin1 yZ_isLatin1 ∈ lw_tbl := List.mem_of_getElem? (i := 653) (by decide +kernel)
theorem zi_length : Cond.instanceMethod yZ_length ∈ lw_tbl := List.mem_of_getElem? (i := 638) (by decide +kernel)
theorem zs_length : Cond.selects am_ZC yZ_length yZ_length ∈ lw_tbl := List.mem_of_getElem? (i := 639) (by decide +kernel)
theorem zi_charAt : Cond.instanceMethod yZ_charAt ∈ lw_tbl := List.mem_of_getElem? (i := 648) (by decide +kernel)
theorem zs_charAt : Cond.selects am_ZC yZ_charAt yZ_charAt ∈ lw_tbl := List.mem_of_getElem? (i := 649) (by decide +kernel)
theorem zt_charAtL : Cond.static yZ_charAtL ∈ lw_tbl := List.mem_of_getElem? (i := 656) (by decide +kernel)
theorem zt_checkIndex : Cond.static yZ_checkIndex ∈ lw_tbl := List.mem_of_getElem? (i := 659) (by decide +kernel)
theorem zt_checkP : Cond.static yZ_checkP ∈ lw_tbl := List.mem_of_getElem? (i := 664) (by decide +kernel)
theorem zn_S : Cond.initialized "java/lang/String" ∈ lw_tbl := List.mem_of_getElem? (i := 97) (by decide +kernel)
theorem zn_L : Cond.initialized "java/lang/StringLatin1" ∈ lw_tbl := List.mem_of_getElem? (i := 98) (by decide +kernel)
theorem zn_P : Cond.initialized "jdk/internal/util/Preconditions" ∈ lw_tbl := List.mem_of_getElem? (i := 99) (by decide +kernel)
theorem zq_s1_7 : Cond.methodLink (am_cn 7) 182 yZ_length ∈ lw_tbl := List.mem_of_getElem? (i := 637) (by decide +kernel)
theorem zq_s1_9 : Cond.methodLink (am_cn 9) 96 yZ_length ∈ lw_tbl := List.mem_of_getElem? (i := 1251) (by decide +kernel)
theorem am_s1_ok : ∀ q ∈ am_s1_, Cond.methodLink (am_cn q.1) q.2 yZ_length ∈ lw_tbl := List.forall_mem_cons.mpr ⟨zq_s1_7, List.forall_mem_cons.mpr ⟨zq_s1_9, fun _ h => absurd h List.not_mem_nil⟩⟩
theorem zq_s2_7 : Cond.methodLink (am_cn 7) 186 yZ_charAt ∈ lw_tbl := List.mem_of_getElem? (i := 647) (by decide +kernel)
theorem zq_s2_9 : Cond.methodLink (am_cn 9) 101 yZ_charAt ∈ lw_tbl := List.mem_of_getElem? (i := 1252) (by decide +kernel)
theorem am_s2_ok : ∀ q ∈ am_s2_, Cond.methodLink (am_cn q.1) q.2 yZ_charAt ∈ lw_tbl := List.forall_mem_cons.mpr ⟨zq_s2_7, List.forall_mem_cons.mpr ⟨zq_s2_9, fun _ h => absurd h List.not_mem_nil⟩⟩
theorem zd_length_0 : decode prog_21_method_54_code 0 = .ok (.aload_n 0, 1) := by decide +kernel
theorem zd_length_1 : decode prog_21_method_54_code 1 = .ok (.getfield 9, 3) := by decide +kernel
theorem zd_length_4 : decode prog_21_method_54_code 4 = .ok (.arraylength, 1) := by decide +kernel
theorem zd_length_5 : decode prog_21_method_54_code 5 = .ok (.aload_n 0, 1) := by decide +kernel
theorem zd_length_6 : decode prog_21_method_54_code 6 = .ok (.invokevirtual 335, 3) := by decide +kernel
theorem zd_length_9 : decode prog_21_method_54_code 9 = .ok (.ishr, 1) := by decide +kernel
theorem zd_length_10 : decode prog_21_method_54_code 10 = .ok (.ireturn, 1) := by decide +kernel
theorem zd_charAt_0 : decode prog_21_method_56_code 0 = .ok (.aload_n 0, 1) := by decide +kernel
theorem zd_charAt_1 : decode prog_21_method_56_code 1 = .ok (.invokevirtual 492, 3) := by decide +kernel
theorem zd_charAt_4 : decode prog_21_method_56_code 4 = .ok (.ifCond .eq 12, 3) := by decide +kernel
theorem zd_charAt_7 : decode prog_21_method_56_code 7 = .ok (.aload_n 0, 1) := by decide +kernel
theorem zd_charAt_8 : decode prog_21_method_56_code 8 = .ok (.getfield 9, 3) := by decide +kernel
theorem zd_charAt_11 : decode prog_21_method_56_code 11 = .ok (.iload_n 1, 1) := by decide +kernel
theorem zd_charAt_12 : decode prog_21_method_56_code 12 = .ok (.invokestatic 495, 3) := by decide +kernel
theorem zd_charAt_15 : decode prog_21_method_56_code 15 = .ok (.ireturn, 1) := by decide +kernel
theorem zd_charAt_16 : decode prog_21_method_56_code 16 = .ok (.aload_n 0, 1) := by decide +kernel
theorem zd_charAt_17 : decode prog_21_method_56_code 17 = .ok (.getfield 9, 3) := by decide +kernel
theorem zd_charAt_20 : decode prog_21_method_56_code 20 = .ok (.iload_n 1, 1) := by decide +kernel
theorem zd_charAt_21 : decode prog_21_method_56_code 21 = .ok (.invokestatic 498, 3) := by decide +kernel
theorem zd_charAt_24 : decode prog_21_method_56_code 24 = .ok (.ireturn, 1) := by decide +kernel
theorem zd_coder_0 : decode prog_21_method_152_code 0 = .ok (.getstatic 38, 3) := by decide +kernel
theorem zd_coder_3 : decode prog_21_method_152_code 3 = .ok (.ifCond .eq 10, 3) := by decide +kernel
theorem zd_coder_6 : decode prog_21_method_152_code 6 = .ok (.aload_n 0, 1) := by decide +kernel
theorem zd_coder_7 : decode prog_21_method_152_code 7 = .ok (.getfield 15, 3) := by decide +kernel
theorem zd_coder_10 : decode prog_21_method_152_code 10 = .ok (.goto 4, 3) := by decide +kernel
theorem zd_coder_13 : decode prog_21_method_152_code 13 = .ok (.iconst 1, 1) := by decide +kernel
theorem zd_coder_14 : decode prog_21_method_152_code 14 = .ok (.ireturn, 1) := by decide +kernel
theorem zd_isLatin1_0 : decode prog_21_method_154_code 0 = .ok (.getstatic 38, 3) := by decide +kernel
theorem zd_isLatin1_3 : decode prog_21_method_154_code 3 = .ok (.ifCond .eq 14, 3) := by decide +kernel
theorem zd_isLatin1_6 : decode prog_21_method_154_code 6 = .ok (.aload_n 0, 1) := by decide +kernel
theorem zd_isLatin1_7 : decode prog_21_method_154_code 7 = .ok (.getfield 15, 3) := by decide +kernel
theorem zd_isLatin1_10 : decode prog_21_method_154_code 10 = .ok (.ifCond .ne 7, 3) := by decide +kernel
theorem zd_isLatin1_13 : decode prog_21_method_154_code 13 = .ok (.iconst 1, 1) := by decide +kernel
theorem zd_isLatin1_14 : decode prog_21_method_154_code 14 = .ok (.goto 4, 3) := by decide +kernel
theorem zd_isLatin1_17 : decode prog_21_method_154_code 17 = .ok (.iconst 0, 1) := by decide +kernel
theorem zd_isLatin1_18 : decode prog_21_method_154_code 18 = .ok (.ireturn, 1) := by decide +kernel
theorem zd_checkIndex_0 : decode prog_21_method_155_code 0 = .ok (.iload_n 0, 1) := by decide +kernel
theorem zd_checkIndex_1 : decode prog_21_method_155_code 1 = .ok (.iload_n 1, 1) := by decide +kernel
theorem zd_checkIndex_2 : decode prog_21_method_155_code 2 = .ok (.getstatic 1053, 3) := by decide +kernel
theorem zd_checkIndex_5 : decode prog_21_method_155_code 5 = .ok (.invokestatic 1059, 3) := by decide +kernel
theorem zd_checkIndex_8 : decode prog_21_method_155_code 8 = .ok (.pop, 1) := by decide +kernel
theorem zd_checkIndex_9 : decode prog_21_method_155_code 9 = .ok (.return_, 1) := by decide +kernel
theorem zd_charAtL_0 : decode prog_22_method_2_code 0 = .ok (.iload_n 1, 1) := by decide +kernel
theorem zd_charAtL_1 : decode prog_22_method_2_code 1 = .ok (.aload_n 0, 1) := by decide +kernel
theorem zd_charAtL_2 : decode prog_22_method_2_code 2 = .ok (.arraylength, 1) := by decide +kernel
theorem zd_charAtL_3 : decode prog_22_method_2_code 3 = .ok (.invokestatic 9, 3) := by decide +kernel
theorem zd_charAtL_6 : decode prog_22_method_2_code 6 = .ok (.aload_n 0, 1) := by decide +kernel
theorem zd_charAtL_7 : decode prog_22_method_2_code 7 = .ok (.iload_n 1, 1) := by decide +kernel
theorem zd_charAtL_8 : decode prog_22_method_2_code 8 = .ok (.baload, 1) := by decide +kernel
theorem zd_charAtL_9 : decode prog_22_method_2_code 9 = .ok (.sipush 255, 3) := by decide +kernel
theorem zd_charAtL_12 : decode prog_22_method_2_code 12 = .ok (.iand, 1) := by decide +kernel
theorem zd_charAtL_13 : decode prog_22_method_2_code 13 = .ok (.i2c, 1) := by decide +kernel
theorem zd_charAtL_14 : decode prog_22_method_2_code 14 = .ok (.ireturn, 1) := by decide +kernel
theorem zd_checkP_0 : decode prog_27_method_11_code 0 = .ok (.iload_n 0, 1) := by decide +kernel
theorem zd_checkP_1 : decode prog_27_method_11_code 1 = .ok (.ifCond .lt 8, 3) := by decide +kernel
theorem zd_checkP_4 : decode prog_27_method_11_code 4 = .ok (.iload_n 0, 1) := by decide +kernel
theorem zd_checkP_5 : decode prog_27_method_11_code 5 = .ok (.iload_n 1, 1) := by decide +kernel
theorem zd_checkP_6 : decode prog_27_method_11_code 6 = .ok (.if_icmp .lt 10, 3) := by decide +kernel
theorem zd_checkP_9 : decode prog_27_method_11_code 9 = .ok (.aload_n 2, 1) := by decide +kernel
theorem zd_checkP_10 : decode prog_27_method_11_code 10 = .ok (.iload_n 0, 1) := by decide +kernel
theorem zd_checkP_11 : decode prog_27_method_11_code 11 = .ok (.iload_n 1, 1) := by decide +kernel
theorem zd_checkP_12 : decode prog_27_method_11_code 12 = .ok (.invokestatic 95, 3) := by decide +kernel
theorem zd_checkP_15 : decode prog_27_method_11_code 15 = .ok (.athrow, 1) := by decide +kernel
theorem zd_checkP_16 : decode prog_27_method_11_code 16 = .ok (.iload_n 0, 1) := by decide +kernel
theorem zd_checkP_17 : decode prog_27_method_11_code 17 = .ok (.ireturn, 1) := by decide +kernel
def am_Zq (ov : Option Value) : Array Value → State → Outcome → State → Prop := fun _ st o t => o = .returned ov ∧ t.heap = st.heap
theorem am_vrun {p : Program} {l : Launch} {e : Env} {R : Room} {s : State} {m : MethodId} {args : Array Value} {below : List Frame} {meth : Method} {c : Code} {H : Heap} {locs : List Loc} {cells slots pc : Nat} {ls : Array Slot} {st0 rest : List Value} {Q : State → Prop} {ov : Option Value} {aa : Array Value} (hr : va_Run p l e R s m args below meth c H locs cells slots 0 0 (F0 m pc ls st0) rest (am_Zq ov aa) (fun _ => False))
    (kk : W p l e R s m args below meth c H locs cells slots Q (F0 m (pc + 3) ls (ov.toList ++ rest))) : W p l e R s m args below meth c H locs cells slots Q (F0 m pc ls st0) := by
  intro T hT X
  obtain ⟨v, st₀, t, T', L, h0, X', hL, e1, e2, ⟨hv, hh⟩, st⟩ := hr T hT X
  cases hv
  have hL0 : L = [] := List.eq_nil_iff_forall_not_mem.mpr (fun q hq => hL q hq)
  subst hL0
  rw [List.append_nil] at X'
  obtain ⟨t2, a1, b1⟩ := kk T' (by rw [e1, hh, h0]) X'
  exact ⟨t2, st t2 a1, b1⟩
theorem am_goodc {y : MethodName} {cc : ByteArray} {n : Nat} {ret : Option FieldType} (h : Cond.code y cc n ret ∈ lw_tbl) : GoodIn am_TT (Cond.code y cc n ret :: am_TT) := fun w hw => by
  rcases List.mem_cons.mp hw with rfl | hw
  · exact ⟨am_TT_of h rfl, good_of_word rfl⟩
  · exact ⟨hw, good_of_word (List.mem_filter.mp hw).2⟩
def am_Zp (ad : Nat → Nat) (A : Nat → Prop) (H0 : Heap) (as : List Value) : Array Value → State → Prop := fun a U => a = as.toArray ∧ U.heap = H0 ∧ am_ST ad A U U.heap
theorem am_Zp.blind {ad : Nat → Nat} {A : Nat → Prop} {H0 : Heap} {as : List Value} : FrameBlind (am_Zp ad A H0 as) := fun a U g mk q => ⟨q.1, q.2.1, q.2.2.moved (u := U) (Vm.Alike.refl U.vm)⟩
def am_Zp1 (ad : Nat → Nat) (A : Nat → Prop) (H0 : Heap) (j v : Nat) (as : List Value) : Array Value → State → Prop := fun a U => am_Zp ad A H0 as a U ∧ am_ST1 (ad j) v (am_strs.getD j []) A U U.heap
theorem am_Zp1.blind {ad : Nat → Nat} {A : Nat → Prop} {H0 : Heap} {j v : Nat} {as : List Value} : FrameBlind (am_Zp1 ad A H0 j v as) := fun a U g mk q => ⟨am_Zp.blind a U g mk q.1, q.2.moved (u := U) (Vm.Alike.refl U.vm)⟩
theorem am_Zp.to {ad : Nat → Nat} {A : Nat → Prop} {s U : State} {H : Heap} {as : List Value} (h : am_ST ad A s s.heap) (hU : U.heap = H) (hW : s.WarmedH U.vm) (hq : ∀ q : Nat, q < s.heap.size → ¬ A q → H[q]? = s.heap[q]?) : am_Zp ad A H as as.toArray U := ⟨rfl, hU, by rw [hU]; exact (h.kept hq).moved hW.alike⟩
set_option maxHeartbeats 4000000 in
theorem zm_coder (l : Launch) (ad : Nat → Nat) (A : Nat → Prop) (H0 : Heap) (j : Nat) (hj : j < 8) : Met l yZ_coder (Cond.code yZ_coder prog_21_method_152_code 1 (some .byte) :: am_TT) ({ frames := 1, cells := 0, slots := 0, locals := 50 } : Jvm.Room) (am_Zp ad A H0 [.ref (ad j)]) (am_Zq (some (.int 0))) 0 0 (fun _ => False) := by
  refine Met.ofW (cc := prog_21_method_152_code) (maxL := 1) (ret := (some .byte)) (by decide) rfl ?_
  intro p e s m args below meth c s₁ B hml hv
  obtain ⟨rfl, rfl, hZ⟩ := hv
  have hx := B.exec
  have hb := B.bytes
  have hr := B.returns
  have hts : ∀ w ∈ am_TT, w.before _ s = true := fun w hw => atoms_spec B.pre w (List.mem_cons_of_mem _ hw)
  have hown : s.vm.findClass "java/lang/String" = some m.cls := findClass_of_methodNamed B.named
  have hlk := B.notSynchronized
  have hS : va_S A s.heap s.heap [] := va_S.rf
  have hl := lv_entry [Value.ref (ad j)] (n := 1) (Nat.le_of_ble_eq_true rfl)
  rw [lg_entry_eq]
  generalize (lg_sl [Value.ref (ad j)] ++ List.replicate (1 - (lg_sl [Value.ref (ad j)]).length) Slot.unset).toArray = ls at hl ⊢
  have hl : lv_has ls 1 [(0, .ref (ad j))] := hl
  obtain ⟨v, z1, z2, z3, z4⟩ := hZ.1 j hj
  refine va_gets hx hb hZ.2.1 hS hown (am_w hts zf_38 rfl) (fun _ h => h) zd_coder_0 ?_
  refine lv_if_eq hx hb zd_coder_3 (tgt := 13) rfl (fun z => absurd z (by decide)) (fun _ => ?_)
  refine lv_aload_n hx hb zd_coder_6 rfl (lv_at hl 0 rfl) ?_
  refine vk_getf hx hb z2 hS hown (am_w hts zf_15 rfl) (fun _ h => h) zd_coder_7 ?_
  refine lv_goto hx hb zd_coder_10 (tgt := 14) rfl ?_
  exact W.zret hx hb hr (by decide) (fun t ht hW => ⟨rfl, ht⟩) (fun _ hq => nomatch hq) zd_coder_14
set_option maxHeartbeats 4000000 in
theorem zm_isLatin1 (l : Launch) (ad : Nat → Nat) (A : Nat → Prop) (H0 : Heap) (j : Nat) (hj : j < 8) : Met l yZ_isLatin1 (Cond.code yZ_isLatin1 prog_21_method_154_code 1 (some .boolean) :: am_TT) ({ frames := 1, cells := 0, slots := 0, locals := 50 } : Jvm.Room) (am_Zp ad A H0 [.ref (ad j)]) (am_Zq (some (.int 1))) 0 0 (fun _ => False) := by
  refine Met.ofW (cc := prog_21_method_154_code) (maxL := 1) (ret := (some .boolean)) (by decide) rfl ?_
  intro p e s m args below meth c s₁ B hml hv
  obtain ⟨rfl, rfl, hZ⟩ := hv
  have hx := B.exec
  have hb := B.bytes
  have hr := B.returns
  have hts : ∀ w ∈ am_TT, w.before _ s = true := fun w hw => atoms_spec B.pre w (List.mem_cons_of_mem _ hw)
  have hown : s.vm.findClass "java/lang/String" = some m.cls := findClass_of_methodNamed B.named
  have hlk := B.notSynchronized
  have hS : va_S A s.heap s.heap [] := va_S.rf
  have hl := lv_entry [Value.ref (ad j)] (n := 1) (Nat.le_of_ble_eq_true rfl)
  rw [lg_entry_eq]
  generalize (lg_sl [Value.ref (ad j)] ++ List.replicate (1 - (lg_sl [Value.ref (ad j)]).length) Slot.unset).toArray = ls at hl ⊢
  have hl : lv_has ls 1 [(0, .ref (ad j))] := hl
  obtain ⟨v, z1, z2, z3, z4⟩ := hZ.1 j hj
  refine va_gets hx hb hZ.2.1 hS hown (am_w hts zf_38 rfl) (fun _ h => h) zd_isLatin1_0 ?_
  refine lv_if_eq hx hb zd_isLatin1_3 (tgt := 17) rfl (fun z => absurd z (by decide)) (fun _ => ?_)
  refine lv_aload_n hx hb zd_isLatin1_6 rfl (lv_at hl 0 rfl) ?_
  refine vk_getf hx hb z2 hS hown (am_w hts zf_15 rfl) (fun _ h => h) zd_isLatin1_7 ?_
  refine lv_if_ne hx hb zd_isLatin1_10 (tgt := 17) rfl (fun z => absurd rfl z) (fun _ => ?_)
  refine lv_iconst hx hb zd_isLatin1_13 (v := 1) rfl ?_
  refine lv_goto hx hb zd_isLatin1_14 (tgt := 18) rfl ?_
  exact W.zret hx hb hr (by decide) (fun t ht hW => ⟨rfl, ht⟩) (fun _ hq => nomatch hq) zd_isLatin1_18
set_option maxHeartbeats 4000000 in
theorem zm_checkP (l : Launch) (ad : Nat → Nat) (A : Nat → Prop) (H0 : Heap) (x y : Int32) (v9 : Value) (h9 : v9 = .null ∨ ∃ t, v9 = .ref t) (h0 : ¬ x < 0) (h1 : x < y) : Met l yZ_checkP (Cond.code yZ_checkP prog_27_method_11_code 3 (some .int) :: am_TT) ({ frames := 1, cells := 0, slots := 0, locals := 50 } : Jvm.Room) (am_Zp ad A H0 [.int x, .int y, v9]) (am_Zq (some (.int x))) 0 0 (fun _ => False) := by
  have hh9 : lv_args 0 [.int x, .int y, v9] = [(0, .int x), (1, .int y), (2, v9)] ∧ Nat.ble (lg_sl [.int x, .int y, v9]).length 3 = true := by
    rcases h9 with rfl | ⟨t, rfl⟩ <;> exact ⟨rfl, rfl⟩
  refine Met.ofW (cc := prog_27_method_11_code) (maxL := 3) (ret := (some .int)) (by decide) rfl ?_
  intro p e s m args below meth c s₁ B hml hv
  obtain ⟨rfl, rfl, hZ⟩ := hv
  have hx := B.exec
  have hb := B.bytes
  have hr := B.returns
  have hts : ∀ w ∈ am_TT, w.before _ s = true := fun w hw => atoms_spec B.pre w (List.mem_cons_of_mem _ hw)
  have hown : s.vm.findClass "jdk/internal/util/Preconditions" = some m.cls := findClass_of_methodNamed B.named
  have hlk := B.notSynchronized
  have hS : va_S A s.heap s.heap [] := va_S.rf
  have hl := lv_entry [.int x, .int y, v9] (n := 3) (Nat.le_of_ble_eq_true hh9.2)
  rw [lg_entry_eq]
  generalize (lg_sl [.int x, .int y, v9] ++ List.replicate (3 - (lg_sl [.int x, .int y, v9]).length) Slot.unset).toArray = ls at hl ⊢
  have hl : lv_has ls 3 [(0, .int x), (1, .int y), (2, v9)] := by rw [← hh9.1]; exact hl
  refine lv_iload_n hx hb zd_checkP_0 rfl (lv_at hl 0 rfl) ?_
  refine lv_if_lt hx hb zd_checkP_1 (tgt := 9) rfl (fun z => absurd z h0) (fun _ => ?_)
  refine lv_iload_n hx hb zd_checkP_4 rfl (lv_at hl 0 rfl) ?_
  refine lv_iload_n hx hb zd_checkP_5 rfl (lv_at hl 1 rfl) ?_
  refine lv_icmp_lt hx hb zd_checkP_6 (tgt := 16) rfl (fun _ => ?_) (fun z => absurd h1 z)
  refine lv_iload_n hx hb zd_checkP_16 rfl (lv_at hl 0 rfl) ?_
  exact W.iret hx hb hr (fun t ht hW => ⟨rfl, ht⟩) (fun _ hq => nomatch hq) zd_checkP_17
set_option maxHeartbeats 4000000 in
theorem zm_checkIndex (l : Launch) (ad : Nat → Nat) (A : Nat → Prop) (H0 : Heap) (x y : Int32) (h0 : ¬ x < 0) (h1 : x < y) : Met l yZ_checkIndex (Cond.code yZ_checkIndex prog_21_method_155_code 2 none :: am_TT) ({ frames := 3, cells := 0, slots := 0, locals := 100 } : Jvm.Room) (am_Zp ad A H0 [.int x, .int y]) (am_Zq (none)) 0 0 (fun _ => False) := by
  refine Met.ofW (cc := prog_21_method_155_code) (maxL := 2) (ret := none) (by decide) rfl ?_
  intro p e s m args below meth c s₁ B hml hv
  obtain ⟨rfl, rfl, hZ⟩ := hv
  have hx := B.exec
  have hb := B.bytes
  have hr := B.returns
  have hts : ∀ w ∈ am_TT, w.before _ s = true := fun w hw => atoms_spec B.pre w (List.mem_cons_of_mem _ hw)
  have hown : s.vm.findClass "java/lang/String" = some m.cls := findClass_of_methodNamed B.named
  have hlk := B.notSynchronized
  have hS : va_S A s.heap s.heap [] := va_S.rf
  have hl := lv_entry [.int x, .int y] (n := 2) (Nat.le_of_ble_eq_true rfl)
  rw [lg_entry_eq]
  generalize (lg_sl [.int x, .int y] ++ List.replicate (2 - (lg_sl [.int x, .int y]).length) Slot.unset).toArray = ls at hl ⊢
  have hl : lv_has ls 2 [(0, .int x), (1, .int y)] := hl
  obtain ⟨v9, h9, hz9⟩ : ∃ v9 : Value, (v9 = .null ∨ ∃ t, v9 = .ref t) ∧ va_Z am_ZP "SIOOBE_FORMATTER" am_ZF v9 A s s.heap := by
    rcases hZ.2.2 with z | ⟨t, z⟩
    · exact ⟨_, Or.inl rfl, z⟩
    · exact ⟨_, Or.inr ⟨t, rfl⟩, z⟩
  refine lv_iload_n hx hb zd_checkIndex_0 rfl (lv_at hl 0 rfl) ?_
  refine lv_iload_n hx hb zd_checkIndex_1 rfl (lv_at hl 1 rfl) ?_
  refine va_gets hx hb hz9 hS hown (am_w hts zf_1053 rfl) (fun _ h => h) zd_checkIndex_2 ?_
  refine am_vrun (va_runS (cc := _) (Ts := am_TT) (own := "java/lang/String") (index := 1059) (y := yZ_checkP) (n := 3) (As := [.int x, .int y, v9]) (bytes := prog_27_method_11_code) (maxL := 3) (ret := (some .int)) ⟨hx, hb, rfl, hown, hts⟩ (zm_checkP l ad A s.heap x y v9 h9 h0 h1) ⟨callB_of (ws' := am_TT) 3 hts (am_goodc zc_checkP) rfl rfl rfl (am_w hts zn_P rfl) (am_w hts zl_1059 rfl) ⟨by decide, by decide, by decide +kernel⟩ ⟨by decide, by decide⟩, am_w hts zt_checkP rfl⟩ ⟨am_Zp.blind, fun U hU hW => am_Zp.to hZ hU hW (fun q _ _ => rfl)⟩ rfl rfl (by rw [hml]; exact hl.1) rfl (Nat.le_of_ble_eq_true rfl) zd_checkIndex_5 ⟨Nat.zero_le _, Nat.zero_le _⟩) ?_
  refine lv_pop hx hb zd_checkIndex_8 rfl ?_
  exact W.vret hx hb hr (fun t ht hW => ⟨rfl, ht⟩) (fun _ hq => nomatch hq) zd_checkIndex_9
theorem am_zlen : ∀ j, j < 8 → (am_strs.getD j []).length < 100 := by decide +kernel
theorem am_zlt {x : Int32} {n : Nat} (h : vp_in x n) (hn : n < 1000) : x < nI n := by
  have h0 : ¬ x < 0 := fun z => h (Or.inl z)
  have h1 : x.toNatClampNeg < n := Nat.not_le.mp fun q => h (Or.inr q)
  obtain ⟨k, hk, rfl⟩ := nI_of h0
  rw [nI_clamp hk] at h1
  exact nI_lt h1 (by omega)
theorem am_zch : ∀ j, j < 8 → ∀ k, k < (am_strs.getD j []).length → ((nI ((am_strs.getD j []).getD k 0) &&& 255).toUInt32 % 65536).toInt32 = nI ((am_strs.getD j []).getD k 0) ∧ narrow .char (.int (nI ((am_strs.getD j []).getD k 0))) = .int (nI ((am_strs.getD j []).getD k 0)) := by decide +kernel
set_option maxHeartbeats 4000000 in
theorem zm_charAtL (l : Launch) (ad : Nat → Nat) (A : Nat → Prop) (H0 : Heap) (j v : Nat) (hj : j < 8) (x : Int32) (hx0 : vp_in x (am_strs.getD j []).length) : Met l yZ_charAtL (Cond.code yZ_charAtL prog_22_method_2_code 2 (some .char) :: am_TT) ({ frames := 5, cells := 0, slots := 0, locals := 150 } : Jvm.Room) (am_Zp1 ad A H0 j v [.ref v, .int x]) (am_Zq (some (.int (nI ((am_strs.getD j []).getD x.toNatClampNeg 0))))) 0 0 (fun _ => False) := by
  refine Met.ofW (cc := prog_22_method_2_code) (maxL := 2) (ret := (some .char)) (by decide) rfl ?_
  intro p e s m args below meth c s₁ B hml hv
  obtain ⟨⟨rfl, rfl, hZ⟩, hZ1⟩ := hv
  have hx := B.exec
  have hb := B.bytes
  have hr := B.returns
  have hts : ∀ w ∈ am_TT, w.before _ s = true := fun w hw => atoms_spec B.pre w (List.mem_cons_of_mem _ hw)
  have hown : s.vm.findClass "java/lang/StringLatin1" = some m.cls := findClass_of_methodNamed B.named
  have hlk := B.notSynchronized
  have hS : va_S A s.heap s.heap [] := va_S.rf
  have hl := lv_entry [Value.ref v, .int x] (n := 2) (Nat.le_of_ble_eq_true rfl)
  rw [lg_entry_eq]
  generalize (lg_sl [Value.ref v, .int x] ++ List.replicate (2 - (lg_sl [Value.ref v, .int x]).length) Slot.unset).toArray = ls at hl ⊢
  have hl : lv_has ls 2 [(0, .ref v), (1, .int x)] := hl
  obtain ⟨z1, z2, z3, z4⟩ := hZ1
  have hb9 := am_zlen j hj
  have h0 : ¬ x < 0 := fun z => hx0 (Or.inl z)
  have h1 : x < nI (am_strs.getD j []).length := am_zlt hx0 (by omega)
  refine lv_iload_n hx hb zd_charAtL_0 rfl (lv_at hl 1 rfl) ?_
  refine lv_aload_n hx hb zd_charAtL_1 rfl (lv_at hl 0 rfl) ?_
  refine va_tlen hx hb z4 hS rfl zd_charAtL_2 ?_
  refine am_vrun (va_runS (cc := _) (Ts := am_TT) (own := "java/lang/StringLatin1") (index := 9) (y := yZ_checkIndex) (n := 2) (As := [.int x, .int (Int32.ofNat (am_strs.getD j []).length)]) (bytes := prog_21_method_155_code) (maxL := 2) (ret := none) ⟨hx, hb, rfl, hown, hts⟩ (zm_checkIndex l ad A s.heap x (Int32.ofNat (am_strs.getD j []).length) h0 h1) ⟨callB_of (ws' := am_TT) 2 hts (am_goodc zc_checkIndex) rfl rfl rfl (am_w hts zn_S rfl) (am_w hts zl_9 rfl) ⟨by decide, by decide, by decide +kernel⟩ ⟨by decide, by decide⟩, am_w hts zt_checkIndex rfl⟩ ⟨am_Zp.blind, fun U hU hW => am_Zp.to hZ hU hW (fun q _ _ => rfl)⟩ rfl rfl (by rw [hml]; exact hl.1) rfl (Nat.le_of_ble_eq_true rfl) zd_charAtL_3 ⟨Nat.zero_le _, Nat.zero_le _⟩) ?_
  refine lv_aload_n hx hb zd_charAtL_6 rfl (lv_at hl 0 rfl) ?_
  refine lv_iload_n hx hb zd_charAtL_7 rfl (lv_at hl 1 rfl) ?_
  refine va_tb hx hb z4 hS hx0 rfl zd_charAtL_8 ?_
  refine lv_sipush hx hb zd_charAtL_9 (v := 255) (by decide) ?_
  refine lv_iand hx hb zd_charAtL_12 ?_
  have hlt : x.toNatClampNeg < (am_strs.getD j []).length := Nat.not_le.mp fun q => hx0 (Or.inr q)
  obtain ⟨k1, k2⟩ := am_zch j hj x.toNatClampNeg hlt
  refine lv_i2c hx hb zd_charAtL_13 k1 ?_
  exact W.zret hx hb hr k2 (fun t ht hW => ⟨rfl, ht⟩) (fun _ hq => nomatch hq) zd_charAtL_14
theorem am_zsh : ∀ j, j < 8 → Int32.ofNat (am_strs.getD j []).length >>> ((0 : Int32) &&& 31) = nI (am_strs.getD j []).length := by decide +kernel
set_option maxHeartbeats 4000000 in
theorem zm_length (l : Launch) (ad : Nat → Nat) (A : Nat → Prop) (H0 : Heap) (j : Nat) (hj : j < 8) : Met l yZ_length (Cond.code yZ_length prog_21_method_54_code 1 (some .int) :: am_TT) ({ frames := 3, cells := 0, slots := 0, locals := 100 } : Jvm.Room) (am_Zp ad A H0 [.ref (ad j)]) (am_Zq (some (.int (nI (am_strs.getD j []).length)))) 0 0 (fun _ => False) := by
  refine Met.ofW (cc := prog_21_method_54_code) (maxL := 1) (ret := (some .int)) (by decide) rfl ?_
  intro p e s m args below meth c s₁ B hml hv
  obtain ⟨rfl, rfl, hZ⟩ := hv
  have hx := B.exec
  have hb := B.bytes
  have hr := B.returns
  have hts : ∀ w ∈ am_TT, w.before _ s = true := fun w hw => atoms_spec B.pre w (List.mem_cons_of_mem _ hw)
  have hown : s.vm.findClass "java/lang/String" = some m.cls := findClass_of_methodNamed B.named
  have hlk := B.notSynchronized
  have hS : va_S A s.heap s.heap [] := va_S.rf
  have hl := lv_entry [Value.ref (ad j)] (n := 1) (Nat.le_of_ble_eq_true rfl)
  rw [lg_entry_eq]
  generalize (lg_sl [Value.ref (ad j)] ++ List.replicate (1 - (lg_sl [Value.ref (ad j)]).length) Slot.unset).toArray = ls at hl ⊢
  have hl : lv_has ls 1 [(0, .ref (ad j))] := hl
  obtain ⟨v, z1, z2, z3, z4⟩ := hZ.1 j hj
  have zr : ∃ cell : Cell, s.heap[ad j]? = some cell ∧ cell.vm.isStatics = false ∧ s.vm.findClass am_ZC = some cell.cls := by obtain ⟨cell, h1, h2, h3, -⟩ := z1; exact ⟨cell, h1, h2, h3⟩
  refine lv_aload_n hx hb zd_length_0 rfl (lv_at hl 0 rfl) ?_
  refine vk_getf hx hb z3 hS hown (am_w hts zf_9 rfl) (fun _ h => h) zd_length_1 ?_
  refine va_tlen hx hb z4 hS rfl zd_length_4 ?_
  refine lv_aload_n hx hb zd_length_5 rfl (lv_at hl 0 rfl) ?_
  refine am_vrun (va_runV (cc := _) (Ts := am_TT) (own := "java/lang/String") (C := am_ZC) (index := 335) (y := yZ_coder) (n := 0) (b := ad j) (As := []) (bytes := prog_21_method_152_code) (maxL := 1) (ret := (some .byte)) ⟨hx, hb, rfl, hown, hts⟩ (zm_coder l ad A s.heap j hj) ⟨callB_of (ws' := am_TT) 0 hts (am_goodc zc_coder) rfl rfl rfl (am_w hts zn_S rfl) (am_w hts zl_335 rfl) ⟨by decide, by decide, by decide +kernel⟩ ⟨by decide, by decide⟩, am_w hts zi_coder rfl, am_w hts zs_coder rfl⟩ ⟨am_Zp.blind, zr, fun U hU hW => am_Zp.to hZ hU hW (fun q _ _ => rfl)⟩ rfl rfl (by rw [hml]; exact hl.1) rfl (Nat.le_of_ble_eq_true rfl) zd_length_6 ⟨Nat.zero_le _, Nat.zero_le _⟩) ?_
  refine lv_ishr hx hb zd_length_9 ?_
  have e9 : Int32.ofNat (am_strs.getD j []).length >>> ((0 : Int32) &&& 31) = nI (am_strs.getD j []).length := am_zsh j hj
  rw [e9]
  exact W.iret hx hb hr (fun t ht hW => ⟨rfl, ht⟩) (fun _ hq => nomatch hq) zd_length_10
set_option maxHeartbeats 4000000 in
theorem zm_charAt (l : Launch) (ad : Nat → Nat) (A : Nat → Prop) (H0 : Heap) (j : Nat) (hj : j < 8) (x : Int32) (hx0 : vp_in x (am_strs.getD j []).length) : Met l yZ_charAt (Cond.code yZ_charAt prog_21_method_56_code 2 (some .char) :: am_TT) ({ frames := 7, cells := 0, slots := 0, locals := 200 } : Jvm.Room) (am_Zp ad A H0 [.ref (ad j), .int x]) (am_Zq (some (.int (nI ((am_strs.getD j []).getD x.toNatClampNeg 0))))) 0 0 (fun _ => False) := by
  refine Met.ofW (cc := prog_21_method_56_code) (maxL := 2) (ret := (some .char)) (by decide) rfl ?_
  intro p e s m args below meth c s₁ B hml hv
  obtain ⟨rfl, rfl, hZ⟩ := hv
  have hx := B.exec
  have hb := B.bytes
  have hr := B.returns
  have hts : ∀ w ∈ am_TT, w.before _ s = true := fun w hw => atoms_spec B.pre w (List.mem_cons_of_mem _ hw)
  have hown : s.vm.findClass "java/lang/String" = some m.cls := findClass_of_methodNamed B.named
  have hlk := B.notSynchronized
  have hS : va_S A s.heap s.heap [] := va_S.rf
  have hl := lv_entry [Value.ref (ad j), .int x] (n := 2) (Nat.le_of_ble_eq_true rfl)
  rw [lg_entry_eq]
  generalize (lg_sl [Value.ref (ad j), .int x] ++ List.replicate (2 - (lg_sl [Value.ref (ad j), .int x]).length) Slot.unset).toArray = ls at hl ⊢
  have hl : lv_has ls 2 [(0, .ref (ad j)), (1, .int x)] := hl
  obtain ⟨v, z1, z2, z3, z4⟩ := hZ.1 j hj
  have zr : ∃ cell : Cell, s.heap[ad j]? = some cell ∧ cell.vm.isStatics = false ∧ s.vm.findClass am_ZC = some cell.cls := by obtain ⟨cell, h1, h2, h3, -⟩ := z1; exact ⟨cell, h1, h2, h3⟩
  refine lv_aload_n hx hb zd_charAt_0 rfl (lv_at hl 0 rfl) ?_
  refine am_vrun (va_runV (cc := _) (Ts := am_TT) (own := "java/lang/String") (C := am_ZC) (index := 492) (y := yZ_isLatin1) (n := 0) (b := ad j) (As := []) (bytes := prog_21_method_154_code) (maxL := 1) (ret := (some .boolean)) ⟨hx, hb, rfl, hown, hts⟩ (zm_isLatin1 l ad A s.heap j hj) ⟨callB_of (ws' := am_TT) 0 hts (am_goodc zc_isLatin1) rfl rfl rfl (am_w hts zn_S rfl) (am_w hts zl_492 rfl) ⟨by decide, by decide, by decide +kernel⟩ ⟨by decide, by decide⟩, am_w hts zi_isLatin1 rfl, am_w hts zs_isLatin1 rfl⟩ ⟨am_Zp.blind, zr, fun U hU hW => am_Zp.to hZ hU hW (fun q _ _ => rfl)⟩ rfl rfl (by rw [hml]; exact hl.1) rfl (Nat.le_of_ble_eq_true rfl) zd_charAt_1 ⟨Nat.zero_le _, Nat.zero_le _⟩) ?_
  refine lv_if_eq hx hb zd_charAt_4 (tgt := 16) rfl (fun z => absurd z (by decide)) (fun _ => ?_)
  refine lv_aload_n hx hb zd_charAt_7 rfl (lv_at hl 0 rfl) ?_
  refine vk_getf hx hb z3 hS hown (am_w hts zf_9 rfl) (fun _ h => h) zd_charAt_8 ?_
  refine lv_iload_n hx hb zd_charAt_11 rfl (lv_at hl 1 rfl) ?_
  refine am_vrun (va_runS (cc := _) (Ts := am_TT) (own := "java/lang/String") (index := 495) (y := yZ_charAtL) (n := 2) (As := [.ref v, .int x]) (bytes := prog_22_method_2_code) (maxL := 2) (ret := (some .char)) ⟨hx, hb, rfl, hown, hts⟩ (zm_charAtL l ad A s.heap j v hj x hx0) ⟨callB_of (ws' := am_TT) 2 hts (am_goodc zc_charAtL) rfl rfl rfl (am_w hts zn_L rfl) (am_w hts zl_495 rfl) ⟨by decide, by decide, by decide +kernel⟩ ⟨by decide, by decide⟩, am_w hts zt_charAtL rfl⟩ ⟨am_Zp1.blind, fun U hU hW => ⟨am_Zp.to hZ hU hW (fun q _ _ => rfl), by rw [hU]; exact am_ST1.moved hW.alike ⟨z1, z2, z3, z4⟩⟩⟩ rfl rfl (by rw [hml]; exact hl.1) rfl (Nat.le_of_ble_eq_true rfl) zd_charAt_12 ⟨Nat.zero_le _, Nat.zero_le _⟩) ?_
  exact W.zret hx hb hr (am_zch j hj _ (Nat.not_le.mp fun q => hx0 (Or.inr q))).2 (fun t ht hW => ⟨rfl, ht⟩) (fun _ hq => nomatch hq) zd_charAt_15
section
variable {G : am_G} {xs : am_X} {own kind : Nat} {cc : ByteArray} {ret : Option FieldType} {p : Program} {l : Launch} {e : Env} {R : Room} {s : State} {m : MethodId} {args : Array Value} {below : List Frame} {meth : Method} {c : Code} {Q : State → Prop} {n0 s0 N1 C1 : Nat} {pc nx : Nat} {op : Instr} {L S L' S' : List Value} {h : am_H} {cal : am_Cal} {hdl : Nat → Nat → Option (Nat × Nat)} {Qq : am_Q}
def am_stro (op : Instr) : Bool := match op with
  | .monitorexit | .instanceof _ => true
  | _ => false
theorem am_adS {G : am_G} {a : Nat} (h : am_S0 ≤ a ∧ a - am_S0 < am_strs.length) : a ≠ 0 ∧ am_ad G a = G.2.2.2.1 (a - am_S0) ∧ a - am_S0 < 8 := by
  have e8 : am_strs.length = 8 := rfl
  have h2 := h.2
  rw [e8] at h2
  have h1 := h.1
  have e1 : am_S0 = 2000000 := rfl
  have e2 : am_top = 1000000 := rfl
  have e3 : am_scr = 3000000 := rfl
  refine ⟨by omega, ?_, h2⟩
  unfold am_ad
  rw [if_neg (by omega), if_pos (by omega)]
set_option maxHeartbeats 4000000 in
theorem am_strW (E : am_Env G xs own kind cc p R s m args meth c) (hop : am_stro op = true) (ok : am_okb own kind cc ret pc op nx = true)
    (HS : am_out (am_PP G p l e R s m args below meth c Q n0 s0 N1 C1) cal hdl Qq pc nx L h (am_stp xs op nx S h)) (r1 : N1 - n0 ≤ R.cells) (r2 : C1 - s0 ≤ R.slots) : am_PP G p l e R s m args below meth c Q n0 s0 N1 C1 pc L S h := by
  obtain ⟨hx, hb, hown, hts, hsf, hki, hr1, hr2⟩ := E
  have hST := hsf.2.2.2.2.2.2.2.2.2.2.1
  cases op <;> first | (exfalso; simp only [am_stro] at hop; cases hop; done) | skip
  case monitorexit =>
    simp only [am_stp] at HS
    split at HS
    rotate_left
    · exact HS.elim
    rename_i a S0
    cases hsh : am_sh S0 with
    | false => rw [hsh] at HS; exact HS.elim
    | true =>
    rw [hsh] at HS
    obtain ⟨ha, HS⟩ := (show (am_S0 ≤ a ∧ a - am_S0 < am_strs.length) ∧ am_PP G p l e R s m args below meth c Q n0 s0 N1 C1 nx L (.int (nI (am_strs.getD (a - am_S0) []).length) :: S0) h from HS)
    simp only [am_okb] at ok
    split at ok
    rotate_left
    · cases ok
    rename_i i9 hd
    simp only [Bool.and_eq_true, beq_iff_eq, List.contains_iff_mem] at ok
    obtain ⟨ok, rfl⟩ := ok
    obtain ⟨a0, a1, a2⟩ := am_adS (G := G) ha
    have u1 := HS.1
    have u2 := HS.2.1
    have hW : 2 * (F0 m pc (#[] : Array Slot) []).monitorRoom + ((S0.map (am_v G)).map fun v => v.category).sum ≤ 8 := by
      show 2 * 0 + _ ≤ 8
      have := am_sh_sum (G := G) hsh
      omega
    refine ⟨HS.1, HS.2.1, fun q1 q2 q3 H locs ls hR hS hl => ?_⟩
    obtain ⟨v, z1, z2, z3, z4⟩ := hST.1 _ a2
    have zr : ∃ cell : Cell, H[am_ad G a]? = some cell ∧ cell.vm.isStatics = false ∧ s.vm.findClass am_ZC = some cell.cls := by
      obtain ⟨cell, h1, h2, h3, -⟩ := z1.kept hS.2.1
      rw [a1]
      exact ⟨cell, h1, h2, h3⟩
    rw [List.map_cons, am_v1 G a0]
    refine am_vrun (va_runV (cc := cc) (Ts := am_TT) (own := am_cn own) (C := am_ZC) (index := i9) (y := yZ_length) (n := 0) (b := am_ad G a) (As := []) (bytes := prog_21_method_54_code) (maxL := 1) (ret := (some .int)) ⟨hx, hb, rfl, hown, hts⟩ (zm_length l G.2.2.2.1 (am_A G) H (a - am_S0) a2) ⟨callB_of (ws' := am_TT) 0 hts (am_goodc zc_length) rfl rfl rfl (am_w hts zn_S rfl) (am_w hts (am_s1_ok _ ok) rfl) ⟨by decide, by decide, by decide +kernel⟩ ⟨by show 3 + 1 ≤ _; omega, by show 8 + (1 + 11) + 100 ≤ _; omega⟩, am_w hts zi_length rfl, am_w hts zs_length rfl⟩ ⟨am_Zp.blind, zr, fun U hU hW => by rw [a1]; exact am_Zp.to hST hU hW hS.2.1⟩ rfl rfl (hl.1.trans q3) rfl hW (am_dec_of hd) ⟨by omega, by omega⟩) ?_
    exact HS.2.2 q1 q2 q3 H locs ls hR hS hl
  case instanceof j9 =>
    simp only [am_stp] at HS
    split at HS
    rotate_left
    · exact HS.elim
    rename_i x a S0
    cases hsh : am_sh S0 with
    | false => rw [hsh] at HS; exact HS.elim
    | true =>
    rw [hsh] at HS
    obtain ⟨⟨ha, hin⟩, HS⟩ := (show ((am_S0 ≤ a ∧ a - am_S0 < am_strs.length) ∧ vp_in x (am_strs.getD (a - am_S0) []).length) ∧ am_PP G p l e R s m args below meth c Q n0 s0 N1 C1 nx L (.int (nI ((am_strs.getD (a - am_S0) []).getD x.toNatClampNeg 0)) :: S0) h from HS)
    simp only [am_okb] at ok
    split at ok
    rotate_left
    · cases ok
    rename_i i9 hd
    simp only [Bool.and_eq_true, beq_iff_eq, List.contains_iff_mem] at ok
    obtain ⟨ok, rfl⟩ := ok
    obtain ⟨a0, a1, a2⟩ := am_adS (G := G) ha
    have u1 := HS.1
    have u2 := HS.2.1
    have hW : 2 * (F0 m pc (#[] : Array Slot) []).monitorRoom + ((S0.map (am_v G)).map fun v => v.category).sum ≤ 8 := by
      show 2 * 0 + _ ≤ 8
      have := am_sh_sum (G := G) hsh
      omega
    refine ⟨HS.1, HS.2.1, fun q1 q2 q3 H locs ls hR hS hl => ?_⟩
    obtain ⟨v, z1, z2, z3, z4⟩ := hST.1 _ a2
    have zr : ∃ cell : Cell, H[am_ad G a]? = some cell ∧ cell.vm.isStatics = false ∧ s.vm.findClass am_ZC = some cell.cls := by
      obtain ⟨cell, h1, h2, h3, -⟩ := z1.kept hS.2.1
      rw [a1]
      exact ⟨cell, h1, h2, h3⟩
    rw [List.map_cons, List.map_cons, am_v1 G a0]
    refine am_vrun (va_runV (cc := cc) (Ts := am_TT) (own := am_cn own) (C := am_ZC) (index := i9) (y := yZ_charAt) (n := 1) (b := am_ad G a) (As := [.int x]) (bytes := prog_21_method_56_code) (maxL := 2) (ret := (some .char)) ⟨hx, hb, rfl, hown, hts⟩ (zm_charAt l G.2.2.2.1 (am_A G) H (a - am_S0) a2 x hin) ⟨callB_of (ws' := am_TT) 1 hts (am_goodc zc_charAt) rfl rfl rfl (am_w hts zn_S rfl) (am_w hts (am_s2_ok _ ok) rfl) ⟨by decide, by decide, by decide +kernel⟩ ⟨by show 7 + 1 ≤ _; omega, by show 8 + (2 + 11) + 200 ≤ _; omega⟩, am_w hts zi_charAt rfl, am_w hts zs_charAt rfl⟩ ⟨am_Zp.blind, zr, fun U hU hW => by rw [a1]; exact am_Zp.to hST hU hW hS.2.1⟩ rfl rfl (hl.1.trans q3) rfl hW (am_dec_of hd) ⟨by omega, by omega⟩) ?_
    exact HS.2.2 q1 q2 q3 H locs ls hR hS hl
end
end

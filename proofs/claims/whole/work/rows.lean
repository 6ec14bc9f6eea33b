section
-- ===== PART A: goes FIRST, ahead of the names: the tables' words, and 'selects' of the private methods out of them =====
/-- a private method of a class that the tables say can be made, by its rows of tables_1 -/
def lw_okq (q : MethodName × Nat) : Prop := (q.1.cls ≠ "java/lang/invoke/MethodHandle" ∧ q.1.cls ≠ "java/lang/invoke/VarHandle") ∧ Cond.instantiable q.1.cls q.2 ∈ tables_1 ∧ Cond.privateMethod q.1 ∈ tables_1 ∧ Cond.instanceMethod q.1 ∈ tables_1
theorem lw_p0 : lw_okq (⟨"MultiwayCut", "putWord", "(I)V"⟩, 10) := ⟨⟨by decide +kernel, by decide +kernel⟩, List.mem_of_getElem? (i := 27) (by decide +kernel), List.mem_of_getElem? (i := 277) (by decide +kernel), List.mem_of_getElem? (i := 278) (by decide +kernel)⟩
theorem lw_p1 : lw_okq (⟨"MultiwayCut$Grouping", "makeRound", "(LMultiwayCut$Graph;)Z"⟩, 2) := ⟨⟨by decide +kernel, by decide +kernel⟩, List.mem_of_getElem? (i := 176) (by decide +kernel), List.mem_of_getElem? (i := 349) (by decide +kernel), List.mem_of_getElem? (i := 350) (by decide +kernel)⟩
theorem lw_p2 : lw_okq (⟨"MultiwayCut$Grouping", "grouped", "()I"⟩, 2) := ⟨⟨by decide +kernel, by decide +kernel⟩, List.mem_of_getElem? (i := 176) (by decide +kernel), List.mem_of_getElem? (i := 354) (by decide +kernel), List.mem_of_getElem? (i := 355) (by decide +kernel)⟩
theorem lw_p3 : lw_okq (⟨"MultiwayCut$ExactSearch", "costToEarlier", "(LMultiwayCut$Graph;I)I"⟩, 3) := ⟨⟨by decide +kernel, by decide +kernel⟩, List.mem_of_getElem? (i := 190) (by decide +kernel), List.mem_of_getElem? (i := 377) (by decide +kernel), List.mem_of_getElem? (i := 378) (by decide +kernel)⟩
theorem lw_p4 : lw_okq (⟨"MultiwayCut$NearestSearch", "offer", "(III)V"⟩, 2) := ⟨⟨by decide +kernel, by decide +kernel⟩, List.mem_of_getElem? (i := 208) (by decide +kernel), List.mem_of_getElem? (i := 433) (by decide +kernel), List.mem_of_getElem? (i := 434) (by decide +kernel)⟩
theorem lw_p5 : lw_okq (⟨"java/lang/Throwable", "fillInStackTrace", "(I)Ljava/lang/Throwable;"⟩, 6) := ⟨⟨by decide +kernel, by decide +kernel⟩, List.mem_of_getElem? (i := 504) (by decide +kernel), List.mem_of_getElem? (i := 502) (by decide +kernel), List.mem_of_getElem? (i := 503) (by decide +kernel)⟩
theorem lw_p6 : lw_okq (⟨"MultiwayCut$SetupReader", "advance", "()V"⟩, 13) := ⟨⟨by decide +kernel, by decide +kernel⟩, List.mem_of_getElem? (i := 125) (by decide +kernel), List.mem_of_getElem? (i := 543) (by decide +kernel), List.mem_of_getElem? (i := 544) (by decide +kernel)⟩
theorem lw_p7 : lw_okq (⟨"MultiwayCut$SetupReader", "readGraph", "()Z"⟩, 13) := ⟨⟨by decide +kernel, by decide +kernel⟩, List.mem_of_getElem? (i := 125) (by decide +kernel), List.mem_of_getElem? (i := 548) (by decide +kernel), List.mem_of_getElem? (i := 549) (by decide +kernel)⟩
theorem lw_p8 : lw_okq (⟨"MultiwayCut$SetupReader", "isWord", "(Ljava/lang/String;)Z"⟩, 13) := ⟨⟨by decide +kernel, by decide +kernel⟩, List.mem_of_getElem? (i := 125) (by decide +kernel), List.mem_of_getElem? (i := 553) (by decide +kernel), List.mem_of_getElem? (i := 554) (by decide +kernel)⟩
theorem lw_p9 : lw_okq (⟨"MultiwayCut$SetupReader", "fail", "(I)Z"⟩, 13) := ⟨⟨by decide +kernel, by decide +kernel⟩, List.mem_of_getElem? (i := 125) (by decide +kernel), List.mem_of_getElem? (i := 605) (by decide +kernel), List.mem_of_getElem? (i := 606) (by decide +kernel)⟩
theorem lw_p10 : lw_okq (⟨"MultiwayCut$SetupReader", "numberHere", "(II)I"⟩, 13) := ⟨⟨by decide +kernel, by decide +kernel⟩, List.mem_of_getElem? (i := 125) (by decide +kernel), List.mem_of_getElem? (i := 609) (by decide +kernel), List.mem_of_getElem? (i := 610) (by decide +kernel)⟩
theorem lw_p11 : lw_okq (⟨"MultiwayCut$SetupReader", "readSymbol", "(I)Z"⟩, 13) := ⟨⟨by decide +kernel, by decide +kernel⟩, List.mem_of_getElem? (i := 125) (by decide +kernel), List.mem_of_getElem? (i := 613) (by decide +kernel), List.mem_of_getElem? (i := 614) (by decide +kernel)⟩
theorem lw_p12 : lw_okq (⟨"MultiwayCut$SetupReader", "readStatement", "()Z"⟩, 13) := ⟨⟨by decide +kernel, by decide +kernel⟩, List.mem_of_getElem? (i := 125) (by decide +kernel), List.mem_of_getElem? (i := 617) (by decide +kernel), List.mem_of_getElem? (i := 618) (by decide +kernel)⟩
theorem lw_p13 : lw_okq (⟨"MultiwayCut$SetupReader", "readTerminal", "()Z"⟩, 13) := ⟨⟨by decide +kernel, by decide +kernel⟩, List.mem_of_getElem? (i := 125) (by decide +kernel), List.mem_of_getElem? (i := 622) (by decide +kernel), List.mem_of_getElem? (i := 623) (by decide +kernel)⟩
theorem lw_p14 : lw_okq (⟨"MultiwayCut$SetupReader", "vertexHere", "()I"⟩, 13) := ⟨⟨by decide +kernel, by decide +kernel⟩, List.mem_of_getElem? (i := 125) (by decide +kernel), List.mem_of_getElem? (i := 627) (by decide +kernel), List.mem_of_getElem? (i := 628) (by decide +kernel)⟩
theorem lw_p15 : lw_okq (⟨"MultiwayCut$SetupReader", "readEdge", "()Z"⟩, 13) := ⟨⟨by decide +kernel, by decide +kernel⟩, List.mem_of_getElem? (i := 125) (by decide +kernel), List.mem_of_getElem? (i := 633) (by decide +kernel), List.mem_of_getElem? (i := 634) (by decide +kernel)⟩
def lw_privs_1 : List (MethodName × Nat) := [(⟨"MultiwayCut", "putWord", "(I)V"⟩, 10), (⟨"MultiwayCut$Grouping", "makeRound", "(LMultiwayCut$Graph;)Z"⟩, 2), (⟨"MultiwayCut$Grouping", "grouped", "()I"⟩, 2), (⟨"MultiwayCut$ExactSearch", "costToEarlier", "(LMultiwayCut$Graph;I)I"⟩, 3), (⟨"MultiwayCut$NearestSearch", "offer", "(III)V"⟩, 2), (⟨"java/lang/Throwable", "fillInStackTrace", "(I)Ljava/lang/Throwable;"⟩, 6), (⟨"MultiwayCut$SetupReader", "advance", "()V"⟩, 13), (⟨"MultiwayCut$SetupReader", "readGraph", "()Z"⟩, 13), (⟨"MultiwayCut$SetupReader", "isWord", "(Ljava/lang/String;)Z"⟩, 13), (⟨"MultiwayCut$SetupReader", "fail", "(I)Z"⟩, 13), (⟨"MultiwayCut$SetupReader", "numberHere", "(II)I"⟩, 13), (⟨"MultiwayCut$SetupReader", "readSymbol", "(I)Z"⟩, 13), (⟨"MultiwayCut$SetupReader", "readStatement", "()Z"⟩, 13), (⟨"MultiwayCut$SetupReader", "readTerminal", "()Z"⟩, 13), (⟨"MultiwayCut$SetupReader", "vertexHere", "()I"⟩, 13), (⟨"MultiwayCut$SetupReader", "readEdge", "()Z"⟩, 13)]
theorem lw_r1 : ∀ q ∈ lw_privs_1, lw_okq q := List.forall_mem_cons.mpr ⟨lw_p0, List.forall_mem_cons.mpr ⟨lw_p1, List.forall_mem_cons.mpr ⟨lw_p2, List.forall_mem_cons.mpr ⟨lw_p3, List.forall_mem_cons.mpr ⟨lw_p4, List.forall_mem_cons.mpr ⟨lw_p5, List.forall_mem_cons.mpr ⟨lw_p6, List.forall_mem_cons.mpr ⟨lw_p7, List.forall_mem_cons.mpr ⟨lw_p8, List.forall_mem_cons.mpr ⟨lw_p9, List.forall_mem_cons.mpr ⟨lw_p10, List.forall_mem_cons.mpr ⟨lw_p11, List.forall_mem_cons.mpr ⟨lw_p12, List.forall_mem_cons.mpr ⟨lw_p13, List.forall_mem_cons.mpr ⟨lw_p14, List.forall_mem_cons.mpr ⟨lw_p15, fun _ h => absurd h List.not_mem_nil⟩⟩⟩⟩⟩⟩⟩⟩⟩⟩⟩⟩⟩⟩⟩⟩
theorem lw_p16 : lw_okq (⟨"MultiwayCut$SetupReader", "readLoad", "()Z"⟩, 13) := ⟨⟨by decide +kernel, by decide +kernel⟩, List.mem_of_getElem? (i := 125) (by decide +kernel), List.mem_of_getElem? (i := 654) (by decide +kernel), List.mem_of_getElem? (i := 655) (by decide +kernel)⟩
theorem lw_p17 : lw_okq (⟨"MultiwayCut$SetupReader", "startCost", "()Z"⟩, 13) := ⟨⟨by decide +kernel, by decide +kernel⟩, List.mem_of_getElem? (i := 125) (by decide +kernel), List.mem_of_getElem? (i := 659) (by decide +kernel), List.mem_of_getElem? (i := 660) (by decide +kernel)⟩
theorem lw_p18 : lw_okq (⟨"MultiwayCut$SetupReader", "readSum", "(I)Z"⟩, 13) := ⟨⟨by decide +kernel, by decide +kernel⟩, List.mem_of_getElem? (i := 125) (by decide +kernel), List.mem_of_getElem? (i := 663) (by decide +kernel), List.mem_of_getElem? (i := 664) (by decide +kernel)⟩
theorem lw_p19 : lw_okq (⟨"MultiwayCut$SetupReader", "readTerm", "(I)Z"⟩, 13) := ⟨⟨by decide +kernel, by decide +kernel⟩, List.mem_of_getElem? (i := 125) (by decide +kernel), List.mem_of_getElem? (i := 667) (by decide +kernel), List.mem_of_getElem? (i := 668) (by decide +kernel)⟩
theorem lw_p20 : lw_okq (⟨"MultiwayCut$SetupReader", "readFactor", "(I)Z"⟩, 13) := ⟨⟨by decide +kernel, by decide +kernel⟩, List.mem_of_getElem? (i := 125) (by decide +kernel), List.mem_of_getElem? (i := 671) (by decide +kernel), List.mem_of_getElem? (i := 672) (by decide +kernel)⟩
theorem lw_p21 : lw_okq (⟨"MultiwayCut$SetupReader", "putCode", "(I)V"⟩, 13) := ⟨⟨by decide +kernel, by decide +kernel⟩, List.mem_of_getElem? (i := 125) (by decide +kernel), List.mem_of_getElem? (i := 675) (by decide +kernel), List.mem_of_getElem? (i := 676) (by decide +kernel)⟩
theorem lw_p22 : lw_okq (⟨"MultiwayCut$SetupReader", "finish", "()V"⟩, 13) := ⟨⟨by decide +kernel, by decide +kernel⟩, List.mem_of_getElem? (i := 125) (by decide +kernel), List.mem_of_getElem? (i := 682) (by decide +kernel), List.mem_of_getElem? (i := 683) (by decide +kernel)⟩
theorem lw_p23 : lw_okq (⟨"MultiwayCut", "requireVertex", "(I)V"⟩, 10) := ⟨⟨by decide +kernel, by decide +kernel⟩, List.mem_of_getElem? (i := 27) (by decide +kernel), List.mem_of_getElem? (i := 742) (by decide +kernel), List.mem_of_getElem? (i := 743) (by decide +kernel)⟩
theorem lw_p24 : lw_okq (⟨"MultiwayCut", "requireEdge", "(I)V"⟩, 10) := ⟨⟨by decide +kernel, by decide +kernel⟩, List.mem_of_getElem? (i := 27) (by decide +kernel), List.mem_of_getElem? (i := 770) (by decide +kernel), List.mem_of_getElem? (i := 771) (by decide +kernel)⟩
theorem lw_p25 : lw_okq (⟨"MultiwayCut", "requireTerminal", "(I)V"⟩, 10) := ⟨⟨by decide +kernel, by decide +kernel⟩, List.mem_of_getElem? (i := 27) (by decide +kernel), List.mem_of_getElem? (i := 810) (by decide +kernel), List.mem_of_getElem? (i := 811) (by decide +kernel)⟩
theorem lw_p26 : lw_okq (⟨"MultiwayCut", "requireSomeTerminal", "()V"⟩, 10) := ⟨⟨by decide +kernel, by decide +kernel⟩, List.mem_of_getElem? (i := 27) (by decide +kernel), List.mem_of_getElem? (i := 831) (by decide +kernel), List.mem_of_getElem? (i := 832) (by decide +kernel)⟩
theorem lw_p27 : lw_okq (⟨"MultiwayCut$MoveSearch", "consider", "(LMultiwayCut$Graph;II)V"⟩, 3) := ⟨⟨by decide +kernel, by decide +kernel⟩, List.mem_of_getElem? (i := 223) (by decide +kernel), List.mem_of_getElem? (i := 934) (by decide +kernel), List.mem_of_getElem? (i := 935) (by decide +kernel)⟩
theorem lw_p28 : lw_okq (⟨"MultiwayCut", "requireWeight", "(I)V"⟩, 10) := ⟨⟨by decide +kernel, by decide +kernel⟩, List.mem_of_getElem? (i := 27) (by decide +kernel), List.mem_of_getElem? (i := 981) (by decide +kernel), List.mem_of_getElem? (i := 982) (by decide +kernel)⟩
theorem lw_p29 : lw_okq (⟨"MultiwayCutModel", "right", "(ZI)Z"⟩, 35) := ⟨⟨by decide +kernel, by decide +kernel⟩, List.mem_of_getElem? (i := 1025) (by decide +kernel), List.mem_of_getElem? (i := 1154) (by decide +kernel), List.mem_of_getElem? (i := 1155) (by decide +kernel)⟩
theorem lw_p30 : lw_okq (⟨"MultiwayCutModel", "texts", "()V"⟩, 35) := ⟨⟨by decide +kernel, by decide +kernel⟩, List.mem_of_getElem? (i := 1025) (by decide +kernel), List.mem_of_getElem? (i := 1158) (by decide +kernel), List.mem_of_getElem? (i := 1159) (by decide +kernel)⟩
theorem lw_p31 : lw_okq (⟨"MultiwayCutModel", "takes", "(Ljava/lang/String;)Z"⟩, 35) := ⟨⟨by decide +kernel, by decide +kernel⟩, List.mem_of_getElem? (i := 1025) (by decide +kernel), List.mem_of_getElem? (i := 1163) (by decide +kernel), List.mem_of_getElem? (i := 1164) (by decide +kernel)⟩
def lw_privs_2 : List (MethodName × Nat) := [(⟨"MultiwayCut$SetupReader", "readLoad", "()Z"⟩, 13), (⟨"MultiwayCut$SetupReader", "startCost", "()Z"⟩, 13), (⟨"MultiwayCut$SetupReader", "readSum", "(I)Z"⟩, 13), (⟨"MultiwayCut$SetupReader", "readTerm", "(I)Z"⟩, 13), (⟨"MultiwayCut$SetupReader", "readFactor", "(I)Z"⟩, 13), (⟨"MultiwayCut$SetupReader", "putCode", "(I)V"⟩, 13), (⟨"MultiwayCut$SetupReader", "finish", "()V"⟩, 13), (⟨"MultiwayCut", "requireVertex", "(I)V"⟩, 10), (⟨"MultiwayCut", "requireEdge", "(I)V"⟩, 10), (⟨"MultiwayCut", "requireTerminal", "(I)V"⟩, 10), (⟨"MultiwayCut", "requireSomeTerminal", "()V"⟩, 10), (⟨"MultiwayCut$MoveSearch", "consider", "(LMultiwayCut$Graph;II)V"⟩, 3), (⟨"MultiwayCut", "requireWeight", "(I)V"⟩, 10), (⟨"MultiwayCutModel", "right", "(ZI)Z"⟩, 35), (⟨"MultiwayCutModel", "texts", "()V"⟩, 35), (⟨"MultiwayCutModel", "takes", "(Ljava/lang/String;)Z"⟩, 35)]
theorem lw_r2 : ∀ q ∈ lw_privs_2, lw_okq q := List.forall_mem_cons.mpr ⟨lw_p16, List.forall_mem_cons.mpr ⟨lw_p17, List.forall_mem_cons.mpr ⟨lw_p18, List.forall_mem_cons.mpr ⟨lw_p19, List.forall_mem_cons.mpr ⟨lw_p20, List.forall_mem_cons.mpr ⟨lw_p21, List.forall_mem_cons.mpr ⟨lw_p22, List.forall_mem_cons.mpr ⟨lw_p23, List.forall_mem_cons.mpr ⟨lw_p24, List.forall_mem_cons.mpr ⟨lw_p25, List.forall_mem_cons.mpr ⟨lw_p26, List.forall_mem_cons.mpr ⟨lw_p27, List.forall_mem_cons.mpr ⟨lw_p28, List.forall_mem_cons.mpr ⟨lw_p29, List.forall_mem_cons.mpr ⟨lw_p30, List.forall_mem_cons.mpr ⟨lw_p31, fun _ h => absurd h List.not_mem_nil⟩⟩⟩⟩⟩⟩⟩⟩⟩⟩⟩⟩⟩⟩⟩⟩
theorem lw_p32 : lw_okq (⟨"MultiwayCutModel", "sees", "()I"⟩, 35) := ⟨⟨by decide +kernel, by decide +kernel⟩, List.mem_of_getElem? (i := 1025) (by decide +kernel), List.mem_of_getElem? (i := 1167) (by decide +kernel), List.mem_of_getElem? (i := 1168) (by decide +kernel)⟩
theorem lw_p33 : lw_okq (⟨"MultiwayCutModel", "fails", "(II)V"⟩, 35) := ⟨⟨by decide +kernel, by decide +kernel⟩, List.mem_of_getElem? (i := 1025) (by decide +kernel), List.mem_of_getElem? (i := 1173) (by decide +kernel), List.mem_of_getElem? (i := 1174) (by decide +kernel)⟩
theorem lw_p34 : lw_okq (⟨"MultiwayCutModel", "reads", "(II)I"⟩, 35) := ⟨⟨by decide +kernel, by decide +kernel⟩, List.mem_of_getElem? (i := 1025) (by decide +kernel), List.mem_of_getElem? (i := 1177) (by decide +kernel), List.mem_of_getElem? (i := 1178) (by decide +kernel)⟩
theorem lw_p35 : lw_okq (⟨"MultiwayCutModel", "isDigit", "()Z"⟩, 35) := ⟨⟨by decide +kernel, by decide +kernel⟩, List.mem_of_getElem? (i := 1025) (by decide +kernel), List.mem_of_getElem? (i := 1181) (by decide +kernel), List.mem_of_getElem? (i := 1182) (by decide +kernel)⟩
theorem lw_p36 : lw_okq (⟨"MultiwayCutModel", "wants", "(I)V"⟩, 35) := ⟨⟨by decide +kernel, by decide +kernel⟩, List.mem_of_getElem? (i := 1025) (by decide +kernel), List.mem_of_getElem? (i := 1187) (by decide +kernel), List.mem_of_getElem? (i := 1188) (by decide +kernel)⟩
theorem lw_p37 : lw_okq (⟨"MultiwayCutModel", "statement", "()V"⟩, 35) := ⟨⟨by decide +kernel, by decide +kernel⟩, List.mem_of_getElem? (i := 1025) (by decide +kernel), List.mem_of_getElem? (i := 1191) (by decide +kernel), List.mem_of_getElem? (i := 1192) (by decide +kernel)⟩
theorem lw_p38 : lw_okq (⟨"MultiwayCutModel", "terminalLine", "(I)V"⟩, 35) := ⟨⟨by decide +kernel, by decide +kernel⟩, List.mem_of_getElem? (i := 1025) (by decide +kernel), List.mem_of_getElem? (i := 1196) (by decide +kernel), List.mem_of_getElem? (i := 1197) (by decide +kernel)⟩
theorem lw_p39 : lw_okq (⟨"MultiwayCutModel", "readsVertex", "()I"⟩, 35) := ⟨⟨by decide +kernel, by decide +kernel⟩, List.mem_of_getElem? (i := 1025) (by decide +kernel), List.mem_of_getElem? (i := 1203) (by decide +kernel), List.mem_of_getElem? (i := 1204) (by decide +kernel)⟩
theorem lw_p40 : lw_okq (⟨"MultiwayCutModel", "edgeLine", "(I)V"⟩, 35) := ⟨⟨by decide +kernel, by decide +kernel⟩, List.mem_of_getElem? (i := 1025) (by decide +kernel), List.mem_of_getElem? (i := 1208) (by decide +kernel), List.mem_of_getElem? (i := 1209) (by decide +kernel)⟩
theorem lw_p41 : lw_okq (⟨"MultiwayCutModel", "isJoined", "(II)Z"⟩, 35) := ⟨⟨by decide +kernel, by decide +kernel⟩, List.mem_of_getElem? (i := 1025) (by decide +kernel), List.mem_of_getElem? (i := 1212) (by decide +kernel), List.mem_of_getElem? (i := 1213) (by decide +kernel)⟩
theorem lw_p42 : lw_okq (⟨"MultiwayCutModel", "loadLine", "()V"⟩, 35) := ⟨⟨by decide +kernel, by decide +kernel⟩, List.mem_of_getElem? (i := 1025) (by decide +kernel), List.mem_of_getElem? (i := 1218) (by decide +kernel), List.mem_of_getElem? (i := 1219) (by decide +kernel)⟩
theorem lw_p43 : lw_okq (⟨"MultiwayCutModel", "sum", "()V"⟩, 35) := ⟨⟨by decide +kernel, by decide +kernel⟩, List.mem_of_getElem? (i := 1025) (by decide +kernel), List.mem_of_getElem? (i := 1223) (by decide +kernel), List.mem_of_getElem? (i := 1224) (by decide +kernel)⟩
theorem lw_p44 : lw_okq (⟨"MultiwayCutModel", "term", "()V"⟩, 35) := ⟨⟨by decide +kernel, by decide +kernel⟩, List.mem_of_getElem? (i := 1025) (by decide +kernel), List.mem_of_getElem? (i := 1227) (by decide +kernel), List.mem_of_getElem? (i := 1228) (by decide +kernel)⟩
theorem lw_p45 : lw_okq (⟨"MultiwayCutModel", "factor", "()V"⟩, 35) := ⟨⟨by decide +kernel, by decide +kernel⟩, List.mem_of_getElem? (i := 1025) (by decide +kernel), List.mem_of_getElem? (i := 1231) (by decide +kernel), List.mem_of_getElem? (i := 1232) (by decide +kernel)⟩
theorem lw_p46 : lw_okq (⟨"MultiwayCutModel", "codes", "(II)V"⟩, 35) := ⟨⟨by decide +kernel, by decide +kernel⟩, List.mem_of_getElem? (i := 1025) (by decide +kernel), List.mem_of_getElem? (i := 1235) (by decide +kernel), List.mem_of_getElem? (i := 1236) (by decide +kernel)⟩
theorem lw_p47 : lw_okq (⟨"MultiwayCutModel", "change", "()V"⟩, 35) := ⟨⟨by decide +kernel, by decide +kernel⟩, List.mem_of_getElem? (i := 1025) (by decide +kernel), List.mem_of_getElem? (i := 1242) (by decide +kernel), List.mem_of_getElem? (i := 1243) (by decide +kernel)⟩
def lw_privs_3 : List (MethodName × Nat) := [(⟨"MultiwayCutModel", "sees", "()I"⟩, 35), (⟨"MultiwayCutModel", "fails", "(II)V"⟩, 35), (⟨"MultiwayCutModel", "reads", "(II)I"⟩, 35), (⟨"MultiwayCutModel", "isDigit", "()Z"⟩, 35), (⟨"MultiwayCutModel", "wants", "(I)V"⟩, 35), (⟨"MultiwayCutModel", "statement", "()V"⟩, 35), (⟨"MultiwayCutModel", "terminalLine", "(I)V"⟩, 35), (⟨"MultiwayCutModel", "readsVertex", "()I"⟩, 35), (⟨"MultiwayCutModel", "edgeLine", "(I)V"⟩, 35), (⟨"MultiwayCutModel", "isJoined", "(II)Z"⟩, 35), (⟨"MultiwayCutModel", "loadLine", "()V"⟩, 35), (⟨"MultiwayCutModel", "sum", "()V"⟩, 35), (⟨"MultiwayCutModel", "term", "()V"⟩, 35), (⟨"MultiwayCutModel", "factor", "()V"⟩, 35), (⟨"MultiwayCutModel", "codes", "(II)V"⟩, 35), (⟨"MultiwayCutModel", "change", "()V"⟩, 35)]
theorem lw_r3 : ∀ q ∈ lw_privs_3, lw_okq q := List.forall_mem_cons.mpr ⟨lw_p32, List.forall_mem_cons.mpr ⟨lw_p33, List.forall_mem_cons.mpr ⟨lw_p34, List.forall_mem_cons.mpr ⟨lw_p35, List.forall_mem_cons.mpr ⟨lw_p36, List.forall_mem_cons.mpr ⟨lw_p37, List.forall_mem_cons.mpr ⟨lw_p38, List.forall_mem_cons.mpr ⟨lw_p39, List.forall_mem_cons.mpr ⟨lw_p40, List.forall_mem_cons.mpr ⟨lw_p41, List.forall_mem_cons.mpr ⟨lw_p42, List.forall_mem_cons.mpr ⟨lw_p43, List.forall_mem_cons.mpr ⟨lw_p44, List.forall_mem_cons.mpr ⟨lw_p45, List.forall_mem_cons.mpr ⟨lw_p46, List.forall_mem_cons.mpr ⟨lw_p47, fun _ h => absurd h List.not_mem_nil⟩⟩⟩⟩⟩⟩⟩⟩⟩⟩⟩⟩⟩⟩⟩⟩
theorem lw_p48 : lw_okq (⟨"MultiwayCutModel", "get", "(I)I"⟩, 35) := ⟨⟨by decide +kernel, by decide +kernel⟩, List.mem_of_getElem? (i := 1025) (by decide +kernel), List.mem_of_getElem? (i := 1246) (by decide +kernel), List.mem_of_getElem? (i := 1247) (by decide +kernel)⟩
theorem lw_p49 : lw_okq (⟨"MultiwayCutModel", "put", "(II)V"⟩, 35) := ⟨⟨by decide +kernel, by decide +kernel⟩, List.mem_of_getElem? (i := 1025) (by decide +kernel), List.mem_of_getElem? (i := 1250) (by decide +kernel), List.mem_of_getElem? (i := 1251) (by decide +kernel)⟩
theorem lw_p50 : lw_okq (⟨"MultiwayCutModel", "isTerminal", "(I)Z"⟩, 35) := ⟨⟨by decide +kernel, by decide +kernel⟩, List.mem_of_getElem? (i := 1025) (by decide +kernel), List.mem_of_getElem? (i := 1254) (by decide +kernel), List.mem_of_getElem? (i := 1255) (by decide +kernel)⟩
theorem lw_p51 : lw_okq (⟨"MultiwayCutModel", "count", "()I"⟩, 35) := ⟨⟨by decide +kernel, by decide +kernel⟩, List.mem_of_getElem? (i := 1025) (by decide +kernel), List.mem_of_getElem? (i := 1269) (by decide +kernel), List.mem_of_getElem? (i := 1270) (by decide +kernel)⟩
theorem lw_p52 : lw_okq (⟨"MultiwayCutModel", "edges", "()I"⟩, 35) := ⟨⟨by decide +kernel, by decide +kernel⟩, List.mem_of_getElem? (i := 1025) (by decide +kernel), List.mem_of_getElem? (i := 1277) (by decide +kernel), List.mem_of_getElem? (i := 1278) (by decide +kernel)⟩
theorem lw_p53 : lw_okq (⟨"MultiwayCutModel", "isVertex", "(I)Z"⟩, 35) := ⟨⟨by decide +kernel, by decide +kernel⟩, List.mem_of_getElem? (i := 1025) (by decide +kernel), List.mem_of_getElem? (i := 1289) (by decide +kernel), List.mem_of_getElem? (i := 1290) (by decide +kernel)⟩
theorem lw_p54 : lw_okq (⟨"MultiwayCutModel", "laysCosts", "()V"⟩, 35) := ⟨⟨by decide +kernel, by decide +kernel⟩, List.mem_of_getElem? (i := 1025) (by decide +kernel), List.mem_of_getElem? (i := 1298) (by decide +kernel), List.mem_of_getElem? (i := 1299) (by decide +kernel)⟩
theorem lw_p55 : lw_okq (⟨"MultiwayCutModel", "costOf", "(I)I"⟩, 35) := ⟨⟨by decide +kernel, by decide +kernel⟩, List.mem_of_getElem? (i := 1025) (by decide +kernel), List.mem_of_getElem? (i := 1302) (by decide +kernel), List.mem_of_getElem? (i := 1303) (by decide +kernel)⟩
theorem lw_p56 : lw_okq (⟨"MultiwayCutModel", "lengthOf", "(I)I"⟩, 35) := ⟨⟨by decide +kernel, by decide +kernel⟩, List.mem_of_getElem? (i := 1025) (by decide +kernel), List.mem_of_getElem? (i := 1311) (by decide +kernel), List.mem_of_getElem? (i := 1312) (by decide +kernel)⟩
theorem lw_p57 : lw_okq (⟨"MultiwayCutModel", "all", "()I"⟩, 35) := ⟨⟨by decide +kernel, by decide +kernel⟩, List.mem_of_getElem? (i := 1025) (by decide +kernel), List.mem_of_getElem? (i := 1319) (by decide +kernel), List.mem_of_getElem? (i := 1320) (by decide +kernel)⟩
theorem lw_p58 : lw_okq (⟨"MultiwayCutModel", "cutOf", "(I)I"⟩, 35) := ⟨⟨by decide +kernel, by decide +kernel⟩, List.mem_of_getElem? (i := 1025) (by decide +kernel), List.mem_of_getElem? (i := 1323) (by decide +kernel), List.mem_of_getElem? (i := 1324) (by decide +kernel)⟩
theorem lw_p59 : lw_okq (⟨"MultiwayCutModel", "low", "(I)I"⟩, 35) := ⟨⟨by decide +kernel, by decide +kernel⟩, List.mem_of_getElem? (i := 1025) (by decide +kernel), List.mem_of_getElem? (i := 1327) (by decide +kernel), List.mem_of_getElem? (i := 1328) (by decide +kernel)⟩
theorem lw_p60 : lw_okq (⟨"MultiwayCutModel", "high", "(I)I"⟩, 35) := ⟨⟨by decide +kernel, by decide +kernel⟩, List.mem_of_getElem? (i := 1025) (by decide +kernel), List.mem_of_getElem? (i := 1331) (by decide +kernel), List.mem_of_getElem? (i := 1332) (by decide +kernel)⟩
theorem lw_p61 : lw_okq (⟨"MultiwayCutModel", "mustBe", "(I)Z"⟩, 35) := ⟨⟨by decide +kernel, by decide +kernel⟩, List.mem_of_getElem? (i := 1025) (by decide +kernel), List.mem_of_getElem? (i := 1343) (by decide +kernel), List.mem_of_getElem? (i := 1344) (by decide +kernel)⟩
theorem lw_p62 : lw_okq (⟨"MultiwayCutModel", "isolating", "(I)I"⟩, 35) := ⟨⟨by decide +kernel, by decide +kernel⟩, List.mem_of_getElem? (i := 1025) (by decide +kernel), List.mem_of_getElem? (i := 1347) (by decide +kernel), List.mem_of_getElem? (i := 1348) (by decide +kernel)⟩
theorem lw_p63 : lw_okq (⟨"MultiwayCutModel", "bestSet", "(IIZ)I"⟩, 35) := ⟨⟨by decide +kernel, by decide +kernel⟩, List.mem_of_getElem? (i := 1025) (by decide +kernel), List.mem_of_getElem? (i := 1351) (by decide +kernel), List.mem_of_getElem? (i := 1352) (by decide +kernel)⟩
def lw_privs_4 : List (MethodName × Nat) := [(⟨"MultiwayCutModel", "get", "(I)I"⟩, 35), (⟨"MultiwayCutModel", "put", "(II)V"⟩, 35), (⟨"MultiwayCutModel", "isTerminal", "(I)Z"⟩, 35), (⟨"MultiwayCutModel", "count", "()I"⟩, 35), (⟨"MultiwayCutModel", "edges", "()I"⟩, 35), (⟨"MultiwayCutModel", "isVertex", "(I)Z"⟩, 35), (⟨"MultiwayCutModel", "laysCosts", "()V"⟩, 35), (⟨"MultiwayCutModel", "costOf", "(I)I"⟩, 35), (⟨"MultiwayCutModel", "lengthOf", "(I)I"⟩, 35), (⟨"MultiwayCutModel", "all", "()I"⟩, 35), (⟨"MultiwayCutModel", "cutOf", "(I)I"⟩, 35), (⟨"MultiwayCutModel", "low", "(I)I"⟩, 35), (⟨"MultiwayCutModel", "high", "(I)I"⟩, 35), (⟨"MultiwayCutModel", "mustBe", "(I)Z"⟩, 35), (⟨"MultiwayCutModel", "isolating", "(I)I"⟩, 35), (⟨"MultiwayCutModel", "bestSet", "(IIZ)I"⟩, 35)]
theorem lw_r4 : ∀ q ∈ lw_privs_4, lw_okq q := List.forall_mem_cons.mpr ⟨lw_p48, List.forall_mem_cons.mpr ⟨lw_p49, List.forall_mem_cons.mpr ⟨lw_p50, List.forall_mem_cons.mpr ⟨lw_p51, List.forall_mem_cons.mpr ⟨lw_p52, List.forall_mem_cons.mpr ⟨lw_p53, List.forall_mem_cons.mpr ⟨lw_p54, List.forall_mem_cons.mpr ⟨lw_p55, List.forall_mem_cons.mpr ⟨lw_p56, List.forall_mem_cons.mpr ⟨lw_p57, List.forall_mem_cons.mpr ⟨lw_p58, List.forall_mem_cons.mpr ⟨lw_p59, List.forall_mem_cons.mpr ⟨lw_p60, List.forall_mem_cons.mpr ⟨lw_p61, List.forall_mem_cons.mpr ⟨lw_p62, List.forall_mem_cons.mpr ⟨lw_p63, fun _ h => absurd h List.not_mem_nil⟩⟩⟩⟩⟩⟩⟩⟩⟩⟩⟩⟩⟩⟩⟩⟩
theorem lw_p64 : lw_okq (⟨"MultiwayCutModel", "laysIsolating", "()V"⟩, 35) := ⟨⟨by decide +kernel, by decide +kernel⟩, List.mem_of_getElem? (i := 1025) (by decide +kernel), List.mem_of_getElem? (i := 1364) (by decide +kernel), List.mem_of_getElem? (i := 1365) (by decide +kernel)⟩
theorem lw_p65 : lw_okq (⟨"MultiwayCutModel", "hasTerminal", "()Z"⟩, 35) := ⟨⟨by decide +kernel, by decide +kernel⟩, List.mem_of_getElem? (i := 1025) (by decide +kernel), List.mem_of_getElem? (i := 1372) (by decide +kernel), List.mem_of_getElem? (i := 1373) (by decide +kernel)⟩
theorem lw_p66 : lw_okq (⟨"MultiwayCutModel", "dearestNow", "()I"⟩, 35) := ⟨⟨by decide +kernel, by decide +kernel⟩, List.mem_of_getElem? (i := 1025) (by decide +kernel), List.mem_of_getElem? (i := 1376) (by decide +kernel), List.mem_of_getElem? (i := 1377) (by decide +kernel)⟩
theorem lw_p67 : lw_okq (⟨"MultiwayCutModel", "unionNow", "()I"⟩, 35) := ⟨⟨by decide +kernel, by decide +kernel⟩, List.mem_of_getElem? (i := 1025) (by decide +kernel), List.mem_of_getElem? (i := 1384) (by decide +kernel), List.mem_of_getElem? (i := 1385) (by decide +kernel)⟩
theorem lw_p68 : lw_okq (⟨"MultiwayCutModel", "laysGroups", "()V"⟩, 35) := ⟨⟨by decide +kernel, by decide +kernel⟩, List.mem_of_getElem? (i := 1025) (by decide +kernel), List.mem_of_getElem? (i := 1396) (by decide +kernel), List.mem_of_getElem? (i := 1397) (by decide +kernel)⟩
theorem lw_p69 : lw_okq (⟨"MultiwayCutModel", "goesRound", "()Z"⟩, 35) := ⟨⟨by decide +kernel, by decide +kernel⟩, List.mem_of_getElem? (i := 1025) (by decide +kernel), List.mem_of_getElem? (i := 1400) (by decide +kernel), List.mem_of_getElem? (i := 1401) (by decide +kernel)⟩
theorem lw_p70 : lw_okq (⟨"MultiwayCutModel", "othersOf", "(I)I"⟩, 35) := ⟨⟨by decide +kernel, by decide +kernel⟩, List.mem_of_getElem? (i := 1025) (by decide +kernel), List.mem_of_getElem? (i := 1404) (by decide +kernel), List.mem_of_getElem? (i := 1405) (by decide +kernel)⟩
theorem lw_p71 : lw_okq (⟨"MultiwayCutModel", "exactNow", "()I"⟩, 35) := ⟨⟨by decide +kernel, by decide +kernel⟩, List.mem_of_getElem? (i := 1025) (by decide +kernel), List.mem_of_getElem? (i := 1416) (by decide +kernel), List.mem_of_getElem? (i := 1417) (by decide +kernel)⟩
theorem lw_p72 : lw_okq (⟨"MultiwayCutModel", "laysExact", "(I)I"⟩, 35) := ⟨⟨by decide +kernel, by decide +kernel⟩, List.mem_of_getElem? (i := 1025) (by decide +kernel), List.mem_of_getElem? (i := 1420) (by decide +kernel), List.mem_of_getElem? (i := 1421) (by decide +kernel)⟩
theorem lw_p73 : lw_okq (⟨"MultiwayCutModel", "costBy", "([I)I"⟩, 35) := ⟨⟨by decide +kernel, by decide +kernel⟩, List.mem_of_getElem? (i := 1025) (by decide +kernel), List.mem_of_getElem? (i := 1424) (by decide +kernel), List.mem_of_getElem? (i := 1425) (by decide +kernel)⟩
theorem lw_p74 : lw_okq (⟨"MultiwayCutModel", "goesOn", "(I)Z"⟩, 35) := ⟨⟨by decide +kernel, by decide +kernel⟩, List.mem_of_getElem? (i := 1025) (by decide +kernel), List.mem_of_getElem? (i := 1428) (by decide +kernel), List.mem_of_getElem? (i := 1429) (by decide +kernel)⟩
theorem lw_p75 : lw_okq (⟨"MultiwayCutModel", "laysNear", "()V"⟩, 35) := ⟨⟨by decide +kernel, by decide +kernel⟩, List.mem_of_getElem? (i := 1025) (by decide +kernel), List.mem_of_getElem? (i := 1444) (by decide +kernel), List.mem_of_getElem? (i := 1445) (by decide +kernel)⟩
theorem lw_p76 : lw_okq (⟨"MultiwayCutModel", "laysFar", "(I)V"⟩, 35) := ⟨⟨by decide +kernel, by decide +kernel⟩, List.mem_of_getElem? (i := 1025) (by decide +kernel), List.mem_of_getElem? (i := 1448) (by decide +kernel), List.mem_of_getElem? (i := 1449) (by decide +kernel)⟩
theorem lw_p77 : lw_okq (⟨"MultiwayCutModel", "costNow", "()I"⟩, 35) := ⟨⟨by decide +kernel, by decide +kernel⟩, List.mem_of_getElem? (i := 1025) (by decide +kernel), List.mem_of_getElem? (i := 1464) (by decide +kernel), List.mem_of_getElem? (i := 1465) (by decide +kernel)⟩
theorem lw_p78 : lw_okq (⟨"MultiwayCutModel", "laysMove", "()V"⟩, 35) := ⟨⟨by decide +kernel, by decide +kernel⟩, List.mem_of_getElem? (i := 1025) (by decide +kernel), List.mem_of_getElem? (i := 1486) (by decide +kernel), List.mem_of_getElem? (i := 1487) (by decide +kernel)⟩
theorem lw_p79 : lw_okq (⟨"MultiwayCutModel", "isEdge", "(I)Z"⟩, 35) := ⟨⟨by decide +kernel, by decide +kernel⟩, List.mem_of_getElem? (i := 1025) (by decide +kernel), List.mem_of_getElem? (i := 1515) (by decide +kernel), List.mem_of_getElem? (i := 1516) (by decide +kernel)⟩
def lw_privs_5 : List (MethodName × Nat) := [(⟨"MultiwayCutModel", "laysIsolating", "()V"⟩, 35), (⟨"MultiwayCutModel", "hasTerminal", "()Z"⟩, 35), (⟨"MultiwayCutModel", "dearestNow", "()I"⟩, 35), (⟨"MultiwayCutModel", "unionNow", "()I"⟩, 35), (⟨"MultiwayCutModel", "laysGroups", "()V"⟩, 35), (⟨"MultiwayCutModel", "goesRound", "()Z"⟩, 35), (⟨"MultiwayCutModel", "othersOf", "(I)I"⟩, 35), (⟨"MultiwayCutModel", "exactNow", "()I"⟩, 35), (⟨"MultiwayCutModel", "laysExact", "(I)I"⟩, 35), (⟨"MultiwayCutModel", "costBy", "([I)I"⟩, 35), (⟨"MultiwayCutModel", "goesOn", "(I)Z"⟩, 35), (⟨"MultiwayCutModel", "laysNear", "()V"⟩, 35), (⟨"MultiwayCutModel", "laysFar", "(I)V"⟩, 35), (⟨"MultiwayCutModel", "costNow", "()I"⟩, 35), (⟨"MultiwayCutModel", "laysMove", "()V"⟩, 35), (⟨"MultiwayCutModel", "isEdge", "(I)Z"⟩, 35)]
theorem lw_r5 : ∀ q ∈ lw_privs_5, lw_okq q := List.forall_mem_cons.mpr ⟨lw_p64, List.forall_mem_cons.mpr ⟨lw_p65, List.forall_mem_cons.mpr ⟨lw_p66, List.forall_mem_cons.mpr ⟨lw_p67, List.forall_mem_cons.mpr ⟨lw_p68, List.forall_mem_cons.mpr ⟨lw_p69, List.forall_mem_cons.mpr ⟨lw_p70, List.forall_mem_cons.mpr ⟨lw_p71, List.forall_mem_cons.mpr ⟨lw_p72, List.forall_mem_cons.mpr ⟨lw_p73, List.forall_mem_cons.mpr ⟨lw_p74, List.forall_mem_cons.mpr ⟨lw_p75, List.forall_mem_cons.mpr ⟨lw_p76, List.forall_mem_cons.mpr ⟨lw_p77, List.forall_mem_cons.mpr ⟨lw_p78, List.forall_mem_cons.mpr ⟨lw_p79, fun _ h => absurd h List.not_mem_nil⟩⟩⟩⟩⟩⟩⟩⟩⟩⟩⟩⟩⟩⟩⟩⟩
theorem lw_p80 : lw_okq (⟨"MultiwayCutModel", "areJoined", "(II)Z"⟩, 35) := ⟨⟨by decide +kernel, by decide +kernel⟩, List.mem_of_getElem? (i := 1025) (by decide +kernel), List.mem_of_getElem? (i := 1524) (by decide +kernel), List.mem_of_getElem? (i := 1525) (by decide +kernel)⟩
def lw_privs_6 : List (MethodName × Nat) := [(⟨"MultiwayCutModel", "areJoined", "(II)Z"⟩, 35)]
theorem lw_r6 : ∀ q ∈ lw_privs_6, lw_okq q := List.forall_mem_cons.mpr ⟨lw_p80, fun _ h => absurd h List.not_mem_nil⟩
def lw_privs : List (MethodName × Nat) := lw_privs_1 ++ (lw_privs_2 ++ (lw_privs_3 ++ (lw_privs_4 ++ (lw_privs_5 ++ (lw_privs_6)))))
def lw_tbl : List Cond := k2_sels lw_privs ++ tables_1
theorem lw_privs_ok : ∀ q ∈ lw_privs, lw_okq q := by
  show ∀ q ∈ lw_privs_1 ++ (lw_privs_2 ++ (lw_privs_3 ++ (lw_privs_4 ++ (lw_privs_5 ++ (lw_privs_6))))), lw_okq q
  exact List.forall_mem_append.mpr ⟨lw_r1, List.forall_mem_append.mpr ⟨lw_r2, List.forall_mem_append.mpr ⟨lw_r3, List.forall_mem_append.mpr ⟨lw_r4, List.forall_mem_append.mpr ⟨lw_r5, lw_r6⟩⟩⟩⟩⟩
/-- the streams that the claim lets the run draw from -/
abbrev lw_cs : List Choice := [Jvm.Choice.named "NaN.bits"]
theorem lw_bits : nanBits ∈ lw_cs := by first | decide | exact List.mem_cons_self | simp [lw_cs, nanBits]
end
section
/-! ===== BEGIN words of one list among another's, by their places ===== -/
theorem goodIn_r {big : List Cond} (ws : List Cond) (ps : List Nat) (hp : ws = ps.filterMap (fun i => big[i]?)) (h : ws.all goodWord = true) : GoodIn big ws := by
  intro w hw
  have h1 := List.all_eq_true.mp h w hw
  rw [hp] at hw
  obtain ⟨i, -, hi⟩ := List.mem_filterMap.mp hw
  have hm : w ∈ big := by first | exact List.mem_of_getElem? hi | exact List.getElem?_mem hi
  exact ⟨hm, good_of_word h1⟩
theorem goodIn_app {big a b : List Cond} (ha : GoodIn big a) (hb : GoodIn big b) : GoodIn big (a ++ b) := fun w h => (List.mem_append.mp h).elim (ha w) (hb w)
theorem goodIn_ca {big a b : List Cond} {c : Cond} (ha : GoodIn big (c :: a)) (hb : GoodIn big b) : GoodIn big (c :: (a ++ b)) := fun w h => (List.mem_cons.mp h).elim (fun e => ha w (List.mem_cons.mpr (Or.inl e))) (fun h => (List.mem_append.mp h).elim (fun h => ha w (List.mem_cons.mpr (Or.inr h))) (hb w))
theorem goodIn_sub {big ws : List Cond} (hm : ∀ w ∈ ws, w ∈ big) (h : ws.all goodWord = true) : GoodIn big ws := fun w hw => ⟨hm w hw, good_of_word (List.all_eq_true.mp h w hw)⟩
/-! ===== END ===== -/
/-! ===== BEGIN exceptions that leave a method, and their catching by the caller (launches without stack traces) ===== -/
section VXA
/-! The laws vx_back, vx_callV, vx_callS, vx_callSW, vx_throw0, vx_throwS follow proofs of the library, with one case more: JvmDerived/Free/Laws.lean (Back.of_free), Shelf42/LK1.lean (callV, callS), Shelf/KitTraced.lean (throwNew0V, throwNewS). -/
/-- where a method has thrown q: the class by its name, the cell, what was written, the world -/
def vx_T (XC : String → State → State → Prop) (st : State) (q : Addr) (t : State) (mc ms : Nat) (free : Addr → Prop) : Prop :=
  ∃ (E : String) (ce : Cell) (L : List Loc), XC E st t ∧ t.heap[q]? = some ce ∧ ce.vm = .none ∧ st.vm.findClass E = some ce.cls ∧ st.WarmedH t.vm ∧ st.sameButNew ({ t with vm := st.vm } : State) L mc ms ∧ ∀ z ∈ L, free z.base
def vx_Q (Qc : Array Value → State → Outcome → State → Prop) (XC : String → State → State → Prop) (mc ms : Nat) (free : Addr → Prop) : Array Value → State → Outcome → State → Prop := fun a st o t =>
  (Qc a st o t ∧ ∃ L, FrameEnd st o t L mc ms ∧ ∀ q ∈ L, free q.base) ∨ ∃ q, o = .threw q ∧ vx_T XC st q t mc ms free
/-- a callee that returns or throws -/
def vx_Met (l : Launch) (y : MethodName) (ws : List Cond) (rm : Room) (Pc : Array Value → State → Prop) (Qc : Array Value → State → Outcome → State → Prop) (XC : String → State → State → Prop) (mc ms : Nat) (free : Addr → Prop) : Prop :=
  MetFree l y (headSpec ws rm) Pc (fun _ _ _ _ _ => True) (vx_Q Qc XC mc ms free)
def vx_Post (XC : String → State → State → Prop) (mc ms : Nat) (free : Addr → Prop) : Pt → Array Value → Addr → Pt → Prop := fun A a q B =>
  ∃ (g : JFrame) (mk : MethodId) (t : State) (L : List Loc) (E : String) (ce : Cell), B.U.heap = t.heap ∧ B.U.vm = t.vm ∧ XC E (A.U.calling g mk a) t ∧ t.heap[q]? = some ce ∧ ce.vm = .none ∧ A.U.vm.findClass E = some ce.cls ∧ B.locs = A.locs ++ L ∧ (∀ z ∈ L, free z.base) ∧ B.cells = A.cells + mc ∧ B.slots = A.slots + ms
def vx_Back (l : Launch) (R : Room) (p : Program) (e : Env) (below : List Frame) (s : State) (sargs : Array Value) (y : MethodName) (len W9 : Nat)
    (Pre : Pt → Array Value → Prop) (Post : Pt → Array Value → Option Value → Pt → Prop) (PostX : Pt → Array Value → Addr → Pt → Prop) : Prop :=
  ∀ (m : MethodId) (meth : Method) (c : Code) (A : Pt) (g : JFrame) (ig : Instr) (mk : MethodId) (a : Array Value),
    Stand p l e R s m sargs below meth c A.U A.locs A.cells A.slots → g.method = m → g.locals.size = c.maxLocals → decode c.code g.pc = .ok (ig, len) →
    2 * g.monitorRoom + (g.stack.map fun v => v.category).sum ≤ W9 → A.U.methodNamed? y = some mk → Pre A a →
    (∃ (v : Option Value) (B : Pt), Stand p l e R s m sargs below meth c B.U B.locs B.cells B.slots ∧ Post A a v B ∧
      Steps p.tables e below (doInvoke e (A.U.setTop g) [] mk a).1 (B.U.setTop { g with pc := g.pc + len, stack := v.toList ++ g.stack })) ∨
    (∃ (q : Addr) (B : Pt), Stand p l e R s m sargs below meth c B.U B.locs B.cells B.slots ∧ PostX A a q B ∧
      Steps p.tables e below (doInvoke e (A.U.setTop g) [] mk a).1 ((B.U.setTop g).pushFrame (.throwing q)))
section Payer
variable {l : Launch} {R : Room} {p : Program} {e : Env} {below : List Frame} {s : State} {sargs : Array Value} {y : MethodName} {len W9 : Nat}
theorem vx_back {ws : List Cond} {rm : Room} {Pc : Array Value → State → Prop} {Qc : Array Value → State → Outcome → State → Prop} {XC : String → State → State → Prop} {mc ms : Nat} {free : Addr → Prop} {bytes : ByteArray} {maxL : Nat} {ret : Option FieldType}
    (hM : vx_Met l y ws rm Pc Qc XC mc ms free) (hblind : FrameBlind Pc) (hrc : rm.cells = mc) (hrs : rm.slots = ms)
    (hframes : rm.frames + 1 ≤ R.frames) (hlocals : W9 + (maxL + 11) + rm.locals ≤ R.locals)
    (hws : ∀ w ∈ ws, ∀ a' U, s.WarmedH U.vm → w.before a' U = true) (hcode : Cond.code y bytes maxL ret ∈ ws) (hinit : ∀ a' U, s.WarmedH U.vm → (Cond.initialized y.cls).before a' U = true) :
    vx_Back l R p e below s sargs y len W9 (PreOf R mc ms Pc) (PostOf Qc mc ms free) (vx_Post XC mc ms free) := by
  intro m meth c A g ig mk a X hg hsize hdg hW hn hp
  have h1 : (headSpec ws rm).pre.before a A.U = true := atoms_intro fun w hw => hws w hw _ _ X.warmed
  have h2 : (Cond.code y bytes maxL ret).before a A.U = true := hws _ hcode _ _ X.warmed
  have h3 : (Cond.initialized y.cls).before a A.U = true := hinit _ _ X.warmed
  have h4 : A.cells + (headSpec ws rm).room.cells ≤ R.cells := by rw [show (headSpec ws rm).room.cells = mc from hrc]; exact hp.1
  have h5 : A.slots + (headSpec ws rm).room.slots ≤ R.slots := by rw [show (headSpec ws rm).room.slots = ms from hrs]; exact hp.2.1
  have hPc : Pc a (A.U.calling g mk a) := hblind _ _ _ _ hp.2.2
  obtain ⟨U, Ls, c0, s0⟩ := A
  dsimp only [Pt.U, Pt.locs, Pt.cells, Pt.slots] at h1 h2 h3 h4 h5 X hn hPc ⊢
  obtain ⟨methY, cY, hmY, hcY, -, hlY, -, -, -, -⟩ := Cond.code_spec hn h2
  obtain ⟨kY, hkY, -⟩ := className_of_methodNamed hn
  have hinitY : kY.init = .initialized := Cond.initialized_spec (findClass_of_methodNamed hn) hkY h3
  have h : At U g.method c below := by rw [hg]; exact X.here
  have hlocals9 : W9 + (maxL + 11) + (headSpec ws rm).room.locals ≤ R.locals := hlocals
  have happ : (headSpec ws rm).appliesLoose y e.platform (U.calling g mk a) = true :=
    Spec.appliesLoose_calling (g := g) h hdg hn hkY hinitY
      (X.room_calling (g := g) (R' := (headSpec ws rm).room) hsize hmY hcY hframes (by rw [hlY]; omega) h4 h5) h1
  obtain ⟨mid, hmid⟩ := h.above
  have hfr : (U.setTop g).frames = (.java g :: mid) ++ below := by rw [State.frames_setTop' g h.top, hmid]; rfl
  obtain ⟨o, s₂, hsteps, -, hend, hq⟩ := Steps.callFree hM p X.admits X.cas X.clock (acts := []) hfr happ hPc trivial
  have hq' : vx_Q Qc XC mc ms free a (U.calling g mk a) o s₂ := hq
  rw [State.frames_setTop' g h.top] at hend
  obtain ⟨g₀, hg0⟩ := Option.isSome_iff_exists.mp h.top
  obtain ⟨r, hr⟩ := State.topJava?_eq_some.mp hg0
  have hr' : (({ U with heap := s₂.heap, slotsUsed := s₂.slotsUsed } : State).setVm s₂.vm).frames = .java g₀ :: r := hr
  rcases hq' with ⟨hqc, L, hfe, hL⟩ | ⟨q, rfl, E, ce, L, hx, hce, hcv, hcl, hW₂, hsm, hL⟩
  · obtain ⟨⟨v, rfl⟩, hW₂, e2, q2, q3, q4, q5, q6⟩ := id hfe
    have e3 : s₂ = ({ (U.calling g mk a).setFrames s₂.frames with heap := s₂.heap, slotsUsed := s₂.slotsUsed } : State).setVm s₂.vm := by
      have : s₂ = ({ s₂ with vm := (U.calling g mk a).vm } : State).setVm s₂.vm := rfl
      rw [e2] at this
      exact this
    obtain ⟨c₂, i₂, len₂, hc₂, hd₂, hf₂⟩ := hend
    have hW' : U.WarmedH s₂.vm := hW₂
    have hcc : c₂ = c := by
      have h1 : s₂.code? g.method = U.code? g.method := by
        rw [State.code?_eq, State.code?_eq, hW'.alike.method?]
      exact Option.some.inj (hc₂.symm.trans (h1.trans h.code))
    subst hcc
    have hlen : len₂ = len := by rw [hdg] at hd₂; cases hd₂; rfl
    subst hlen
    have hs₂ : s₂ = (({ U with heap := s₂.heap, slotsUsed := s₂.slotsUsed } : State).setVm s₂.vm).setTop { g with pc := g.pc + len₂, stack := v.toList ++ g.stack } := by
      refine e3.trans ?_
      rw [hf₂, State.calling_eq h.top, State.setFrames_setFrames, State.setTop_of_frames _ hr', hr]
      rfl
    have hsame : U.sameButNew ({ U with heap := s₂.heap, slotsUsed := s₂.slotsUsed } : State) L mc ms := by
      refine ⟨?_, q2, q3, q4, q5, q6⟩
      obtain ⟨t, ht, -⟩ := State.frames_cons hr
      show ({ U with heap := s₂.heap, slotsUsed := s₂.slotsUsed } : State) = { U.setFrames U.frames with heap := s₂.heap, slotsUsed := s₂.slotsUsed }
      rw [State.setFrames_self ht]
    subst hg
    refine Or.inl ⟨v, ⟨(({ U with heap := s₂.heap, slotsUsed := s₂.slotsUsed } : State).setVm s₂.vm), Ls ++ L, c0 + mc, s0 + ms⟩,
      ⟨X.admits, X.cas, X.clock, X.frames, X.room, X.hears, X.method, X.code, (X.here.setHeapUsed s₂.heap s₂.slotsUsed).setVm hW'.alike, X.tail, State.WarmedH.trans X.warmed hW', X.limits, X.bytes, X.same.trans (hsame.setVm s.vm)⟩,
      ⟨g, mk, s₂, L, rfl, rfl, hqc, rfl, hL, rfl, rfl⟩, ?_⟩
    show Steps p.tables e below _ ((({ U with heap := s₂.heap, slotsUsed := s₂.slotsUsed } : State).setVm s₂.vm).setTop { g with pc := g.pc + len₂, stack := v.toList ++ g.stack })
    rw [← hs₂]
    exact hsteps
  · obtain ⟨e2, q2, q3, q4, q5, q6⟩ := id hsm
    have e3 : s₂ = ({ (U.calling g mk a).setFrames s₂.frames with heap := s₂.heap, slotsUsed := s₂.slotsUsed } : State).setVm s₂.vm := by
      have : s₂ = ({ s₂ with vm := (U.calling g mk a).vm } : State).setVm s₂.vm := rfl
      rw [e2] at this
      exact this
    have hf₂ : s₂.frames = .throwing q :: .java g :: U.frames.tail := hend
    have hW' : U.WarmedH s₂.vm := hW₂
    have hs₂ : s₂ = ((({ U with heap := s₂.heap, slotsUsed := s₂.slotsUsed } : State).setVm s₂.vm).setTop g).pushFrame (.throwing q) := by
      refine e3.trans ?_
      rw [hf₂, State.calling_eq h.top, State.setFrames_setFrames, State.pushFrame, State.frames_setTop _ hr', State.setTop_of_frames _ hr', State.setFrames_setFrames, hr]
      rfl
    have hsame : U.sameButNew ({ U with heap := s₂.heap, slotsUsed := s₂.slotsUsed } : State) L mc ms := by
      refine ⟨?_, q2, q3, q4, q5, q6⟩
      obtain ⟨t, ht, -⟩ := State.frames_cons hr
      show ({ U with heap := s₂.heap, slotsUsed := s₂.slotsUsed } : State) = { U.setFrames U.frames with heap := s₂.heap, slotsUsed := s₂.slotsUsed }
      rw [State.setFrames_self ht]
    subst hg
    refine Or.inr ⟨q, ⟨(({ U with heap := s₂.heap, slotsUsed := s₂.slotsUsed } : State).setVm s₂.vm), Ls ++ L, c0 + mc, s0 + ms⟩,
      ⟨X.admits, X.cas, X.clock, X.frames, X.room, X.hears, X.method, X.code, (X.here.setHeapUsed s₂.heap s₂.slotsUsed).setVm hW'.alike, X.tail, State.WarmedH.trans X.warmed hW', X.limits, X.bytes, X.same.trans (hsame.setVm s.vm)⟩,
      ⟨g, mk, s₂, L, E, ce, rfl, rfl, hx, hce, hcv, hcl, rfl, hL, rfl, rfl⟩, ?_⟩
    show Steps p.tables e below _ (((({ U with heap := s₂.heap, slotsUsed := s₂.slotsUsed } : State).setVm s₂.vm).setTop g).pushFrame (.throwing q))
    rw [← hs₂]
    exact hsteps
end Payer
section Calls
variable {p : Program} {l : Launch} {e : Env} {R : Room} {s : State} {m : MethodId} {args : Array Value} {below : List Frame} {meth : Method} {c : Code} {T : State} {locs : List Loc} {cells slots : Nat}
theorem vx_callV (X : Stand p l e R s m args below meth c T locs cells slots) (hexec : p.tables.exec = Jvm.exec) {own C : String} {index : Nat} {y : MethodName} {bytes : ByteArray} {maxL : Nat} {ret : Option FieldType}
    (hown : s.vm.findClass own = some m.cls) (hlink : (Cond.methodLink own index y).before args s = true) (hinst : (Cond.instanceMethod y).before args s = true) (hsel : (Cond.selects C y y).before args s = true)
    (hcode : (Cond.code y bytes maxL ret).before args s = true) (hy : y.cls ≠ "java/lang/invoke/MethodHandle" ∧ y.cls ≠ "java/lang/invoke/VarHandle")
    {W9 : Nat} {Pre : Pt → Array Value → Prop} {Post : Pt → Array Value → Option Value → Pt → Prop} {PostX : Pt → Array Value → Addr → Pt → Prop} (hK : vx_Back l R p e below s args y 3 W9 Pre Post PostX)
    {b : Addr} {cellB : Cell} (hcell : T.heap[b]? = some cellB) (hobj : cellB.vm.isStatics = false) (hcls : s.vm.findClass C = some cellB.cls)
    {g : JFrame} (hg : g.method = m) (hsize : g.locals.size = c.maxLocals) {argsL rest : List Value} (hlen : ∀ sig, parseMethodDescriptor y.desc = some sig → argsL.length = sig.parameters.length)
    (hstack : g.stack = argsL.reverse ++ .ref b :: rest) (hW : 2 * g.monitorRoom + (rest.map fun v => v.category).sum ≤ W9) (hdg : decode c.code g.pc = .ok (.invokevirtual index, 3))
    (hpre : ∀ vm₁, s.WarmedH vm₁ → Pre ⟨T.setVm vm₁, locs, cells, slots⟩ (Value.ref b :: argsL).toArray) :
    (∃ (v : Option Value) (vm₁ : Vm) (B : Pt), s.WarmedH vm₁ ∧ Stand p l e R s m args below meth c B.U B.locs B.cells B.slots ∧ Post ⟨T.setVm vm₁, locs, cells, slots⟩ (Value.ref b :: argsL).toArray v B ∧
      ∀ target, Steps p.tables e below (B.U.setTop { g with pc := g.pc + 3, stack := v.toList ++ rest }) target → Steps p.tables e below (T.setTop g) target) ∨
    (∃ (q : Addr) (vm₁ : Vm) (B : Pt), s.WarmedH vm₁ ∧ Stand p l e R s m args below meth c B.U B.locs B.cells B.slots ∧ PostX ⟨T.setVm vm₁, locs, cells, slots⟩ (Value.ref b :: argsL).toArray q B ∧
      Steps p.tables e below (T.setTop g) ((B.U.setTop { g with stack := rest }).pushFrame (.throwing q))) := by
  obtain ⟨mk, methM, hnamed, hmethM, hstM, habM⟩ := Cond.instanceMethod_spec hinst
  obtain ⟨methM', cM, hmethM', -, -, -, -, -, -, hsigM⟩ := Cond.code_spec hnamed hcode
  cases hmethM.symm.trans hmethM'
  obtain ⟨c2, r2, m2, q1, q2, q3, q4, kP, hkP, hkPi⟩ := Cond.selects_spec hsel
  cases hcls.symm.trans q1
  cases (State.methodFound?_of_named hnamed hy).symm.trans q2
  cases hnamed.symm.trans q3
  have hselP : selectMethod e.platform s.vm cellB.cls mk = .method mk := by rw [Launch.admits_selectMethod X.admits]; exact q4
  obtain ⟨vm₁, X₁, hstep₁⟩ := X.invokevirtual hexec hown hlink hnamed hmethM hstM hkP hkPi hy (a := b) (cell := cellB) hcell
    (fun z h => by rw [h] at hobj; cases hobj) hselP hmethM habM hkP hkPi (g := g) hg (argsL := argsL) (rest := rest) (hlen _ hsigM) hstack hdg
  rcases hK m meth c ⟨T.setVm vm₁, locs, cells, slots⟩ { g with stack := rest } (.invokevirtual index) mk (Value.ref b :: argsL).toArray X₁ hg hsize hdg hW (X₁.named hnamed) (hpre vm₁ X₁.warmed) with ⟨v, B, X', hpost, hsteps⟩ | ⟨q, B, X', hpost, hsteps⟩
  · exact Or.inl ⟨v, vm₁, B, X₁.warmed, X', hpost, fun target h => hstep₁ _ fun acts => by rw [doInvoke_state]; exact hsteps.trans h⟩
  · exact Or.inr ⟨q, vm₁, B, X₁.warmed, X', hpost, hstep₁ _ fun acts => by rw [doInvoke_state]; exact hsteps⟩
theorem vx_callS (X : Stand p l e R s m args below meth c T locs cells slots) (hexec : p.tables.exec = Jvm.exec) {own : String} {index : Nat} {y : MethodName} {bytes : ByteArray} {maxL : Nat} {ret : Option FieldType}
    (hown : s.vm.findClass own = some m.cls) (hlink : (Cond.methodLink own index y).before args s = true) (hstat : (Cond.static y).before args s = true) (hinit : (Cond.initialized y.cls).before args s = true)
    (hcode : (Cond.code y bytes maxL ret).before args s = true) (hy : y.cls ≠ "java/lang/invoke/MethodHandle" ∧ y.cls ≠ "java/lang/invoke/VarHandle")
    {W9 : Nat} {Pre : Pt → Array Value → Prop} {Post : Pt → Array Value → Option Value → Pt → Prop} {PostX : Pt → Array Value → Addr → Pt → Prop} (hK : vx_Back l R p e below s args y 3 W9 Pre Post PostX)
    {g : JFrame} (hg : g.method = m) (hsize : g.locals.size = c.maxLocals) {argsL rest : List Value} (hlen : ∀ sig, parseMethodDescriptor y.desc = some sig → argsL.length = sig.parameters.length)
    (hstack : g.stack = argsL.reverse ++ rest) (hW : 2 * g.monitorRoom + (rest.map fun v => v.category).sum ≤ W9) (hdg : decode c.code g.pc = .ok (.invokestatic index, 3))
    (hpre : ∀ vm₁, s.WarmedH vm₁ → Pre ⟨T.setVm vm₁, locs, cells, slots⟩ argsL.toArray) :
    (∃ (v : Option Value) (vm₁ : Vm) (B : Pt), s.WarmedH vm₁ ∧ Stand p l e R s m args below meth c B.U B.locs B.cells B.slots ∧ Post ⟨T.setVm vm₁, locs, cells, slots⟩ argsL.toArray v B ∧
      ∀ target, Steps p.tables e below (B.U.setTop { g with pc := g.pc + 3, stack := v.toList ++ rest }) target → Steps p.tables e below (T.setTop g) target) ∨
    (∃ (q : Addr) (vm₁ : Vm) (B : Pt), s.WarmedH vm₁ ∧ Stand p l e R s m args below meth c B.U B.locs B.cells B.slots ∧ PostX ⟨T.setVm vm₁, locs, cells, slots⟩ argsL.toArray q B ∧
      Steps p.tables e below (T.setTop g) ((B.U.setTop { g with stack := rest }).pushFrame (.throwing q))) := by
  obtain ⟨mk, hnamed⟩ := Cond.code_named hcode
  obtain ⟨methM, cM, hmethM, -, -, -, -, -, -, hsigM⟩ := Cond.code_spec hnamed hcode
  have hstatic : methM.isStatic = true := Cond.static_spec hnamed hmethM hstat
  obtain ⟨kP, hkP, -⟩ := className_of_methodNamed hnamed
  have hinitP : kP.init = .initialized := Cond.initialized_spec (findClass_of_methodNamed hnamed) hkP hinit
  obtain ⟨vm₁, X₁, hstep₁⟩ := X.invokestatic hexec hown hlink hnamed hmethM hstatic hkP hinitP hy (g := g) hg (argsL := argsL) (rest := rest) (hlen _ hsigM) hstack hdg
  rcases hK m meth c ⟨T.setVm vm₁, locs, cells, slots⟩ { g with stack := rest } (.invokestatic index) mk argsL.toArray X₁ hg hsize hdg hW (X₁.named hnamed) (hpre vm₁ X₁.warmed) with ⟨v, B, X', hpost, hsteps⟩ | ⟨q, B, X', hpost, hsteps⟩
  · exact Or.inl ⟨v, vm₁, B, X₁.warmed, X', hpost, fun target h => hstep₁ _ fun acts => by rw [doInvoke_state]; exact hsteps.trans h⟩
  · exact Or.inr ⟨q, vm₁, B, X₁.warmed, X', hpost, hstep₁ _ fun acts => by rw [doInvoke_state]; exact hsteps⟩
end Calls
theorem vx_cls {s : State} {T : State} {vm₁ : Vm} {E : String} {k : ClassId} (hW : s.WarmedH vm₁) (h : (T.setVm vm₁).vm.findClass E = some k) : s.vm.findClass E = some k := by
  have h1 : vm₁.findClass E = some k := h
  rw [hW.alike.findClass] at h1
  exact h1
/-- the method's frame g, with q thrown over it -/
def vx_W (p : Program) (l : Launch) (e : Env) (R : Room) (s : State) (m : MethodId) (args : Array Value) (below : List Frame) (meth : Method) (c : Code) (H : Heap) (locs : List Loc) (cells slots : Nat) (Q : State → Prop) (g : JFrame) (q : Addr) : Prop :=
  ∀ T : State, T.heap = H → Stand p l e R s m args below meth c T locs cells slots → ∃ t, Steps p.tables e below ((T.setTop g).pushFrame (.throwing q)) t ∧ Q t
def vx_Run (p : Program) (l : Launch) (e : Env) (R : Room) (s : State) (m : MethodId) (args : Array Value) (below : List Frame) (meth : Method) (c : Code) (H : Heap) (locs : List Loc) (cells slots mc ms : Nat) (g : JFrame) (rest : List Value) (Qa : State → Outcome → State → Prop) (XC : String → State → State → Prop) (free : Addr → Prop) : Prop :=
  ∀ T : State, T.heap = H → Stand p l e R s m args below meth c T locs cells slots →
    (∃ (v : Option Value) (st₀ t T' : State) (L : List Loc), st₀.heap = H ∧ Stand p l e R s m args below meth c T' (locs ++ L) (cells + mc) (slots + ms) ∧ (∀ q ∈ L, free q.base) ∧ T'.heap = t.heap ∧ T'.vm = t.vm ∧ Qa st₀ (.returned v) t ∧
      Goes p e below T g T' { g with pc := g.pc + 3, stack := v.toList ++ rest }) ∨
    (∃ (q : Addr) (st₀ t T' : State) (L : List Loc) (E : String) (ce : Cell), st₀.heap = H ∧ Stand p l e R s m args below meth c T' (locs ++ L) (cells + mc) (slots + ms) ∧ (∀ z ∈ L, free z.base) ∧ T'.heap = t.heap ∧ T'.vm = t.vm ∧ XC E st₀ t ∧ t.heap[q]? = some ce ∧ ce.vm = .none ∧ s.vm.findClass E = some ce.cls ∧
      Steps p.tables e below (T.setTop g) ((T'.setTop { g with stack := rest }).pushFrame (.throwing q)))
def vx_X {S : Type} (px : S → Prop) (B : String → S → State → Prop) (A : Nat → Prop) : String → State → State → Prop := fun E st t => ∃ u : S, px u ∧ B E u t ∧ va_F A st t
section Runs
variable {p : Program} {l : Launch} {e : Env} {R : Room} {s : State} {m : MethodId} {args : Array Value} {below : List Frame} {meth : Method} {c : Code} {H : Heap} {locs : List Loc} {cells slots : Nat}
variable {y : MethodName} {bytes cc : ByteArray} {maxL nL mc ms n index : Nat} {ret : Option FieldType} {ws : List Cond} {rm : Room} {Pc : Array Value → State → Prop} {Qc : Array Value → State → Outcome → State → Prop} {XC : String → State → State → Prop} {free : Addr → Prop} {Ts : List Cond} {own C : String} {b : Addr} {As rest : List Value} {g : JFrame}
theorem vx_callBack (cb : CallB R s args own index y bytes maxL ret ws rm mc ms n) (hM : vx_Met l y ws rm Pc Qc XC mc ms free) (hbl : FrameBlind Pc) : vx_Back l R p e below s args y 3 8 (PreOf R mc ms Pc) (PostOf Qc mc ms free) (vx_Post XC mc ms free) := by
  obtain ⟨hrc, hrs, hfr, hlo, hws, hcw, -, hini, -⟩ := cb
  exact vx_back (bytes := bytes) (maxL := maxL) (ret := ret) hM hbl hrc hrs hfr hlo hws hcw (fun a' U hW => word_at hW (Or.inl (by first | rfl | simp [Cond.onTables, Cond.keeps, Cond.steady])) hini)
theorem vx_runV (S : CallFix p m c cc nL s args Ts own) (hM : vx_Met l y ws rm Pc Qc XC mc ms free) (cw : CallW R s args own C index y bytes maxL ret ws rm mc ms n) (hp : PreV s H C b Pc As)
    (hg : g.method = m) (hn : As.length = n) (hsize : g.locals.size = nL) (hstack : g.stack = As.reverse ++ .ref b :: rest) (hW : 2 * g.monitorRoom + (rest.map fun v => v.category).sum ≤ 8) (hdg : decode cc g.pc = .ok (.invokevirtual index, 3)) (hf : cells + mc ≤ R.cells ∧ slots + ms ≤ R.slots) :
    vx_Run p l e R s m args below meth c H locs cells slots mc ms g rest (Qc (Value.ref b :: As).toArray) XC free := by
  have hK : vx_Back l R p e below s args y 3 8 (PreOf R mc ms Pc) (PostOf Qc mc ms free) (vx_Post XC mc ms free) := vx_callBack cw.1 hM hp.1
  obtain ⟨⟨-, -, -, -, -, -, hcode, -, hy, hlen, hl⟩, hin, hse⟩ := cw
  obtain ⟨hx, hb, hml, ho, -⟩ := S
  obtain ⟨-, ⟨cellB, hcB, hoB, hclB⟩, hPc⟩ := hp
  intro T hT X
  rcases vx_callV X hx (C := C) (bytes := bytes) (maxL := maxL) (ret := ret) ho hl hin hse hcode hy hK (by rw [hT]; exact hcB) hoB hclB hg (hsize.trans hml.symm) (argsL := As) (rest := rest) (fun sig h => hn.trans (hlen sig h)) hstack hW (by rw [hb]; exact hdg)
    (fun vm₁ hW₁ => ⟨hf.1, hf.2, hPc (T.setVm vm₁) hT hW₁⟩) with ⟨v, vm₁, ⟨U', l2, c2, s2⟩, hW₁, X', ⟨g', mk, t, L, e1, e2, hq, h1, hL, h2, h3⟩, st⟩ | ⟨q, vm₁, ⟨U', l2, c2, s2⟩, hW₁, X', ⟨g', mk, t, L, E, ce, e1, e2, hq, hce, hcv, hcl, h1, hL, h2, h3⟩, st⟩
  · dsimp only [Pt.U, Pt.locs, Pt.cells, Pt.slots] at X' e1 e2 h1 h2 h3 st
    subst h1; subst h2; subst h3
    exact Or.inl ⟨v, (T.setVm vm₁).calling g' mk (Value.ref b :: As).toArray, t, U', L, hT, X', hL, e1, e2, hq, st⟩
  · dsimp only [Pt.U, Pt.locs, Pt.cells, Pt.slots] at X' e1 e2 h1 h2 h3 st hcl
    subst h1; subst h2; subst h3
    exact Or.inr ⟨q, (T.setVm vm₁).calling g' mk (Value.ref b :: As).toArray, t, U', L, E, ce, hT, X', hL, e1, e2, hq, hce, hcv, vx_cls hW₁ hcl, st⟩
theorem vx_runS (S : CallFix p m c cc nL s args Ts own) (hM : vx_Met l y ws rm Pc Qc XC mc ms free) (cw : CallB R s args own index y bytes maxL ret ws rm mc ms n ∧ (Cond.static y).before args s = true) (hp : PreS s H Pc As)
    (hg : g.method = m) (hn : As.length = n) (hsize : g.locals.size = nL) (hstack : g.stack = As.reverse ++ rest) (hW : 2 * g.monitorRoom + (rest.map fun v => v.category).sum ≤ 8) (hdg : decode cc g.pc = .ok (.invokestatic index, 3)) (hf : cells + mc ≤ R.cells ∧ slots + ms ≤ R.slots) :
    vx_Run p l e R s m args below meth c H locs cells slots mc ms g rest (Qc As.toArray) XC free := by
  have hK : vx_Back l R p e below s args y 3 8 (PreOf R mc ms Pc) (PostOf Qc mc ms free) (vx_Post XC mc ms free) := vx_callBack cw.1 hM hp.1
  obtain ⟨⟨-, -, -, -, -, -, hcode, hini, hy, hlen, hl⟩, hstt⟩ := cw
  obtain ⟨hx, hb, hml, ho, -⟩ := S
  intro T hT X
  rcases vx_callS X hx (bytes := bytes) (maxL := maxL) (ret := ret) ho hl hstt hini hcode hy hK hg (hsize.trans hml.symm) (argsL := As) (rest := rest) (fun sig h => hn.trans (hlen sig h)) hstack hW (by rw [hb]; exact hdg)
    (fun vm₁ hW₁ => ⟨hf.1, hf.2, hp.2 (T.setVm vm₁) hT hW₁⟩) with ⟨v, vm₁, ⟨U', l2, c2, s2⟩, hW₁, X', ⟨g', mk, t, L, e1, e2, hq, h1, hL, h2, h3⟩, st⟩ | ⟨q, vm₁, ⟨U', l2, c2, s2⟩, hW₁, X', ⟨g', mk, t, L, E, ce, e1, e2, hq, hce, hcv, hcl, h1, hL, h2, h3⟩, st⟩
  · dsimp only [Pt.U, Pt.locs, Pt.cells, Pt.slots] at X' e1 e2 h1 h2 h3 st
    subst h1; subst h2; subst h3
    exact Or.inl ⟨v, (T.setVm vm₁).calling g' mk As.toArray, t, U', L, hT, X', hL, e1, e2, hq, st⟩
  · dsimp only [Pt.U, Pt.locs, Pt.cells, Pt.slots] at X' e1 e2 h1 h2 h3 st hcl
    subst h1; subst h2; subst h3
    exact Or.inr ⟨q, (T.setVm vm₁).calling g' mk As.toArray, t, U', L, E, ce, hT, X', hL, e1, e2, hq, hce, hcv, vx_cls hW₁ hcl, st⟩
end Runs
section Rows
variable {p : Program} {l : Launch} {e : Env} {R : Room} {s : State} {m : MethodId} {args : Array Value} {below : List Frame} {meth : Method} {c : Code} {H : Heap} {locs : List Loc} {cells slots : Nat} {Q : State → Prop}
variable {mc ms : Nat} {free : Addr → Prop} {A0 A1 : Nat → Prop} {H0 : Heap} {a : Array Value} {pc : Nat} {ls : Array Slot} {st0 rest : List Value}
theorem vx_keep {st₀ t T' : State} {L : List Loc} (h0 : st₀.heap = H) (e1 : T'.heap = t.heap) (hS : va_S A0 H0 H locs) (hA : ∀ q, q < H.size → A1 q → A0 q) (hf : ∀ q, free q → A0 q) (hL : ∀ q ∈ L, free q.base) (hF : va_F A1 st₀ t) :
    H.size ≤ T'.heap.size ∧ (∀ q : Nat, q < H.size → ¬ A1 q → T'.heap[q]? = H[q]?) ∧ va_S A0 H0 T'.heap (locs ++ L) := by
  obtain ⟨hz, hk⟩ := hF
  rw [h0] at hz hk
  exact ⟨by rw [e1]; exact hz, fun q h1 h2 => by rw [e1]; exact hk q h1 h2,
    ⟨Nat.le_trans hS.1 (by rw [e1]; exact hz), fun q h1 h2 => by rw [e1, hk q (Nat.lt_of_lt_of_le h1 hS.1) (fun z => h2 (hA q (Nat.lt_of_lt_of_le h1 hS.1) z))]; exact hS.2.1 q h1 h2, fun q hq => by
      rcases List.mem_append.mp hq with h | h
      · exact hS.2.2 q h
      · exact hf _ (hL q h)⟩⟩
theorem vx_calli {S SX : Type} {post : Int32 → S → Prop} {px : SX → Prop} {B : S → State → Prop} {BX : String → SX → State → Prop} {AX : Nat → Prop} (hr : vx_Run p l e R s m args below meth c H locs cells slots mc ms (F0 m pc ls st0) rest (va_Qi post B A1 a) (vx_X px BX AX) free) (hS : va_S A0 H0 H locs) (hA : ∀ q, q < H.size → A1 q → A0 q) (hf : ∀ q, free q → A0 q) (hAX : ∀ q, q < H.size → AX q → A0 q)
    (kx : ∀ (E : String) (ce : Cell) (q9 : Addr) (u : SX) (t : State) (H1 : Heap) (locs1 : List Loc), t.heap = H1 → s.vm.Alike t.vm → px u → BX E u t → H.size ≤ H1.size → (∀ q : Nat, q < H.size → ¬ AX q → H1[q]? = H[q]?) → va_S A0 H0 H1 locs1 → H1[q9]? = some ce → ce.vm = .none → s.vm.findClass E = some ce.cls → vx_W p l e R s m args below meth c H1 locs1 (cells + mc) (slots + ms) Q (F0 m pc ls rest) q9)
    (kk : ∀ (r : Int32) (u : S) (t : State) (H1 : Heap) (locs1 : List Loc), t.heap = H1 → s.vm.Alike t.vm → post r u → B u t → H.size ≤ H1.size → (∀ q : Nat, q < H.size → ¬ A1 q → H1[q]? = H[q]?) → va_S A0 H0 H1 locs1 → W p l e R s m args below meth c H1 locs1 (cells + mc) (slots + ms) Q (F0 m (pc + 3) ls (.int r :: rest))) : W p l e R s m args below meth c H locs cells slots Q (F0 m pc ls st0) := by
  intro T hT X
  rcases hr T hT X with ⟨v, st₀, t, T', L, h0, X', hL, e1, e2, ⟨⟨r, u, hv, hp, hb⟩, hF⟩, st⟩ | ⟨q, st₀, t, T', L, E, ce, h0, X', hL, e1, e2, ⟨u, hp, hb, hF⟩, hce, hcv, hcl, st⟩
  · cases hv
    obtain ⟨k1, k2, k3⟩ := vx_keep h0 e1 hS hA hf hL hF
    obtain ⟨t2, a1, b1⟩ := kk r u t T'.heap (locs ++ L) e1.symm (by rw [← e2]; exact X'.warmed.alike) hp hb k1 k2 k3 T' rfl X'
    exact ⟨t2, st t2 a1, b1⟩
  · obtain ⟨k1, k2, k3⟩ := vx_keep h0 e1 hS hAX hf hL hF
    obtain ⟨t2, a1, b1⟩ := kx E ce q u t T'.heap (locs ++ L) e1.symm (by rw [← e2]; exact X'.warmed.alike) hp hb k1 k2 k3 (by rw [e1]; exact hce) hcv hcl T' rfl X'
    exact ⟨t2, st.trans a1, b1⟩
theorem vx_calll {S SX : Type} {post : Int64 → S → Prop} {px : SX → Prop} {B : S → State → Prop} {BX : String → SX → State → Prop} {AX : Nat → Prop} (hr : vx_Run p l e R s m args below meth c H locs cells slots mc ms (F0 m pc ls st0) rest (va_Ql post B A1 a) (vx_X px BX AX) free) (hS : va_S A0 H0 H locs) (hA : ∀ q, q < H.size → A1 q → A0 q) (hf : ∀ q, free q → A0 q) (hAX : ∀ q, q < H.size → AX q → A0 q)
    (kx : ∀ (E : String) (ce : Cell) (q9 : Addr) (u : SX) (t : State) (H1 : Heap) (locs1 : List Loc), t.heap = H1 → s.vm.Alike t.vm → px u → BX E u t → H.size ≤ H1.size → (∀ q : Nat, q < H.size → ¬ AX q → H1[q]? = H[q]?) → va_S A0 H0 H1 locs1 → H1[q9]? = some ce → ce.vm = .none → s.vm.findClass E = some ce.cls → vx_W p l e R s m args below meth c H1 locs1 (cells + mc) (slots + ms) Q (F0 m pc ls rest) q9)
    (kk : ∀ (r : Int64) (u : S) (t : State) (H1 : Heap) (locs1 : List Loc), t.heap = H1 → s.vm.Alike t.vm → post r u → B u t → H.size ≤ H1.size → (∀ q : Nat, q < H.size → ¬ A1 q → H1[q]? = H[q]?) → va_S A0 H0 H1 locs1 → W p l e R s m args below meth c H1 locs1 (cells + mc) (slots + ms) Q (F0 m (pc + 3) ls (.long r :: rest))) : W p l e R s m args below meth c H locs cells slots Q (F0 m pc ls st0) := by
  intro T hT X
  rcases hr T hT X with ⟨v, st₀, t, T', L, h0, X', hL, e1, e2, ⟨⟨r, u, hv, hp, hb⟩, hF⟩, st⟩ | ⟨q, st₀, t, T', L, E, ce, h0, X', hL, e1, e2, ⟨u, hp, hb, hF⟩, hce, hcv, hcl, st⟩
  · cases hv
    obtain ⟨k1, k2, k3⟩ := vx_keep h0 e1 hS hA hf hL hF
    obtain ⟨t2, a1, b1⟩ := kk r u t T'.heap (locs ++ L) e1.symm (by rw [← e2]; exact X'.warmed.alike) hp hb k1 k2 k3 T' rfl X'
    exact ⟨t2, st t2 a1, b1⟩
  · obtain ⟨k1, k2, k3⟩ := vx_keep h0 e1 hS hAX hf hL hF
    obtain ⟨t2, a1, b1⟩ := kx E ce q u t T'.heap (locs ++ L) e1.symm (by rw [← e2]; exact X'.warmed.alike) hp hb k1 k2 k3 (by rw [e1]; exact hce) hcv hcl T' rfl X'
    exact ⟨t2, st.trans a1, b1⟩
theorem vx_callf {S SX : Type} {post : UInt32 → S → Prop} {px : SX → Prop} {B : S → State → Prop} {BX : String → SX → State → Prop} {AX : Nat → Prop} (hr : vx_Run p l e R s m args below meth c H locs cells slots mc ms (F0 m pc ls st0) rest (va_Qf post B A1 a) (vx_X px BX AX) free) (hS : va_S A0 H0 H locs) (hA : ∀ q, q < H.size → A1 q → A0 q) (hf : ∀ q, free q → A0 q) (hAX : ∀ q, q < H.size → AX q → A0 q)
    (kx : ∀ (E : String) (ce : Cell) (q9 : Addr) (u : SX) (t : State) (H1 : Heap) (locs1 : List Loc), t.heap = H1 → s.vm.Alike t.vm → px u → BX E u t → H.size ≤ H1.size → (∀ q : Nat, q < H.size → ¬ AX q → H1[q]? = H[q]?) → va_S A0 H0 H1 locs1 → H1[q9]? = some ce → ce.vm = .none → s.vm.findClass E = some ce.cls → vx_W p l e R s m args below meth c H1 locs1 (cells + mc) (slots + ms) Q (F0 m pc ls rest) q9)
    (kk : ∀ (r : UInt32) (u : S) (t : State) (H1 : Heap) (locs1 : List Loc), t.heap = H1 → s.vm.Alike t.vm → post r u → B u t → H.size ≤ H1.size → (∀ q : Nat, q < H.size → ¬ A1 q → H1[q]? = H[q]?) → va_S A0 H0 H1 locs1 → W p l e R s m args below meth c H1 locs1 (cells + mc) (slots + ms) Q (F0 m (pc + 3) ls (.float r :: rest))) : W p l e R s m args below meth c H locs cells slots Q (F0 m pc ls st0) := by
  intro T hT X
  rcases hr T hT X with ⟨v, st₀, t, T', L, h0, X', hL, e1, e2, ⟨⟨r, u, hv, hp, hb⟩, hF⟩, st⟩ | ⟨q, st₀, t, T', L, E, ce, h0, X', hL, e1, e2, ⟨u, hp, hb, hF⟩, hce, hcv, hcl, st⟩
  · cases hv
    obtain ⟨k1, k2, k3⟩ := vx_keep h0 e1 hS hA hf hL hF
    obtain ⟨t2, a1, b1⟩ := kk r u t T'.heap (locs ++ L) e1.symm (by rw [← e2]; exact X'.warmed.alike) hp hb k1 k2 k3 T' rfl X'
    exact ⟨t2, st t2 a1, b1⟩
  · obtain ⟨k1, k2, k3⟩ := vx_keep h0 e1 hS hAX hf hL hF
    obtain ⟨t2, a1, b1⟩ := kx E ce q u t T'.heap (locs ++ L) e1.symm (by rw [← e2]; exact X'.warmed.alike) hp hb k1 k2 k3 (by rw [e1]; exact hce) hcv hcl T' rfl X'
    exact ⟨t2, st.trans a1, b1⟩
theorem vx_calld {S SX : Type} {post : UInt64 → S → Prop} {px : SX → Prop} {B : S → State → Prop} {BX : String → SX → State → Prop} {AX : Nat → Prop} (hr : vx_Run p l e R s m args below meth c H locs cells slots mc ms (F0 m pc ls st0) rest (va_Qd post B A1 a) (vx_X px BX AX) free) (hS : va_S A0 H0 H locs) (hA : ∀ q, q < H.size → A1 q → A0 q) (hf : ∀ q, free q → A0 q) (hAX : ∀ q, q < H.size → AX q → A0 q)
    (kx : ∀ (E : String) (ce : Cell) (q9 : Addr) (u : SX) (t : State) (H1 : Heap) (locs1 : List Loc), t.heap = H1 → s.vm.Alike t.vm → px u → BX E u t → H.size ≤ H1.size → (∀ q : Nat, q < H.size → ¬ AX q → H1[q]? = H[q]?) → va_S A0 H0 H1 locs1 → H1[q9]? = some ce → ce.vm = .none → s.vm.findClass E = some ce.cls → vx_W p l e R s m args below meth c H1 locs1 (cells + mc) (slots + ms) Q (F0 m pc ls rest) q9)
    (kk : ∀ (r : UInt64) (u : S) (t : State) (H1 : Heap) (locs1 : List Loc), t.heap = H1 → s.vm.Alike t.vm → post r u → B u t → H.size ≤ H1.size → (∀ q : Nat, q < H.size → ¬ A1 q → H1[q]? = H[q]?) → va_S A0 H0 H1 locs1 → W p l e R s m args below meth c H1 locs1 (cells + mc) (slots + ms) Q (F0 m (pc + 3) ls (.double r :: rest))) : W p l e R s m args below meth c H locs cells slots Q (F0 m pc ls st0) := by
  intro T hT X
  rcases hr T hT X with ⟨v, st₀, t, T', L, h0, X', hL, e1, e2, ⟨⟨r, u, hv, hp, hb⟩, hF⟩, st⟩ | ⟨q, st₀, t, T', L, E, ce, h0, X', hL, e1, e2, ⟨u, hp, hb, hF⟩, hce, hcv, hcl, st⟩
  · cases hv
    obtain ⟨k1, k2, k3⟩ := vx_keep h0 e1 hS hA hf hL hF
    obtain ⟨t2, a1, b1⟩ := kk r u t T'.heap (locs ++ L) e1.symm (by rw [← e2]; exact X'.warmed.alike) hp hb k1 k2 k3 T' rfl X'
    exact ⟨t2, st t2 a1, b1⟩
  · obtain ⟨k1, k2, k3⟩ := vx_keep h0 e1 hS hAX hf hL hF
    obtain ⟨t2, a1, b1⟩ := kx E ce q u t T'.heap (locs ++ L) e1.symm (by rw [← e2]; exact X'.warmed.alike) hp hb k1 k2 k3 (by rw [e1]; exact hce) hcv hcl T' rfl X'
    exact ⟨t2, st.trans a1, b1⟩
theorem vx_callv {S SX : Type} {post : S → Prop} {px : SX → Prop} {B : S → State → Prop} {BX : String → SX → State → Prop} {AX : Nat → Prop} (hr : vx_Run p l e R s m args below meth c H locs cells slots mc ms (F0 m pc ls st0) rest (va_Qv post B A1 a) (vx_X px BX AX) free) (hS : va_S A0 H0 H locs) (hA : ∀ q, q < H.size → A1 q → A0 q) (hf : ∀ q, free q → A0 q) (hAX : ∀ q, q < H.size → AX q → A0 q)
    (kx : ∀ (E : String) (ce : Cell) (q9 : Addr) (u : SX) (t : State) (H1 : Heap) (locs1 : List Loc), t.heap = H1 → s.vm.Alike t.vm → px u → BX E u t → H.size ≤ H1.size → (∀ q : Nat, q < H.size → ¬ AX q → H1[q]? = H[q]?) → va_S A0 H0 H1 locs1 → H1[q9]? = some ce → ce.vm = .none → s.vm.findClass E = some ce.cls → vx_W p l e R s m args below meth c H1 locs1 (cells + mc) (slots + ms) Q (F0 m pc ls rest) q9)
    (kk : ∀ (u : S) (t : State) (H1 : Heap) (locs1 : List Loc), t.heap = H1 → s.vm.Alike t.vm → post u → B u t → H.size ≤ H1.size → (∀ q : Nat, q < H.size → ¬ A1 q → H1[q]? = H[q]?) → va_S A0 H0 H1 locs1 → W p l e R s m args below meth c H1 locs1 (cells + mc) (slots + ms) Q (F0 m (pc + 3) ls (rest))) : W p l e R s m args below meth c H locs cells slots Q (F0 m pc ls st0) := by
  intro T hT X
  rcases hr T hT X with ⟨v, st₀, t, T', L, h0, X', hL, e1, e2, ⟨⟨u, hv, hp, hb⟩, hF⟩, st⟩ | ⟨q, st₀, t, T', L, E, ce, h0, X', hL, e1, e2, ⟨u, hp, hb, hF⟩, hce, hcv, hcl, st⟩
  · cases hv
    obtain ⟨k1, k2, k3⟩ := vx_keep h0 e1 hS hA hf hL hF
    obtain ⟨t2, a1, b1⟩ := kk u t T'.heap (locs ++ L) e1.symm (by rw [← e2]; exact X'.warmed.alike) hp hb k1 k2 k3 T' rfl X'
    exact ⟨t2, st t2 a1, b1⟩
  · obtain ⟨k1, k2, k3⟩ := vx_keep h0 e1 hS hAX hf hL hF
    obtain ⟨t2, a1, b1⟩ := kx E ce q u t T'.heap (locs ++ L) e1.symm (by rw [← e2]; exact X'.warmed.alike) hp hb k1 k2 k3 (by rw [e1]; exact hce) hcv hcl T' rfl X'
    exact ⟨t2, st.trans a1, b1⟩
/-- caught by the row x of this method's table; the rows ahead don't take it -/
theorem vx_catch {own name : String} {E : String} {ce : Cell} {q : Addr} (hown : s.vm.findClass own = some m.cls) (pre : List ExceptionTableEntry) (x : ExceptionTableEntry) (suf : List ExceptionTableEntry) (hsplit : c.exceptionTable.toList = pre ++ x :: suf)
    (hpass : ∀ z ∈ pre, covers z pc = false ∨ (z.catchType ≠ 0 ∧ ∃ nm : String, (Cond.classLink own z.catchType nm).before args s = true ∧ va_Nc E nm s)) (hx : covers x pc = true) (h0 : x.catchType ≠ 0)
    (hlink : (Cond.classLink own x.catchType name).before args s = true) (hcast : (Cond.castable E name).before args s = true) (hcell : H[q]? = some ce) (hv : ce.vm = .none) (hcl : s.vm.findClass E = some ce.cls)
    (kk : W p l e R s m args below meth c H locs cells slots Q (F0 m x.handlerPc ls [.ref q])) : vx_W p l e R s m args below meth c H locs cells slots Q (F0 m pc ls rest) q := by
  intro T hT X
  have hpl : e.platform.magicAccessors = ({} : Platform).magicAccessors := by rw [X.admits.platform]
  obtain ⟨c3, c4, hc3, hc4, hasg⟩ := Cond.castable_spec hcast
  cases Option.some.inj (hc3.symm.trans hcl)
  obtain ⟨c5, hc5, hcl5⟩ := Cond.classLink_spec hown hlink e.platform hpl
  cases Option.some.inj (hc4.symm.trans hc5)
  obtain ⟨vm', X', st⟩ := X.thenCaughtThrough q (g := F0 m pc ls rest) rfl (Steps.refl _) (by rw [hT]; exact hcell) (by rw [hv]; rfl) (by obtain ⟨k9, h9, -⟩ := Vm.findClass_spec hcl; exact ⟨k9, h9⟩) pre x suf hsplit
    (fun z hz => by
      rcases hpass z hz with h | ⟨hz0, nm, hl1, hn1⟩
      · exact Or.inl h
      · obtain ⟨c6, hc6, hcl6⟩ := Cond.classLink_spec hown hl1 e.platform hpl
        obtain ⟨a8, b8, h1, h2, h3⟩ := hn1
        cases Option.some.inj (h1.symm.trans hcl)
        cases Option.some.inj (h2.symm.trans hc6)
        exact Or.inr ⟨hz0, _, hcl6, h3⟩) hx (Or.inr ⟨h0, c4, hcl5, hasg⟩)
  obtain ⟨t, a1, b1⟩ := kk (T.setVm vm') hT X'
  exact ⟨t, st.trans a1, b1⟩
end Rows
section Ends
variable {p : Program} {l : Launch} {e : Env} {R : Room} {s : State} {m : MethodId} {args : Array Value} {below : List Frame} {meth : Method} {c : Code} {H : Heap} {locs : List Loc} {cells slots : Nat} {Q : State → Prop}
variable {mc ms : Nat} {free : Addr → Prop} {A0 A1 : Nat → Prop} {H0 : Heap} {a : Array Value} {ls : Array Slot} {st0 rest : List Value}
variable {Qc : Array Value → State → Outcome → State → Prop} {XC : String → State → State → Prop}
/-- what a body that may throw owes at its end -/
def vx_MQ (below : List Frame) (Qc : Array Value → State → Outcome → State → Prop) (XC : String → State → State → Prop) (a : Array Value) (s : State) (mc ms : Nat) (free : Addr → Prop) : State → Prop := fun t =>
  ∃ o, t.status = .running ∧ Ended t below o ∧ vx_Q Qc XC mc ms free a s o t
theorem vx_ret {g : JFrame} {mc ms : Nat} (k : W p l e R s m args below meth c H locs cells slots (MQ below Qc args s mc ms free) g) : W p l e R s m args below meth c H locs cells slots (vx_MQ below Qc XC args s mc ms free) g := by
  intro T hT X
  obtain ⟨t, a1, o, b1, b2, b3, b4⟩ := k T hT X
  exact ⟨t, a1, o, b1, b2, Or.inl ⟨b3, b4⟩⟩
/-- not caught here: it goes on to the caller -/
theorem vx_widen {g : JFrame} {q : Addr} {k n : Nat} (h1 : cells ≤ k) (h2 : slots ≤ n) (kk : vx_W p l e R s m args below meth c H locs k n Q g q) : vx_W p l e R s m args below meth c H locs cells slots Q g q := fun T hT X => kk T hT (stand_widen X h1 h2)
theorem vx_out {pc : Nat} {E : String} {ce : Cell} {q : Addr} {mc ms : Nat} (hout : ∀ x ∈ c.exceptionTable.toList, covers x pc = false) (hlocks : meth.locks = false) (hcell : H[q]? = some ce) (hv : ce.vm = .none) (hcl : s.vm.findClass E = some ce.cls)
    (hx : ∀ t : State, t.heap = H → s.vm.Alike t.vm → XC E s t) (hf : ∀ z ∈ locs, free z.base) (hc : cells ≤ mc) (hs : slots ≤ ms) :
    vx_W p l e R s m args below meth c H locs cells slots (vx_MQ below Qc XC args s mc ms free) (F0 m pc ls rest) q := by
  intro T hT X
  obtain ⟨st1, hrun, hend, hW, hsm⟩ := X.leaveThrown q (g := F0 m pc ls rest) rfl rfl rfl hout hlocks
  have hcell9 : (T.setFrames (.throwing q :: below)).heap[q]? = some ce := by
    show T.heap[q]? = some ce
    rw [hT]; exact hcell
  exact ⟨_, st1, .threw q, hrun, hend, Or.inr ⟨q, rfl, E, ce, locs, hx _ hT hW.alike, hcell9, hv, hcl, hW, hsm.mono hc hs, hf⟩⟩
theorem vx_frame {U : State} {k n : Nat} (h : s.sameButNew ({ U with vm := s.vm } : State) locs k n) : s.heap.size ≤ U.heap.size ∧ ∀ q : Nat, q < s.heap.size → (∀ z ∈ locs, z.base ≠ q) → U.heap[q]? = s.heap[q]? := by
  obtain ⟨-, h2, -, -, -, h6⟩ := h
  refine ⟨h2, fun q hq hz => ?_⟩
  obtain ⟨c9, e1, e2, e3, e4⟩ := h6 q _ (Array.getElem?_eq_getElem hq)
  have hs : c9.slots = (s.heap[q]).slots := Array.ext_getElem? fun i => e4 i fun hm => hz _ hm rfl
  have h9 : c9 = s.heap[q] := by
    rw [hs] at e2
    exact e2
  have e5 : U.heap[q]? = some c9 := e1
  rw [e5, h9, Array.getElem?_eq_getElem hq]
/-- the words of a throw but the four that speak of the heap -/
def vx_no (w : Cond) : Bool := decide (w ≠ .isRef (.static Bundle.tN "UNASSIGNED_STACK" Bundle.steD)) && decide (w ≠ .isRef (.static Bundle.tN "SUPPRESSED_SENTINEL" Bundle.listD)) && decide (w ≠ .laysStatic Bundle.tN "UNASSIGNED_STACK" Bundle.steD) && decide (w ≠ .laysStatic Bundle.tN "SUPPRESSED_SENTINEL" Bundle.listD)
def vx_at0 (own : String) (ic : Nat) (X : String) (names : List String) : List Cond := (Bundle.ownAtoms0 own ic X names).filter vx_no
def vx_atS (own : String) (ic : Nat) (X : String) (names : List String) : List Cond := (Bundle.ownAtoms own ic X names).filter vx_no
/-- a word that the tables alone decide, or a good one -/
def vx_ot (w : Cond) : Bool := w.onTables || goodWord w
theorem vx_ot_at {args a' : Array Value} {s U : State} {w : Cond} (hW : s.WarmedH U.vm) (hvm : s.vm = U.vm) (hg : vx_ot w = true) (h : w.before args s = true) : w.before a' U = true := by
  simp only [vx_ot, Bool.or_eq_true] at hg
  rcases hg with hg | hg
  · exact va_tabs hg hvm h
  · exact word_at hW (good_of_word hg) h
/-- a list's words: the good ones out of the method's own list, the others by premises of their own -/
theorem vx_hat {args : Array Value} {s : State} {L B : List Cond} (h1 : ∀ w ∈ L.filter goodWord, w.before args s = true) (h2 : ∀ w ∈ L.filter (fun w => !goodWord w), w ∈ B) (h3 : ∀ w ∈ B, w.before args s = true) : ∀ w ∈ L, w.before args s = true := by
  intro w hw
  by_cases g : goodWord w = true
  · exact h1 w (List.mem_filter.mpr ⟨hw, g⟩)
  · refine h3 w (h2 w (List.mem_filter.mpr ⟨hw, ?_⟩))
    show (!goodWord w) = true
    cases hgw : goodWord w
    · rfl
    · exact absurd hgw g
theorem vx_c {args : Array Value} {s : State} {w : Cond} {B : List Cond} (h : w.before args s = true) (t : ∀ w ∈ B, w.before args s = true) : ∀ w' ∈ w :: B, w'.before args s = true := fun w' h' => (List.mem_cons.mp h').elim (fun e => by rw [e]; exact h) (t w')
theorem vx_n {args : Array Value} {s : State} : ∀ w ∈ ([] : List Cond), w.before args s = true := fun _ h => nomatch h
theorem vx_own {args : Array Value} {s : State} {L : List Cond} (h1 : ∀ w ∈ L.filter vx_no, w.before args s = true)
    (hU : (Cond.isRef (.static Bundle.tN "UNASSIGNED_STACK" Bundle.steD)).before args s = true) (hN : (Cond.isRef (.static Bundle.tN "SUPPRESSED_SENTINEL" Bundle.listD)).before args s = true)
    (lU : (Cond.laysStatic Bundle.tN "UNASSIGNED_STACK" Bundle.steD).before args s = true) (lN : (Cond.laysStatic Bundle.tN "SUPPRESSED_SENTINEL" Bundle.listD).before args s = true) : ∀ w ∈ L, w.before args s = true := by
  intro w hw
  by_cases e1 : w = .isRef (.static Bundle.tN "UNASSIGNED_STACK" Bundle.steD)
  · rw [e1]; exact hU
  · by_cases e2 : w = .isRef (.static Bundle.tN "SUPPRESSED_SENTINEL" Bundle.listD)
    · rw [e2]; exact hN
    · by_cases e3 : w = .laysStatic Bundle.tN "UNASSIGNED_STACK" Bundle.steD
      · rw [e3]; exact lU
      · by_cases e4 : w = .laysStatic Bundle.tN "SUPPRESSED_SENTINEL" Bundle.listD
        · rw [e4]; exact lN
        · exact h1 w (List.mem_filter.mpr ⟨hw, by unfold vx_no; rw [decide_eq_true e1, decide_eq_true e2, decide_eq_true e3, decide_eq_true e4]; rfl⟩)
/-- where a static field lies, its class's statics cell in H -/
def vx_L (C n d : String) (A : Nat → Prop) (U : State) (H : Heap) : Prop := ∃ (c : ClassId) (k : Class) (i : Nat) (f : Field) (a : Nat) (cell : Cell), U.vm.findClass C = some c ∧ U.fieldFound? C n d = some (c, k, i, f) ∧ f.isStatic = true ∧ k.statics = some a ∧ H[a]? = some cell ∧ cell.vm.isStatics = true ∧ cell.cls = c ∧ f.slot < cell.slots.size ∧ k.staticTypes[f.slot]? = some f.type ∧ ¬ A a
theorem vx_L.moved {C n d : String} {A : Nat → Prop} {u U : State} {H : Heap} (hvm : u.vm.Alike U.vm) (h : vx_L C n d A u H) : vx_L C n d A U H := by
  obtain ⟨c, k, i, f, a, cell, h1, h2, h3, h4, h5, h6, h7, h8, h9, h10⟩ := h
  obtain ⟨k', hi', he⟩ := State.fieldFound?_setVm hvm h2
  exact ⟨c, k', i, f, a, cell, by rw [hvm.findClass]; exact h1, hi', h3, by rw [he]; exact h4, h5, h6, h7, h8, by rw [he]; exact h9, h10⟩
theorem vx_L.kept {C n d : String} {A : Nat → Prop} {U : State} {H H1 : Heap} (h : vx_L C n d A U H) (hq : ∀ a : Nat, a < H.size → ¬ A a → H1[a]? = H[a]?) : vx_L C n d A U H1 := by
  obtain ⟨c, k, i, f, a, cell, h1, h2, h3, h4, h5, h6, h7, h8, h9, h10⟩ := h
  exact ⟨c, k, i, f, a, cell, h1, h2, h3, h4, by rw [hq a (Array.getElem?_eq_some_iff.mp h5).1 h10]; exact h5, h6, h7, h8, h9, h10⟩
theorem vx_L.narrow {C n d : String} {A B : Nat → Prop} {U : State} {H : Heap} (h : vx_L C n d A U H) (hAB : ∀ q, B q → A q) : vx_L C n d B U H := by
  obtain ⟨c, k, i, f, a, cell, h1, h2, h3, h4, h5, h6, h7, h8, h9, h10⟩ := h
  exact ⟨c, k, i, f, a, cell, h1, h2, h3, h4, h5, h6, h7, h8, h9, fun z => h10 (hAB _ z)⟩
theorem vx_L.word {C n d : String} {A : Nat → Prop} {s : State} {args : Array Value} (h : vx_L C n d A s s.heap) : (Cond.laysStatic C n d).before args s = true := by
  obtain ⟨c, k, i, f, a, cell, h1, h2, h3, h4, h5, h6, h7, h8, h9, -⟩ := h
  show (Cond.laysStatic C n d).holds args s none s [] = true
  exact Cond.laysStatic_of h1 h2 h3 h4 h5 h6 h7 h8 h9
/-- .. and what it holds: null or some reference -/
def vx_Zq (C n d : String) (A : Nat → Prop) (U : State) (H : Heap) : Prop := va_Zq C n d A U H ∧ vx_L C n d A U H
theorem vx_Zq.moved {C n d : String} {A : Nat → Prop} {u U : State} {H : Heap} (hvm : u.vm.Alike U.vm) (h : vx_Zq C n d A u H) : vx_Zq C n d A U H := ⟨va_Zq.moved hvm h.1, vx_L.moved hvm h.2⟩
theorem vx_Zq.kept {C n d : String} {A : Nat → Prop} {U : State} {H H1 : Heap} (h : vx_Zq C n d A U H) (hq : ∀ a : Nat, a < H.size → ¬ A a → H1[a]? = H[a]?) : vx_Zq C n d A U H1 := ⟨va_Zq.kept h.1 hq, vx_L.kept h.2 hq⟩
theorem vx_Zq.narrow {C n d : String} {A B : Nat → Prop} {U : State} {H : Heap} (h : vx_Zq C n d A U H) (hAB : ∀ q, B q → A q) : vx_Zq C n d B U H := ⟨va_Zq.narrow h.1 hAB, vx_L.narrow h.2 hAB⟩
theorem vx_Zqof {args : Array Value} {s : State} {C n d : String} {A : Nat → Prop} (hl : (Cond.laysStatic C n d).before args s = true) (hini : (Cond.initialized C).before args s = true) (h : (Cond.isRef (.static C n d)).before args s = true) (hA : ∀ a : Nat, a < s.heap.size → ¬ A a) : vx_Zq C n d A s s.heap := by
  refine ⟨va_Zqof hl hini h hA, ?_⟩
  obtain ⟨c, k, i, f, a, cell, h1, h2, h3, h4, h5, h6, h7, h8, h9⟩ := Cond.laysStatic_spec hl
  exact ⟨c, k, i, f, a, cell, h1, h2, h3, h4, h5, h6, h7, h8, h9, hA a (Array.getElem?_eq_some_iff.mp h5).1⟩
theorem vx_isRef {C n d : String} {v : Value} {A : Nat → Prop} {s : State} {args : Array Value} (h : va_Z C n d v A s s.heap) (hv : v.isRef = true) : (Cond.isRef (.static C n d)).before args s = true := by
  obtain ⟨cf, kf, fi, f, a, cell, h1, h2, h3, h4, h5, h6, h7, -⟩ := h
  have he : (Term.static C n d).eval args s none [] s = some v := by
    simp [Term.eval, State.fieldNamed?, h1, h2, h4, h5, h6, h7]
  simp only [Cond.before, Cond.holds, Cond.value, he]
  cases v <;> simp_all [Value.isRef]
theorem vx_isRefq {C n d : String} {A : Nat → Prop} {s : State} {args : Array Value} (h : va_Zq C n d A s s.heap) : (Cond.isRef (.static C n d)).before args s = true := by
  rcases h with h | ⟨t, h⟩
  · exact vx_isRef h rfl
  · exact vx_isRef h rfl
/-- the same frame, seen from here: as if the method were called anew in this heap -/
theorem vx_rebase {T : State} (X : Stand p l e R s m args below meth c T locs cells slots) {R' : Room} (hf : R'.frames ≤ R.frames) (hl : R'.locals ≤ R.locals) (hc : cells + R'.cells ≤ R.cells) (hs : slots + R'.slots ≤ R.slots) :
    Stand p l e R' ((T.setVm s.vm).setFrames (.invoking m args :: below)) m args below meth c T [] 0 0 := by
  have htop : (T.setVm s.vm).topJava?.isSome := X.here.top
  have hF : ((T.setVm s.vm).setFrames (.invoking m args :: below)).frames = .invoking m args :: below := State.frames_setFrames _ (State.cur_lt_of_top htop)
  obtain ⟨g₀, hg0⟩ := Option.isSome_iff_exists.mp htop
  obtain ⟨r, hr⟩ := State.topJava?_eq_some.mp hg0
  have hl9 : e.platform.stackLimits (T.setVm s.vm).me = e.platform.stackLimits s.me := X.limits
  have hb9 : (T.setVm s.vm).me.stackBytes = s.me.stackBytes := X.bytes
  refine ⟨X.admits, X.cas, X.clock, hF, ?_, X.hears, X.method, X.code, X.here, X.tail, X.warmed, ?_, ?_, ?_⟩
  · have h := X.room
    have hU : ((T.setVm s.vm).setFrames (.invoking m args :: below)).localsInUse = s.localsInUse := by
      rw [State.localsInUse_invoking hF (meth := meth) (c := c) X.method X.code, State.localsInUse_invoking X.frames X.method X.code]
    simp only [State.hasRoom, Bool.and_eq_true, decide_eq_true_eq] at h ⊢
    obtain ⟨⟨⟨⟨h1, h2, h3, h4, h5, h6⟩, h7⟩, h8⟩, h9⟩ := h
    rw [X.frames, List.length_cons] at h2 h3
    have q1 := X.heapSize
    have q2 := X.used
    simp only [hF, hU, List.length_cons, State.stackLimits_setFrames, State.stackBytes_setFrames, hl9, hb9]
    refine ⟨⟨⟨⟨by omega, by omega, by omega, by omega, by omega, h6⟩, ?_⟩, ?_⟩, X.book⟩
    · show T.heap.size + R'.cells ≤ e.platform.maxCells
      omega
    · show T.slotsUsed + R'.slots ≤ e.platform.maxSlots
      omega
  · rw [State.stackLimits_setFrames]; rfl
  · rw [State.stackBytes_setFrames]; rfl
  · refine ⟨?_, Nat.le_refl _, Nat.le_refl _, ?_, ?_, fun a c9 h9 => ⟨c9, h9, rfl, rfl, fun _ _ => rfl⟩⟩
    · obtain ⟨t, ht, -⟩ := State.frames_cons hr
      show T.setVm s.vm = { ((T.setVm s.vm).setFrames (.invoking m args :: below)).setFrames (T.setVm s.vm).frames with heap := T.heap, slotsUsed := T.slotsUsed }
      rw [State.setFrames_setFrames, State.setFrames_self ht]
      rfl
    · show T.slotsUsed = T.slotsUsed + ((T.heap.toList.drop T.heap.size).map (·.slots.size)).sum
      rw [List.drop_eq_nil_of_le (Nat.le_of_eq Array.length_toList)]
      rfl
    · show ((T.heap.toList.drop T.heap.size).map (·.slots.size)).sum ≤ 0
      rw [List.drop_eq_nil_of_le (Nat.le_of_eq Array.length_toList)]
      exact Nat.le_refl _
/-- 'throw new E()': new; dup; invokespecial; athrow -/
theorem vx_throw0 {cc : ByteArray} {pc : Nat} (hexec : p.tables.exec = Jvm.exec) (hb : c.code = cc) (hl : l.stackTraces = false) {own cls : String} {names : List String} {ik ic mc ms : Nat} {A : Nat → Prop}
    (hown : s.vm.findClass own = some m.cls) (hcls : Bundle.fit cls = true) (hnames : ∀ n ∈ names, Bundle.fit n = true)
    (hk : (Cond.classLink own ik cls).before args s = true) (hini : (Cond.initialized cls).before args s = true) (hat : ∀ w ∈ vx_at0 own ic cls names, w.before args s = true)
    (hgood : ∀ w ∈ Cond.classLink own ik cls :: Cond.initialized cls :: vx_at0 own ic cls names, vx_ot w = true)
    (hU : vx_Zq Bundle.tN "UNASSIGNED_STACK" Bundle.steD A s s.heap) (hN : vx_Zq Bundle.tN "SUPPRESSED_SENTINEL" Bundle.listD A s s.heap) (hS : va_S A s.heap H locs) (hsize : ls.size = c.maxLocals)
    (d0 : decode cc pc = .ok (.new ik, 3)) (d3 : decode cc (pc + 3) = .ok (.dup, 1)) (d4 : decode cc (pc + 4) = .ok (.invokespecial ic, 3)) (d7 : decode cc (pc + 7) = .ok (.athrow, 1))
    (hout : ∀ x ∈ c.exceptionTable.toList, covers x (pc + 7) = false)
    (hRframes : names.length + 3 < R.frames) (hRlocals : (rest.map fun v => v.category).sum + (13 * (names.length + 1) + 42) ≤ R.locals) (hRcells : cells + 1 ≤ R.cells) (hRslots : slots + 6 ≤ R.slots) (hlocks : meth.locks = false)
    (hx : ∀ t : State, s.vm.Alike t.vm → H.size ≤ t.heap.size → (∀ q : Nat, q < H.size → t.heap[q]? = H[q]?) → XC cls s t)
    (hf : ∀ z ∈ locs, free z.base) (hc : cells + 1 ≤ mc) (hs : slots + 6 ≤ ms) :
    W p l e R s m args below meth c H locs cells slots (vx_MQ below Qc XC args s mc ms free) (F0 m pc ls rest) := by
  intro T hT X
  have htr : e.platform.stackTraces = false := (show e.platform.stackTraces = l.stackTraces by rw [X.admits.platform]).trans hl
  have Y := vx_rebase X (R' := { frames := R.frames, locals := R.locals, cells := 1, slots := 6 }) (Nat.le_refl _) (Nat.le_refl _) hRcells hRslots
  obtain ⟨s', hA⟩ : ∃ z, z = (T.setVm s.vm).setFrames (.invoking m args :: below) := ⟨_, rfl⟩
  rw [← hA] at Y
  have hvm : s'.vm = s.vm := by rw [hA]; rfl
  have hhp : s'.heap = H := by rw [hA]; exact hT
  have hW0 : s.WarmedH s'.vm := by rw [hvm]; exact State.WarmedH.refl s
  have hat' : ∀ w ∈ vx_at0 own ic cls names, w.before args s' = true := fun w hw => vx_ot_at hW0 hvm.symm (hgood w (List.mem_cons_of_mem _ (List.mem_cons_of_mem _ hw))) (hat w hw)
  have hk' : (Cond.classLink own ik cls).before args s' = true := vx_ot_at hW0 hvm.symm (hgood _ List.mem_cons_self) hk
  have hini' : (Cond.initialized cls).before args s' = true := vx_ot_at hW0 hvm.symm (hgood _ (List.mem_cons_of_mem _ List.mem_cons_self)) hini
  have hU' : vx_Zq Bundle.tN "UNASSIGNED_STACK" Bundle.steD A s' s'.heap := by rw [hhp]; exact vx_Zq.moved hW0.alike (hU.kept hS.2.1)
  have hN' : vx_Zq Bundle.tN "SUPPRESSED_SENTINEL" Bundle.listD A s' s'.heap := by rw [hhp]; exact vx_Zq.moved hW0.alike (hN.kept hS.2.1)
  have h : ∀ w ∈ Bundle.ownAtoms0 own ic cls names, w.before args s' = true := vx_own hat' (vx_isRefq hU'.1) (vx_isRefq hN'.1) hU'.2.word hN'.2.word
  have hown' : s'.vm.findClass own = some m.cls := by rw [hvm]; exact hown
  have hins : (Cond.instantiable cls 6).before args s' = true := h _ (by simp [Bundle.ownAtoms0])
  obtain ⟨vm₁, cX, kX, hfX, hkX, -, -, X₁, st1⟩ := Y.newCold hexec (own := own) (C := cls) (index := ik) (n := 6) hown' hk' hins hini'
    (g := F0 m pc ls rest) rfl (by rw [hb]; exact d0) (Nat.le_refl _) (Nat.le_refl _)
  generalize hT1 : (T.setVm vm₁).pushCell { cls := cX, slots := kX.instanceTypes.map defaultValue, vm := .none } = T1 at X₁ st1
  have hcat : (Value.ref T.heap.size).category = 1 := rfl
  have hcellA : T1.heap[T.heap.size]? = some (freshCell cX kX) := by rw [← hT1]; exact State.heap_pushCell_size _ _
  have d3' : decode c.code (pc + 3) = .ok (.dup, 1) := by rw [hb]; exact d3
  obtain ⟨U, hsteps, hrun, hend, hW, hsame, ce, hce, hO⟩ := X₁.ctorThrow0 hexec htr (own := own) (cls := cls) (names := names) (ic := ic) hown' hcls hnames h (fun x hx => nomatch hx) hfX hkX hcellA (by rw [hhp, hT]; exact Nat.le_refl _)
    (g := { method := m, pc := pc + 4, locals := ls, stack := .ref T.heap.size :: .ref T.heap.size :: rest, locked := none }) rfl hsize rfl rfl (rest := rest) rfl
    (by rw [hb]; exact d4) (by rw [hb]; exact d7) hout hRframes (by simp only [List.map_cons, List.sum_cons, hcat]; omega) hlocks
  obtain ⟨f1, f2⟩ := vx_frame hsame
  rw [hhp] at f1 f2
  have hWs : s.WarmedH U.vm := State.WarmedH.trans hW0 hW
  have hcl : s.vm.findClass cls = some ce.cls := by
    have h9 := hO.cls
    rw [hvm] at h9
    exact h9
  have hall : s.sameButNew ({ U with vm := s.vm } : State) locs mc ms := by
    subst hA
    obtain ⟨e1, e2⟩ := hsame
    rw [State.setFrames_setFrames] at e1
    have h2 : (T.setVm s.vm).sameButNew ({ U with vm := s.vm } : State) [] (0 + 1) (0 + 6) := ⟨e1, e2⟩
    have h3 := X.same.trans h2
    rw [List.append_nil] at h3
    exact h3.mono hc hs
  refine ⟨U, ?_, .threw T.heap.size, hrun, hend, Or.inr ⟨T.heap.size, rfl, cls, ce, locs, hx U hWs.alike f1 (fun q hq => f2 q hq (fun z hz => nomatch hz)), hce, hO.vm, hcl, hWs, hall, hf⟩⟩
  refine st1 _ ?_
  show Steps p.tables e below (T1.setTop { method := m, pc := pc + 3, locals := ls, stack := .ref T.heap.size :: rest, locked := none }) _
  jvm_step X₁.here [X₁.here.top, hexec, d3', Value.category]
  exact hsteps
/-- 'throw new E("text")': new; dup; ldc; invokespecial; athrow -/
theorem vx_throwS {cc : ByteArray} {pc : Nat} (hexec : p.tables.exec = Jvm.exec) (hb : c.code = cc) (hl : l.stackTraces = false) {own cls text : String} {names : List String} {ik is ic mc ms sa : Nat} {A : Nat → Prop}
    (hown : s.vm.findClass own = some m.cls) (hcls : Bundle.fit cls = true) (hnames : ∀ n ∈ names, Bundle.fit n = true)
    (hk : (Cond.classLink own ik cls).before args s = true) (hini : (Cond.initialized cls).before args s = true) (hstr : vk_R own is text sa s) (hat : ∀ w ∈ vx_atS own ic cls names, w.before args s = true)
    (hgood : ∀ w ∈ Cond.classLink own ik cls :: Cond.initialized cls :: vx_atS own ic cls names, vx_ot w = true)
    (hU : vx_Zq Bundle.tN "UNASSIGNED_STACK" Bundle.steD A s s.heap) (hN : vx_Zq Bundle.tN "SUPPRESSED_SENTINEL" Bundle.listD A s s.heap) (hS : va_S A s.heap H locs) (hsize : ls.size = c.maxLocals)
    (d0 : decode cc pc = .ok (.new ik, 3)) (d3 : decode cc (pc + 3) = .ok (.dup, 1)) (d4 : decode cc (pc + 4) = .ok (.ldc is, 2)) (d6 : decode cc (pc + 6) = .ok (.invokespecial ic, 3)) (d9 : decode cc (pc + 9) = .ok (.athrow, 1))
    (hout : ∀ x ∈ c.exceptionTable.toList, covers x (pc + 9) = false)
    (hRframes : names.length + 3 < R.frames) (hRlocals : (rest.map fun v => v.category).sum + (13 * (names.length + 1) + 43) ≤ R.locals) (hRcells : cells + 1 ≤ R.cells) (hRslots : slots + 6 ≤ R.slots) (hlocks : meth.locks = false)
    (hx : ∀ t : State, s.vm.Alike t.vm → H.size ≤ t.heap.size → (∀ q : Nat, q < H.size → t.heap[q]? = H[q]?) → XC cls s t)
    (hf : ∀ z ∈ locs, free z.base) (hc : cells + 1 ≤ mc) (hs : slots + 6 ≤ ms) :
    W p l e R s m args below meth c H locs cells slots (vx_MQ below Qc XC args s mc ms free) (F0 m pc ls rest) := by
  intro T hT X
  have htr : e.platform.stackTraces = false := (show e.platform.stackTraces = l.stackTraces by rw [X.admits.platform]).trans hl
  have Y := vx_rebase X (R' := { frames := R.frames, locals := R.locals, cells := 1, slots := 6 }) (Nat.le_refl _) (Nat.le_refl _) hRcells hRslots
  obtain ⟨s', hA⟩ : ∃ z, z = (T.setVm s.vm).setFrames (.invoking m args :: below) := ⟨_, rfl⟩
  rw [← hA] at Y
  have hvm : s'.vm = s.vm := by rw [hA]; rfl
  have hhp : s'.heap = H := by rw [hA]; exact hT
  have hW0 : s.WarmedH s'.vm := by rw [hvm]; exact State.WarmedH.refl s
  have hat' : ∀ w ∈ vx_atS own ic cls names, w.before args s' = true := fun w hw => vx_ot_at hW0 hvm.symm (hgood w (List.mem_cons_of_mem _ (List.mem_cons_of_mem _ hw))) (hat w hw)
  have hk' : (Cond.classLink own ik cls).before args s' = true := vx_ot_at hW0 hvm.symm (hgood _ List.mem_cons_self) hk
  have hini' : (Cond.initialized cls).before args s' = true := vx_ot_at hW0 hvm.symm (hgood _ (List.mem_cons_of_mem _ List.mem_cons_self)) hini
  have hU' : vx_Zq Bundle.tN "UNASSIGNED_STACK" Bundle.steD A s' s'.heap := by rw [hhp]; exact vx_Zq.moved hW0.alike (hU.kept hS.2.1)
  have hN' : vx_Zq Bundle.tN "SUPPRESSED_SENTINEL" Bundle.listD A s' s'.heap := by rw [hhp]; exact vx_Zq.moved hW0.alike (hN.kept hS.2.1)
  have h : ∀ w ∈ Bundle.ownAtoms own ic cls names, w.before args s' = true := vx_own hat' (vx_isRefq hU'.1) (vx_isRefq hN'.1) hU'.2.word hN'.2.word
  have hown' : s'.vm.findClass own = some m.cls := by rw [hvm]; exact hown
  have hins : (Cond.instantiable cls 6).before args s' = true := h _ (by simp [Bundle.ownAtoms])
  obtain ⟨vm₁, cX, kX, hfX, hkX, -, -, X₁, st1⟩ := Y.newCold hexec (own := own) (C := cls) (index := ik) (n := 6) hown' hk' hins hini'
    (g := F0 m pc ls rest) rfl (by rw [hb]; exact d0) (Nat.le_refl _) (Nat.le_refl _)
  generalize hT1 : (T.setVm vm₁).pushCell { cls := cX, slots := kX.instanceTypes.map defaultValue, vm := .none } = T1 at X₁ st1
  have hcat : (Value.ref T.heap.size).category = 1 := rfl
  have hcellA : T1.heap[T.heap.size]? = some (freshCell cX kX) := by rw [← hT1]; exact State.heap_pushCell_size _ _
  have d3' : decode c.code (pc + 3) = .ok (.dup, 1) := by rw [hb]; exact d3
  have d4' : decode c.code (pc + 4) = .ok (.ldc is, 2) := by rw [hb]; exact d4
  have hstr' : vk_R own is text sa s' := vk_R.warm hW0 hstr
  obtain ⟨U, hsteps, hrun, hend, hW, hsame, ce, hce, hO⟩ := X₁.ctorThrowS hexec htr (own := own) (cls := cls) (names := names) (ic := ic) hown' hcls hnames h (fun x hx => nomatch hx) hfX hkX hcellA (by rw [hhp, hT]; exact Nat.le_refl _) (msg := .ref sa) rfl
    (g := { method := m, pc := pc + 6, locals := ls, stack := .ref sa :: .ref T.heap.size :: .ref T.heap.size :: rest, locked := none }) rfl hsize rfl rfl (rest := rest) rfl
    (by rw [hb]; exact d6) (by rw [hb]; exact d9) hout hRframes (by simp only [List.map_cons, List.sum_cons, hcat]; omega) hlocks
  obtain ⟨f1, f2⟩ := vx_frame hsame
  rw [hhp] at f1 f2
  have hWs : s.WarmedH U.vm := State.WarmedH.trans hW0 hW
  have hcl : s.vm.findClass cls = some ce.cls := by
    have h9 := hO.cls
    rw [hvm] at h9
    exact h9
  have hall : s.sameButNew ({ U with vm := s.vm } : State) locs mc ms := by
    subst hA
    obtain ⟨e1, e2⟩ := hsame
    rw [State.setFrames_setFrames] at e1
    have h2 : (T.setVm s.vm).sameButNew ({ U with vm := s.vm } : State) [] (0 + 1) (0 + 6) := ⟨e1, e2⟩
    have h3 := X.same.trans h2
    rw [List.append_nil] at h3
    exact h3.mono hc hs
  refine ⟨U, ?_, .threw T.heap.size, hrun, hend, Or.inr ⟨T.heap.size, rfl, cls, ce, locs, hx U hWs.alike f1 (fun q hq => f2 q hq (fun z hz => nomatch hz)), hce, hO.vm, hcl, hWs, hall, hf⟩⟩
  refine st1 _ ?_
  show Steps p.tables e below (T1.setTop { method := m, pc := pc + 3, locals := ls, stack := .ref T.heap.size :: rest, locked := none }) _
  jvm_step X₁.here [X₁.here.top, hexec, d3', Value.category]
  exact X₁.ldcString hexec (own := own) (text := text) (index := is) (a := sa) hown' hstr'.1 hstr'.2
    (g := { method := m, pc := pc + 4, locals := ls, stack := .ref T.heap.size :: .ref T.heap.size :: rest, locked := none }) rfl d4' _ hsteps
/-- 'throw new E("text")', the text by a wide index -/
theorem vx_throwSW {cc : ByteArray} {pc : Nat} (hexec : p.tables.exec = Jvm.exec) (hb : c.code = cc) (hl : l.stackTraces = false) {own cls text : String} {names : List String} {ik is ic mc ms sa : Nat} {A : Nat → Prop}
    (hown : s.vm.findClass own = some m.cls) (hcls : Bundle.fit cls = true) (hnames : ∀ n ∈ names, Bundle.fit n = true)
    (hk : (Cond.classLink own ik cls).before args s = true) (hini : (Cond.initialized cls).before args s = true) (hstr : vk_R own is text sa s) (hat : ∀ w ∈ vx_atS own ic cls names, w.before args s = true)
    (hgood : ∀ w ∈ Cond.classLink own ik cls :: Cond.initialized cls :: vx_atS own ic cls names, vx_ot w = true)
    (hU : vx_Zq Bundle.tN "UNASSIGNED_STACK" Bundle.steD A s s.heap) (hN : vx_Zq Bundle.tN "SUPPRESSED_SENTINEL" Bundle.listD A s s.heap) (hS : va_S A s.heap H locs) (hsize : ls.size = c.maxLocals)
    (d0 : decode cc pc = .ok (.new ik, 3)) (d3 : decode cc (pc + 3) = .ok (.dup, 1)) (d4 : decode cc (pc + 4) = .ok (.ldc_w is, 3)) (d7 : decode cc (pc + 7) = .ok (.invokespecial ic, 3)) (d10 : decode cc (pc + 10) = .ok (.athrow, 1))
    (hout : ∀ x ∈ c.exceptionTable.toList, covers x (pc + 10) = false)
    (hRframes : names.length + 3 < R.frames) (hRlocals : (rest.map fun v => v.category).sum + (13 * (names.length + 1) + 43) ≤ R.locals) (hRcells : cells + 1 ≤ R.cells) (hRslots : slots + 6 ≤ R.slots) (hlocks : meth.locks = false)
    (hx : ∀ t : State, s.vm.Alike t.vm → H.size ≤ t.heap.size → (∀ q : Nat, q < H.size → t.heap[q]? = H[q]?) → XC cls s t)
    (hf : ∀ z ∈ locs, free z.base) (hc : cells + 1 ≤ mc) (hs : slots + 6 ≤ ms) :
    W p l e R s m args below meth c H locs cells slots (vx_MQ below Qc XC args s mc ms free) (F0 m pc ls rest) := by
  intro T hT X
  have htr : e.platform.stackTraces = false := (show e.platform.stackTraces = l.stackTraces by rw [X.admits.platform]).trans hl
  have Y := vx_rebase X (R' := { frames := R.frames, locals := R.locals, cells := 1, slots := 6 }) (Nat.le_refl _) (Nat.le_refl _) hRcells hRslots
  obtain ⟨s', hA⟩ : ∃ z, z = (T.setVm s.vm).setFrames (.invoking m args :: below) := ⟨_, rfl⟩
  rw [← hA] at Y
  have hvm : s'.vm = s.vm := by rw [hA]; rfl
  have hhp : s'.heap = H := by rw [hA]; exact hT
  have hW0 : s.WarmedH s'.vm := by rw [hvm]; exact State.WarmedH.refl s
  have hat' : ∀ w ∈ vx_atS own ic cls names, w.before args s' = true := fun w hw => vx_ot_at hW0 hvm.symm (hgood w (List.mem_cons_of_mem _ (List.mem_cons_of_mem _ hw))) (hat w hw)
  have hk' : (Cond.classLink own ik cls).before args s' = true := vx_ot_at hW0 hvm.symm (hgood _ List.mem_cons_self) hk
  have hini' : (Cond.initialized cls).before args s' = true := vx_ot_at hW0 hvm.symm (hgood _ (List.mem_cons_of_mem _ List.mem_cons_self)) hini
  have hU' : vx_Zq Bundle.tN "UNASSIGNED_STACK" Bundle.steD A s' s'.heap := by rw [hhp]; exact vx_Zq.moved hW0.alike (hU.kept hS.2.1)
  have hN' : vx_Zq Bundle.tN "SUPPRESSED_SENTINEL" Bundle.listD A s' s'.heap := by rw [hhp]; exact vx_Zq.moved hW0.alike (hN.kept hS.2.1)
  have h : ∀ w ∈ Bundle.ownAtoms own ic cls names, w.before args s' = true := vx_own hat' (vx_isRefq hU'.1) (vx_isRefq hN'.1) hU'.2.word hN'.2.word
  have hown' : s'.vm.findClass own = some m.cls := by rw [hvm]; exact hown
  have hins : (Cond.instantiable cls 6).before args s' = true := h _ (by simp [Bundle.ownAtoms])
  obtain ⟨vm₁, cX, kX, hfX, hkX, -, -, X₁, st1⟩ := Y.newCold hexec (own := own) (C := cls) (index := ik) (n := 6) hown' hk' hins hini'
    (g := F0 m pc ls rest) rfl (by rw [hb]; exact d0) (Nat.le_refl _) (Nat.le_refl _)
  generalize hT1 : (T.setVm vm₁).pushCell { cls := cX, slots := kX.instanceTypes.map defaultValue, vm := .none } = T1 at X₁ st1
  have hcat : (Value.ref T.heap.size).category = 1 := rfl
  have hcellA : T1.heap[T.heap.size]? = some (freshCell cX kX) := by rw [← hT1]; exact State.heap_pushCell_size _ _
  have d3' : decode c.code (pc + 3) = .ok (.dup, 1) := by rw [hb]; exact d3
  have d4' : decode c.code (pc + 4) = .ok (.ldc_w is, 3) := by rw [hb]; exact d4
  have hstr' : vk_R own is text sa s' := vk_R.warm hW0 hstr
  obtain ⟨U, hsteps, hrun, hend, hW, hsame, ce, hce, hO⟩ := X₁.ctorThrowS hexec htr (own := own) (cls := cls) (names := names) (ic := ic) hown' hcls hnames h (fun x hx => nomatch hx) hfX hkX hcellA (by rw [hhp, hT]; exact Nat.le_refl _) (msg := .ref sa) rfl
    (g := { method := m, pc := pc + 7, locals := ls, stack := .ref sa :: .ref T.heap.size :: .ref T.heap.size :: rest, locked := none }) rfl hsize rfl rfl (rest := rest) rfl
    (by rw [hb]; exact d7) (by rw [hb]; exact d10) hout hRframes (by simp only [List.map_cons, List.sum_cons, hcat]; omega) hlocks
  obtain ⟨f1, f2⟩ := vx_frame hsame
  rw [hhp] at f1 f2
  have hWs : s.WarmedH U.vm := State.WarmedH.trans hW0 hW
  have hcl : s.vm.findClass cls = some ce.cls := by
    have h9 := hO.cls
    rw [hvm] at h9
    exact h9
  have hall : s.sameButNew ({ U with vm := s.vm } : State) locs mc ms := by
    subst hA
    obtain ⟨e1, e2⟩ := hsame
    rw [State.setFrames_setFrames] at e1
    have h2 : (T.setVm s.vm).sameButNew ({ U with vm := s.vm } : State) [] (0 + 1) (0 + 6) := ⟨e1, e2⟩
    have h3 := X.same.trans h2
    rw [List.append_nil] at h3
    exact h3.mono hc hs
  refine ⟨U, ?_, .threw T.heap.size, hrun, hend, Or.inr ⟨T.heap.size, rfl, cls, ce, locs, hx U hWs.alike f1 (fun q hq => f2 q hq (fun z hz => nomatch hz)), hce, hO.vm, hcl, hWs, hall, hf⟩⟩
  refine st1 _ ?_
  show Steps p.tables e below (T1.setTop { method := m, pc := pc + 3, locals := ls, stack := .ref T.heap.size :: rest, locked := none }) _
  jvm_step X₁.here [X₁.here.top, hexec, d3', Value.category]
  exact X₁.ldcStringW hexec (own := own) (text := text) (index := is) (a := sa) hown' hstr'.1 hstr'.2
    (g := { method := m, pc := pc + 4, locals := ls, stack := .ref T.heap.size :: .ref T.heap.size :: rest, locked := none }) rfl d4' _ hsteps
end Ends
section Bodies
variable {l : Launch}
theorem vx_ofW {y : MethodName} {ws ws' : List Cond} {rm : Room} {Pc : Array Value → State → Prop} {Qc : Array Value → State → Outcome → State → Prop} {XC : String → State → State → Prop} {mc ms : Nat} {free : Addr → Prop} {cc : ByteArray} {maxL : Nat} {ret : Option FieldType}
    (hy : plainName y.cls = true) (hw : ws = Cond.code y cc maxL ret :: ws')
    (body : ∀ p e s m args below meth c s₁, BodyLoose p l y (headSpec ws rm) cc maxL ret e s m args below meth c s₁ → c.maxLocals = maxL → (∀ x ∈ c.exceptionTable.toList, False) → Pc args s →
      W p l e (headSpec ws rm).room s m args below meth c s.heap [] 0 0 (vx_MQ below Qc XC args s mc ms free) (entryFrame m args maxL)) : vx_Met l y ws rm Pc Qc XC mc ms free := by
  refine MetFree.of_bodyS (code := cc) (maxLocals := maxL) (ret := ret) hy ?_ ?_
  · intro args s m h hn
    obtain ⟨meth, c, h1, h2, h3, h4, h5, h6, -, -⟩ := Cond.code_spec hn (atoms_spec (ws := ws) h _ (by rw [hw]; exact List.mem_cons_self))
    exact ⟨meth, c, h1, h2, h3, h4, h5, h6⟩
  · intro p e s m args below meth c s₁ B hml hP _
    have hh0 : s₁.heap = s.heap := by rw [B.state]; rfl
    have ht : ∀ x ∈ c.exceptionTable.toList, False := by
      obtain ⟨meth9, c9, h1, h2, -, -, -, -, h7, -⟩ := Cond.code_spec B.named (atoms_spec (ws := ws) B.pre _ (by rw [hw]; exact List.mem_cons_self))
      cases Option.some.inj (h1.symm.trans B.method)
      cases Option.some.inj (h2.symm.trans (Stand.of_body B).code)
      intro x hx
      rw [Array.isEmpty_iff.mp h7] at hx
      cases hx
    obtain ⟨t, a1, o, b1, b2, b3⟩ := body p e s m args below meth c s₁ B hml ht hP s₁ hh0 (Stand.of_body B)
    exact ⟨t, o, a1, b1, b2, b3⟩
/-- the table of a body with handlers -/
theorem vx_table {p : Program} {x y : MethodName} {S : Spec} {cc bytes : ByteArray} {maxL maxL' : Nat} {ret ret' : Option FieldType} {e : Env} {s s₁ : State} {m : MethodId} {args : Array Value} {below : List Frame} {meth : Method} {c : Code} {hh : List (Nat × Nat × Nat × Nat)}
    (B : BodyLoose p l y S cc maxL ret e s m args below meth c s₁) (h : (Cond.codeWith y bytes maxL' ret' hh).before args s = true) : c.exceptionTable.toList = tableOf hh := by
  obtain ⟨m9, meth9, c9, hn9, h1, h2, -, -, h6, -⟩ := Cond.codeWith_spec h
  cases Option.some.inj (hn9.symm.trans B.named)
  cases Option.some.inj (h1.symm.trans B.method)
  cases Option.some.inj (h2.symm.trans (Stand.of_body B).code)
  rw [← h6, table_eq]
end Bodies
end VXA
/-! ===== END ===== -/
/-! ===== BEGIN a static call of a method with an exception table ===== -/
section VXS
variable {p : Program} {l : Launch} {e : Env} {R : Room} {s : State} {m : MethodId} {args : Array Value} {below : List Frame} {meth : Method} {c : Code} {T : State} {H : Heap} {locs : List Loc} {cells slots : Nat}
abbrev vx_CSW (R : Room) (s : State) (args : Array Value) (own : String) (index : Nat) (y : MethodName) (bytes : ByteArray) (maxL : Nat) (ret : Option FieldType) (hh : List (Nat × Nat × Nat × Nat)) (ws : List Cond) (rm : Room) (mc ms n : Nat) : Prop :=
  (rm.cells = mc ∧ rm.slots = ms ∧ rm.frames + 1 ≤ R.frames ∧ 8 + (maxL + 11) + rm.locals ≤ R.locals ∧ (∀ w ∈ ws, ∀ (a' : Array Value) (U : State), s.WarmedH U.vm → w.before a' U = true) ∧ Cond.codeWith y bytes maxL ret hh ∈ ws) ∧
  (Cond.codeWith y bytes maxL ret hh).before args s = true ∧ (Cond.initialized y.cls).before args s = true ∧ (y.cls ≠ "java/lang/invoke/MethodHandle" ∧ y.cls ≠ "java/lang/invoke/VarHandle") ∧
  (∀ sig, parseMethodDescriptor y.desc = some sig → n = sig.parameters.length) ∧ (Cond.methodLink own index y).before args s = true ∧ (Cond.static y).before args s = true
theorem vx_cwSW {own : String} {index maxL mc ms : Nat} {y : MethodName} {bytes : ByteArray} {ret : Option FieldType} {hh : List (Nat × Nat × Nat × Nat)} {Ts ws ws' : List Cond} {rm : Room} (n : Nat) (ht : ∀ w ∈ Ts, w.before args s = true) (hT : GoodIn Ts (va_wsS own index y ws)) (hw : ws = Cond.codeWith y bytes maxL ret hh :: ws') (hrc : rm.cells = mc) (hrs : rm.slots = ms)
    (hd : y.cls ≠ "java/lang/invoke/MethodHandle" ∧ y.cls ≠ "java/lang/invoke/VarHandle" ∧ (parseMethodDescriptor y.desc).map (fun d => d.parameters.length) = some n) (hR : rm.frames + 1 ≤ R.frames ∧ 8 + (maxL + 11) + rm.locals ≤ R.locals) :
    vx_CSW R s args own index y bytes maxL ret hh ws rm mc ms n := by
  have ok : ∀ w ∈ va_wsS own index y ws, w.before args s = true := fun w h => ht w (hT w h).1
  have hG : GoodIn Ts ws := fun w h => hT w (by unfold va_wsS; exact List.mem_append_right _ h)
  have hc : Cond.codeWith y bytes maxL ret hh ∈ ws := by rw [hw]; exact List.mem_cons_self
  refine ⟨⟨hrc, hrs, hR.1, hR.2, pay_in ht hG, hc⟩, ht _ (hG _ hc).1, ok _ (by simp [va_wsS]), ⟨hd.1, hd.2.1⟩, fun sig h => ?_, ok _ (by simp [va_wsS]), ok _ (by simp [va_wsS])⟩
  have h2 := hd.2.2
  rw [h] at h2
  exact (Option.some.inj h2).symm
theorem vx_callSW (X : Stand p l e R s m args below meth c T locs cells slots) (hexec : p.tables.exec = Jvm.exec) {own : String} {index : Nat} {y : MethodName} {bytes : ByteArray} {maxL : Nat} {ret : Option FieldType} {hh : List (Nat × Nat × Nat × Nat)}
    (hown : s.vm.findClass own = some m.cls) (hlink : (Cond.methodLink own index y).before args s = true) (hstat : (Cond.static y).before args s = true) (hinit : (Cond.initialized y.cls).before args s = true)
    (hcode : (Cond.codeWith y bytes maxL ret hh).before args s = true) (hy : y.cls ≠ "java/lang/invoke/MethodHandle" ∧ y.cls ≠ "java/lang/invoke/VarHandle")
    {W9 : Nat} {Pre : Pt → Array Value → Prop} {Post : Pt → Array Value → Option Value → Pt → Prop} (hK : Back l R p e below s args y 3 W9 Pre Post)
    {g : JFrame} (hg : g.method = m) (hsize : g.locals.size = c.maxLocals) {argsL rest : List Value} (hlen : ∀ sig, parseMethodDescriptor y.desc = some sig → argsL.length = sig.parameters.length)
    (hstack : g.stack = argsL.reverse ++ rest) (hW : 2 * g.monitorRoom + (rest.map fun v => v.category).sum ≤ W9) (hdg : decode c.code g.pc = .ok (.invokestatic index, 3))
    (hpre : ∀ vm₁, s.WarmedH vm₁ → Pre ⟨T.setVm vm₁, locs, cells, slots⟩ argsL.toArray) :
    ∃ (v : Option Value) (vm₁ : Vm) (B : Pt), s.WarmedH vm₁ ∧ Stand p l e R s m args below meth c B.U B.locs B.cells B.slots ∧ Post ⟨T.setVm vm₁, locs, cells, slots⟩ argsL.toArray v B ∧
      ∀ target, Steps p.tables e below (B.U.setTop { g with pc := g.pc + 3, stack := v.toList ++ rest }) target → Steps p.tables e below (T.setTop g) target := by
  obtain ⟨mk, methM, cM, hnamed, hmethM, -, -, -, -, -, -, hsigM⟩ := Cond.codeWith_spec hcode
  have hstatic : methM.isStatic = true := Cond.static_spec hnamed hmethM hstat
  obtain ⟨kP, hkP, -⟩ := className_of_methodNamed hnamed
  have hinitP : kP.init = .initialized := Cond.initialized_spec (findClass_of_methodNamed hnamed) hkP hinit
  obtain ⟨vm₁, X₁, hstep₁⟩ := X.invokestatic hexec hown hlink hnamed hmethM hstatic hkP hinitP hy (g := g) hg (argsL := argsL) (rest := rest) (hlen _ hsigM) hstack hdg
  obtain ⟨v, B, X', hpost, hsteps⟩ := hK m meth c ⟨T.setVm vm₁, locs, cells, slots⟩ { g with stack := rest } (.invokestatic index) mk argsL.toArray X₁ hg hsize hdg hW (X₁.named hnamed) (hpre vm₁ X₁.warmed)
  exact ⟨v, vm₁, B, X₁.warmed, X', hpost, fun target h => hstep₁ _ fun acts => by rw [doInvoke_state]; exact hsteps.trans h⟩
theorem vx_runSW {y : MethodName} {bytes cc : ByteArray} {maxL nL mc ms n index : Nat} {ret : Option FieldType} {hh : List (Nat × Nat × Nat × Nat)} {ws : List Cond} {rm : Room} {Pc : Array Value → State → Prop} {Qc : Array Value → State → Outcome → State → Prop} {free : Addr → Prop} {Ts : List Cond} {own : String} {As rest : List Value} {g : JFrame}
    (S : CallFix p m c cc nL s args Ts own) (hM : Met l y ws rm Pc Qc mc ms free) (cw : vx_CSW R s args own index y bytes maxL ret hh ws rm mc ms n) (hp : PreS s H Pc As)
    (hg : g.method = m) (hn : As.length = n) (hsize : g.locals.size = nL) (hstack : g.stack = As.reverse ++ rest) (hW : 2 * g.monitorRoom + (rest.map fun v => v.category).sum ≤ 8) (hdg : decode cc g.pc = .ok (.invokestatic index, 3)) (hf : cells + mc ≤ R.cells ∧ slots + ms ≤ R.slots) :
    va_Run p l e R s m args below meth c H locs cells slots mc ms g rest (Qc As.toArray) (free) := by
  obtain ⟨⟨hrc, hrs, hfr, hlo, hws, hcw⟩, hcode, hini, hy, hlen, hl, hstt⟩ := cw
  have hK : Back l R p e below s args y 3 8 (PreOf R mc ms Pc) (PostOf Qc mc ms free) := va_backW (hh := hh) (bytes := bytes) (maxL := maxL) (ret := ret) hM hp.1 hrc hrs hfr hlo hws hcw (fun a' U hW => word_at hW (Or.inl (by first | rfl | simp [Cond.onTables, Cond.keeps, Cond.steady])) hini)
  obtain ⟨hx, hb, hml, ho, -⟩ := S
  intro T hT X
  obtain ⟨v, vm₁, ⟨U', l2, c2, s2⟩, hW₁, X', ⟨g', mk, t, L, e1, e2, hq, h1, hL, h2, h3⟩, st⟩ := vx_callSW X hx (hh := hh) (bytes := bytes) (maxL := maxL) (ret := ret) ho hl hstt hini hcode hy hK hg (hsize.trans hml.symm) (argsL := As) (rest := rest) (fun sig h => hn.trans (hlen sig h)) hstack hW (by rw [hb]; exact hdg)
    (fun vm₁ hW₁ => ⟨hf.1, hf.2, hp.2 (T.setVm vm₁) hT hW₁⟩)
  dsimp only [Pt.U, Pt.locs, Pt.cells, Pt.slots] at X' e1 e2 h1 h2 h3 st
  subst h1; subst h2; subst h3
  exact ⟨v, (T.setVm vm₁).calling g' mk As.toArray, t, U', L, hT, X', hL, e1, e2, hq, st⟩
/-- not caught here, past rows that name other classes: it goes on to the caller -/
theorem vx_outP {p : Program} {l : Launch} {e : Env} {R : Room} {s : State} {m : MethodId} {args : Array Value} {below : List Frame} {meth : Method} {c : Code} {H : Heap} {locs : List Loc} {cells slots : Nat} {free : Addr → Prop} {ls : Array Slot} {rest : List Value} {Qc : Array Value → State → Outcome → State → Prop} {XC : String → State → State → Prop}
    {pc : Nat} {own E : String} {ce : Cell} {q : Addr} {mc ms : Nat} (hown : s.vm.findClass own = some m.cls) (hlocks : meth.locks = false)
    (hpass : ∀ z ∈ c.exceptionTable.toList, covers z pc = false ∨ (z.catchType ≠ 0 ∧ ∃ nm : String, (Cond.classLink own z.catchType nm).before args s = true ∧ va_Nc E nm s)) (hcell : H[q]? = some ce) (hv : ce.vm = .none) (hcl : s.vm.findClass E = some ce.cls)
    (hx : ∀ t : State, t.heap = H → s.vm.Alike t.vm → XC E s t) (hf : ∀ z ∈ locs, free z.base) (hc : cells ≤ mc) (hs : slots ≤ ms) :
    vx_W p l e R s m args below meth c H locs cells slots (vx_MQ below Qc XC args s mc ms free) (F0 m pc ls rest) q := by
  intro T hT X
  have hpl : e.platform.magicAccessors = ({} : Platform).magicAccessors := by rw [X.admits.platform]
  obtain ⟨vm', hW', X', st⟩ := X.outThrough hlocks q (g := F0 m pc ls rest) rfl rfl rfl (cell := ce) (by rw [hT]; exact hcell) (by rw [hv]; rfl)
    (by obtain ⟨k9, h9, -⟩ := Vm.findClass_spec hcl; exact ⟨k9, h9⟩) (fun z hz => by
      rcases hpass z hz with h | ⟨hz0, nm, hl1, hn1⟩
      · exact Or.inl h
      · obtain ⟨c6, hc6, hcl6⟩ := Cond.classLink_spec hown hl1 e.platform hpl
        obtain ⟨a8, b8, h1, h2, h3⟩ := hn1
        cases Option.some.inj (h1.symm.trans hcl)
        cases Option.some.inj (h2.symm.trans hc6)
        exact Or.inr ⟨hz0, _, hcl6, h3⟩)
  obtain ⟨g₀, hfr⟩ := X'.frames_eq
  have hcell9 : ((T.setVm vm').setFrames (.throwing q :: below)).heap[q]? = some ce := by
    show T.heap[q]? = some ce
    rw [hT]; exact hcell
  have hend : Ended ((T.setVm vm').setFrames (.throwing q :: below)) below (.threw q) := State.frames_setFrames _ (State.cur_lt_of_frames hfr)
  refine ⟨(T.setVm vm').setFrames (.throwing q :: below), ?_, .threw q, X'.here.running, hend, Or.inr ⟨q, rfl, E, ce, locs, hx _ hT (X'.ends _).1.alike, hcell9, hv, hcl, (X'.ends _).1, (X'.ends _).2.mono hc hs, hf⟩⟩
  rw [X.pushThrowing_eq]
  exact st
/-- a thing of a world lies in the heap -/
theorem vx_lt {D : va_G} {cl : List vw_C} {ws : va_W} {H1 : Heap} (h : va_P D cl ws H1) {k : Nat} {q : Nat × va_E} (hk : ws[k]? = some q) : q.1 < H1.size := (h k q hk).lt
end VXS
/-! ===== END ===== -/
/-! ===== BEGIN methods with a table of their own: called by a name, returning or throwing ===== -/
section VXH
/-! vx_backW, vx_callVX, vx_callSX, vx_callVW, vx_runVW, vx_runVX, vx_runSX, vx_ofWH follow the same proofs as their sisters above (Free/Laws.lean, Shelf42/LK1.lean); vx_outP calls Shelf42/NT130.lean (outThrough). -/
section
variable {l : Launch} {R : Room} {p : Program} {e : Env} {below : List Frame} {s : State} {sargs : Array Value} {y : MethodName} {len W9 : Nat}
theorem vx_backW {ws : List Cond} {rm : Room} {Pc : Array Value → State → Prop} {Qc : Array Value → State → Outcome → State → Prop} {XC : String → State → State → Prop} {mc ms : Nat} {free : Addr → Prop} {bytes : ByteArray} {maxL : Nat} {ret : Option FieldType} {hh : List (Nat × Nat × Nat × Nat)}
    (hM : vx_Met l y ws rm Pc Qc XC mc ms free) (hblind : FrameBlind Pc) (hrc : rm.cells = mc) (hrs : rm.slots = ms)
    (hframes : rm.frames + 1 ≤ R.frames) (hlocals : W9 + (maxL + 11) + rm.locals ≤ R.locals)
    (hws : ∀ w ∈ ws, ∀ a' U, s.WarmedH U.vm → w.before a' U = true) (hcode : Cond.codeWith y bytes maxL ret hh ∈ ws) (hinit : ∀ a' U, s.WarmedH U.vm → (Cond.initialized y.cls).before a' U = true) :
    vx_Back l R p e below s sargs y len W9 (PreOf R mc ms Pc) (PostOf Qc mc ms free) (vx_Post XC mc ms free) := by
  intro m meth c A g ig mk a X hg hsize hdg hW hn hp
  have h1 : (headSpec ws rm).pre.before a A.U = true := atoms_intro fun w hw => hws w hw _ _ X.warmed
  have h2 : (Cond.codeWith y bytes maxL ret hh).before a A.U = true := hws _ hcode _ _ X.warmed
  have h3 : (Cond.initialized y.cls).before a A.U = true := hinit _ _ X.warmed
  have h4 : A.cells + (headSpec ws rm).room.cells ≤ R.cells := by rw [show (headSpec ws rm).room.cells = mc from hrc]; exact hp.1
  have h5 : A.slots + (headSpec ws rm).room.slots ≤ R.slots := by rw [show (headSpec ws rm).room.slots = ms from hrs]; exact hp.2.1
  have hPc : Pc a (A.U.calling g mk a) := hblind _ _ _ _ hp.2.2
  obtain ⟨U, Ls, c0, s0⟩ := A
  dsimp only [Pt.U, Pt.locs, Pt.cells, Pt.slots] at h1 h2 h3 h4 h5 X hn hPc ⊢
  obtain ⟨m9, methY, cY, hn9, hmY, hcY, -, hlY, -⟩ := Cond.codeWith_spec h2
  cases Option.some.inj (hn9.symm.trans hn)
  obtain ⟨kY, hkY, -⟩ := className_of_methodNamed hn
  have hinitY : kY.init = .initialized := Cond.initialized_spec (findClass_of_methodNamed hn) hkY h3
  have h : At U g.method c below := by rw [hg]; exact X.here
  have hlocals9 : W9 + (maxL + 11) + (headSpec ws rm).room.locals ≤ R.locals := hlocals
  have happ : (headSpec ws rm).appliesLoose y e.platform (U.calling g mk a) = true :=
    Spec.appliesLoose_calling (g := g) h hdg hn hkY hinitY
      (X.room_calling (g := g) (R' := (headSpec ws rm).room) hsize hmY hcY hframes (by rw [hlY]; omega) h4 h5) h1
  obtain ⟨mid, hmid⟩ := h.above
  have hfr : (U.setTop g).frames = (.java g :: mid) ++ below := by rw [State.frames_setTop' g h.top, hmid]; rfl
  obtain ⟨o, s₂, hsteps, -, hend, hq⟩ := Steps.callFree hM p X.admits X.cas X.clock (acts := []) hfr happ hPc trivial
  have hq' : vx_Q Qc XC mc ms free a (U.calling g mk a) o s₂ := hq
  rw [State.frames_setTop' g h.top] at hend
  obtain ⟨g₀, hg0⟩ := Option.isSome_iff_exists.mp h.top
  obtain ⟨r, hr⟩ := State.topJava?_eq_some.mp hg0
  have hr' : (({ U with heap := s₂.heap, slotsUsed := s₂.slotsUsed } : State).setVm s₂.vm).frames = .java g₀ :: r := hr
  rcases hq' with ⟨hqc, L, hfe, hL⟩ | ⟨q, rfl, E, ce, L, hx, hce, hcv, hcl, hW₂, hsm, hL⟩
  · obtain ⟨⟨v, rfl⟩, hW₂, e2, q2, q3, q4, q5, q6⟩ := id hfe
    have e3 : s₂ = ({ (U.calling g mk a).setFrames s₂.frames with heap := s₂.heap, slotsUsed := s₂.slotsUsed } : State).setVm s₂.vm := by
      have : s₂ = ({ s₂ with vm := (U.calling g mk a).vm } : State).setVm s₂.vm := rfl
      rw [e2] at this
      exact this
    obtain ⟨c₂, i₂, len₂, hc₂, hd₂, hf₂⟩ := hend
    have hW' : U.WarmedH s₂.vm := hW₂
    have hcc : c₂ = c := by
      have h1 : s₂.code? g.method = U.code? g.method := by
        rw [State.code?_eq, State.code?_eq, hW'.alike.method?]
      exact Option.some.inj (hc₂.symm.trans (h1.trans h.code))
    subst hcc
    have hlen : len₂ = len := by rw [hdg] at hd₂; cases hd₂; rfl
    subst hlen
    have hs₂ : s₂ = (({ U with heap := s₂.heap, slotsUsed := s₂.slotsUsed } : State).setVm s₂.vm).setTop { g with pc := g.pc + len₂, stack := v.toList ++ g.stack } := by
      refine e3.trans ?_
      rw [hf₂, State.calling_eq h.top, State.setFrames_setFrames, State.setTop_of_frames _ hr', hr]
      rfl
    have hsame : U.sameButNew ({ U with heap := s₂.heap, slotsUsed := s₂.slotsUsed } : State) L mc ms := by
      refine ⟨?_, q2, q3, q4, q5, q6⟩
      obtain ⟨t, ht, -⟩ := State.frames_cons hr
      show ({ U with heap := s₂.heap, slotsUsed := s₂.slotsUsed } : State) = { U.setFrames U.frames with heap := s₂.heap, slotsUsed := s₂.slotsUsed }
      rw [State.setFrames_self ht]
    subst hg
    refine Or.inl ⟨v, ⟨(({ U with heap := s₂.heap, slotsUsed := s₂.slotsUsed } : State).setVm s₂.vm), Ls ++ L, c0 + mc, s0 + ms⟩,
      ⟨X.admits, X.cas, X.clock, X.frames, X.room, X.hears, X.method, X.code, (X.here.setHeapUsed s₂.heap s₂.slotsUsed).setVm hW'.alike, X.tail, State.WarmedH.trans X.warmed hW', X.limits, X.bytes, X.same.trans (hsame.setVm s.vm)⟩,
      ⟨g, mk, s₂, L, rfl, rfl, hqc, rfl, hL, rfl, rfl⟩, ?_⟩
    show Steps p.tables e below _ ((({ U with heap := s₂.heap, slotsUsed := s₂.slotsUsed } : State).setVm s₂.vm).setTop { g with pc := g.pc + len₂, stack := v.toList ++ g.stack })
    rw [← hs₂]
    exact hsteps
  · obtain ⟨e2, q2, q3, q4, q5, q6⟩ := id hsm
    have e3 : s₂ = ({ (U.calling g mk a).setFrames s₂.frames with heap := s₂.heap, slotsUsed := s₂.slotsUsed } : State).setVm s₂.vm := by
      have : s₂ = ({ s₂ with vm := (U.calling g mk a).vm } : State).setVm s₂.vm := rfl
      rw [e2] at this
      exact this
    have hf₂ : s₂.frames = .throwing q :: .java g :: U.frames.tail := hend
    have hW' : U.WarmedH s₂.vm := hW₂
    have hs₂ : s₂ = ((({ U with heap := s₂.heap, slotsUsed := s₂.slotsUsed } : State).setVm s₂.vm).setTop g).pushFrame (.throwing q) := by
      refine e3.trans ?_
      rw [hf₂, State.calling_eq h.top, State.setFrames_setFrames, State.pushFrame, State.frames_setTop _ hr', State.setTop_of_frames _ hr', State.setFrames_setFrames, hr]
      rfl
    have hsame : U.sameButNew ({ U with heap := s₂.heap, slotsUsed := s₂.slotsUsed } : State) L mc ms := by
      refine ⟨?_, q2, q3, q4, q5, q6⟩
      obtain ⟨t, ht, -⟩ := State.frames_cons hr
      show ({ U with heap := s₂.heap, slotsUsed := s₂.slotsUsed } : State) = { U.setFrames U.frames with heap := s₂.heap, slotsUsed := s₂.slotsUsed }
      rw [State.setFrames_self ht]
    subst hg
    refine Or.inr ⟨q, ⟨(({ U with heap := s₂.heap, slotsUsed := s₂.slotsUsed } : State).setVm s₂.vm), Ls ++ L, c0 + mc, s0 + ms⟩,
      ⟨X.admits, X.cas, X.clock, X.frames, X.room, X.hears, X.method, X.code, (X.here.setHeapUsed s₂.heap s₂.slotsUsed).setVm hW'.alike, X.tail, State.WarmedH.trans X.warmed hW', X.limits, X.bytes, X.same.trans (hsame.setVm s.vm)⟩,
      ⟨g, mk, s₂, L, E, ce, rfl, rfl, hx, hce, hcv, hcl, rfl, hL, rfl, rfl⟩, ?_⟩
    show Steps p.tables e below _ (((({ U with heap := s₂.heap, slotsUsed := s₂.slotsUsed } : State).setVm s₂.vm).setTop g).pushFrame (.throwing q))
    rw [← hs₂]
    exact hsteps
end
variable {p : Program} {l : Launch} {e : Env} {R : Room} {s : State} {m : MethodId} {args : Array Value} {below : List Frame} {meth : Method} {c : Code} {T : State} {H : Heap} {locs : List Loc} {cells slots : Nat}
theorem vx_callVX (X : Stand p l e R s m args below meth c T locs cells slots) (hexec : p.tables.exec = Jvm.exec) {own C : String} {index : Nat} {y : MethodName} {bytes : ByteArray} {maxL : Nat} {ret : Option FieldType} {hh : List (Nat × Nat × Nat × Nat)}
    (hown : s.vm.findClass own = some m.cls) (hlink : (Cond.methodLink own index y).before args s = true) (hinst : (Cond.instanceMethod y).before args s = true) (hsel : (Cond.selects C y y).before args s = true)
    (hcode : (Cond.codeWith y bytes maxL ret hh).before args s = true) (hy : y.cls ≠ "java/lang/invoke/MethodHandle" ∧ y.cls ≠ "java/lang/invoke/VarHandle")
    {W9 : Nat} {Pre : Pt → Array Value → Prop} {Post : Pt → Array Value → Option Value → Pt → Prop} {PostX : Pt → Array Value → Addr → Pt → Prop} (hK : vx_Back l R p e below s args y 3 W9 Pre Post PostX)
    {b : Addr} {cellB : Cell} (hcell : T.heap[b]? = some cellB) (hobj : cellB.vm.isStatics = false) (hcls : s.vm.findClass C = some cellB.cls)
    {g : JFrame} (hg : g.method = m) (hsize : g.locals.size = c.maxLocals) {argsL rest : List Value} (hlen : ∀ sig, parseMethodDescriptor y.desc = some sig → argsL.length = sig.parameters.length)
    (hstack : g.stack = argsL.reverse ++ .ref b :: rest) (hW : 2 * g.monitorRoom + (rest.map fun v => v.category).sum ≤ W9) (hdg : decode c.code g.pc = .ok (.invokevirtual index, 3))
    (hpre : ∀ vm₁, s.WarmedH vm₁ → Pre ⟨T.setVm vm₁, locs, cells, slots⟩ (Value.ref b :: argsL).toArray) :
    (∃ (v : Option Value) (vm₁ : Vm) (B : Pt), s.WarmedH vm₁ ∧ Stand p l e R s m args below meth c B.U B.locs B.cells B.slots ∧ Post ⟨T.setVm vm₁, locs, cells, slots⟩ (Value.ref b :: argsL).toArray v B ∧
      ∀ target, Steps p.tables e below (B.U.setTop { g with pc := g.pc + 3, stack := v.toList ++ rest }) target → Steps p.tables e below (T.setTop g) target) ∨
    (∃ (q : Addr) (vm₁ : Vm) (B : Pt), s.WarmedH vm₁ ∧ Stand p l e R s m args below meth c B.U B.locs B.cells B.slots ∧ PostX ⟨T.setVm vm₁, locs, cells, slots⟩ (Value.ref b :: argsL).toArray q B ∧
      Steps p.tables e below (T.setTop g) ((B.U.setTop { g with stack := rest }).pushFrame (.throwing q))) := by
  obtain ⟨mk, methM, hnamed, hmethM, hstM, habM⟩ := Cond.instanceMethod_spec hinst
  obtain ⟨m8, methM', cM, hn8, hmethM', -, -, -, -, -, -, hsigM⟩ := Cond.codeWith_spec hcode
  cases Option.some.inj (hn8.symm.trans hnamed)
  cases hmethM.symm.trans hmethM'
  obtain ⟨c2, r2, m2, q1, q2, q3, q4, kP, hkP, hkPi⟩ := Cond.selects_spec hsel
  cases hcls.symm.trans q1
  cases (State.methodFound?_of_named hnamed hy).symm.trans q2
  cases hnamed.symm.trans q3
  have hselP : selectMethod e.platform s.vm cellB.cls mk = .method mk := by rw [Launch.admits_selectMethod X.admits]; exact q4
  obtain ⟨vm₁, X₁, hstep₁⟩ := X.invokevirtual hexec hown hlink hnamed hmethM hstM hkP hkPi hy (a := b) (cell := cellB) hcell
    (fun z h => by rw [h] at hobj; cases hobj) hselP hmethM habM hkP hkPi (g := g) hg (argsL := argsL) (rest := rest) (hlen _ hsigM) hstack hdg
  rcases hK m meth c ⟨T.setVm vm₁, locs, cells, slots⟩ { g with stack := rest } (.invokevirtual index) mk (Value.ref b :: argsL).toArray X₁ hg hsize hdg hW (X₁.named hnamed) (hpre vm₁ X₁.warmed) with ⟨v, B, X', hpost, hsteps⟩ | ⟨q, B, X', hpost, hsteps⟩
  · exact Or.inl ⟨v, vm₁, B, X₁.warmed, X', hpost, fun target h => hstep₁ _ fun acts => by rw [doInvoke_state]; exact hsteps.trans h⟩
  · exact Or.inr ⟨q, vm₁, B, X₁.warmed, X', hpost, hstep₁ _ fun acts => by rw [doInvoke_state]; exact hsteps⟩
theorem vx_callSX (X : Stand p l e R s m args below meth c T locs cells slots) (hexec : p.tables.exec = Jvm.exec) {own : String} {index : Nat} {y : MethodName} {bytes : ByteArray} {maxL : Nat} {ret : Option FieldType} {hh : List (Nat × Nat × Nat × Nat)}
    (hown : s.vm.findClass own = some m.cls) (hlink : (Cond.methodLink own index y).before args s = true) (hstat : (Cond.static y).before args s = true) (hinit : (Cond.initialized y.cls).before args s = true)
    (hcode : (Cond.codeWith y bytes maxL ret hh).before args s = true) (hy : y.cls ≠ "java/lang/invoke/MethodHandle" ∧ y.cls ≠ "java/lang/invoke/VarHandle")
    {W9 : Nat} {Pre : Pt → Array Value → Prop} {Post : Pt → Array Value → Option Value → Pt → Prop} {PostX : Pt → Array Value → Addr → Pt → Prop} (hK : vx_Back l R p e below s args y 3 W9 Pre Post PostX)
    {g : JFrame} (hg : g.method = m) (hsize : g.locals.size = c.maxLocals) {argsL rest : List Value} (hlen : ∀ sig, parseMethodDescriptor y.desc = some sig → argsL.length = sig.parameters.length)
    (hstack : g.stack = argsL.reverse ++ rest) (hW : 2 * g.monitorRoom + (rest.map fun v => v.category).sum ≤ W9) (hdg : decode c.code g.pc = .ok (.invokestatic index, 3))
    (hpre : ∀ vm₁, s.WarmedH vm₁ → Pre ⟨T.setVm vm₁, locs, cells, slots⟩ argsL.toArray) :
    (∃ (v : Option Value) (vm₁ : Vm) (B : Pt), s.WarmedH vm₁ ∧ Stand p l e R s m args below meth c B.U B.locs B.cells B.slots ∧ Post ⟨T.setVm vm₁, locs, cells, slots⟩ argsL.toArray v B ∧
      ∀ target, Steps p.tables e below (B.U.setTop { g with pc := g.pc + 3, stack := v.toList ++ rest }) target → Steps p.tables e below (T.setTop g) target) ∨
    (∃ (q : Addr) (vm₁ : Vm) (B : Pt), s.WarmedH vm₁ ∧ Stand p l e R s m args below meth c B.U B.locs B.cells B.slots ∧ PostX ⟨T.setVm vm₁, locs, cells, slots⟩ argsL.toArray q B ∧
      Steps p.tables e below (T.setTop g) ((B.U.setTop { g with stack := rest }).pushFrame (.throwing q))) := by
  obtain ⟨mk, methM, cM, hnamed, hmethM, -, -, -, -, -, -, hsigM⟩ := Cond.codeWith_spec hcode
  have hstatic : methM.isStatic = true := Cond.static_spec hnamed hmethM hstat
  obtain ⟨kP, hkP, -⟩ := className_of_methodNamed hnamed
  have hinitP : kP.init = .initialized := Cond.initialized_spec (findClass_of_methodNamed hnamed) hkP hinit
  obtain ⟨vm₁, X₁, hstep₁⟩ := X.invokestatic hexec hown hlink hnamed hmethM hstatic hkP hinitP hy (g := g) hg (argsL := argsL) (rest := rest) (hlen _ hsigM) hstack hdg
  rcases hK m meth c ⟨T.setVm vm₁, locs, cells, slots⟩ { g with stack := rest } (.invokestatic index) mk argsL.toArray X₁ hg hsize hdg hW (X₁.named hnamed) (hpre vm₁ X₁.warmed) with ⟨v, B, X', hpost, hsteps⟩ | ⟨q, B, X', hpost, hsteps⟩
  · exact Or.inl ⟨v, vm₁, B, X₁.warmed, X', hpost, fun target h => hstep₁ _ fun acts => by rw [doInvoke_state]; exact hsteps.trans h⟩
  · exact Or.inr ⟨q, vm₁, B, X₁.warmed, X', hpost, hstep₁ _ fun acts => by rw [doInvoke_state]; exact hsteps⟩
theorem vx_callVW (X : Stand p l e R s m args below meth c T locs cells slots) (hexec : p.tables.exec = Jvm.exec) {own C : String} {index : Nat} {y : MethodName} {bytes : ByteArray} {maxL : Nat} {ret : Option FieldType} {hh : List (Nat × Nat × Nat × Nat)}
    (hown : s.vm.findClass own = some m.cls) (hlink : (Cond.methodLink own index y).before args s = true) (hinst : (Cond.instanceMethod y).before args s = true) (hsel : (Cond.selects C y y).before args s = true)
    (hcode : (Cond.codeWith y bytes maxL ret hh).before args s = true) (hy : y.cls ≠ "java/lang/invoke/MethodHandle" ∧ y.cls ≠ "java/lang/invoke/VarHandle")
    {W9 : Nat} {Pre : Pt → Array Value → Prop} {Post : Pt → Array Value → Option Value → Pt → Prop} (hK : Back l R p e below s args y 3 W9 Pre Post)
    {b : Addr} {cellB : Cell} (hcell : T.heap[b]? = some cellB) (hobj : cellB.vm.isStatics = false) (hcls : s.vm.findClass C = some cellB.cls)
    {g : JFrame} (hg : g.method = m) (hsize : g.locals.size = c.maxLocals) {argsL rest : List Value} (hlen : ∀ sig, parseMethodDescriptor y.desc = some sig → argsL.length = sig.parameters.length)
    (hstack : g.stack = argsL.reverse ++ .ref b :: rest) (hW : 2 * g.monitorRoom + (rest.map fun v => v.category).sum ≤ W9) (hdg : decode c.code g.pc = .ok (.invokevirtual index, 3))
    (hpre : ∀ vm₁, s.WarmedH vm₁ → Pre ⟨T.setVm vm₁, locs, cells, slots⟩ (Value.ref b :: argsL).toArray) :
    ∃ (v : Option Value) (vm₁ : Vm) (B : Pt), s.WarmedH vm₁ ∧ Stand p l e R s m args below meth c B.U B.locs B.cells B.slots ∧ Post ⟨T.setVm vm₁, locs, cells, slots⟩ (Value.ref b :: argsL).toArray v B ∧
      ∀ target, Steps p.tables e below (B.U.setTop { g with pc := g.pc + 3, stack := v.toList ++ rest }) target → Steps p.tables e below (T.setTop g) target := by
  obtain ⟨mk, methM, hnamed, hmethM, hstM, habM⟩ := Cond.instanceMethod_spec hinst
  obtain ⟨m8, methM', cM, hn8, hmethM', -, -, -, -, -, -, hsigM⟩ := Cond.codeWith_spec hcode
  cases Option.some.inj (hn8.symm.trans hnamed)
  cases hmethM.symm.trans hmethM'
  obtain ⟨c2, r2, m2, q1, q2, q3, q4, kP, hkP, hkPi⟩ := Cond.selects_spec hsel
  cases hcls.symm.trans q1
  cases (State.methodFound?_of_named hnamed hy).symm.trans q2
  cases hnamed.symm.trans q3
  have hselP : selectMethod e.platform s.vm cellB.cls mk = .method mk := by rw [Launch.admits_selectMethod X.admits]; exact q4
  obtain ⟨vm₁, X₁, hstep₁⟩ := X.invokevirtual hexec hown hlink hnamed hmethM hstM hkP hkPi hy (a := b) (cell := cellB) hcell
    (fun z h => by rw [h] at hobj; cases hobj) hselP hmethM habM hkP hkPi (g := g) hg (argsL := argsL) (rest := rest) (hlen _ hsigM) hstack hdg
  obtain ⟨v, B, X', hpost, hsteps⟩ := hK m meth c ⟨T.setVm vm₁, locs, cells, slots⟩ { g with stack := rest } (.invokevirtual index) mk (Value.ref b :: argsL).toArray X₁ hg hsize hdg hW (X₁.named hnamed) (hpre vm₁ X₁.warmed)
  exact ⟨v, vm₁, B, X₁.warmed, X', hpost, fun target h => hstep₁ _ fun acts => by rw [doInvoke_state]; exact hsteps.trans h⟩
abbrev vx_CVW (R : Room) (s : State) (args : Array Value) (own C : String) (index : Nat) (y : MethodName) (bytes : ByteArray) (maxL : Nat) (ret : Option FieldType) (hh : List (Nat × Nat × Nat × Nat)) (ws : List Cond) (rm : Room) (mc ms n : Nat) : Prop :=
  (rm.cells = mc ∧ rm.slots = ms ∧ rm.frames + 1 ≤ R.frames ∧ 8 + (maxL + 11) + rm.locals ≤ R.locals ∧ (∀ w ∈ ws, ∀ (a' : Array Value) (U : State), s.WarmedH U.vm → w.before a' U = true) ∧ Cond.codeWith y bytes maxL ret hh ∈ ws) ∧
  (Cond.codeWith y bytes maxL ret hh).before args s = true ∧ (Cond.initialized y.cls).before args s = true ∧ (y.cls ≠ "java/lang/invoke/MethodHandle" ∧ y.cls ≠ "java/lang/invoke/VarHandle") ∧
  (∀ sig, parseMethodDescriptor y.desc = some sig → n = sig.parameters.length) ∧ (Cond.methodLink own index y).before args s = true ∧ (Cond.instanceMethod y).before args s = true ∧ (Cond.selects C y y).before args s = true
theorem vx_cwVW {own C : String} {index maxL mc ms : Nat} {y : MethodName} {bytes : ByteArray} {ret : Option FieldType} {hh : List (Nat × Nat × Nat × Nat)} {Ts ws ws' : List Cond} {rm : Room} (n : Nat) (ht : ∀ w ∈ Ts, w.before args s = true) (hT : GoodIn Ts (wsV own index C y ws)) (hw : ws = Cond.codeWith y bytes maxL ret hh :: ws') (hrc : rm.cells = mc) (hrs : rm.slots = ms)
    (hd : y.cls = C ∧ y.cls ≠ "java/lang/invoke/MethodHandle" ∧ y.cls ≠ "java/lang/invoke/VarHandle" ∧ (parseMethodDescriptor y.desc).map (fun d => d.parameters.length) = some n) (hR : rm.frames + 1 ≤ R.frames ∧ 8 + (maxL + 11) + rm.locals ≤ R.locals) :
    vx_CVW R s args own C index y bytes maxL ret hh ws rm mc ms n := by
  obtain ⟨hC, hd⟩ := hd
  subst hC
  have ok : ∀ w ∈ wsV own index y.cls y ws, w.before args s = true := fun w h => ht w (hT w h).1
  have hG : GoodIn Ts ws := fun w h => hT w (by unfold wsV; exact List.mem_append_right _ h)
  have hc : Cond.codeWith y bytes maxL ret hh ∈ ws := by rw [hw]; exact List.mem_cons_self
  refine ⟨⟨hrc, hrs, hR.1, hR.2, pay_in ht hG, hc⟩, ht _ (hG _ hc).1, ok _ (by simp [wsV]), ⟨hd.1, hd.2.1⟩, fun sig h => ?_, ok _ (by simp [wsV]), ok _ (by simp [wsV]), ok _ (by simp [wsV])⟩
  have h2 := hd.2.2
  rw [h] at h2
  exact (Option.some.inj h2).symm
theorem vx_runVW {y : MethodName} {bytes cc : ByteArray} {maxL nL mc ms n index : Nat} {ret : Option FieldType} {hh : List (Nat × Nat × Nat × Nat)} {ws : List Cond} {rm : Room} {Pc : Array Value → State → Prop} {Qc : Array Value → State → Outcome → State → Prop} {free : Addr → Prop} {Ts : List Cond} {own C : String} {b : Addr} {As rest : List Value} {g : JFrame}
    (S : CallFix p m c cc nL s args Ts own) (hM : Met l y ws rm Pc Qc mc ms free) (cw : vx_CVW R s args own C index y bytes maxL ret hh ws rm mc ms n) (hp : PreV s H C b Pc As)
    (hg : g.method = m) (hn : As.length = n) (hsize : g.locals.size = nL) (hstack : g.stack = As.reverse ++ .ref b :: rest) (hW : 2 * g.monitorRoom + (rest.map fun v => v.category).sum ≤ 8) (hdg : decode cc g.pc = .ok (.invokevirtual index, 3)) (hf : cells + mc ≤ R.cells ∧ slots + ms ≤ R.slots) :
    va_Run p l e R s m args below meth c H locs cells slots mc ms g rest (Qc (Value.ref b :: As).toArray) free := by
  obtain ⟨⟨hrc, hrs, hfr, hlo, hws, hcw⟩, hcode, hini, hy, hlen, hl, hin, hse⟩ := cw
  have hK : Back l R p e below s args y 3 8 (PreOf R mc ms Pc) (PostOf Qc mc ms free) := va_backW (hh := hh) (bytes := bytes) (maxL := maxL) (ret := ret) hM hp.1 hrc hrs hfr hlo hws hcw (fun a' U hW => word_at hW (Or.inl (by first | rfl | simp [Cond.onTables, Cond.keeps, Cond.steady])) hini)
  obtain ⟨hx, hb, hml, ho, -⟩ := S
  obtain ⟨-, ⟨cellB, hcB, hoB, hclB⟩, hPc⟩ := hp
  intro T hT X
  obtain ⟨v, vm₁, ⟨U', l2, c2, s2⟩, hW₁, X', ⟨g', mk, t, L, e1, e2, hq, h1, hL, h2, h3⟩, st⟩ := vx_callVW X hx (C := C) (hh := hh) (bytes := bytes) (maxL := maxL) (ret := ret) ho hl hin hse hcode hy hK (by rw [hT]; exact hcB) hoB hclB hg (hsize.trans hml.symm) (argsL := As) (rest := rest) (fun sig h => hn.trans (hlen sig h)) hstack hW (by rw [hb]; exact hdg)
    (fun vm₁ hW₁ => ⟨hf.1, hf.2, hPc (T.setVm vm₁) hT hW₁⟩)
  dsimp only [Pt.U, Pt.locs, Pt.cells, Pt.slots] at X' e1 e2 h1 h2 h3 st
  subst h1; subst h2; subst h3
  exact ⟨v, (T.setVm vm₁).calling g' mk (Value.ref b :: As).toArray, t, U', L, hT, X', hL, e1, e2, hq, st⟩
section
variable {y : MethodName} {bytes cc : ByteArray} {maxL nL mc ms n index : Nat} {ret : Option FieldType} {ws : List Cond} {rm : Room} {Pc : Array Value → State → Prop} {Qc : Array Value → State → Outcome → State → Prop} {XC : String → State → State → Prop} {free : Addr → Prop} {Ts : List Cond} {own C : String} {b : Addr} {As rest : List Value} {g : JFrame}
theorem vx_runVX {hh : List (Nat × Nat × Nat × Nat)} (S : CallFix p m c cc nL s args Ts own) (hM : vx_Met l y ws rm Pc Qc XC mc ms free) (cw : vx_CVW R s args own C index y bytes maxL ret hh ws rm mc ms n) (hp : PreV s H C b Pc As)
    (hg : g.method = m) (hn : As.length = n) (hsize : g.locals.size = nL) (hstack : g.stack = As.reverse ++ .ref b :: rest) (hW : 2 * g.monitorRoom + (rest.map fun v => v.category).sum ≤ 8) (hdg : decode cc g.pc = .ok (.invokevirtual index, 3)) (hf : cells + mc ≤ R.cells ∧ slots + ms ≤ R.slots) :
    vx_Run p l e R s m args below meth c H locs cells slots mc ms g rest (Qc (Value.ref b :: As).toArray) XC free := by
  obtain ⟨⟨hrc, hrs, hfr, hlo, hws, hcw⟩, hcode, hini, hy, hlen, hl, hin, hse⟩ := cw
  have hK : vx_Back l R p e below s args y 3 8 (PreOf R mc ms Pc) (PostOf Qc mc ms free) (vx_Post XC mc ms free) := vx_backW (hh := hh) (bytes := bytes) (maxL := maxL) (ret := ret) hM hp.1 hrc hrs hfr hlo hws hcw (fun a' U hW => word_at hW (Or.inl (by first | rfl | simp [Cond.onTables, Cond.keeps, Cond.steady])) hini)
  obtain ⟨hx, hb, hml, ho, -⟩ := S
  obtain ⟨-, ⟨cellB, hcB, hoB, hclB⟩, hPc⟩ := hp
  intro T hT X
  rcases vx_callVX X hx (C := C) (hh := hh) (bytes := bytes) (maxL := maxL) (ret := ret) ho hl hin hse hcode hy hK (by rw [hT]; exact hcB) hoB hclB hg (hsize.trans hml.symm) (argsL := As) (rest := rest) (fun sig h => hn.trans (hlen sig h)) hstack hW (by rw [hb]; exact hdg)
    (fun vm₁ hW₁ => ⟨hf.1, hf.2, hPc (T.setVm vm₁) hT hW₁⟩) with ⟨v, vm₁, ⟨U', l2, c2, s2⟩, hW₁, X', ⟨g', mk, t, L, e1, e2, hq, h1, hL, h2, h3⟩, st⟩ | ⟨q, vm₁, ⟨U', l2, c2, s2⟩, hW₁, X', ⟨g', mk, t, L, E, ce, e1, e2, hq, hce, hcv, hcl, h1, hL, h2, h3⟩, st⟩
  · dsimp only [Pt.U, Pt.locs, Pt.cells, Pt.slots] at X' e1 e2 h1 h2 h3 st
    subst h1; subst h2; subst h3
    exact Or.inl ⟨v, (T.setVm vm₁).calling g' mk (Value.ref b :: As).toArray, t, U', L, hT, X', hL, e1, e2, hq, st⟩
  · dsimp only [Pt.U, Pt.locs, Pt.cells, Pt.slots] at X' e1 e2 h1 h2 h3 st hcl
    subst h1; subst h2; subst h3
    exact Or.inr ⟨q, (T.setVm vm₁).calling g' mk (Value.ref b :: As).toArray, t, U', L, E, ce, hT, X', hL, e1, e2, hq, hce, hcv, vx_cls hW₁ hcl, st⟩
theorem vx_runSX {hh : List (Nat × Nat × Nat × Nat)} (S : CallFix p m c cc nL s args Ts own) (hM : vx_Met l y ws rm Pc Qc XC mc ms free) (cw : vx_CSW R s args own index y bytes maxL ret hh ws rm mc ms n) (hp : PreS s H Pc As)
    (hg : g.method = m) (hn : As.length = n) (hsize : g.locals.size = nL) (hstack : g.stack = As.reverse ++ rest) (hW : 2 * g.monitorRoom + (rest.map fun v => v.category).sum ≤ 8) (hdg : decode cc g.pc = .ok (.invokestatic index, 3)) (hf : cells + mc ≤ R.cells ∧ slots + ms ≤ R.slots) :
    vx_Run p l e R s m args below meth c H locs cells slots mc ms g rest (Qc As.toArray) XC free := by
  obtain ⟨⟨hrc, hrs, hfr, hlo, hws, hcw⟩, hcode, hini, hy, hlen, hl, hstt⟩ := cw
  have hK : vx_Back l R p e below s args y 3 8 (PreOf R mc ms Pc) (PostOf Qc mc ms free) (vx_Post XC mc ms free) := vx_backW (hh := hh) (bytes := bytes) (maxL := maxL) (ret := ret) hM hp.1 hrc hrs hfr hlo hws hcw (fun a' U hW => word_at hW (Or.inl (by first | rfl | simp [Cond.onTables, Cond.keeps, Cond.steady])) hini)
  obtain ⟨hx, hb, hml, ho, -⟩ := S
  intro T hT X
  rcases vx_callSX X hx (hh := hh) (bytes := bytes) (maxL := maxL) (ret := ret) ho hl hstt hini hcode hy hK hg (hsize.trans hml.symm) (argsL := As) (rest := rest) (fun sig h => hn.trans (hlen sig h)) hstack hW (by rw [hb]; exact hdg)
    (fun vm₁ hW₁ => ⟨hf.1, hf.2, hp.2 (T.setVm vm₁) hT hW₁⟩) with ⟨v, vm₁, ⟨U', l2, c2, s2⟩, hW₁, X', ⟨g', mk, t, L, e1, e2, hq, h1, hL, h2, h3⟩, st⟩ | ⟨q, vm₁, ⟨U', l2, c2, s2⟩, hW₁, X', ⟨g', mk, t, L, E, ce, e1, e2, hq, hce, hcv, hcl, h1, hL, h2, h3⟩, st⟩
  · dsimp only [Pt.U, Pt.locs, Pt.cells, Pt.slots] at X' e1 e2 h1 h2 h3 st
    subst h1; subst h2; subst h3
    exact Or.inl ⟨v, (T.setVm vm₁).calling g' mk As.toArray, t, U', L, hT, X', hL, e1, e2, hq, st⟩
  · dsimp only [Pt.U, Pt.locs, Pt.cells, Pt.slots] at X' e1 e2 h1 h2 h3 st hcl
    subst h1; subst h2; subst h3
    exact Or.inr ⟨q, (T.setVm vm₁).calling g' mk As.toArray, t, U', L, E, ce, hT, X', hL, e1, e2, hq, hce, hcv, vx_cls hW₁ hcl, st⟩
end
end VXH
theorem vx_ofWH {l : Launch} {y : MethodName} {ws ws' : List Cond} {rm : Room} {Pc : Array Value → State → Prop} {Qc : Array Value → State → Outcome → State → Prop} {XC : String → State → State → Prop} {mc ms : Nat} {free : Addr → Prop} {cc : ByteArray} {maxL : Nat} {ret : Option FieldType} {hh : List (Nat × Nat × Nat × Nat)}
    (hy : plainName y.cls = true) (hw : ws = Cond.codeWith y cc maxL ret hh :: ws')
    (body : ∀ p e s m args below meth c s₁, BodyLoose p l y (headSpec ws rm) cc maxL ret e s m args below meth c s₁ → c.maxLocals = maxL → Pc args s →
      W p l e (headSpec ws rm).room s m args below meth c s.heap [] 0 0 (vx_MQ below Qc XC args s mc ms free) (entryFrame m args maxL)) : vx_Met l y ws rm Pc Qc XC mc ms free := by
  refine MetFree.of_bodyS (code := cc) (maxLocals := maxL) (ret := ret) hy ?_ ?_
  · intro args s m h hn
    obtain ⟨m9, meth, c, hn9, h1, h2, h3, h4, -, h5, h6, -⟩ := Cond.codeWith_spec (atoms_spec (ws := ws) h _ (by rw [hw]; exact List.mem_cons_self))
    cases hn.symm.trans hn9
    exact ⟨meth, c, h1, h2, h3, h4, h5, h6⟩
  · intro p e s m args below meth c s₁ B hml hP _
    have hh0 : s₁.heap = s.heap := by rw [B.state]; rfl
    obtain ⟨t, a1, o, b1, b2, b3⟩ := body p e s m args below meth c s₁ B hml hP s₁ hh0 (Stand.of_body B)
    exact ⟨t, o, a1, b1, b2, b3⟩
/-! ===== END ===== -/
/-! ===== BEGIN what the machine throws by itself, no traces kept ===== -/
section VXM
set_option maxHeartbeats 1000000 in
/-- the machine throws cls with the message text, no traces kept: from its note over the frame g to 'throwing' over the same frame (follows the proofs of Stand.vmThrowsMessage, Shelf/KitTracedVmS.lean, and Stand.throwsMessageColdBareV, StandMessageColdV.lean, without the step out of the frame) -/
theorem vx_vmAt {p : Program} {l : Launch} {e : Env} {R : Room} {s : State} {m₀ : MethodId} {args : Array Value} {below : List Frame} {meth : Method} {c : Code} {W : State} {locs : List Loc} {cells slots : Nat}
    (X : Stand p l e R s m₀ args below meth c W locs cells slots) (hexec : p.tables.exec = Jvm.exec) (htr : e.platform.stackTraces = false) {cls : String} {names : List String} {text : String}
    (hcls : Bundle.fit cls = true) (hnames : ∀ n ∈ names, Bundle.fit n = true) (hsoe : (cls == "java/lang/StackOverflowError") = false) (hoom : (cls == "java/lang/OutOfMemoryError") = false)
    (h : ∀ a ∈ Bundle.messageArmAtoms cls names, a.before args s = true)
    (hlocs : ∀ x ∈ locs, ∀ cell, s.heap[x.base]? = some cell → cell.vm.isStatics = false)
    (htext : (text == notModelled) = false) (hlimit : ¬ (stringBytes (stringToUtf16 text)).size > e.platform.arrayLengthLimit) (hheap : ¬ (stringBytes (stringToUtf16 text)).size * componentBytes .byte > e.platform.maxHeapBytes)
    {g : JFrame} (hg : g.method = m₀) (hsize : g.locals.size = c.maxLocals)
    (hRframes : names.length + 4 < R.frames) (hRlocals : 2 * g.monitorRoom + (g.stack.map fun v => v.category).sum + 10240 ≤ R.locals) (hshort : 13 * names.length + 55 ≤ 10240)
    (hRcells : cells + 3 ≤ R.cells) (hRslots : slots + ((stringBytes (stringToUtf16 text)).size + 4 + 6) ≤ R.slots) (hlocks : meth.locks = false) :
    ∃ (S : State) (q : Addr) (ce : Cell), (∀ target, Steps p.tables e below ((S.setTop g).pushFrame (.throwing q)) target → Steps p.tables e below ((W.setTop g).pushFrame (.throwNew cls (some text) none)) target) ∧
      Stand p l e R s m₀ args below meth c S locs (cells + 3) (slots + ((stringBytes (stringToUtf16 text)).size + 4 + 6)) ∧ S.heap[q]? = some ce ∧ s.vm.findClass cls = some ce.cls ∧ ce.vm = .none := by
  have howns : e.platform.frameOwnsMonitors = true := by rw [X.admits.platform]
  have hfin : e.platform.finalization = false := by rw [X.admits.platform]
  have hpl : e.platform.magicAccessors = ({} : Platform).magicAccessors := by rw [X.admits.platform]
  have a : ∀ x, x ∈ Bundle.messageArmAtoms cls names → x.holds args s none s [] = true := fun x hx => h x hx
  obtain ⟨T, Z0, L, -, Y⟩ := ThrowableC.of_atoms (args := args) howns hfin hpl (fun x hx => h x (by simp [Bundle.messageArmAtoms, hx]))
  obtain ⟨Z, M, LZ, LM, hnZ⟩ := Init0T.ofS_atoms (args := args) hpl L Y (fun x hx => h x (by simp [Bundle.messageArmAtoms, hx]))
  obtain ⟨P1, Ps, hlen, L1, hL, hP1m, hlink1, hlink⟩ := Bundle.chainS (args := args) hpl hnZ names cls hcls hnames (fun x hx => h x (by simp [Bundle.messageArmAtoms, hx]))
  obtain ⟨Zs, LZs, hn4, hfitv, hfitc⟩ := StringT.of_atoms (args := args) (fun x hx => h x (by simp [Bundle.messageArmAtoms, hx]))
  have hfound : s.vm.findClass cls = some P1.m.cls := findClass_of_methodNamed hP1m
  obtain ⟨c1, kX, hc1, hk, hord, -, -, hn6⟩ := Cond.instantiable_spec (a (.instantiable cls 6) (by simp [Bundle.messageArmAtoms]))
  cases Option.some.inj (hc1.symm.trans hfound)
  have hinit := Cond.initialized_spec hfound hk (a (.initialized cls) (by simp [Bundle.messageArmAtoms]))
  have hctor : kX.findMethod "<init>" "(Ljava/lang/String;)V" = some P1.m.idx := findMethod_of_methodNamed hP1m hk
  have hsel0 : selectMethod e.platform s.vm P1.m.cls T.fill0 = .method T.fill0 := by
    obtain ⟨c2, r2, m2, q1, q2, q3, q4, -⟩ := Cond.selects_spec (a (.selects cls Bundle.tFill0 Bundle.tFill0) (by simp [Bundle.messageArmAtoms]))
    cases Option.some.inj (q1.symm.trans hfound)
    cases Option.some.inj (q2.symm.trans (State.methodFound?_of_named Y.fill0 (by decide)))
    cases Option.some.inj (q3.symm.trans Y.fill0)
    rw [Launch.admits_selectMethod X.admits]; exact q4
  have hselF : selectMethod e.platform s.vm P1.m.cls T.fill = .method T.fill := by
    obtain ⟨c2, r2, m2, q1, q2, q3, q4, -⟩ := Cond.selects_spec (a (.selects cls Bundle.tFill Bundle.tFill) (by simp [Bundle.messageArmAtoms]))
    cases Option.some.inj (q1.symm.trans hfound)
    cases Option.some.inj (q2.symm.trans (State.methodFound?_of_named Y.fill (by decide)))
    cases Option.some.inj (q3.symm.trans Y.fill)
    rw [Launch.admits_selectMethod X.admits]; exact q4
  obtain ⟨cellS0, hcS0, hiss⟩ := Y.statics
  obtain ⟨u0, hu0⟩ := Cond.staticRefV Y.unassigned L.unassignedStatic L.statics hcS0 hiss (a (.isRef (.static Bundle.tN "UNASSIGNED_STACK" Bundle.steD)) (by simp [Bundle.messageArmAtoms]))
  obtain ⟨sen, hsen⟩ := Cond.staticRefV Y.sentinel L.sentinelStatic L.statics hcS0 hiss (a (.isRef (.static Bundle.tN "SUPPRESSED_SENTINEL" Bundle.listD)) (by simp [Bundle.messageArmAtoms]))
  obtain ⟨ci198, i198, fB, hk198, hg198, ha198, hsB, -, hnB, htB, hffB⟩ := Cond.ownField (t := .object "java/lang/Object") Y.found L.cls (by decide +kernel) (a (.fieldLink Bundle.tN 198 Bundle.tN "backtrace" "Ljava/lang/Object;") (by simp [Bundle.messageArmAtoms])) (a (.lays Bundle.tN Bundle.tN "backtrace" "Ljava/lang/Object;") (by simp [Bundle.messageArmAtoms])) e.platform hpl
  obtain ⟨cellS, hcS', heS, -, hkeep⟩ := X.same.2.2.2.2.2 T.aS cellS0 hcS0
  have hcellS : W.heap[T.aS]? = some cellS := hcS'
  have hout' : ∀ i, (⟨T.aS, i⟩ : Loc) ∉ locs := fun i hmem => by
    have := hlocs _ hmem cellS0 hcS0
    rw [hiss] at this; cases this
  have hknownS : cellS.vm ≠ .unknown := by
    rw [heS]; intro hu
    rw [show cellS0.vm = .unknown from hu] at hiss
    cases hiss
  have hvU : cellS.slots[T.fUnassigned.slot]? = some u0.v := by rw [hkeep _ (hout' _)]; exact hu0
  have hvSen : cellS.slots[T.fSentinel.slot]? = some sen.v := by rw [hkeep _ (hout' _)]; exact hsen
  obtain ⟨iM, hffM⟩ := Y.msg
  obtain ⟨tyC, dC, hdC, hdnC⟩ := Cond.laysAt hfound hk Y.cause (a (.lays cls Bundle.tN "cause" "Ljava/lang/Throwable;") (by simp [Bundle.messageArmAtoms]))
  obtain ⟨tyS, dS, hdS, hdnS⟩ := Cond.laysAt hfound hk Y.stack (a (.lays cls Bundle.tN "stackTrace" Bundle.steD) (by simp [Bundle.messageArmAtoms]))
  obtain ⟨tyP, dP, hdP, hdnP⟩ := Cond.laysAt hfound hk Y.supp (a (.lays cls Bundle.tN "suppressedExceptions" Bundle.listD) (by simp [Bundle.messageArmAtoms]))
  obtain ⟨tyM, dM, hdM, hdnM⟩ := Cond.laysAt hfound hk hffM (a (.lays cls Bundle.tN "detailMessage" "Ljava/lang/String;") (by simp [Bundle.messageArmAtoms]))
  obtain ⟨tyB, dB, hdB, hdnB⟩ := Cond.laysAt hfound hk hffB (a (.lays cls Bundle.tN "backtrace" "Ljava/lang/Object;") (by simp [Bundle.messageArmAtoms]))
  have bC := Cond.laysApart hdB hdC hdnB hdnC (by rw [hnB, Y.causeName]; decide)
  have bS := Cond.laysApart hdB hdS hdnB hdnS (by rw [hnB, Y.stackName]; decide)
  have bP := Cond.laysApart hdB hdP hdnB hdnP (by rw [hnB, Y.suppName]; decide)
  have hbk : ((preparedCellV T.toThrowableT (freshCell P1.m.cls kX) (W.heap.size + 2) u0 sen).withEntry W.cur).slots[fB.slot]? = some .null := by
    have := fresh_default (c := P1.m.cls) tyB
    rw [htB] at this
    simpa [preparedCellV, Cell.setSlot, Cell.withEntry, Array.getElem?_setIfInBounds, bC, bS, bP, bC.symm, bS.symm, bP.symm, defaultValue] using this
  have tkC := Takes.of_laid (v := .ref (W.heap.size + 2)) hk hord tyC (by rw [Y.causeType]; rfl)
  have tkS := Takes.of_laid (v := u0.v) hk hord tyS (by rw [Y.stackType]; exact fits_refV_array _ u0)
  have tkP := Takes.of_laid (v := sen.v) hk hord tyP (by rw [Y.suppType]; exact fits_refV_object _ sen)
  have tkM := Takes.of_laid (v := .ref (W.heap.size + 1)) hk hord tyM (by rw [Y.msgType]; rfl)
  have hskip : SkipFacts T e.platform s (fun u => u) u0 ((preparedCellV T.toThrowableT (freshCell P1.m.cls kX) (W.heap.size + 2) u0 sen).withEntry W.cur) := ⟨{ ci198 := ci198, i198 := i198, fBack := fB }, ⟨hk198, hg198, ha198, hsB⟩, hbk, fun _ _ => rfl⟩
  have h0 : At W g.method c below := by rw [hg]; exact X.here
  obtain ⟨hbeyond, hfreeW⟩ := X.vmMayThrow hsize (.throwNew cls (some text) none) (fun f hf => by cases hf) rfl hRlocals
  have hfr' : W.frames.length + Ps.length + 4 < (e.platform.stackLimits W.me).1 := by have := X.framesAbove hRframes; omega
  have hwd' : (stackUse (.java g :: W.frames.tail)).2 + 13 * Ps.length + 55 ≤ (e.platform.stackLimits W.me).2 := by have := X.stackAbove hsize (K := 13 * Ps.length + 55) (by omega); omega
  have hslots : W.slotsUsed + (stringBytes (stringToUtf16 text)).size + Zs.kS.instanceTypes.size + kX.instanceTypes.size ≤ e.platform.maxSlots := by
    have := X.slotsAbove hRslots
    rw [hn4, hn6]
    omega
  obtain ⟨vm', hW', st⟩ := Steps.vmThrowsMessageColdByV p (s₀ := s) (S := W) (g := g) h0 hexec T L Z LZ M LM X.warmed (t := W.cur) rfl Zs LZs P1 L1 Ps hL hlink1 hlink hsoe hoom hfound hk hinit hord hctor
    (Launch.admits_hotImplicitExceptions X.admits) hbeyond hfreeW htext hlimit hheap (X.cellsAbove hRcells) hslots (hfitv _) (hfitc _)
    (Nn := fun u => u) heapOnly_id (fun _ _ => rfl) (fun _ => rfl) (fun u x y => setCell_twice _ _ _ _) (fun _ => Nat.le_refl _) (cN := ((preparedCellV T.toThrowableT (freshCell P1.m.cls kX) (W.heap.size + 2) u0 sen).withEntry W.cur))
    hsel0 hcellS hknownS hvU tkS (fun _ hu => hu) (fun _ hu => hu) rfl rfl rfl (by simp [preparedCellV, Cell.setSlot, Cell.withEntry]) hskip (fun _ _ hA hW _ hroom _ hrest => L.nativeOff p htr hA hW hroom hrest) hselF hvSen tkC tkP tkM Y.objLocals rfl hfr' hwd'
  rw [plainBareV_eq T.toThrowableT (W.heap.size + 2) u0 sen (.ref (W.heap.size + 1)) W.cur rfl rfl] at st
  obtain ⟨-, -, w3, w4, -, -, -⟩ := withThrown_facts e.platform W Zs text P1.m.cls kX
  have X3 := ((X.pushed (bytesOf Zs.cB (stringToUtf16 text))).pushed (stringAt Zs.cS Zs.kS Zs.fv Zs.fc (stringToUtf16 text) W.heap.size)).pushed (freshCell P1.m.cls kX)
  rw [← withString_eq] at X3
  have X4 := X3.noted hW'
  have ha : (W.heap.size + 2) < ((withThrown W Zs text P1.m.cls kX).setVm vm').heap.size := by show _ < (withThrown W Zs text P1.m.cls kX).heap.size; rw [w3]; omega
  have hcell : ((withThrown W Zs text P1.m.cls kX).setVm vm').heap[(W.heap.size + 2)]? = some (freshCell P1.m.cls kX) := w4
  have X5 := ((((X4.stored hcell T.fCause.slot (.ref (W.heap.size + 2))).storedAgain ha T.fStack.slot u0.v).storedAgain ha T.fSupp.slot sen.v).storedAgain ha T.fStack.slot u0.v).storedAgain ha T.fMsg.slot (.ref (W.heap.size + 1))
  obtain ⟨g₁, hfrM⟩ := X5.frames_eq
  have hU : ((((withThrown W Zs text P1.m.cls kX).setVm vm').setCell (W.heap.size + 2) (plainBareV T.toThrowableT (freshCell P1.m.cls kX) (W.heap.size + 2) u0 sen (.ref (W.heap.size + 1)))).setTop g).pushFrame (.throwing (W.heap.size + 2)) = (((withThrown W Zs text P1.m.cls kX).setVm vm').setCell (W.heap.size + 2) (plainBareV T.toThrowableT (freshCell P1.m.cls kX) (W.heap.size + 2) u0 sen (.ref (W.heap.size + 1)))).setFrames (.throwing (W.heap.size + 2) :: .java g :: below) := by
    rw [State.pushFrame, State.frames_setTop _ hfrM, State.setTop_of_frames _ hfrM, State.setFrames_setFrames]
  have b1 : (bytesOf Zs.cB (stringToUtf16 text)).slots.size = (stringBytes (stringToUtf16 text)).size := by
    rw [(Cell.writeAll_facts _ _).2.2]; simp [bytes0]
  have b2 : (stringAt Zs.cS Zs.kS Zs.fv Zs.fc (stringToUtf16 text) W.heap.size).slots.size = 4 := by simp [string0, Cell.setSlot, hn4]
  have b3 : (freshCell P1.m.cls kX).slots.size = 6 := by simp [hn6]
  rw [b1, b2, b3] at X5
  have e9 : slots + (stringBytes (stringToUtf16 text)).size + 4 + 6 = slots + ((stringBytes (stringToUtf16 text)).size + 4 + 6) := by omega
  rw [e9] at X5
  simp only [List.append_assoc, List.cons_append, List.nil_append] at X5
  refine ⟨((withThrown W Zs text P1.m.cls kX).setVm vm').setCell (W.heap.size + 2) (plainBareV T.toThrowableT (freshCell P1.m.cls kX) (W.heap.size + 2) u0 sen (.ref (W.heap.size + 1))), W.heap.size + 2, _, fun target ht => st _ (by rw [X.tail, ← hU]; exact ht),
    X5.forget (fun y hy => ?_), heapAt_setCell_self _ ha, hfound, rfl⟩
  simp only [List.mem_cons, List.not_mem_nil, or_false] at hy
  have hge : s.heap.size ≤ W.heap.size := X.same.2.1
  rcases hy with rfl | rfl | rfl | rfl | rfl <;> exact Nat.le_trans hge (Nat.le_add_right _ 2)
set_option maxHeartbeats 1000000 in
/-- the machine throws NullPointerException, no traces kept: from its note over the frame g to 'throwing' over the same frame (follows the proof of Stand.vmThrowsNpe, Shelf42/KT2.lean; throwsNpeColdBareVAt, Shelf42/NT91.lean, called) -/
theorem vx_npeAt {p : Program} {l : Launch} {e : Env} {R : Room} {s : State} {m₀ : MethodId} {args : Array Value} {below : List Frame} {meth : Method} {c : Code} {W : State} {locs : List Loc} {cells slots : Nat}
    (X : Stand p l e R s m₀ args below meth c W locs cells slots) (hexec : p.tables.exec = Jvm.exec) (htr : e.platform.stackTraces = false) {n : Nat}
    (h : ∀ a ∈ Bundle.npeArmAtoms n, a.before args s = true)
    (hlocs : ∀ x ∈ locs, ∀ cell, s.heap[x.base]? = some cell → cell.vm.isStatics = false)
    {g : JFrame} (hg : g.method = m₀) (hsize : g.locals.size = c.maxLocals)
    (hRframes : 7 < R.frames) (hRlocals : 2 * g.monitorRoom + (g.stack.map fun v => v.category).sum + 10240 ≤ R.locals)
    (hRcells : cells + 1 ≤ R.cells) (hRslots : slots + n ≤ R.slots) (hlocks : meth.locks = false) :
    ∃ (S : State) (q : Addr) (ce : Cell), (∀ target, Steps p.tables e below ((S.setTop g).pushFrame (.throwing q)) target → Steps p.tables e below ((W.setTop g).pushFrame (.throwNew "java/lang/NullPointerException" none none)) target) ∧
      Stand p l e R s m₀ args below meth c S locs (cells + 1) (slots + n) ∧ S.heap[q]? = some ce ∧ s.vm.findClass "java/lang/NullPointerException" = some ce.cls ∧ ce.vm = .none := by
  have howns : e.platform.frameOwnsMonitors = true := by rw [X.admits.platform]
  have hfin : e.platform.finalization = false := by rw [X.admits.platform]
  have hpl : e.platform.magicAccessors = ({} : Platform).magicAccessors := by rw [X.admits.platform]
  have hpl2 : e.platform.arrayCloneIsPublic = true := by rw [X.admits.platform]
  have a' : ∀ x, x ∈ Bundle.npeArmAtoms n → x.holds args s none s [] = true := fun x hx => h x hx
  obtain ⟨T, Z, L, LZ, Y⟩ := ThrowableC.of_atoms (args := args) howns hfin hpl (fun x hx => h x (by simp [Bundle.npeArmAtoms, hx]))
  obtain ⟨N, LN, hcN, hnNF, hordN, hffS⟩ := NpeC.of_atoms (args := args) hpl hpl2 L Y (fun x hx => h x (by simp [Bundle.npeArmAtoms, hx]))
  obtain ⟨P1, L1, hP1m, hP1s⟩ := PassC.of_atoms (args := args) (s := s) hpl (X := Bundle.nN) (Y := Bundle.rN) (by decide) (by decide) LibCode.NullPointerException.Init0.at_0 LibCode.NullPointerException.Init0.at_1 LibCode.NullPointerException.Init0.at_4 (fun x hx => h x (by simp [Bundle.npeArmAtoms, hx]))
  obtain ⟨PR, LR, hPRm, hPRs⟩ := PassC.of_atoms (args := args) (s := s) hpl (X := Bundle.rN) (Y := Bundle.eN) (by decide) (by decide) LibCode.RuntimeException.Init0.at_0 LibCode.RuntimeException.Init0.at_1 LibCode.RuntimeException.Init0.at_4 (fun x hx => h x (by simp [Bundle.npeArmAtoms, hx]))
  obtain ⟨PE, LEx, hPEm, hPEs⟩ := PassC.of_atoms (args := args) (s := s) hpl (X := Bundle.eN) (Y := Bundle.tN) (by decide) (by decide) LibCode.Exception.Init0.at_0 LibCode.Exception.Init0.at_1 LibCode.Exception.Init0.at_4 (fun x hx => h x (by simp [Bundle.npeArmAtoms, hx]))
  have hfound : s.vm.findClass Bundle.nN = some P1.m.cls := findClass_of_methodNamed hP1m
  have ecls : N.cN = P1.m.cls := Option.some.inj (hcN.symm.trans hfound)
  have hk : s.vm.classes[P1.m.cls]? = some N.kN := by rw [← ecls]; exact LN.cls
  have hinit := Cond.initialized_spec hfound hk (a' (.initialized Bundle.nN) (by simp [Bundle.npeArmAtoms]))
  have hctor : N.kN.findMethod "<init>" "()V" = some P1.m.idx := findMethod_of_methodNamed hP1m hk
  obtain ⟨c1, k1, hc1, hk1, -, -, -, hn⟩ := Cond.instantiable_spec (a' (.instantiable Bundle.nN n) (by simp [Bundle.npeArmAtoms]))
  cases Option.some.inj (hc1.symm.trans hfound)
  cases Option.some.inj (hk1.symm.trans hk)
  have hfsz : (freshCell P1.m.cls N.kN).slots.size = n := by simp [hn]
  have hlink1 : P1.sup = PR.m := Option.some.inj (hP1s.symm.trans hPRm)
  have hlinkR : PR.sup = PE.m := Option.some.inj (hPRs.symm.trans hPEm)
  have hlinkE : PE.sup = Z.m T.toThrowableT := Option.some.inj (hPEs.symm.trans Y.init0)
  have hLs : ∀ P, P ∈ [PR, PE] → P.Links0 e.platform s := fun P hP => by
    simp only [List.mem_cons, List.not_mem_nil, or_false] at hP
    rcases hP with rfl | rfl
    · exact LR
    · exact LEx
  have hsel0 : selectMethod e.platform s.vm P1.m.cls T.fill0 = .method T.fill0 := by
    obtain ⟨c2, r2, m2, q1, q2, q3, q4, -⟩ := Cond.selects_spec (a' (.selects Bundle.nN Bundle.tFill0 Bundle.tFill0) (by simp [Bundle.npeArmAtoms]))
    cases Option.some.inj (q1.symm.trans hfound)
    cases Option.some.inj (q2.symm.trans (State.methodFound?_of_named Y.fill0 (by decide)))
    cases Option.some.inj (q3.symm.trans Y.fill0)
    rw [Launch.admits_selectMethod X.admits]; exact q4
  have hselF : selectMethod e.platform s.vm P1.m.cls T.fill = .method N.fill := by
    obtain ⟨c2, r2, m2, q1, q2, q3, q4, -⟩ := Cond.selects_spec (a' (.selects Bundle.nN Bundle.tFill Bundle.nFill) (by simp [Bundle.npeArmAtoms]))
    cases Option.some.inj (q1.symm.trans hfound)
    cases Option.some.inj (q2.symm.trans (State.methodFound?_of_named Y.fill (by decide)))
    cases Option.some.inj (q3.symm.trans hnNF)
    rw [Launch.admits_selectMethod X.admits]; exact q4
  obtain ⟨cellS0, hcS0, hiss⟩ := Y.statics
  obtain ⟨u0, hu0⟩ := Cond.staticRefV Y.unassigned L.unassignedStatic L.statics hcS0 hiss (a' (.isRef (.static Bundle.tN "UNASSIGNED_STACK" Bundle.steD)) (by simp [Bundle.npeArmAtoms]))
  obtain ⟨sen, hsen⟩ := Cond.staticRefV Y.sentinel L.sentinelStatic L.statics hcS0 hiss (a' (.isRef (.static Bundle.tN "SUPPRESSED_SENTINEL" Bundle.listD)) (by simp [Bundle.npeArmAtoms]))
  obtain ⟨ci198, i198, fB, hk198, hg198, ha198, hsB, -, hnB, htB, hffB⟩ := Cond.ownField (t := .object "java/lang/Object") Y.found L.cls (by decide +kernel) (a' (.fieldLink Bundle.tN 198 Bundle.tN "backtrace" Bundle.objD) (by simp [Bundle.npeArmAtoms])) (a' (.lays Bundle.tN Bundle.tN "backtrace" Bundle.objD) (by simp [Bundle.npeArmAtoms])) e.platform hpl
  obtain ⟨cellS, hcS', heS, -, hkeep⟩ := X.same.2.2.2.2.2 T.aS cellS0 hcS0
  have hcellS : W.heap[T.aS]? = some cellS := hcS'
  have hout' : ∀ i, (⟨T.aS, i⟩ : Loc) ∉ locs := fun i hmem => by
    have := hlocs _ hmem cellS0 hcS0
    rw [hiss] at this; cases this
  have hknownS : cellS.vm ≠ .unknown := by
    rw [heS]; intro hu
    rw [show cellS0.vm = .unknown from hu] at hiss
    cases hiss
  have hvU : cellS.slots[T.fUnassigned.slot]? = some u0.v := by rw [hkeep _ (hout' _)]; exact hu0
  have hvSen : cellS.slots[T.fSentinel.slot]? = some sen.v := by rw [hkeep _ (hout' _)]; exact hsen
  obtain ⟨tyC, dC, hdC, hdnC⟩ := Cond.laysAt hfound hk Y.cause (a' (.lays Bundle.nN Bundle.tN "cause" "Ljava/lang/Throwable;") (by simp [Bundle.npeArmAtoms]))
  obtain ⟨tyS, dS, hdS, hdnS⟩ := Cond.laysAt hfound hk Y.stack (a' (.lays Bundle.nN Bundle.tN "stackTrace" Bundle.steD) (by simp [Bundle.npeArmAtoms]))
  obtain ⟨tyP, dP, hdP, hdnP⟩ := Cond.laysAt hfound hk Y.supp (a' (.lays Bundle.nN Bundle.tN "suppressedExceptions" Bundle.listD) (by simp [Bundle.npeArmAtoms]))
  obtain ⟨tyX, dX, hdX, hdnX⟩ := Cond.laysAt hfound hk hffS (a' (.lays Bundle.nN Bundle.nN "extendedMessageState" "I") (by simp [Bundle.npeArmAtoms, Bundle.npeAtoms]))
  obtain ⟨hnX, htX⟩ := State.fieldFound?_type hffS (t := .int) (by decide +kernel)
  have xC := Cond.laysApart hdC hdX hdnC hdnX (by rw [hnX, Y.causeName]; decide)
  have xS := Cond.laysApart hdS hdX hdnS hdnX (by rw [hnX, Y.stackName]; decide)
  have xP := Cond.laysApart hdP hdX hdnP hdnX (by rw [hnX, Y.suppName]; decide)
  have hv0 : (freshCell P1.m.cls N.kN).slots[N.fState.slot]? = some (.int 0) := by
    have := fresh_default (c := P1.m.cls) tyX
    rw [htX] at this; exact this
  obtain ⟨tyB, dB, hdB, hdnB⟩ := Cond.laysAt hfound hk hffB (a' (.lays Bundle.nN Bundle.tN "backtrace" Bundle.objD) (by simp [Bundle.npeArmAtoms]))
  have bC := Cond.laysApart hdB hdC hdnB hdnC (by rw [hnB, Y.causeName]; decide)
  have bS := Cond.laysApart hdB hdS hdnB hdnS (by rw [hnB, Y.stackName]; decide)
  have bP := Cond.laysApart hdB hdP hdnB hdnP (by rw [hnB, Y.suppName]; decide)
  have bX := Cond.laysApart hdB hdX hdnB hdnX (by rw [hnB, hnX]; decide)
  have hbk : ((npeCell N.toNpeT (preparedCellV T.toThrowableT (freshCell P1.m.cls N.kN) W.heap.size u0 sen) W.cur).withEntry W.cur).slots[fB.slot]? = some .null := by
    have := fresh_default (c := P1.m.cls) tyB
    rw [htB] at this
    simpa [npeCell, preparedCellV, Cell.setSlot, Cell.withEntry, Array.getElem?_setIfInBounds, bC, bS, bP, bX, bC.symm, bS.symm, bP.symm, bX.symm, defaultValue] using this
  have tkC := Takes.of_laid (v := .ref W.heap.size) hk hordN tyC (by rw [Y.causeType]; rfl)
  have tkS := Takes.of_laid (v := u0.v) hk hordN tyS (by rw [Y.stackType]; exact fits_refV_array _ u0)
  have tkP := Takes.of_laid (v := sen.v) hk hordN tyP (by rw [Y.suppType]; exact fits_refV_object _ sen)
  have tkX := Takes.of_laid (v := .int 1) hk hordN tyX (by rw [htX]; rfl)
  have hskip : SkipFacts T e.platform s (fun u => u) u0 ((npeCell N.toNpeT (preparedCellV T.toThrowableT (freshCell P1.m.cls N.kN) W.heap.size u0 sen) W.cur).withEntry W.cur) := ⟨{ ci198 := ci198, i198 := i198, fBack := fB }, ⟨hk198, hg198, ha198, hsB⟩, hbk, fun _ _ => rfl⟩
  obtain ⟨vm', X3, st, -⟩ := X.throwsNpeColdBareVAt hexec hg hsize T L Z LZ N LN P1 L1 [PR, PE] hLs hlink1 ⟨hlinkR, hlinkE, trivial⟩ hfound hk hinit hordN hctor hsel0 hselF hcellS hknownS hvU hvSen
    hv0 xC xS xP tkC tkS tkP tkX Y.objLocals hskip (fun _ _ hA hW _ hroom _ hrest => L.nativeOff p htr hA hW hroom hrest) (by simpa using hRframes) hRlocals (by simp) hRcells (by rw [hn]; exact hRslots)
  have hlt : W.heap.size < ((W.pushCell (freshCell P1.m.cls N.kN)).setVm vm').heap.size := by
    show W.heap.size < (W.pushCell (freshCell P1.m.cls N.kN)).heap.size
    rw [State.heap_size_pushCell]; omega
  rw [hfsz] at X3
  obtain ⟨g₁, hfrM⟩ := X3.frames_eq
  have hU : ((((W.pushCell (freshCell P1.m.cls N.kN)).setVm vm').setCell W.heap.size (npeBareV T.toThrowableT N.toNpeT (freshCell P1.m.cls N.kN) W.heap.size u0 sen)).setTop g).pushFrame (.throwing W.heap.size) = (((W.pushCell (freshCell P1.m.cls N.kN)).setVm vm').setCell W.heap.size (npeBareV T.toThrowableT N.toNpeT (freshCell P1.m.cls N.kN) W.heap.size u0 sen)).setFrames (.throwing W.heap.size :: .java g :: below) := by
    rw [State.pushFrame, State.frames_setTop _ hfrM, State.setTop_of_frames _ hfrM, State.setFrames_setFrames]
  refine ⟨_, W.heap.size, _, fun target ht => st.trans (by rw [← hU]; exact ht), X3.forget (fun y hy => ?_), heapAt_setCell_self _ hlt, hfound, rfl⟩
  simp only [List.mem_cons, List.not_mem_nil, or_false] at hy
  have hge : s.heap.size ≤ W.heap.size := X.same.2.1
  rcases hy with rfl | rfl | rfl | rfl | rfl <;> exact hge
/-- the words of a machine's NullPointerException, but the four that speak of the heap -/
def vx_atN (n : Nat) : List Cond := (Bundle.npeArmAtoms n).filter vx_no
/-- the words of a machine's throw with a message, but the four that speak of the heap -/
def vx_atM (X : String) (names : List String) : List Cond := (Bundle.messageArmAtoms X names).filter vx_no
section
variable {p : Program} {l : Launch} {e : Env} {R : Room} {s : State} {m : MethodId} {args : Array Value} {below : List Frame} {meth : Method} {c : Code} {H : Heap} {locs : List Loc} {cells slots : Nat}
/-- a frame seen from a rebased start, seen from the first start again -/
theorem vx_back9 {T S : State} {R' : Room} {k n : Nat} (X : Stand p l e R s m args below meth c T locs cells slots) (Y : Stand p l e R' ((T.setVm s.vm).setFrames (.invoking m args :: below)) m args below meth c T [] 0 0) (Z : Stand p l e R' ((T.setVm s.vm).setFrames (.invoking m args :: below)) m args below meth c S [] k n) :
    Stand p l e R s m args below meth c S locs (cells + k) (slots + n) := by
  have hW0 : s.WarmedH ((T.setVm s.vm).setFrames (.invoking m args :: below)).vm := State.WarmedH.refl s
  refine { admits := X.admits, cas := X.cas, clock := X.clock, frames := X.frames, room := X.room, hears := X.hears, method := X.method, code := X.code, here := Z.here, tail := Z.tail, warmed := State.WarmedH.trans hW0 Z.warmed, limits := Z.limits.trans (Y.limits.symm.trans X.limits), bytes := Z.bytes.trans (Y.bytes.symm.trans X.bytes), same := ?_ }
  obtain ⟨e1, e2⟩ := Z.same
  rw [State.setFrames_setFrames] at e1
  have h2 : (T.setVm s.vm).sameButNew (S.setVm s.vm) [] k n := ⟨e1, e2⟩
  have h3 := X.same.trans h2
  rw [List.append_nil] at h3
  exact h3
/-- from the machine's note that E is thrown here with this text -/
def vx_Note (p : Program) (l : Launch) (e : Env) (R : Room) (s : State) (m : MethodId) (args : Array Value) (below : List Frame) (meth : Method) (c : Code) (H : Heap) (locs : List Loc) (cells slots : Nat) (Q : State → Prop) (g : JFrame) (E text : String) : Prop :=
  ∀ T : State, T.heap = H → Stand p l e R s m args below meth c T locs cells slots → ∃ t, Steps p.tables e below ((T.setTop g).pushFrame (.throwNew E (some text) none)) t ∧ Q t
theorem vx_vm {pc : Nat} {ls : Array Slot} {rest : List Value} {Q : State → Prop} (hexec : p.tables.exec = Jvm.exec) (hl : l.stackTraces = false) {cls text : String} {names : List String} {nb : Nat} {A : Nat → Prop}
    (hcls : Bundle.fit cls = true) (hnames : ∀ n ∈ names, Bundle.fit n = true) (hsoe : (cls == "java/lang/StackOverflowError") = false) (hoom : (cls == "java/lang/OutOfMemoryError") = false)
    (hat : ∀ w ∈ vx_atM cls names, w.before args s = true) (hgood : ∀ w ∈ vx_atM cls names, vx_ot w = true)
    (hU : vx_Zq Bundle.tN "UNASSIGNED_STACK" Bundle.steD A s s.heap) (hN : vx_Zq Bundle.tN "SUPPRESSED_SENTINEL" Bundle.listD A s s.heap) (hS : va_S A s.heap H locs) (hsize : ls.size = c.maxLocals)
    (htext : (text == notModelled) = false) (hnb : (stringBytes (stringToUtf16 text)).size ≤ nb) (hnb1 : nb ≤ 1000)
    (hRframes : names.length + 4 < R.frames) (hRlocals : (rest.map fun v => v.category).sum + 10240 ≤ R.locals) (hshort : 13 * names.length + 55 ≤ 10240) (hRcells : cells + 3 ≤ R.cells) (hRslots : slots + (nb + 10) ≤ R.slots) (hlocks : meth.locks = false)
    (k : ∀ (H1 : Heap) (q9 : Addr) (ce : Cell), H.size ≤ H1.size → (∀ q : Nat, q < H.size → H1[q]? = H[q]?) → va_S A s.heap H1 locs → H1[q9]? = some ce → ce.vm = .none → s.vm.findClass cls = some ce.cls → vx_W p l e R s m args below meth c H1 locs (cells + 3) (slots + (nb + 10)) Q (F0 m pc ls rest) q9) :
    vx_Note p l e R s m args below meth c H locs cells slots Q (F0 m pc ls rest) cls text := by
  intro T hT X
  have htr : e.platform.stackTraces = false := (show e.platform.stackTraces = l.stackTraces by rw [X.admits.platform]).trans hl
  have Y := vx_rebase X (R' := { frames := R.frames, locals := R.locals, cells := 3, slots := nb + 10 }) (Nat.le_refl _) (Nat.le_refl _) hRcells hRslots
  have hhp : ((T.setVm s.vm).setFrames (.invoking m args :: below)).heap = H := hT
  have hW0 : s.WarmedH ((T.setVm s.vm).setFrames (.invoking m args :: below)).vm := State.WarmedH.refl s
  have hat' : ∀ w ∈ vx_atM cls names, w.before args ((T.setVm s.vm).setFrames (.invoking m args :: below)) = true := fun w hw => vx_ot_at hW0 rfl (hgood w hw) (hat w hw)
  have hU' : vx_Zq Bundle.tN "UNASSIGNED_STACK" Bundle.steD A ((T.setVm s.vm).setFrames (.invoking m args :: below)) ((T.setVm s.vm).setFrames (.invoking m args :: below)).heap := by rw [hhp]; exact vx_Zq.moved hW0.alike (hU.kept hS.2.1)
  have hN' : vx_Zq Bundle.tN "SUPPRESSED_SENTINEL" Bundle.listD A ((T.setVm s.vm).setFrames (.invoking m args :: below)) ((T.setVm s.vm).setFrames (.invoking m args :: below)).heap := by rw [hhp]; exact vx_Zq.moved hW0.alike (hN.kept hS.2.1)
  obtain ⟨S, q, ce, st, Z, hce, hcl', hv⟩ := vx_vmAt Y hexec htr (cls := cls) (names := names) (text := text) hcls hnames hsoe hoom (vx_own hat' (vx_isRefq hU'.1) (vx_isRefq hN'.1) hU'.2.word hN'.2.word) (fun x hx => nomatch hx) htext
    (by rw [Launch.admits_arrayLengthLimit X.admits]; omega) (by rw [Launch.admits_maxHeapBytes X.admits]; simp only [componentBytes]; omega)
    (g := F0 m pc ls rest) rfl hsize hRframes (by show 2 * 0 + (rest.map fun v => v.category).sum + 10240 ≤ R.locals; omega) hshort (by show 0 + 3 ≤ 3; omega) (by show 0 + (_ + 4 + 6) ≤ nb + 10; omega) hlocks
  obtain ⟨f1, f2⟩ := vx_frame Z.same
  have f1' : H.size ≤ S.heap.size := by rw [← hT]; exact f1
  have f2' : ∀ q : Nat, q < H.size → S.heap[q]? = H[q]? := fun q hq => by
    rw [← hT]
    exact f2 q (by rw [← hT] at hq; exact hq) (fun z hz => nomatch hz)
  have X5 := vx_back9 X Y Z
  have X6 : Stand p l e R s m args below meth c S locs (cells + 3) (slots + (nb + 10)) := { X5 with same := X5.same.mono (by omega) (by omega) }
  obtain ⟨t, a1, b1⟩ := k S.heap q ce f1' f2' ⟨Nat.le_trans hS.1 f1', fun q h1 h2 => (f2' q (Nat.lt_of_lt_of_le h1 hS.1)).trans (hS.2.1 q h1 h2), hS.2.2⟩ hce hv hcl' S rfl X6
  exact ⟨t, st t a1, b1⟩
/-- from the machine's note that NullPointerException is thrown here -/
def vx_NoteN (p : Program) (l : Launch) (e : Env) (R : Room) (s : State) (m : MethodId) (args : Array Value) (below : List Frame) (meth : Method) (c : Code) (H : Heap) (locs : List Loc) (cells slots : Nat) (Q : State → Prop) (g : JFrame) : Prop :=
  ∀ T : State, T.heap = H → Stand p l e R s m args below meth c T locs cells slots → ∃ t, Steps p.tables e below ((T.setTop g).pushFrame (.throwNew "java/lang/NullPointerException" none none)) t ∧ Q t
theorem vx_npe {pc : Nat} {ls : Array Slot} {rest : List Value} {Q : State → Prop} (hexec : p.tables.exec = Jvm.exec) (hl : l.stackTraces = false) {nb : Nat} {A : Nat → Prop}
    (hat : ∀ w ∈ vx_atN nb, w.before args s = true) (hgood : ∀ w ∈ vx_atN nb, vx_ot w = true)
    (hU : vx_Zq Bundle.tN "UNASSIGNED_STACK" Bundle.steD A s s.heap) (hN : vx_Zq Bundle.tN "SUPPRESSED_SENTINEL" Bundle.listD A s s.heap) (hS : va_S A s.heap H locs) (hsize : ls.size = c.maxLocals)
    (hRframes : 7 < R.frames) (hRlocals : (rest.map fun v => v.category).sum + 10240 ≤ R.locals) (hRcells : cells + 1 ≤ R.cells) (hRslots : slots + nb ≤ R.slots) (hlocks : meth.locks = false)
    (k : ∀ (H1 : Heap) (q9 : Addr) (ce : Cell), H.size ≤ H1.size → (∀ q : Nat, q < H.size → H1[q]? = H[q]?) → va_S A s.heap H1 locs → H1[q9]? = some ce → ce.vm = .none → s.vm.findClass "java/lang/NullPointerException" = some ce.cls → vx_W p l e R s m args below meth c H1 locs (cells + 1) (slots + nb) Q (F0 m pc ls rest) q9) :
    vx_NoteN p l e R s m args below meth c H locs cells slots Q (F0 m pc ls rest) := by
  intro T hT X
  have htr : e.platform.stackTraces = false := (show e.platform.stackTraces = l.stackTraces by rw [X.admits.platform]).trans hl
  have Y := vx_rebase X (R' := { frames := R.frames, locals := R.locals, cells := 1, slots := nb }) (Nat.le_refl _) (Nat.le_refl _) hRcells hRslots
  have hhp : ((T.setVm s.vm).setFrames (.invoking m args :: below)).heap = H := hT
  have hW0 : s.WarmedH ((T.setVm s.vm).setFrames (.invoking m args :: below)).vm := State.WarmedH.refl s
  have hat' : ∀ w ∈ vx_atN nb, w.before args ((T.setVm s.vm).setFrames (.invoking m args :: below)) = true := fun w hw => vx_ot_at hW0 rfl (hgood w hw) (hat w hw)
  have hU' : vx_Zq Bundle.tN "UNASSIGNED_STACK" Bundle.steD A ((T.setVm s.vm).setFrames (.invoking m args :: below)) ((T.setVm s.vm).setFrames (.invoking m args :: below)).heap := by rw [hhp]; exact vx_Zq.moved hW0.alike (hU.kept hS.2.1)
  have hN' : vx_Zq Bundle.tN "SUPPRESSED_SENTINEL" Bundle.listD A ((T.setVm s.vm).setFrames (.invoking m args :: below)) ((T.setVm s.vm).setFrames (.invoking m args :: below)).heap := by rw [hhp]; exact vx_Zq.moved hW0.alike (hN.kept hS.2.1)
  obtain ⟨S, q, ce, st, Z, hce, hcl', hv⟩ := vx_npeAt Y hexec htr (n := nb) (vx_own hat' (vx_isRefq hU'.1) (vx_isRefq hN'.1) hU'.2.word hN'.2.word) (fun x hx => nomatch hx)
    (g := F0 m pc ls rest) rfl hsize hRframes (by show 2 * 0 + (rest.map fun v => v.category).sum + 10240 ≤ R.locals; omega) (by show 0 + 1 ≤ 1; omega) (by show 0 + nb ≤ nb; omega) hlocks
  obtain ⟨f1, f2⟩ := vx_frame Z.same
  have f1' : H.size ≤ S.heap.size := by rw [← hT]; exact f1
  have f2' : ∀ q : Nat, q < H.size → S.heap[q]? = H[q]? := fun q hq => by
    rw [← hT]
    exact f2 q (by rw [← hT] at hq; exact hq) (fun z hz => nomatch hz)
  have X5 := vx_back9 X Y Z
  have X6 : Stand p l e R s m args below meth c S locs (cells + 1) (slots + nb) := { X5 with same := X5.same.mono (by omega) (by omega) }
  obtain ⟨t, a1, b1⟩ := k S.heap q ce f1' f2' ⟨Nat.le_trans hS.1 f1', fun q h1 h2 => (f2' q (Nat.lt_of_lt_of_le h1 hS.1)).trans (hS.2.1 q h1 h2), hS.2.2⟩ hce hv hcl' S rfl X6
  exact ⟨t, st t a1, b1⟩
variable {Q : State → Prop} {cc : ByteArray} {pc : Nat} {ls : Array Slot} {rest : List Value}
theorem vx_idivZ (hexec : p.tables.exec = Jvm.exec) (hb : c.code = cc) {a b : Int32} (h0 : b = 0) (d : decode cc pc = .ok (.idiv, 1)) (k : vx_Note p l e R s m args below meth c H locs cells slots Q (F0 m pc ls rest) "java/lang/ArithmeticException" "/ by zero") :
    W p l e R s m args below meth c H locs cells slots Q (F0 m pc ls (.int b :: .int a :: rest)) := by
  intro T hT X
  obtain ⟨t, st, q⟩ := k T hT X
  exact ⟨t, X.idivZero hexec (g := F0 m pc ls (.int b :: .int a :: rest)) rfl (a := a) (rest := rest) (by rw [h0]) (by rw [hb]; exact d) t st, q⟩
theorem vx_iremZ (hexec : p.tables.exec = Jvm.exec) (hb : c.code = cc) {a b : Int32} (h0 : b = 0) (d : decode cc pc = .ok (.irem, 1)) (k : vx_Note p l e R s m args below meth c H locs cells slots Q (F0 m pc ls rest) "java/lang/ArithmeticException" "/ by zero") :
    W p l e R s m args below meth c H locs cells slots Q (F0 m pc ls (.int b :: .int a :: rest)) := by
  intro T hT X
  obtain ⟨t, st, q⟩ := k T hT X
  exact ⟨t, X.iremZero hexec (g := F0 m pc ls (.int b :: .int a :: rest)) rfl (a := a) (rest := rest) (by rw [h0]) (by rw [hb]; exact d) t st, q⟩
theorem vx_ldivZ (hexec : p.tables.exec = Jvm.exec) (hb : c.code = cc) {a b : Int64} (h0 : b = 0) (d : decode cc pc = .ok (.ldiv, 1)) (k : vx_Note p l e R s m args below meth c H locs cells slots Q (F0 m pc ls rest) "java/lang/ArithmeticException" "/ by zero") :
    W p l e R s m args below meth c H locs cells slots Q (F0 m pc ls (.long b :: .long a :: rest)) := by
  intro T hT X
  obtain ⟨t, st, q⟩ := k T hT X
  exact ⟨t, X.ldivZero hexec (g := F0 m pc ls (.long b :: .long a :: rest)) rfl (a := a) (rest := rest) (by rw [h0]) (by rw [hb]; exact d) t st, q⟩
theorem vx_lremZ (hexec : p.tables.exec = Jvm.exec) (hb : c.code = cc) {a b : Int64} (h0 : b = 0) (d : decode cc pc = .ok (.lrem, 1)) (k : vx_Note p l e R s m args below meth c H locs cells slots Q (F0 m pc ls rest) "java/lang/ArithmeticException" "/ by zero") :
    W p l e R s m args below meth c H locs cells slots Q (F0 m pc ls (.long b :: .long a :: rest)) := by
  intro T hT X
  obtain ⟨t, st, q⟩ := k T hT X
  exact ⟨t, X.lremZero hexec (g := F0 m pc ls (.long b :: .long a :: rest)) rfl (a := a) (rest := rest) (by rw [h0]) (by rw [hb]; exact d) t st, q⟩
theorem vx_ialdZ {D : va_G} {cl : List vw_C} {ws : va_W} {tys : List (ClassId × FieldType)} {a : Nat} (hexec : p.tables.exec = Jvm.exec) (hb : c.code = cc) (hK : va_K D cl tys s) (hP : va_P D cl ws H) (q0 t0 : Nat) {cA : ClassId} {n : Nat} {f : Nat → Int32} (ha : ws[q0]? = some (a, .inl (cA, n, .inl f))) (ht : tys[t0]? = some (cA, .int)) {i : Int32} (hout : ¬ vp_in i n) (hdg : decode cc pc = .ok (.iaload, 1))
    (k : ∀ tx : String, tx = (toString "Index " ++ toString i ++ toString " out of bounds for length " ++ toString n : String) → vx_Note p l e R s m args below meth c H locs cells slots Q (F0 m pc ls rest) "java/lang/ArrayIndexOutOfBoundsException" tx) : W p l e R s m args below meth c H locs cells slots Q (F0 m pc ls (.int i :: .ref a :: rest)) := by
  intro T hT X
  obtain ⟨t, st, q⟩ := k _ rfl T hT X
  refine ⟨t, ?_, q⟩
  have h1 := X.ialoadOut hexec (by rw [hT]; exact hP q0 _ ha) ((hK.2 t0 _ ht).1 n (fun j => .int (f j))) (j := i) (by show (i < 0 ∨ (arrV _ _ _).slots.size ≤ _); rw [arrV_size]; exact Classical.byContradiction hout) (g := F0 m pc ls (.int i :: .ref a :: rest)) rfl (rest := rest) rfl (by rw [hb]; exact hdg) t
  simp only [arrV_size] at h1
  exact h1 st
theorem vx_iastZ {D : va_G} {cl : List vw_C} {ws : va_W} {tys : List (ClassId × FieldType)} {a : Nat} (hexec : p.tables.exec = Jvm.exec) (hb : c.code = cc) (hK : va_K D cl tys s) (hP : va_P D cl ws H) (q0 t0 : Nat) {cA : ClassId} {n : Nat} {f : Nat → Int32} (ha : ws[q0]? = some (a, .inl (cA, n, .inl f))) (ht : tys[t0]? = some (cA, .int)) {i : Int32} {x : Int32} (hout : ¬ vp_in i n) (hdg : decode cc pc = .ok (.iastore, 1))
    (k : ∀ tx : String, tx = (toString "Index " ++ toString i ++ toString " out of bounds for length " ++ toString n : String) → vx_Note p l e R s m args below meth c H locs cells slots Q (F0 m pc ls rest) "java/lang/ArrayIndexOutOfBoundsException" tx) : W p l e R s m args below meth c H locs cells slots Q (F0 m pc ls (.int x :: .int i :: .ref a :: rest)) := by
  intro T hT X
  obtain ⟨t, st, q⟩ := k _ rfl T hT X
  refine ⟨t, ?_, q⟩
  have h1 := X.iastoreOut hexec (by rw [hT]; exact hP q0 _ ha) ((hK.2 t0 _ ht).1 n (fun j => .int (f j))) (j := i) (by show (i < 0 ∨ (arrV _ _ _).slots.size ≤ _); rw [arrV_size]; exact Classical.byContradiction hout) (g := F0 m pc ls (.int x :: .int i :: .ref a :: rest)) rfl (rest := rest) rfl (by rw [hb]; exact hdg) t
  simp only [arrV_size] at h1
  exact h1 st
theorem vx_baldZ {D : va_G} {cl : List vw_C} {ws : va_W} {tys : List (ClassId × FieldType)} {a : Nat} (hexec : p.tables.exec = Jvm.exec) (hb : c.code = cc) (hK : va_K D cl tys s) (hP : va_P D cl ws H) (q0 t0 : Nat) {cA : ClassId} {n : Nat} {f : Nat → Int32} (ha : ws[q0]? = some (a, .inl (cA, n, .inl f))) (ht : tys[t0]? = some (cA, .byte)) {i : Int32} (hout : ¬ vp_in i n) (hdg : decode cc pc = .ok (.baload, 1))
    (k : ∀ tx : String, tx = (toString "Index " ++ toString i ++ toString " out of bounds for length " ++ toString n : String) → vx_Note p l e R s m args below meth c H locs cells slots Q (F0 m pc ls rest) "java/lang/ArrayIndexOutOfBoundsException" tx) : W p l e R s m args below meth c H locs cells slots Q (F0 m pc ls (.int i :: .ref a :: rest)) := by
  intro T hT X
  obtain ⟨t, st, q⟩ := k _ rfl T hT X
  refine ⟨t, ?_, q⟩
  have h1 := X.baloadOut hexec (by rw [hT]; exact hP q0 _ ha) ((hK.2 t0 _ ht).1 n (fun j => .int (f j))) (j := i) (by show (i < 0 ∨ (arrV _ _ _).slots.size ≤ _); rw [arrV_size]; exact Classical.byContradiction hout) (g := F0 m pc ls (.int i :: .ref a :: rest)) rfl (rest := rest) rfl (by rw [hb]; exact hdg) t
  simp only [arrV_size] at h1
  exact h1 st
theorem vx_bastZ {D : va_G} {cl : List vw_C} {ws : va_W} {tys : List (ClassId × FieldType)} {a : Nat} (hexec : p.tables.exec = Jvm.exec) (hb : c.code = cc) (hK : va_K D cl tys s) (hP : va_P D cl ws H) (q0 t0 : Nat) {cA : ClassId} {n : Nat} {f : Nat → Int32} (ha : ws[q0]? = some (a, .inl (cA, n, .inl f))) (ht : tys[t0]? = some (cA, .byte)) {i : Int32} {x : Int32} (hout : ¬ vp_in i n) (hdg : decode cc pc = .ok (.bastore, 1))
    (k : ∀ tx : String, tx = (toString "Index " ++ toString i ++ toString " out of bounds for length " ++ toString n : String) → vx_Note p l e R s m args below meth c H locs cells slots Q (F0 m pc ls rest) "java/lang/ArrayIndexOutOfBoundsException" tx) : W p l e R s m args below meth c H locs cells slots Q (F0 m pc ls (.int x :: .int i :: .ref a :: rest)) := by
  intro T hT X
  obtain ⟨t, st, q⟩ := k _ rfl T hT X
  refine ⟨t, ?_, q⟩
  have h1 := X.bastoreOut hexec (by rw [hT]; exact hP q0 _ ha) ((hK.2 t0 _ ht).1 n (fun j => .int (f j))) (j := i) (by show (i < 0 ∨ (arrV _ _ _).slots.size ≤ _); rw [arrV_size]; exact Classical.byContradiction hout) (g := F0 m pc ls (.int x :: .int i :: .ref a :: rest)) rfl (rest := rest) rfl (by rw [hb]; exact hdg) t
  simp only [arrV_size] at h1
  exact h1 st
theorem vx_zaldZ {D : va_G} {cl : List vw_C} {ws : va_W} {tys : List (ClassId × FieldType)} {a : Nat} (hexec : p.tables.exec = Jvm.exec) (hb : c.code = cc) (hK : va_K D cl tys s) (hP : va_P D cl ws H) (q0 t0 : Nat) {cA : ClassId} {n : Nat} {f : Nat → Int32} (ha : ws[q0]? = some (a, .inl (cA, n, .inl f))) (ht : tys[t0]? = some (cA, .boolean)) {i : Int32} (hout : ¬ vp_in i n) (hdg : decode cc pc = .ok (.baload, 1))
    (k : ∀ tx : String, tx = (toString "Index " ++ toString i ++ toString " out of bounds for length " ++ toString n : String) → vx_Note p l e R s m args below meth c H locs cells slots Q (F0 m pc ls rest) "java/lang/ArrayIndexOutOfBoundsException" tx) : W p l e R s m args below meth c H locs cells slots Q (F0 m pc ls (.int i :: .ref a :: rest)) := by
  intro T hT X
  obtain ⟨t, st, q⟩ := k _ rfl T hT X
  refine ⟨t, ?_, q⟩
  have h1 := X.baloadOut hexec (by rw [hT]; exact hP q0 _ ha) ((hK.2 t0 _ ht).1 n (fun j => .int (f j))) (j := i) (by show (i < 0 ∨ (arrV _ _ _).slots.size ≤ _); rw [arrV_size]; exact Classical.byContradiction hout) (g := F0 m pc ls (.int i :: .ref a :: rest)) rfl (rest := rest) rfl (by rw [hb]; exact hdg) t
  simp only [arrV_size] at h1
  exact h1 st
theorem vx_zastZ {D : va_G} {cl : List vw_C} {ws : va_W} {tys : List (ClassId × FieldType)} {a : Nat} (hexec : p.tables.exec = Jvm.exec) (hb : c.code = cc) (hK : va_K D cl tys s) (hP : va_P D cl ws H) (q0 t0 : Nat) {cA : ClassId} {n : Nat} {f : Nat → Int32} (ha : ws[q0]? = some (a, .inl (cA, n, .inl f))) (ht : tys[t0]? = some (cA, .boolean)) {i : Int32} {x : Int32} (hout : ¬ vp_in i n) (hdg : decode cc pc = .ok (.bastore, 1))
    (k : ∀ tx : String, tx = (toString "Index " ++ toString i ++ toString " out of bounds for length " ++ toString n : String) → vx_Note p l e R s m args below meth c H locs cells slots Q (F0 m pc ls rest) "java/lang/ArrayIndexOutOfBoundsException" tx) : W p l e R s m args below meth c H locs cells slots Q (F0 m pc ls (.int x :: .int i :: .ref a :: rest)) := by
  intro T hT X
  obtain ⟨t, st, q⟩ := k _ rfl T hT X
  refine ⟨t, ?_, q⟩
  have h1 := X.bastoreOut hexec (by rw [hT]; exact hP q0 _ ha) ((hK.2 t0 _ ht).1 n (fun j => .int (f j))) (j := i) (by show (i < 0 ∨ (arrV _ _ _).slots.size ≤ _); rw [arrV_size]; exact Classical.byContradiction hout) (g := F0 m pc ls (.int x :: .int i :: .ref a :: rest)) rfl (rest := rest) rfl (by rw [hb]; exact hdg) t
  simp only [arrV_size] at h1
  exact h1 st
theorem vx_caldZ {D : va_G} {cl : List vw_C} {ws : va_W} {tys : List (ClassId × FieldType)} {a : Nat} (hexec : p.tables.exec = Jvm.exec) (hb : c.code = cc) (hK : va_K D cl tys s) (hP : va_P D cl ws H) (q0 t0 : Nat) {cA : ClassId} {n : Nat} {f : Nat → Int32} (ha : ws[q0]? = some (a, .inl (cA, n, .inl f))) (ht : tys[t0]? = some (cA, .char)) {i : Int32} (hout : ¬ vp_in i n) (hdg : decode cc pc = .ok (.caload, 1))
    (k : ∀ tx : String, tx = (toString "Index " ++ toString i ++ toString " out of bounds for length " ++ toString n : String) → vx_Note p l e R s m args below meth c H locs cells slots Q (F0 m pc ls rest) "java/lang/ArrayIndexOutOfBoundsException" tx) : W p l e R s m args below meth c H locs cells slots Q (F0 m pc ls (.int i :: .ref a :: rest)) := by
  intro T hT X
  obtain ⟨t, st, q⟩ := k _ rfl T hT X
  refine ⟨t, ?_, q⟩
  have h1 := X.caloadOut hexec (by rw [hT]; exact hP q0 _ ha) ((hK.2 t0 _ ht).1 n (fun j => .int (f j))) (j := i) (by show (i < 0 ∨ (arrV _ _ _).slots.size ≤ _); rw [arrV_size]; exact Classical.byContradiction hout) (g := F0 m pc ls (.int i :: .ref a :: rest)) rfl (rest := rest) rfl (by rw [hb]; exact hdg) t
  simp only [arrV_size] at h1
  exact h1 st
theorem vx_castZ {D : va_G} {cl : List vw_C} {ws : va_W} {tys : List (ClassId × FieldType)} {a : Nat} (hexec : p.tables.exec = Jvm.exec) (hb : c.code = cc) (hK : va_K D cl tys s) (hP : va_P D cl ws H) (q0 t0 : Nat) {cA : ClassId} {n : Nat} {f : Nat → Int32} (ha : ws[q0]? = some (a, .inl (cA, n, .inl f))) (ht : tys[t0]? = some (cA, .char)) {i : Int32} {x : Int32} (hout : ¬ vp_in i n) (hdg : decode cc pc = .ok (.castore, 1))
    (k : ∀ tx : String, tx = (toString "Index " ++ toString i ++ toString " out of bounds for length " ++ toString n : String) → vx_Note p l e R s m args below meth c H locs cells slots Q (F0 m pc ls rest) "java/lang/ArrayIndexOutOfBoundsException" tx) : W p l e R s m args below meth c H locs cells slots Q (F0 m pc ls (.int x :: .int i :: .ref a :: rest)) := by
  intro T hT X
  obtain ⟨t, st, q⟩ := k _ rfl T hT X
  refine ⟨t, ?_, q⟩
  have h1 := X.castoreOut hexec (by rw [hT]; exact hP q0 _ ha) ((hK.2 t0 _ ht).1 n (fun j => .int (f j))) (j := i) (by show (i < 0 ∨ (arrV _ _ _).slots.size ≤ _); rw [arrV_size]; exact Classical.byContradiction hout) (g := F0 m pc ls (.int x :: .int i :: .ref a :: rest)) rfl (rest := rest) rfl (by rw [hb]; exact hdg) t
  simp only [arrV_size] at h1
  exact h1 st
theorem vx_saldZ {D : va_G} {cl : List vw_C} {ws : va_W} {tys : List (ClassId × FieldType)} {a : Nat} (hexec : p.tables.exec = Jvm.exec) (hb : c.code = cc) (hK : va_K D cl tys s) (hP : va_P D cl ws H) (q0 t0 : Nat) {cA : ClassId} {n : Nat} {f : Nat → Int32} (ha : ws[q0]? = some (a, .inl (cA, n, .inl f))) (ht : tys[t0]? = some (cA, .short)) {i : Int32} (hout : ¬ vp_in i n) (hdg : decode cc pc = .ok (.saload, 1))
    (k : ∀ tx : String, tx = (toString "Index " ++ toString i ++ toString " out of bounds for length " ++ toString n : String) → vx_Note p l e R s m args below meth c H locs cells slots Q (F0 m pc ls rest) "java/lang/ArrayIndexOutOfBoundsException" tx) : W p l e R s m args below meth c H locs cells slots Q (F0 m pc ls (.int i :: .ref a :: rest)) := by
  intro T hT X
  obtain ⟨t, st, q⟩ := k _ rfl T hT X
  refine ⟨t, ?_, q⟩
  have h1 := X.saloadOut hexec (by rw [hT]; exact hP q0 _ ha) ((hK.2 t0 _ ht).1 n (fun j => .int (f j))) (j := i) (by show (i < 0 ∨ (arrV _ _ _).slots.size ≤ _); rw [arrV_size]; exact Classical.byContradiction hout) (g := F0 m pc ls (.int i :: .ref a :: rest)) rfl (rest := rest) rfl (by rw [hb]; exact hdg) t
  simp only [arrV_size] at h1
  exact h1 st
theorem vx_sastZ {D : va_G} {cl : List vw_C} {ws : va_W} {tys : List (ClassId × FieldType)} {a : Nat} (hexec : p.tables.exec = Jvm.exec) (hb : c.code = cc) (hK : va_K D cl tys s) (hP : va_P D cl ws H) (q0 t0 : Nat) {cA : ClassId} {n : Nat} {f : Nat → Int32} (ha : ws[q0]? = some (a, .inl (cA, n, .inl f))) (ht : tys[t0]? = some (cA, .short)) {i : Int32} {x : Int32} (hout : ¬ vp_in i n) (hdg : decode cc pc = .ok (.sastore, 1))
    (k : ∀ tx : String, tx = (toString "Index " ++ toString i ++ toString " out of bounds for length " ++ toString n : String) → vx_Note p l e R s m args below meth c H locs cells slots Q (F0 m pc ls rest) "java/lang/ArrayIndexOutOfBoundsException" tx) : W p l e R s m args below meth c H locs cells slots Q (F0 m pc ls (.int x :: .int i :: .ref a :: rest)) := by
  intro T hT X
  obtain ⟨t, st, q⟩ := k _ rfl T hT X
  refine ⟨t, ?_, q⟩
  have h1 := X.sastoreOut hexec (by rw [hT]; exact hP q0 _ ha) ((hK.2 t0 _ ht).1 n (fun j => .int (f j))) (j := i) (by show (i < 0 ∨ (arrV _ _ _).slots.size ≤ _); rw [arrV_size]; exact Classical.byContradiction hout) (g := F0 m pc ls (.int x :: .int i :: .ref a :: rest)) rfl (rest := rest) rfl (by rw [hb]; exact hdg) t
  simp only [arrV_size] at h1
  exact h1 st
theorem vx_laldZ {D : va_G} {cl : List vw_C} {ws : va_W} {tys : List (ClassId × FieldType)} {a : Nat} (hexec : p.tables.exec = Jvm.exec) (hb : c.code = cc) (hK : va_K D cl tys s) (hP : va_P D cl ws H) (q0 t0 : Nat) {cA : ClassId} {n : Nat} {f : Nat → Int64} (ha : ws[q0]? = some (a, .inl (cA, n, .inr (.inl f)))) (ht : tys[t0]? = some (cA, .long)) {i : Int32} (hout : ¬ vp_in i n) (hdg : decode cc pc = .ok (.laload, 1))
    (k : ∀ tx : String, tx = (toString "Index " ++ toString i ++ toString " out of bounds for length " ++ toString n : String) → vx_Note p l e R s m args below meth c H locs cells slots Q (F0 m pc ls rest) "java/lang/ArrayIndexOutOfBoundsException" tx) : W p l e R s m args below meth c H locs cells slots Q (F0 m pc ls (.int i :: .ref a :: rest)) := by
  intro T hT X
  obtain ⟨t, st, q⟩ := k _ rfl T hT X
  refine ⟨t, ?_, q⟩
  have h1 := X.laloadOut hexec (by rw [hT]; exact hP q0 _ ha) ((hK.2 t0 _ ht).1 n (fun j => .long (f j))) (j := i) (by show (i < 0 ∨ (arrV _ _ _).slots.size ≤ _); rw [arrV_size]; exact Classical.byContradiction hout) (g := F0 m pc ls (.int i :: .ref a :: rest)) rfl (rest := rest) rfl (by rw [hb]; exact hdg) t
  simp only [arrV_size] at h1
  exact h1 st
theorem vx_lastZ {D : va_G} {cl : List vw_C} {ws : va_W} {tys : List (ClassId × FieldType)} {a : Nat} (hexec : p.tables.exec = Jvm.exec) (hb : c.code = cc) (hK : va_K D cl tys s) (hP : va_P D cl ws H) (q0 t0 : Nat) {cA : ClassId} {n : Nat} {f : Nat → Int64} (ha : ws[q0]? = some (a, .inl (cA, n, .inr (.inl f)))) (ht : tys[t0]? = some (cA, .long)) {i : Int32} {x : Int64} (hout : ¬ vp_in i n) (hdg : decode cc pc = .ok (.lastore, 1))
    (k : ∀ tx : String, tx = (toString "Index " ++ toString i ++ toString " out of bounds for length " ++ toString n : String) → vx_Note p l e R s m args below meth c H locs cells slots Q (F0 m pc ls rest) "java/lang/ArrayIndexOutOfBoundsException" tx) : W p l e R s m args below meth c H locs cells slots Q (F0 m pc ls (.long x :: .int i :: .ref a :: rest)) := by
  intro T hT X
  obtain ⟨t, st, q⟩ := k _ rfl T hT X
  refine ⟨t, ?_, q⟩
  have h1 := X.lastoreOut hexec (by rw [hT]; exact hP q0 _ ha) ((hK.2 t0 _ ht).1 n (fun j => .long (f j))) (j := i) (by show (i < 0 ∨ (arrV _ _ _).slots.size ≤ _); rw [arrV_size]; exact Classical.byContradiction hout) (g := F0 m pc ls (.long x :: .int i :: .ref a :: rest)) rfl (rest := rest) rfl (by rw [hb]; exact hdg) t
  simp only [arrV_size] at h1
  exact h1 st
theorem vx_faldZ {D : va_G} {cl : List vw_C} {ws : va_W} {tys : List (ClassId × FieldType)} {a : Nat} (hexec : p.tables.exec = Jvm.exec) (hb : c.code = cc) (hK : va_K D cl tys s) (hP : va_P D cl ws H) (q0 t0 : Nat) {cA : ClassId} {n : Nat} {f : Nat → UInt32} (ha : ws[q0]? = some (a, .inl (cA, n, .inr (.inr (.inl f))))) (ht : tys[t0]? = some (cA, .float)) {i : Int32} (hout : ¬ vp_in i n) (hdg : decode cc pc = .ok (.faload, 1))
    (k : ∀ tx : String, tx = (toString "Index " ++ toString i ++ toString " out of bounds for length " ++ toString n : String) → vx_Note p l e R s m args below meth c H locs cells slots Q (F0 m pc ls rest) "java/lang/ArrayIndexOutOfBoundsException" tx) : W p l e R s m args below meth c H locs cells slots Q (F0 m pc ls (.int i :: .ref a :: rest)) := by
  intro T hT X
  obtain ⟨t, st, q⟩ := k _ rfl T hT X
  refine ⟨t, ?_, q⟩
  have h1 := X.faloadOut hexec (by rw [hT]; exact hP q0 _ ha) ((hK.2 t0 _ ht).1 n (fun j => .float (f j))) (j := i) (by show (i < 0 ∨ (arrV _ _ _).slots.size ≤ _); rw [arrV_size]; exact Classical.byContradiction hout) (g := F0 m pc ls (.int i :: .ref a :: rest)) rfl (rest := rest) rfl (by rw [hb]; exact hdg) t
  simp only [arrV_size] at h1
  exact h1 st
theorem vx_fastZ {D : va_G} {cl : List vw_C} {ws : va_W} {tys : List (ClassId × FieldType)} {a : Nat} (hexec : p.tables.exec = Jvm.exec) (hb : c.code = cc) (hK : va_K D cl tys s) (hP : va_P D cl ws H) (q0 t0 : Nat) {cA : ClassId} {n : Nat} {f : Nat → UInt32} (ha : ws[q0]? = some (a, .inl (cA, n, .inr (.inr (.inl f))))) (ht : tys[t0]? = some (cA, .float)) {i : Int32} {x : UInt32} (hout : ¬ vp_in i n) (hdg : decode cc pc = .ok (.fastore, 1))
    (k : ∀ tx : String, tx = (toString "Index " ++ toString i ++ toString " out of bounds for length " ++ toString n : String) → vx_Note p l e R s m args below meth c H locs cells slots Q (F0 m pc ls rest) "java/lang/ArrayIndexOutOfBoundsException" tx) : W p l e R s m args below meth c H locs cells slots Q (F0 m pc ls (.float x :: .int i :: .ref a :: rest)) := by
  intro T hT X
  obtain ⟨t, st, q⟩ := k _ rfl T hT X
  refine ⟨t, ?_, q⟩
  have h1 := X.fastoreOut hexec (by rw [hT]; exact hP q0 _ ha) ((hK.2 t0 _ ht).1 n (fun j => .float (f j))) (j := i) (by show (i < 0 ∨ (arrV _ _ _).slots.size ≤ _); rw [arrV_size]; exact Classical.byContradiction hout) (g := F0 m pc ls (.float x :: .int i :: .ref a :: rest)) rfl (rest := rest) rfl (by rw [hb]; exact hdg) t
  simp only [arrV_size] at h1
  exact h1 st
theorem vx_daldZ {D : va_G} {cl : List vw_C} {ws : va_W} {tys : List (ClassId × FieldType)} {a : Nat} (hexec : p.tables.exec = Jvm.exec) (hb : c.code = cc) (hK : va_K D cl tys s) (hP : va_P D cl ws H) (q0 t0 : Nat) {cA : ClassId} {n : Nat} {f : Nat → UInt64} (ha : ws[q0]? = some (a, .inl (cA, n, .inr (.inr (.inr (.inl f)))))) (ht : tys[t0]? = some (cA, .double)) {i : Int32} (hout : ¬ vp_in i n) (hdg : decode cc pc = .ok (.daload, 1))
    (k : ∀ tx : String, tx = (toString "Index " ++ toString i ++ toString " out of bounds for length " ++ toString n : String) → vx_Note p l e R s m args below meth c H locs cells slots Q (F0 m pc ls rest) "java/lang/ArrayIndexOutOfBoundsException" tx) : W p l e R s m args below meth c H locs cells slots Q (F0 m pc ls (.int i :: .ref a :: rest)) := by
  intro T hT X
  obtain ⟨t, st, q⟩ := k _ rfl T hT X
  refine ⟨t, ?_, q⟩
  have h1 := X.daloadOut hexec (by rw [hT]; exact hP q0 _ ha) ((hK.2 t0 _ ht).1 n (fun j => .double (f j))) (j := i) (by show (i < 0 ∨ (arrV _ _ _).slots.size ≤ _); rw [arrV_size]; exact Classical.byContradiction hout) (g := F0 m pc ls (.int i :: .ref a :: rest)) rfl (rest := rest) rfl (by rw [hb]; exact hdg) t
  simp only [arrV_size] at h1
  exact h1 st
theorem vx_dastZ {D : va_G} {cl : List vw_C} {ws : va_W} {tys : List (ClassId × FieldType)} {a : Nat} (hexec : p.tables.exec = Jvm.exec) (hb : c.code = cc) (hK : va_K D cl tys s) (hP : va_P D cl ws H) (q0 t0 : Nat) {cA : ClassId} {n : Nat} {f : Nat → UInt64} (ha : ws[q0]? = some (a, .inl (cA, n, .inr (.inr (.inr (.inl f)))))) (ht : tys[t0]? = some (cA, .double)) {i : Int32} {x : UInt64} (hout : ¬ vp_in i n) (hdg : decode cc pc = .ok (.dastore, 1))
    (k : ∀ tx : String, tx = (toString "Index " ++ toString i ++ toString " out of bounds for length " ++ toString n : String) → vx_Note p l e R s m args below meth c H locs cells slots Q (F0 m pc ls rest) "java/lang/ArrayIndexOutOfBoundsException" tx) : W p l e R s m args below meth c H locs cells slots Q (F0 m pc ls (.double x :: .int i :: .ref a :: rest)) := by
  intro T hT X
  obtain ⟨t, st, q⟩ := k _ rfl T hT X
  refine ⟨t, ?_, q⟩
  have h1 := X.dastoreOut hexec (by rw [hT]; exact hP q0 _ ha) ((hK.2 t0 _ ht).1 n (fun j => .double (f j))) (j := i) (by show (i < 0 ∨ (arrV _ _ _).slots.size ≤ _); rw [arrV_size]; exact Classical.byContradiction hout) (g := F0 m pc ls (.double x :: .int i :: .ref a :: rest)) rfl (rest := rest) rfl (by rw [hb]; exact hdg) t
  simp only [arrV_size] at h1
  exact h1 st
theorem vx_arraylengthN (hexec : p.tables.exec = Jvm.exec) (hb : c.code = cc) (hdg : decode cc pc = .ok (.arraylength, 1)) (k : vx_NoteN p l e R s m args below meth c H locs cells slots Q (F0 m pc ls rest)) : W p l e R s m args below meth c H locs cells slots Q (F0 m pc ls (.null :: rest)) := by
  intro T hT X
  obtain ⟨t, st, q⟩ := k T hT X
  exact ⟨t, X.arraylengthNull hexec (g := F0 m pc ls (.null :: rest)) rfl (rest := rest) rfl (by rw [hb]; exact hdg) t st, q⟩
theorem vx_ialoadN (hexec : p.tables.exec = Jvm.exec) (hb : c.code = cc) {i : Int32} (hdg : decode cc pc = .ok (.iaload, 1)) (k : vx_NoteN p l e R s m args below meth c H locs cells slots Q (F0 m pc ls rest)) : W p l e R s m args below meth c H locs cells slots Q (F0 m pc ls (.int i :: .null :: rest)) := by
  intro T hT X
  obtain ⟨t, st, q⟩ := k T hT X
  exact ⟨t, X.ialoadNull hexec (g := F0 m pc ls (.int i :: .null :: rest)) rfl (rest := rest) rfl (by rw [hb]; exact hdg) t st, q⟩
theorem vx_laloadN (hexec : p.tables.exec = Jvm.exec) (hb : c.code = cc) {i : Int32} (hdg : decode cc pc = .ok (.laload, 1)) (k : vx_NoteN p l e R s m args below meth c H locs cells slots Q (F0 m pc ls rest)) : W p l e R s m args below meth c H locs cells slots Q (F0 m pc ls (.int i :: .null :: rest)) := by
  intro T hT X
  obtain ⟨t, st, q⟩ := k T hT X
  exact ⟨t, X.laloadNull hexec (g := F0 m pc ls (.int i :: .null :: rest)) rfl (rest := rest) rfl (by rw [hb]; exact hdg) t st, q⟩
theorem vx_faloadN (hexec : p.tables.exec = Jvm.exec) (hb : c.code = cc) {i : Int32} (hdg : decode cc pc = .ok (.faload, 1)) (k : vx_NoteN p l e R s m args below meth c H locs cells slots Q (F0 m pc ls rest)) : W p l e R s m args below meth c H locs cells slots Q (F0 m pc ls (.int i :: .null :: rest)) := by
  intro T hT X
  obtain ⟨t, st, q⟩ := k T hT X
  exact ⟨t, X.faloadNull hexec (g := F0 m pc ls (.int i :: .null :: rest)) rfl (rest := rest) rfl (by rw [hb]; exact hdg) t st, q⟩
theorem vx_daloadN (hexec : p.tables.exec = Jvm.exec) (hb : c.code = cc) {i : Int32} (hdg : decode cc pc = .ok (.daload, 1)) (k : vx_NoteN p l e R s m args below meth c H locs cells slots Q (F0 m pc ls rest)) : W p l e R s m args below meth c H locs cells slots Q (F0 m pc ls (.int i :: .null :: rest)) := by
  intro T hT X
  obtain ⟨t, st, q⟩ := k T hT X
  exact ⟨t, X.daloadNull hexec (g := F0 m pc ls (.int i :: .null :: rest)) rfl (rest := rest) rfl (by rw [hb]; exact hdg) t st, q⟩
theorem vx_aaloadN (hexec : p.tables.exec = Jvm.exec) (hb : c.code = cc) {i : Int32} (hdg : decode cc pc = .ok (.aaload, 1)) (k : vx_NoteN p l e R s m args below meth c H locs cells slots Q (F0 m pc ls rest)) : W p l e R s m args below meth c H locs cells slots Q (F0 m pc ls (.int i :: .null :: rest)) := by
  intro T hT X
  obtain ⟨t, st, q⟩ := k T hT X
  exact ⟨t, X.aaloadNull hexec (g := F0 m pc ls (.int i :: .null :: rest)) rfl (rest := rest) rfl (by rw [hb]; exact hdg) t st, q⟩
theorem vx_baloadN (hexec : p.tables.exec = Jvm.exec) (hb : c.code = cc) {i : Int32} (hdg : decode cc pc = .ok (.baload, 1)) (k : vx_NoteN p l e R s m args below meth c H locs cells slots Q (F0 m pc ls rest)) : W p l e R s m args below meth c H locs cells slots Q (F0 m pc ls (.int i :: .null :: rest)) := by
  intro T hT X
  obtain ⟨t, st, q⟩ := k T hT X
  exact ⟨t, X.baloadNull hexec (g := F0 m pc ls (.int i :: .null :: rest)) rfl (rest := rest) rfl (by rw [hb]; exact hdg) t st, q⟩
theorem vx_caloadN (hexec : p.tables.exec = Jvm.exec) (hb : c.code = cc) {i : Int32} (hdg : decode cc pc = .ok (.caload, 1)) (k : vx_NoteN p l e R s m args below meth c H locs cells slots Q (F0 m pc ls rest)) : W p l e R s m args below meth c H locs cells slots Q (F0 m pc ls (.int i :: .null :: rest)) := by
  intro T hT X
  obtain ⟨t, st, q⟩ := k T hT X
  exact ⟨t, X.caloadNull hexec (g := F0 m pc ls (.int i :: .null :: rest)) rfl (rest := rest) rfl (by rw [hb]; exact hdg) t st, q⟩
theorem vx_saloadN (hexec : p.tables.exec = Jvm.exec) (hb : c.code = cc) {i : Int32} (hdg : decode cc pc = .ok (.saload, 1)) (k : vx_NoteN p l e R s m args below meth c H locs cells slots Q (F0 m pc ls rest)) : W p l e R s m args below meth c H locs cells slots Q (F0 m pc ls (.int i :: .null :: rest)) := by
  intro T hT X
  obtain ⟨t, st, q⟩ := k T hT X
  exact ⟨t, X.saloadNull hexec (g := F0 m pc ls (.int i :: .null :: rest)) rfl (rest := rest) rfl (by rw [hb]; exact hdg) t st, q⟩
theorem vx_iastoreN (hexec : p.tables.exec = Jvm.exec) (hb : c.code = cc) {x : Int32} {i : Int32} (hdg : decode cc pc = .ok (.iastore, 1)) (k : vx_NoteN p l e R s m args below meth c H locs cells slots Q (F0 m pc ls rest)) : W p l e R s m args below meth c H locs cells slots Q (F0 m pc ls (.int x :: .int i :: .null :: rest)) := by
  intro T hT X
  obtain ⟨t, st, q⟩ := k T hT X
  exact ⟨t, X.iastoreNull hexec (g := F0 m pc ls (.int x :: .int i :: .null :: rest)) rfl (rest := rest) rfl (by rw [hb]; exact hdg) t st, q⟩
theorem vx_lastoreN (hexec : p.tables.exec = Jvm.exec) (hb : c.code = cc) {x : Int64} {i : Int32} (hdg : decode cc pc = .ok (.lastore, 1)) (k : vx_NoteN p l e R s m args below meth c H locs cells slots Q (F0 m pc ls rest)) : W p l e R s m args below meth c H locs cells slots Q (F0 m pc ls (.long x :: .int i :: .null :: rest)) := by
  intro T hT X
  obtain ⟨t, st, q⟩ := k T hT X
  exact ⟨t, X.lastoreNull hexec (g := F0 m pc ls (.long x :: .int i :: .null :: rest)) rfl (rest := rest) rfl (by rw [hb]; exact hdg) t st, q⟩
theorem vx_fastoreN (hexec : p.tables.exec = Jvm.exec) (hb : c.code = cc) {x : UInt32} {i : Int32} (hdg : decode cc pc = .ok (.fastore, 1)) (k : vx_NoteN p l e R s m args below meth c H locs cells slots Q (F0 m pc ls rest)) : W p l e R s m args below meth c H locs cells slots Q (F0 m pc ls (.float x :: .int i :: .null :: rest)) := by
  intro T hT X
  obtain ⟨t, st, q⟩ := k T hT X
  exact ⟨t, X.fastoreNull hexec (g := F0 m pc ls (.float x :: .int i :: .null :: rest)) rfl (rest := rest) rfl (by rw [hb]; exact hdg) t st, q⟩
theorem vx_dastoreN (hexec : p.tables.exec = Jvm.exec) (hb : c.code = cc) {x : UInt64} {i : Int32} (hdg : decode cc pc = .ok (.dastore, 1)) (k : vx_NoteN p l e R s m args below meth c H locs cells slots Q (F0 m pc ls rest)) : W p l e R s m args below meth c H locs cells slots Q (F0 m pc ls (.double x :: .int i :: .null :: rest)) := by
  intro T hT X
  obtain ⟨t, st, q⟩ := k T hT X
  exact ⟨t, X.dastoreNull hexec (g := F0 m pc ls (.double x :: .int i :: .null :: rest)) rfl (rest := rest) rfl (by rw [hb]; exact hdg) t st, q⟩
theorem vx_bastoreN (hexec : p.tables.exec = Jvm.exec) (hb : c.code = cc) {x : Int32} {i : Int32} (hdg : decode cc pc = .ok (.bastore, 1)) (k : vx_NoteN p l e R s m args below meth c H locs cells slots Q (F0 m pc ls rest)) : W p l e R s m args below meth c H locs cells slots Q (F0 m pc ls (.int x :: .int i :: .null :: rest)) := by
  intro T hT X
  obtain ⟨t, st, q⟩ := k T hT X
  exact ⟨t, X.bastoreNull hexec (g := F0 m pc ls (.int x :: .int i :: .null :: rest)) rfl (rest := rest) rfl (by rw [hb]; exact hdg) t st, q⟩
theorem vx_castoreN (hexec : p.tables.exec = Jvm.exec) (hb : c.code = cc) {x : Int32} {i : Int32} (hdg : decode cc pc = .ok (.castore, 1)) (k : vx_NoteN p l e R s m args below meth c H locs cells slots Q (F0 m pc ls rest)) : W p l e R s m args below meth c H locs cells slots Q (F0 m pc ls (.int x :: .int i :: .null :: rest)) := by
  intro T hT X
  obtain ⟨t, st, q⟩ := k T hT X
  exact ⟨t, X.castoreNull hexec (g := F0 m pc ls (.int x :: .int i :: .null :: rest)) rfl (rest := rest) rfl (by rw [hb]; exact hdg) t st, q⟩
theorem vx_sastoreN (hexec : p.tables.exec = Jvm.exec) (hb : c.code = cc) {x : Int32} {i : Int32} (hdg : decode cc pc = .ok (.sastore, 1)) (k : vx_NoteN p l e R s m args below meth c H locs cells slots Q (F0 m pc ls rest)) : W p l e R s m args below meth c H locs cells slots Q (F0 m pc ls (.int x :: .int i :: .null :: rest)) := by
  intro T hT X
  obtain ⟨t, st, q⟩ := k T hT X
  exact ⟨t, X.sastoreNull hexec (g := F0 m pc ls (.int x :: .int i :: .null :: rest)) rfl (rest := rest) rfl (by rw [hb]; exact hdg) t st, q⟩
theorem vx_invokeN {own C : String} {index maxL : Nat} {y : MethodName} {bytes : ByteArray} {ret : Option FieldType} (hexec : p.tables.exec = Jvm.exec) (hb : c.code = cc) (hown : s.vm.findClass own = some m.cls) (hlink : (Cond.methodLink own index y).before args s = true) (hinst : (Cond.instanceMethod y).before args s = true) (hcode : (Cond.code y bytes maxL ret).before args s = true) (hsel : (Cond.selects C y y).before args s = true)
    (hx : y.cls ≠ "java/lang/invoke/MethodHandle" ∧ y.cls ≠ "java/lang/invoke/VarHandle") {As : List Value} (hlen : (parseMethodDescriptor y.desc).map (fun d => d.parameters.length) = some As.length) (hdg : decode cc pc = .ok (.invokevirtual index, 3))
    (k : vx_NoteN p l e R s m args below meth c H locs cells slots Q (F0 m pc ls rest)) {st0 : List Value} (hst : st0 = As.reverse ++ .null :: rest) : W p l e R s m args below meth c H locs cells slots Q (F0 m pc ls st0) := by
  intro T hT X
  obtain ⟨r0, r, hn, hrm, hstR, hsigR⟩ := va_Decl.of hinst hcode
  obtain ⟨c2, r2, m2, q1, q2, q3, q4, kP, hkP, hkPi⟩ := Cond.selects_spec hsel
  cases hn.symm.trans q3
  have hl9 : As.length = r.sig.parameters.length := by
    rw [hsigR] at hlen
    exact (Option.some.inj hlen).symm
  obtain ⟨vm', X1, st1⟩ := X.invokevirtualNull hexec hown hlink hn hrm hstR hkP hkPi hx (g := F0 m pc ls st0) rfl (argsL := As) (rest := rest) hl9 hst (by rw [hb]; exact hdg)
  obtain ⟨t, st, q⟩ := k (T.setVm vm') hT X1
  exact ⟨t, st1 t st, q⟩
theorem vx_newarrayZ {atype : ArrayType} (hexec : p.tables.exec = Jvm.exec) (hb : c.code = cc) {n : Int32} (h0 : n < 0) (hdg : decode cc pc = .ok (.newarray atype, 2)) (k : ∀ tx : String, tx = toString n → vx_Note p l e R s m args below meth c H locs cells slots Q (F0 m pc ls rest) "java/lang/NegativeArraySizeException" tx) : W p l e R s m args below meth c H locs cells slots Q (F0 m pc ls (.int n :: rest)) := by
  intro T hT X
  obtain ⟨t, st, q⟩ := k _ rfl T hT X
  exact ⟨t, X.newarrayNegative hexec (g := F0 m pc ls (.int n :: rest)) rfl h0 (rest := rest) rfl (by rw [hb]; exact hdg) t st, q⟩
end
end VXM
/-! ===== END ===== -/
/-! ===== BEGIN an exception as an object: made, kept, thrown later (no traces kept) ===== -/
section VXK
variable {p : Program} {l : Launch} {e : Env} {R : Room} {s : State} {m₀ : MethodId} {args : Array Value} {below : List Frame} {meth : Method} {c : Code} {W : State} {locs : List Loc} {cells slots : Nat}
set_option maxHeartbeats 1000000 in
theorem vx_ctorMadeS (X : Stand p l e R s m₀ args below meth c W locs cells slots) (hexec : p.tables.exec = Jvm.exec) (htr : e.platform.stackTraces = false) {own cls : String} {names : List String} {ic : Nat}
    (hown : s.vm.findClass own = some m₀.cls) (hcls : Bundle.fit cls = true) (hnames : ∀ n ∈ names, Bundle.fit n = true)
    (h : ∀ a ∈ Bundle.ownAtoms own ic cls names, a.before args s = true)
    (hlocs : ∀ x ∈ locs, ∀ cell, s.heap[x.base]? = some cell → cell.vm.isStatics = false)
    {a : Addr} {cX : ClassId} {kX : Class} (hfoundX : s.vm.findClass cls = some cX) (hkX : s.vm.classes[cX]? = some kX) (hcell : W.heap[a]? = some (freshCell cX kX)) (hnew : s.heap.size ≤ a)
    {msg : Value} (hmsg : msg.isRef = true)
    {g : JFrame} (hg : g.method = m₀) (hsize : g.locals.size = c.maxLocals) {rest : List Value} (hstack : g.stack = msg :: .ref a :: .ref a :: rest)
    (hd6 : decode c.code g.pc = .ok (.invokespecial ic, 3))
    (hRframes : names.length + 3 < R.frames) (hRlocals : 2 * g.monitorRoom + ((Value.ref a :: rest).map fun v => v.category).sum + (13 * (names.length + 1) + 42) ≤ R.locals) :
    ∃ (V : State) (ce : Cell) (L : List Loc), Stand p l e R s m₀ args below meth c (V.setCell a ce) (locs ++ L) cells slots ∧ (∀ y ∈ L, y.base = a) ∧ a < V.heap.size ∧ ce.cls = cX ∧ ce.vm = .none ∧
      ∀ target, Steps p.tables e below ((V.setCell a ce).setTop { g with stack := .ref a :: rest, pc := g.pc + 3 }) target → Steps p.tables e below (W.setTop g) target := by
  have howns : e.platform.frameOwnsMonitors = true := by rw [X.admits.platform]
  have hfin : e.platform.finalization = false := by rw [X.admits.platform]
  have hpl : e.platform.magicAccessors = ({} : Platform).magicAccessors := by rw [X.admits.platform]
  have a' : ∀ x, x ∈ Bundle.ownAtoms own ic cls names → x.holds args s none s [] = true := fun x hx => h x hx
  obtain ⟨T, Z0, L, -, Y⟩ := ThrowableC.of_atoms (args := args) howns hfin hpl (fun x hx => h x (by simp [Bundle.ownAtoms, hx]))
  obtain ⟨Z, M, LZ, LM, hnZ⟩ := Init0T.ofS_atoms (args := args) hpl L Y (fun x hx => h x (by simp [Bundle.ownAtoms, hx]))
  obtain ⟨P1, Ps, hlen, L1, hL, hP1m, hlink1, hlink⟩ := Bundle.chainS (args := args) hpl hnZ names cls hcls hnames (fun x hx => h x (by simp [Bundle.ownAtoms, hx]))
  have hfound : s.vm.findClass cls = some P1.m.cls := findClass_of_methodNamed hP1m
  cases Option.some.inj (hfoundX.symm.trans hfound)
  obtain ⟨c1, kX', hc1, hk, hord, -, -, hn6⟩ := Cond.instantiable_spec (a' (.instantiable cls 6) (by simp [Bundle.ownAtoms]))
  cases Option.some.inj (hc1.symm.trans hfound)
  cases Option.some.inj (hkX.symm.trans hk)
  have hsel0 : selectMethod e.platform s.vm P1.m.cls T.fill0 = .method T.fill0 := by
    obtain ⟨c2, r2, m2, q1, q2, q3, q4, -⟩ := Cond.selects_spec (a' (.selects cls Bundle.tFill0 Bundle.tFill0) (by simp [Bundle.ownAtoms]))
    cases Option.some.inj (q1.symm.trans hfound)
    cases Option.some.inj (q2.symm.trans (State.methodFound?_of_named Y.fill0 (by decide)))
    cases Option.some.inj (q3.symm.trans Y.fill0)
    rw [Launch.admits_selectMethod X.admits]; exact q4
  have hselF : selectMethod e.platform s.vm P1.m.cls T.fill = .method T.fill := by
    obtain ⟨c2, r2, m2, q1, q2, q3, q4, -⟩ := Cond.selects_spec (a' (.selects cls Bundle.tFill Bundle.tFill) (by simp [Bundle.ownAtoms]))
    cases Option.some.inj (q1.symm.trans hfound)
    cases Option.some.inj (q2.symm.trans (State.methodFound?_of_named Y.fill (by decide)))
    cases Option.some.inj (q3.symm.trans Y.fill)
    rw [Launch.admits_selectMethod X.admits]; exact q4
  obtain ⟨cellS0, hcS0, hiss⟩ := Y.statics
  obtain ⟨u0, hu0⟩ := Cond.staticRefV Y.unassigned L.unassignedStatic L.statics hcS0 hiss (a' (.isRef (.static Bundle.tN "UNASSIGNED_STACK" Bundle.steD)) (by simp [Bundle.ownAtoms]))
  obtain ⟨sen, hsen⟩ := Cond.staticRefV Y.sentinel L.sentinelStatic L.statics hcS0 hiss (a' (.isRef (.static Bundle.tN "SUPPRESSED_SENTINEL" Bundle.listD)) (by simp [Bundle.ownAtoms]))
  obtain ⟨ci198, i198, fB, hk198, hg198, ha198, hsB, -, hnB, htB, hffB⟩ := Cond.ownField (t := .object "java/lang/Object") Y.found L.cls (by decide +kernel) (a' (.fieldLink Bundle.tN 198 Bundle.tN "backtrace" "Ljava/lang/Object;") (by simp [Bundle.ownAtoms])) (a' (.lays Bundle.tN Bundle.tN "backtrace" "Ljava/lang/Object;") (by simp [Bundle.ownAtoms])) e.platform hpl
  obtain ⟨cellS, hcS', heS, -, hkeep⟩ := X.same.2.2.2.2.2 T.aS cellS0 hcS0
  have hcellS : W.heap[T.aS]? = some cellS := hcS'
  have hout' : ∀ i, (⟨T.aS, i⟩ : Loc) ∉ locs := fun i hmem => by
    have := hlocs _ hmem cellS0 hcS0
    rw [hiss] at this; cases this
  have hknownS : cellS.vm ≠ .unknown := by
    rw [heS]; intro hu
    rw [show cellS0.vm = .unknown from hu] at hiss
    cases hiss
  have hneS : T.aS ≠ a := Nat.ne_of_lt (Nat.lt_of_lt_of_le (Array.getElem?_eq_some_iff.mp hcS0).1 hnew)
  obtain ⟨iM, hffM⟩ := Y.msg
  obtain ⟨tyC, dC, hdC, hdnC⟩ := Cond.laysAt hfound hk Y.cause (a' (.lays cls Bundle.tN "cause" "Ljava/lang/Throwable;") (by simp [Bundle.ownAtoms]))
  obtain ⟨tyS, dS, hdS, hdnS⟩ := Cond.laysAt hfound hk Y.stack (a' (.lays cls Bundle.tN "stackTrace" Bundle.steD) (by simp [Bundle.ownAtoms]))
  obtain ⟨tyP, dP, hdP, hdnP⟩ := Cond.laysAt hfound hk Y.supp (a' (.lays cls Bundle.tN "suppressedExceptions" Bundle.listD) (by simp [Bundle.ownAtoms]))
  obtain ⟨tyM, dM, hdM, hdnM⟩ := Cond.laysAt hfound hk hffM (a' (.lays cls Bundle.tN "detailMessage" "Ljava/lang/String;") (by simp [Bundle.ownAtoms]))
  obtain ⟨tyB, dB, hdB, hdnB⟩ := Cond.laysAt hfound hk hffB (a' (.lays cls Bundle.tN "backtrace" "Ljava/lang/Object;") (by simp [Bundle.ownAtoms]))
  have bC := Cond.laysApart hdB hdC hdnB hdnC (by rw [hnB, Y.causeName]; decide)
  have bS := Cond.laysApart hdB hdS hdnB hdnS (by rw [hnB, Y.stackName]; decide)
  have bP := Cond.laysApart hdB hdP hdnB hdnP (by rw [hnB, Y.suppName]; decide)
  have hskip : SkipFacts T e.platform s (fun u => u) u0 ((preparedCellV T.toThrowableT (freshCell P1.m.cls kX) a u0 sen).withEntry W.cur) :=
    ⟨{ ci198 := ci198, i198 := i198, fBack := fB }, ⟨hk198, hg198, ha198, hsB⟩, by
      have := fresh_default (c := P1.m.cls) tyB
      rw [htB] at this
      simpa [preparedCellV, Cell.setSlot, Cell.withEntry, Array.getElem?_setIfInBounds, bC, bS, bP, bC.symm, bS.symm, bP.symm, defaultValue] using this, fun _ _ => rfl⟩
  obtain ⟨tm, methC, cdC, kC, vm₁, hnC, -, -, -, -, -, -, -, hW₁, st1⟩ := Steps.initColdS (tb := p.tables) (e := e) (below := below) (s := s) (U := W) X.here hexec X.warmed hpl hown (t := Bundle.initS cls) rfl rfl (Bundle.fit_spec hcls).2
    (a' (.methodLink own ic (Bundle.initS cls)) (by simp [Bundle.ownAtoms])) (h (.instanceMethod (Bundle.initS cls)) (by cases names <;> simp [Bundle.ownAtoms, Bundle.chainSAtoms, Bundle.passSAtoms])) (bytes := Bundle.six) (maxL := 2) (h (.code (Bundle.initS cls) Bundle.six 2 none) (by cases names <;> simp [Bundle.ownAtoms, Bundle.chainSAtoms, Bundle.passSAtoms]))
    (f := g) hg (a := a) (msg := msg) (rest := .ref a :: rest) hstack hd6
  cases Option.some.inj (hnC.symm.trans hP1m)
  have X₁ := X.noted hW₁
  obtain ⟨vm₂, X₂, st2⟩ := X₁.ctorMessageOffV hexec (g := { g with stack := .ref a :: rest }) hg hsize T L Z LZ M LM (P1 :: Ps)
    (fun P hP => by rcases List.mem_cons.mp hP with rfl | hP; exact L1; exact hL P hP) ⟨hlink1, hlink⟩ (u0 := u0) (sen := sen) (self := a) hmsg (cell := freshCell P1.m.cls kX) (cellS := cellS)
    hcell (fun _ => by simp) (by simp) rfl rfl hsel0 hselF hcellS hneS hknownS (by rw [hkeep _ (hout' _)]; exact hu0) (by rw [hkeep _ (hout' _)]; exact hsen)
    (Takes.of_laid hk hord tyC (by rw [Y.causeType]; rfl)) (Takes.of_laid hk hord tyS (by rw [Y.stackType]; exact fits_refV_array _ u0)) (Takes.of_laid hk hord tyP (by rw [Y.suppType]; exact fits_refV_object _ sen))
    (Takes.of_laid hk hord tyM (by rw [Y.msgType]; exact fits_refV_object _ ⟨msg, hmsg⟩)) Y.objLocals hskip htr [] hd6
    (by simp only [List.length_cons, hlen]; omega) (by simp only [List.length_cons, hlen]; exact hRlocals)
  have hlt : a < ((W.setVm vm₁).setVm vm₂).heap.size := (Array.getElem?_eq_some_iff.mp hcell).1
  refine ⟨(W.setVm vm₁).setVm vm₂, _, _, X₂, fun y hy => ?_, hlt, rfl, rfl, fun target hwalk => st1 _ (fun acts => ?_)⟩
  · simp only [List.mem_cons, List.not_mem_nil, or_false] at hy
    rcases hy with rfl | rfl | rfl | rfl | rfl <;> rfl
  · rw [doInvoke_state]
    exact st2 _ hwalk
set_option maxHeartbeats 1000000 in
theorem vx_ctorMade0 (X : Stand p l e R s m₀ args below meth c W locs cells slots) (hexec : p.tables.exec = Jvm.exec) (htr : e.platform.stackTraces = false) {own cls : String} {names : List String} {ic : Nat}
    (hown : s.vm.findClass own = some m₀.cls) (hcls : Bundle.fit cls = true) (hnames : ∀ n ∈ names, Bundle.fit n = true)
    (h : ∀ a ∈ Bundle.ownAtoms0 own ic cls names, a.before args s = true)
    (hlocs : ∀ x ∈ locs, ∀ cell, s.heap[x.base]? = some cell → cell.vm.isStatics = false)
    {a : Addr} {cX : ClassId} {kX : Class} (hfoundX : s.vm.findClass cls = some cX) (hkX : s.vm.classes[cX]? = some kX) (hcell : W.heap[a]? = some (freshCell cX kX)) (hnew : s.heap.size ≤ a)
    {g : JFrame} (hg : g.method = m₀) (hsize : g.locals.size = c.maxLocals) {rest : List Value} (hstack : g.stack = .ref a :: .ref a :: rest)
    (hd6 : decode c.code g.pc = .ok (.invokespecial ic, 3))
    (hRframes : names.length + 3 < R.frames) (hRlocals : 2 * g.monitorRoom + ((Value.ref a :: rest).map fun v => v.category).sum + (13 * (names.length + 1) + 41) ≤ R.locals) :
    ∃ (V : State) (ce : Cell) (L : List Loc), Stand p l e R s m₀ args below meth c (V.setCell a ce) (locs ++ L) cells slots ∧ (∀ y ∈ L, y.base = a) ∧ a < V.heap.size ∧ ce.cls = cX ∧ ce.vm = .none ∧
      ∀ target, Steps p.tables e below ((V.setCell a ce).setTop { g with stack := .ref a :: rest, pc := g.pc + 3 }) target → Steps p.tables e below (W.setTop g) target := by
  have howns : e.platform.frameOwnsMonitors = true := by rw [X.admits.platform]
  have hfin : e.platform.finalization = false := by rw [X.admits.platform]
  have hpl : e.platform.magicAccessors = ({} : Platform).magicAccessors := by rw [X.admits.platform]
  have a' : ∀ x, x ∈ Bundle.ownAtoms0 own ic cls names → x.holds args s none s [] = true := fun x hx => h x hx
  obtain ⟨T, Z, L, LZ, Y⟩ := ThrowableC.of_atoms (args := args) howns hfin hpl (fun x hx => h x (by simp [Bundle.ownAtoms0, hx]))
  obtain ⟨P1, Ps, hlen, L1, hL, hP1m, hlink1, hlink⟩ := Bundle.chain0 (args := args) hpl Y.init0 names cls hcls hnames (fun x hx => h x (by simp [Bundle.ownAtoms0, hx]))
  have hfound : s.vm.findClass cls = some P1.m.cls := findClass_of_methodNamed hP1m
  cases Option.some.inj (hfoundX.symm.trans hfound)
  obtain ⟨c1, kX', hc1, hk, hord, -, -, hn6⟩ := Cond.instantiable_spec (a' (.instantiable cls 6) (by simp [Bundle.ownAtoms0]))
  cases Option.some.inj (hc1.symm.trans hfound)
  cases Option.some.inj (hkX.symm.trans hk)
  have hsel0 : selectMethod e.platform s.vm P1.m.cls T.fill0 = .method T.fill0 := by
    obtain ⟨c2, r2, m2, q1, q2, q3, q4, -⟩ := Cond.selects_spec (a' (.selects cls Bundle.tFill0 Bundle.tFill0) (by simp [Bundle.ownAtoms0]))
    cases Option.some.inj (q1.symm.trans hfound)
    cases Option.some.inj (q2.symm.trans (State.methodFound?_of_named Y.fill0 (by decide)))
    cases Option.some.inj (q3.symm.trans Y.fill0)
    rw [Launch.admits_selectMethod X.admits]; exact q4
  have hselF : selectMethod e.platform s.vm P1.m.cls T.fill = .method T.fill := by
    obtain ⟨c2, r2, m2, q1, q2, q3, q4, -⟩ := Cond.selects_spec (a' (.selects cls Bundle.tFill Bundle.tFill) (by simp [Bundle.ownAtoms0]))
    cases Option.some.inj (q1.symm.trans hfound)
    cases Option.some.inj (q2.symm.trans (State.methodFound?_of_named Y.fill (by decide)))
    cases Option.some.inj (q3.symm.trans Y.fill)
    rw [Launch.admits_selectMethod X.admits]; exact q4
  obtain ⟨cellS0, hcS0, hiss⟩ := Y.statics
  obtain ⟨u0, hu0⟩ := Cond.staticRefV Y.unassigned L.unassignedStatic L.statics hcS0 hiss (a' (.isRef (.static Bundle.tN "UNASSIGNED_STACK" Bundle.steD)) (by simp [Bundle.ownAtoms0]))
  obtain ⟨sen, hsen⟩ := Cond.staticRefV Y.sentinel L.sentinelStatic L.statics hcS0 hiss (a' (.isRef (.static Bundle.tN "SUPPRESSED_SENTINEL" Bundle.listD)) (by simp [Bundle.ownAtoms0]))
  obtain ⟨ci198, i198, fB, hk198, hg198, ha198, hsB, -, hnB, htB, hffB⟩ := Cond.ownField (t := .object "java/lang/Object") Y.found L.cls (by decide +kernel) (a' (.fieldLink Bundle.tN 198 Bundle.tN "backtrace" "Ljava/lang/Object;") (by simp [Bundle.ownAtoms0])) (a' (.lays Bundle.tN Bundle.tN "backtrace" "Ljava/lang/Object;") (by simp [Bundle.ownAtoms0])) e.platform hpl
  obtain ⟨cellS, hcS', heS, -, hkeep⟩ := X.same.2.2.2.2.2 T.aS cellS0 hcS0
  have hcellS : W.heap[T.aS]? = some cellS := hcS'
  have hout' : ∀ i, (⟨T.aS, i⟩ : Loc) ∉ locs := fun i hmem => by
    have := hlocs _ hmem cellS0 hcS0
    rw [hiss] at this; cases this
  have hknownS : cellS.vm ≠ .unknown := by
    rw [heS]; intro hu
    rw [show cellS0.vm = .unknown from hu] at hiss
    cases hiss
  have hneS : T.aS ≠ a := Nat.ne_of_lt (Nat.lt_of_lt_of_le (Array.getElem?_eq_some_iff.mp hcS0).1 hnew)
  obtain ⟨iM, hffM⟩ := Y.msg
  obtain ⟨tyC, dC, hdC, hdnC⟩ := Cond.laysAt hfound hk Y.cause (a' (.lays cls Bundle.tN "cause" "Ljava/lang/Throwable;") (by simp [Bundle.ownAtoms0]))
  obtain ⟨tyS, dS, hdS, hdnS⟩ := Cond.laysAt hfound hk Y.stack (a' (.lays cls Bundle.tN "stackTrace" Bundle.steD) (by simp [Bundle.ownAtoms0]))
  obtain ⟨tyP, dP, hdP, hdnP⟩ := Cond.laysAt hfound hk Y.supp (a' (.lays cls Bundle.tN "suppressedExceptions" Bundle.listD) (by simp [Bundle.ownAtoms0]))
  obtain ⟨tyM, dM, hdM, hdnM⟩ := Cond.laysAt hfound hk hffM (a' (.lays cls Bundle.tN "detailMessage" "Ljava/lang/String;") (by simp [Bundle.ownAtoms0]))
  obtain ⟨tyB, dB, hdB, hdnB⟩ := Cond.laysAt hfound hk hffB (a' (.lays cls Bundle.tN "backtrace" "Ljava/lang/Object;") (by simp [Bundle.ownAtoms0]))
  have bC := Cond.laysApart hdB hdC hdnB hdnC (by rw [hnB, Y.causeName]; decide)
  have bS := Cond.laysApart hdB hdS hdnB hdnS (by rw [hnB, Y.stackName]; decide)
  have bP := Cond.laysApart hdB hdP hdnB hdnP (by rw [hnB, Y.suppName]; decide)
  have hskip : SkipFacts T e.platform s (fun u => u) u0 ((preparedCellV T.toThrowableT (freshCell P1.m.cls kX) a u0 sen).withEntry W.cur) :=
    ⟨{ ci198 := ci198, i198 := i198, fBack := fB }, ⟨hk198, hg198, ha198, hsB⟩, by
      have := fresh_default (c := P1.m.cls) tyB
      rw [htB] at this
      simpa [preparedCellV, Cell.setSlot, Cell.withEntry, Array.getElem?_setIfInBounds, bC, bS, bP, bC.symm, bS.symm, bP.symm, defaultValue] using this, fun _ _ => rfl⟩
  obtain ⟨tm, methC, cdC, kC, vm₁, hnC, -, -, -, -, -, -, -, hW₁, st1⟩ := Steps.initCold (tb := p.tables) (e := e) (below := below) (s := s) (U := W) X.here hexec X.warmed hpl hown (t := Bundle.init0 cls) rfl rfl (Bundle.fit_spec hcls).2
    (a' (.methodLink own ic (Bundle.init0 cls)) (by simp [Bundle.ownAtoms0])) (h (.instanceMethod (Bundle.init0 cls)) (by cases names <;> simp [Bundle.ownAtoms0, Bundle.chain0Atoms, Bundle.passAtoms])) (bytes := Bundle.five) (maxL := 1) (h (.code (Bundle.init0 cls) Bundle.five 1 none) (by cases names <;> simp [Bundle.ownAtoms0, Bundle.chain0Atoms, Bundle.passAtoms]))
    (f := g) hg (a := a) (rest := .ref a :: rest) hstack hd6
  cases Option.some.inj (hnC.symm.trans hP1m)
  have X₁ := X.noted hW₁
  obtain ⟨vm₂, X₂, st2⟩ := X₁.ctorPlainOffV hexec (g := { g with stack := .ref a :: rest }) hg hsize T L Z LZ (P1 :: Ps)
    (fun P hP => by rcases List.mem_cons.mp hP with rfl | hP; exact L1; exact hL P hP) ⟨hlink1, hlink⟩ (u0 := u0) (sen := sen) (self := a) (cell := freshCell P1.m.cls kX) (cellS := cellS)
    hcell (fun _ => by simp) (by simp) rfl rfl hsel0 hselF hcellS hneS hknownS (by rw [hkeep _ (hout' _)]; exact hu0) (by rw [hkeep _ (hout' _)]; exact hsen)
    (Takes.of_laid hk hord tyC (by rw [Y.causeType]; rfl)) (Takes.of_laid hk hord tyS (by rw [Y.stackType]; exact fits_refV_array _ u0)) (Takes.of_laid hk hord tyP (by rw [Y.suppType]; exact fits_refV_object _ sen)) Y.objLocals hskip htr [] hd6
    (by simp only [List.length_cons, hlen]; omega) (by simp only [List.length_cons, hlen]; exact hRlocals)
  have hlt : a < ((W.setVm vm₁).setVm vm₂).heap.size := (Array.getElem?_eq_some_iff.mp hcell).1
  refine ⟨(W.setVm vm₁).setVm vm₂, _, _, X₂, fun y hy => ?_, hlt, rfl, rfl, fun target hwalk => st1 _ (fun acts => ?_)⟩
  · simp only [List.mem_cons, List.not_mem_nil, or_false] at hy
    rcases hy with rfl | rfl | rfl | rfl <;> rfl
  · rw [doInvoke_state]
    exact st2 _ hwalk
end VXK
section VXK2
variable {p : Program} {l : Launch} {e : Env} {R : Room} {s : State} {m : MethodId} {args : Array Value} {below : List Frame} {meth : Method} {c : Code} {H : Heap} {locs : List Loc} {cells slots : Nat} {Q : State → Prop}
variable {ls : Array Slot} {rest : List Value} {D : va_G} {cl : List vw_C} {tys : List (ClassId × FieldType)} {ws : va_W}
/-- 'new E("text")' that isn't thrown at once: the object goes on the stack -/
theorem vx_makeS {cc : ByteArray} {pc : Nat} (hexec : p.tables.exec = Jvm.exec) (hb : c.code = cc) (hl : l.stackTraces = false) {own cls text : String} {names : List String} {ik is ic sa ci : Nat} {A : Nat → Prop} {T0 : u_T}
    (hown : s.vm.findClass own = some m.cls) (hcls : Bundle.fit cls = true) (hnames : ∀ n ∈ names, Bundle.fit n = true)
    (hk : (Cond.classLink own ik cls).before args s = true) (hini : (Cond.initialized cls).before args s = true) (hstr : vk_R own is text sa s) (hat : ∀ w ∈ vx_atS own ic cls names, w.before args s = true)
    (hgood : ∀ w ∈ Cond.classLink own ik cls :: Cond.initialized cls :: vx_atS own ic cls names, vx_ot w = true)
    (hU : vx_Zq Bundle.tN "UNASSIGNED_STACK" Bundle.steD A s s.heap) (hN : vx_Zq Bundle.tN "SUPPRESSED_SENTINEL" Bundle.listD A s s.heap) (hS : va_S A s.heap H locs) (hsize : ls.size = c.maxLocals)
    (d0 : decode cc pc = .ok (.new ik, 3)) (d3 : decode cc (pc + 3) = .ok (.dup, 1)) (d4 : decode cc (pc + 4) = .ok (.ldc is, 2)) (d6 : decode cc (pc + 6) = .ok (.invokespecial ic, 3))
    (hK : va_K D cl tys s) (hP : va_P D cl ws H) (hD : va_D A ws) (hA : ∀ q, s.heap.size ≤ q → A q) (hc : cl[ci]? = some (cls, T0, 0))
    (hRframes : names.length + 3 < R.frames) (hRlocals : (rest.map fun v => v.category).sum + (13 * (names.length + 1) + 43) ≤ R.locals) (hRcells : cells + 1 ≤ R.cells) (hRslots : slots + 6 ≤ R.slots)
    (kk : ∀ (q : Nat) (H1 : Heap), va_P D cl (ws ++ [(q, .inr (ci, []))]) H1 → va_D A (ws ++ [(q, .inr (ci, []))]) → va_S A s.heap H1 locs → W p l e R s m args below meth c H1 locs (cells + 1) (slots + 6) Q (F0 m (pc + 9) ls (.ref q :: rest))) :
    W p l e R s m args below meth c H locs cells slots Q (F0 m pc ls rest) := by
  intro T hT X
  subst hT
  have htr : e.platform.stackTraces = false := (show e.platform.stackTraces = l.stackTraces by rw [X.admits.platform]).trans hl
  have Y := vx_rebase X (R' := { frames := R.frames, locals := R.locals, cells := 1, slots := 6 }) (Nat.le_refl _) (Nat.le_refl _) hRcells hRslots
  obtain ⟨s', hA'⟩ : ∃ z, z = (T.setVm s.vm).setFrames (.invoking m args :: below) := ⟨_, rfl⟩
  rw [← hA'] at Y
  have hvm : s'.vm = s.vm := by rw [hA']; rfl
  have hhp : s'.heap = T.heap := by rw [hA']; rfl
  have hW0 : s.WarmedH s'.vm := by rw [hvm]; exact State.WarmedH.refl s
  have hat' : ∀ w ∈ vx_atS own ic cls names, w.before args s' = true := fun w hw => vx_ot_at hW0 hvm.symm (hgood w (List.mem_cons_of_mem _ (List.mem_cons_of_mem _ hw))) (hat w hw)
  have hk' : (Cond.classLink own ik cls).before args s' = true := vx_ot_at hW0 hvm.symm (hgood _ List.mem_cons_self) hk
  have hini' : (Cond.initialized cls).before args s' = true := vx_ot_at hW0 hvm.symm (hgood _ (List.mem_cons_of_mem _ List.mem_cons_self)) hini
  have hU' : vx_Zq Bundle.tN "UNASSIGNED_STACK" Bundle.steD A s' s'.heap := by rw [hhp]; exact vx_Zq.moved hW0.alike (hU.kept hS.2.1)
  have hN' : vx_Zq Bundle.tN "SUPPRESSED_SENTINEL" Bundle.listD A s' s'.heap := by rw [hhp]; exact vx_Zq.moved hW0.alike (hN.kept hS.2.1)
  have h : ∀ w ∈ Bundle.ownAtoms own ic cls names, w.before args s' = true := vx_own hat' (vx_isRefq hU'.1) (vx_isRefq hN'.1) hU'.2.word hN'.2.word
  have hown' : s'.vm.findClass own = some m.cls := by rw [hvm]; exact hown
  have hins : (Cond.instantiable cls 6).before args s' = true := h _ (by simp [Bundle.ownAtoms])
  obtain ⟨vm₁, cX, kX, hfX, hkX, -, -, X₁, st1⟩ := Y.newCold hexec (own := own) (C := cls) (index := ik) (n := 6) hown' hk' hins hini'
    (g := F0 m pc ls rest) rfl (by rw [hb]; exact d0) (Nat.le_refl _) (Nat.le_refl _)
  generalize hT1 : (T.setVm vm₁).pushCell { cls := cX, slots := kX.instanceTypes.map defaultValue, vm := .none } = T1 at X₁ st1
  have hcat : (Value.ref T.heap.size).category = 1 := rfl
  have hcellA : T1.heap[T.heap.size]? = some (freshCell cX kX) := by rw [← hT1]; exact State.heap_pushCell_size _ _
  have d3' : decode c.code (pc + 3) = .ok (.dup, 1) := by rw [hb]; exact d3
  have d4' : decode c.code (pc + 4) = .ok (.ldc is, 2) := by rw [hb]; exact d4
  have hstr' : vk_R own is text sa s' := vk_R.warm hW0 hstr
  obtain ⟨V, ce, L, Z, hL, hlt, hcl9, hvm9, st⟩ := vx_ctorMadeS X₁ hexec htr (own := own) (cls := cls) (names := names) (ic := ic) hown' hcls hnames h (fun x hx => nomatch hx) hfX hkX hcellA (by rw [hhp]; exact Nat.le_refl _) (msg := .ref sa) rfl
    (g := { method := m, pc := pc + 6, locals := ls, stack := .ref sa :: .ref T.heap.size :: .ref T.heap.size :: rest, locked := none }) rfl hsize (rest := rest) rfl
    (by rw [hb]; exact d6) hRframes (by simp only [List.map_cons, List.sum_cons, hcat]; omega)
  have Z0 := Stand.forget (locs := []) Z (fun y hy => by rw [hL y hy, hhp]; exact Nat.le_refl _)
  obtain ⟨f1, f2⟩ := vx_frame Z0.same
  rw [hhp] at f1 f2
  have hcid : ce.cls = D.1 ci := by
    rw [hcl9]
    have h1 := (hK.1 ci _ hc).2.1
    rw [hvm] at hfX
    exact Option.some.inj (hfX.symm.trans h1)
  have hh : (V.setCell T.heap.size ce).heap[T.heap.size]? = some ce := heapAt_setCell_self (s := V) ce hlt
  subst hA'
  have X5 := vx_back9 X Y Z0
  have X6 : Stand p l e R s m args below meth c (V.setCell T.heap.size ce) locs (cells + 1) (slots + 6) := { X5 with same := X5.same.mono (by omega) (by omega) }
  have hk9 : ∀ (k : Nat) (x : Nat × va_E), ws[k]? = some x → (V.setCell T.heap.size ce).heap[x.1]? = T.heap[x.1]? := fun k x hx => f2 x.1 ((hP k x hx).lt) (fun z hz => nomatch hz)
  obtain ⟨t, a1, b1⟩ := kk T.heap.size (V.setCell T.heap.size ce).heap ((hP.kept hk9).app (fun k x hx => by
      have hz : k < 1 := (List.getElem?_eq_some_iff.mp hx).1
      rw [show k = 0 by omega] at hx
      cases hx
      exact ⟨_, hc, ce, hh, hcid, hvm9, fun k hk => absurd hk (Nat.not_lt_zero k)⟩)) (hD.push hP rfl (hA _ hS.1)) ⟨Nat.le_trans hS.1 f1, fun q h1 h2 => (f2 q (Nat.lt_of_lt_of_le h1 hS.1) (fun z hz => nomatch hz)).trans (hS.2.1 q h1 h2), hS.2.2⟩ _ rfl X6
  refine ⟨t, st1 _ ?_, b1⟩
  show Steps p.tables e below (T1.setTop { method := m, pc := pc + 3, locals := ls, stack := .ref T.heap.size :: rest, locked := none }) _
  jvm_step X₁.here [X₁.here.top, hexec, d3', Value.category]
  exact X₁.ldcString hexec (own := own) (text := text) (index := is) (a := sa) hown' hstr'.1 hstr'.2
    (g := { method := m, pc := pc + 4, locals := ls, stack := .ref T.heap.size :: .ref T.heap.size :: rest, locked := none }) rfl d4' _ (st _ a1)
/-- 'new E()' that isn't thrown at once: the object goes on the stack -/
theorem vx_make0 {cc : ByteArray} {pc : Nat} (hexec : p.tables.exec = Jvm.exec) (hb : c.code = cc) (hl : l.stackTraces = false) {own cls : String} {names : List String} {ik ic ci : Nat} {A : Nat → Prop} {T0 : u_T}
    (hown : s.vm.findClass own = some m.cls) (hcls : Bundle.fit cls = true) (hnames : ∀ n ∈ names, Bundle.fit n = true)
    (hk : (Cond.classLink own ik cls).before args s = true) (hini : (Cond.initialized cls).before args s = true) (hat : ∀ w ∈ vx_at0 own ic cls names, w.before args s = true)
    (hgood : ∀ w ∈ Cond.classLink own ik cls :: Cond.initialized cls :: vx_at0 own ic cls names, vx_ot w = true)
    (hU : vx_Zq Bundle.tN "UNASSIGNED_STACK" Bundle.steD A s s.heap) (hN : vx_Zq Bundle.tN "SUPPRESSED_SENTINEL" Bundle.listD A s s.heap) (hS : va_S A s.heap H locs) (hsize : ls.size = c.maxLocals)
    (d0 : decode cc pc = .ok (.new ik, 3)) (d3 : decode cc (pc + 3) = .ok (.dup, 1)) (d4 : decode cc (pc + 4) = .ok (.invokespecial ic, 3))
    (hK : va_K D cl tys s) (hP : va_P D cl ws H) (hD : va_D A ws) (hA : ∀ q, s.heap.size ≤ q → A q) (hc : cl[ci]? = some (cls, T0, 0))
    (hRframes : names.length + 3 < R.frames) (hRlocals : (rest.map fun v => v.category).sum + (13 * (names.length + 1) + 42) ≤ R.locals) (hRcells : cells + 1 ≤ R.cells) (hRslots : slots + 6 ≤ R.slots)
    (kk : ∀ (q : Nat) (H1 : Heap), va_P D cl (ws ++ [(q, .inr (ci, []))]) H1 → va_D A (ws ++ [(q, .inr (ci, []))]) → va_S A s.heap H1 locs → W p l e R s m args below meth c H1 locs (cells + 1) (slots + 6) Q (F0 m (pc + 7) ls (.ref q :: rest))) :
    W p l e R s m args below meth c H locs cells slots Q (F0 m pc ls rest) := by
  intro T hT X
  subst hT
  have htr : e.platform.stackTraces = false := (show e.platform.stackTraces = l.stackTraces by rw [X.admits.platform]).trans hl
  have Y := vx_rebase X (R' := { frames := R.frames, locals := R.locals, cells := 1, slots := 6 }) (Nat.le_refl _) (Nat.le_refl _) hRcells hRslots
  obtain ⟨s', hA'⟩ : ∃ z, z = (T.setVm s.vm).setFrames (.invoking m args :: below) := ⟨_, rfl⟩
  rw [← hA'] at Y
  have hvm : s'.vm = s.vm := by rw [hA']; rfl
  have hhp : s'.heap = T.heap := by rw [hA']; rfl
  have hW0 : s.WarmedH s'.vm := by rw [hvm]; exact State.WarmedH.refl s
  have hat' : ∀ w ∈ vx_at0 own ic cls names, w.before args s' = true := fun w hw => vx_ot_at hW0 hvm.symm (hgood w (List.mem_cons_of_mem _ (List.mem_cons_of_mem _ hw))) (hat w hw)
  have hk' : (Cond.classLink own ik cls).before args s' = true := vx_ot_at hW0 hvm.symm (hgood _ List.mem_cons_self) hk
  have hini' : (Cond.initialized cls).before args s' = true := vx_ot_at hW0 hvm.symm (hgood _ (List.mem_cons_of_mem _ List.mem_cons_self)) hini
  have hU' : vx_Zq Bundle.tN "UNASSIGNED_STACK" Bundle.steD A s' s'.heap := by rw [hhp]; exact vx_Zq.moved hW0.alike (hU.kept hS.2.1)
  have hN' : vx_Zq Bundle.tN "SUPPRESSED_SENTINEL" Bundle.listD A s' s'.heap := by rw [hhp]; exact vx_Zq.moved hW0.alike (hN.kept hS.2.1)
  have h : ∀ w ∈ Bundle.ownAtoms0 own ic cls names, w.before args s' = true := vx_own hat' (vx_isRefq hU'.1) (vx_isRefq hN'.1) hU'.2.word hN'.2.word
  have hown' : s'.vm.findClass own = some m.cls := by rw [hvm]; exact hown
  have hins : (Cond.instantiable cls 6).before args s' = true := h _ (by simp [Bundle.ownAtoms0])
  obtain ⟨vm₁, cX, kX, hfX, hkX, -, -, X₁, st1⟩ := Y.newCold hexec (own := own) (C := cls) (index := ik) (n := 6) hown' hk' hins hini'
    (g := F0 m pc ls rest) rfl (by rw [hb]; exact d0) (Nat.le_refl _) (Nat.le_refl _)
  generalize hT1 : (T.setVm vm₁).pushCell { cls := cX, slots := kX.instanceTypes.map defaultValue, vm := .none } = T1 at X₁ st1
  have hcat : (Value.ref T.heap.size).category = 1 := rfl
  have hcellA : T1.heap[T.heap.size]? = some (freshCell cX kX) := by rw [← hT1]; exact State.heap_pushCell_size _ _
  have d3' : decode c.code (pc + 3) = .ok (.dup, 1) := by rw [hb]; exact d3
  obtain ⟨V, ce, L, Z, hL, hlt, hcl9, hvm9, st⟩ := vx_ctorMade0 X₁ hexec htr (own := own) (cls := cls) (names := names) (ic := ic) hown' hcls hnames h (fun x hx => nomatch hx) hfX hkX hcellA (by rw [hhp]; exact Nat.le_refl _)
    (g := { method := m, pc := pc + 4, locals := ls, stack := .ref T.heap.size :: .ref T.heap.size :: rest, locked := none }) rfl hsize (rest := rest) rfl
    (by rw [hb]; exact d4) hRframes (by simp only [List.map_cons, List.sum_cons, hcat]; omega)
  have Z0 := Stand.forget (locs := []) Z (fun y hy => by rw [hL y hy, hhp]; exact Nat.le_refl _)
  obtain ⟨f1, f2⟩ := vx_frame Z0.same
  rw [hhp] at f1 f2
  have hcid : ce.cls = D.1 ci := by
    rw [hcl9]
    have h1 := (hK.1 ci _ hc).2.1
    rw [hvm] at hfX
    exact Option.some.inj (hfX.symm.trans h1)
  have hh : (V.setCell T.heap.size ce).heap[T.heap.size]? = some ce := heapAt_setCell_self (s := V) ce hlt
  subst hA'
  have X5 := vx_back9 X Y Z0
  have X6 : Stand p l e R s m args below meth c (V.setCell T.heap.size ce) locs (cells + 1) (slots + 6) := { X5 with same := X5.same.mono (by omega) (by omega) }
  have hk9 : ∀ (k : Nat) (x : Nat × va_E), ws[k]? = some x → (V.setCell T.heap.size ce).heap[x.1]? = T.heap[x.1]? := fun k x hx => f2 x.1 ((hP k x hx).lt) (fun z hz => nomatch hz)
  obtain ⟨t, a1, b1⟩ := kk T.heap.size (V.setCell T.heap.size ce).heap ((hP.kept hk9).app (fun k x hx => by
      have hz : k < 1 := (List.getElem?_eq_some_iff.mp hx).1
      rw [show k = 0 by omega] at hx
      cases hx
      exact ⟨_, hc, ce, hh, hcid, hvm9, fun k hk => absurd hk (Nat.not_lt_zero k)⟩)) (hD.push hP rfl (hA _ hS.1)) ⟨Nat.le_trans hS.1 f1, fun q h1 h2 => (f2 q (Nat.lt_of_lt_of_le h1 hS.1) (fun z hz => nomatch hz)).trans (hS.2.1 q h1 h2), hS.2.2⟩ _ rfl X6
  refine ⟨t, st1 _ ?_, b1⟩
  show Steps p.tables e below (T1.setTop { method := m, pc := pc + 3, locals := ls, stack := .ref T.heap.size :: rest, locked := none }) _
  jvm_step X₁.here [X₁.here.top, hexec, d3', Value.category]
  exact st _ a1
/-- 'throw x' of an object that was made before -/
theorem vx_athrow {cc : ByteArray} {pc : Nat} (hexec : p.tables.exec = Jvm.exec) (hb : c.code = cc) {q : Addr} (hdg : decode cc pc = .ok (.athrow, 1)) (k : vx_W p l e R s m args below meth c H locs cells slots Q (F0 m pc ls rest) q) : W p l e R s m args below meth c H locs cells slots Q (F0 m pc ls (.ref q :: rest)) := by
  intro T hT X
  obtain ⟨t, st, hq⟩ := k T hT X
  refine ⟨t, ?_, hq⟩
  have hdg' : decode c.code pc = .ok (.athrow, 1) := by rw [hb]; exact hdg
  jvm_step X.here [X.here.top, hexec, hdg', athrow.wp_sem]
  exact st
end VXK2
/-! ===== END ===== -/
/-! ===== BEGIN a constructor that throws (launches without stack traces) ===== -/
section VXIA
variable {p : Program} {l : Launch} {e : Env} {R : Room} {s : State} {m : MethodId} {args : Array Value} {below : List Frame} {meth : Method} {c : Code} {T : State} {locs : List Loc} {cells slots : Nat}
theorem vx_callI (X : Stand p l e R s m args below meth c T locs cells slots) (hexec : p.tables.exec = Jvm.exec) {own : String} {index : Nat} {y : MethodName} {bytes : ByteArray} {maxL : Nat}
    (hown : s.vm.findClass own = some m.cls) (hy1 : y.name = "<init>") (hlink : (Cond.methodLink own index y).before args s = true) (hinst : (Cond.instanceMethod y).before args s = true)
    (hcode : (Cond.code y bytes maxL none).before args s = true) (hy : y.cls ≠ "java/lang/invoke/MethodHandle" ∧ y.cls ≠ "java/lang/invoke/VarHandle")
    {W9 : Nat} {Pre : Pt → Array Value → Prop} {Post : Pt → Array Value → Option Value → Pt → Prop} {PostX : Pt → Array Value → Addr → Pt → Prop} (hK : vx_Back l R p e below s args y 3 W9 Pre Post PostX)
    {g : JFrame} (hg : g.method = m) (hsize : g.locals.size = c.maxLocals) {a : Addr} {argsL rest : List Value} (hlen : ∀ sig, parseMethodDescriptor y.desc = some sig → argsL.length = sig.parameters.length)
    (hstack : g.stack = argsL.reverse ++ .ref a :: rest) (hW : 2 * g.monitorRoom + (rest.map fun v => v.category).sum ≤ W9) (hdg : decode c.code g.pc = .ok (.invokespecial index, 3))
    (hpre : ∀ vm₁, s.WarmedH vm₁ → Pre ⟨T.setVm vm₁, locs, cells, slots⟩ (Value.ref a :: argsL).toArray) :
    (∃ (v : Option Value) (vm₁ : Vm) (B : Pt), s.WarmedH vm₁ ∧ Stand p l e R s m args below meth c B.U B.locs B.cells B.slots ∧ Post ⟨T.setVm vm₁, locs, cells, slots⟩ (Value.ref a :: argsL).toArray v B ∧
      ∀ target, Steps p.tables e below (B.U.setTop { g with pc := g.pc + 3, stack := v.toList ++ rest }) target → Steps p.tables e below (T.setTop g) target) ∨
    (∃ (q : Addr) (vm₁ : Vm) (B : Pt), s.WarmedH vm₁ ∧ Stand p l e R s m args below meth c B.U B.locs B.cells B.slots ∧ PostX ⟨T.setVm vm₁, locs, cells, slots⟩ (Value.ref a :: argsL).toArray q B ∧
      Steps p.tables e below (T.setTop g) ((B.U.setTop { g with stack := rest }).pushFrame (.throwing q))) := by
  subst hg
  have hpl : e.platform.magicAccessors = ({} : Platform).magicAccessors := by rw [X.admits.platform]
  obtain ⟨mk, methM, cM, kP, vm₁, hnamed, hmethM, hcodeM, -, hlocalsM, -, hkP, -, hW₁, hstep₁⟩ := Steps.initColdArgs (e := e) X.here hexec X.warmed hpl hown hy1 hy hlink hinst hcode (f := g) rfl hlen hstack hdg
  have X₁ := X.noted hW₁
  rcases hK g.method meth c ⟨T.setVm vm₁, locs, cells, slots⟩ { g with stack := rest } (.invokespecial index) mk (Value.ref a :: argsL).toArray X₁ rfl hsize hdg hW (X₁.named hnamed) (hpre vm₁ X₁.warmed) with ⟨v, B, X', hpost, hsteps⟩ | ⟨q, B, X', hpost, hsteps⟩
  · exact Or.inl ⟨v, vm₁, B, X₁.warmed, X', hpost, fun target h => hstep₁ _ fun acts => by rw [doInvoke_state]; exact hsteps.trans h⟩
  · exact Or.inr ⟨q, vm₁, B, X₁.warmed, X', hpost, hstep₁ _ fun acts => by rw [doInvoke_state]; exact hsteps⟩
end VXIA
section VXIB
variable {p : Program} {l : Launch} {e : Env} {R : Room} {s : State} {m : MethodId} {args : Array Value} {below : List Frame} {meth : Method} {c : Code} {H : Heap} {locs : List Loc} {cells slots : Nat}
variable {y : MethodName} {bytes cc : ByteArray} {maxL nL mc ms n index : Nat} {ret : Option FieldType} {ws : List Cond} {rm : Room} {Pc : Array Value → State → Prop} {Qc : Array Value → State → Outcome → State → Prop} {XC : String → State → State → Prop} {free : Addr → Prop} {Ts : List Cond} {own C : String} {b : Addr} {As rest : List Value} {g : JFrame}
theorem vx_runI (S : CallFix p m c cc nL s args Ts own) (hM : vx_Met l y ws rm Pc Qc XC mc ms free) (cw : CallB R s args own index y bytes maxL none ws rm mc ms n ∧ y.name = "<init>" ∧ (Cond.instanceMethod y).before args s = true) (hp : PreS s H Pc (.ref b :: As))
    (hg : g.method = m) (hn : As.length = n) (hsize : g.locals.size = nL) (hstack : g.stack = As.reverse ++ .ref b :: rest) (hW : 2 * g.monitorRoom + (rest.map fun v => v.category).sum ≤ 8) (hdg : decode cc g.pc = .ok (.invokespecial index, 3)) (hf : cells + mc ≤ R.cells ∧ slots + ms ≤ R.slots) :
    vx_Run p l e R s m args below meth c H locs cells slots mc ms g rest (Qc (Value.ref b :: As).toArray) XC free := by
  have hK : vx_Back l R p e below s args y 3 8 (PreOf R mc ms Pc) (PostOf Qc mc ms free) (vx_Post XC mc ms free) := vx_callBack cw.1 hM hp.1
  obtain ⟨⟨-, -, -, -, -, -, hcode, -, hy, hlen, hl⟩, hy1, hin⟩ := cw
  obtain ⟨hx, hb, hml, ho, -⟩ := S
  have hPc := hp.2
  intro T hT X
  rcases vx_callI X hx (bytes := bytes) (maxL := maxL) ho hy1 hl hin hcode hy hK hg (hsize.trans hml.symm) (a := b) (argsL := As) (rest := rest) (fun sig h => hn.trans (hlen sig h)) hstack hW (by rw [hb]; exact hdg)
    (fun vm₁ hW₁ => ⟨hf.1, hf.2, hPc (T.setVm vm₁) hT hW₁⟩) with ⟨v, vm₁, ⟨U', l2, c2, s2⟩, hW₁, X', ⟨g', mk, t, L, e1, e2, hq, h1, hL, h2, h3⟩, st⟩ | ⟨q, vm₁, ⟨U', l2, c2, s2⟩, hW₁, X', ⟨g', mk, t, L, E, ce, e1, e2, hq, hce, hcv, hcl, h1, hL, h2, h3⟩, st⟩
  · dsimp only [Pt.U, Pt.locs, Pt.cells, Pt.slots] at X' e1 e2 h1 h2 h3 st
    subst h1; subst h2; subst h3
    exact Or.inl ⟨v, (T.setVm vm₁).calling g' mk (Value.ref b :: As).toArray, t, U', L, hT, X', hL, e1, e2, hq, st⟩
  · dsimp only [Pt.U, Pt.locs, Pt.cells, Pt.slots] at X' e1 e2 h1 h2 h3 st hcl
    subst h1; subst h2; subst h3
    exact Or.inr ⟨q, (T.setVm vm₁).calling g' mk (Value.ref b :: As).toArray, t, U', L, E, ce, hT, X', hL, e1, e2, hq, hce, hcv, vx_cls hW₁ hcl, st⟩
end VXIB
/-! ===== END ===== -/
/-! ===== BEGIN a private constructor of a nest mate that throws ===== -/
section VXIC
variable {p : Program} {l : Launch} {e : Env} {R : Room} {s : State} {m : MethodId} {args : Array Value} {below : List Frame} {meth : Method} {c : Code} {T : State} {locs : List Loc} {cells slots : Nat}
theorem vx_callIN (X : Stand p l e R s m args below meth c T locs cells slots) (hexec : p.tables.exec = Jvm.exec) {own : String} {index : Nat} {host : String} {y : MethodName} {bytes : ByteArray} {maxL : Nat}
    (hown : s.vm.findClass own = some m.cls) (hy1 : y.name = "<init>") (hlink : (Cond.methodLinkNest own index y host).before args s = true) (hinst : (Cond.instanceMethod y).before args s = true)
    (hcode : (Cond.code y bytes maxL none).before args s = true) (hy : y.cls ≠ "java/lang/invoke/MethodHandle" ∧ y.cls ≠ "java/lang/invoke/VarHandle")
    {W9 : Nat} {Pre : Pt → Array Value → Prop} {Post : Pt → Array Value → Option Value → Pt → Prop} {PostX : Pt → Array Value → Addr → Pt → Prop} (hK : vx_Back l R p e below s args y 3 W9 Pre Post PostX)
    {g : JFrame} (hg : g.method = m) (hsize : g.locals.size = c.maxLocals) {a : Addr} {argsL rest : List Value} (hlen : ∀ sig, parseMethodDescriptor y.desc = some sig → argsL.length = sig.parameters.length)
    (hstack : g.stack = argsL.reverse ++ .ref a :: rest) (hW : 2 * g.monitorRoom + (rest.map fun v => v.category).sum ≤ W9) (hdg : decode c.code g.pc = .ok (.invokespecial index, 3))
    (hpre : ∀ vm₁, s.WarmedH vm₁ → Pre ⟨T.setVm vm₁, locs, cells, slots⟩ (Value.ref a :: argsL).toArray) :
    (∃ (v : Option Value) (vm₁ : Vm) (B : Pt), s.WarmedH vm₁ ∧ Stand p l e R s m args below meth c B.U B.locs B.cells B.slots ∧ Post ⟨T.setVm vm₁, locs, cells, slots⟩ (Value.ref a :: argsL).toArray v B ∧
      ∀ target, Steps p.tables e below (B.U.setTop { g with pc := g.pc + 3, stack := v.toList ++ rest }) target → Steps p.tables e below (T.setTop g) target) ∨
    (∃ (q : Addr) (vm₁ : Vm) (B : Pt), s.WarmedH vm₁ ∧ Stand p l e R s m args below meth c B.U B.locs B.cells B.slots ∧ PostX ⟨T.setVm vm₁, locs, cells, slots⟩ (Value.ref a :: argsL).toArray q B ∧
      Steps p.tables e below (T.setTop g) ((B.U.setTop { g with stack := rest }).pushFrame (.throwing q))) := by
  subst hg
  have hpl : e.platform.magicAccessors = ({} : Platform).magicAccessors := by rw [X.admits.platform]
  obtain ⟨mk, methM, cM, kP, vm₁, hnamed, hmethM, hcodeM, -, hlocalsM, -, hkP, -, hW₁, hstep₁⟩ := Steps.initColdArgsNest (e := e) X.here hexec X.warmed hpl hown hy1 hy hlink hinst hcode (f := g) rfl hlen hstack hdg
  have X₁ := X.noted hW₁
  rcases hK g.method meth c ⟨T.setVm vm₁, locs, cells, slots⟩ { g with stack := rest } (.invokespecial index) mk (Value.ref a :: argsL).toArray X₁ rfl hsize hdg hW (X₁.named hnamed) (hpre vm₁ X₁.warmed) with ⟨v, B, X', hpost, hsteps⟩ | ⟨q, B, X', hpost, hsteps⟩
  · exact Or.inl ⟨v, vm₁, B, X₁.warmed, X', hpost, fun target h => hstep₁ _ fun acts => by rw [doInvoke_state]; exact hsteps.trans h⟩
  · exact Or.inr ⟨q, vm₁, B, X₁.warmed, X', hpost, hstep₁ _ fun acts => by rw [doInvoke_state]; exact hsteps⟩
end VXIC
section VXID
variable {p : Program} {l : Launch} {e : Env} {R : Room} {s : State} {m : MethodId} {args : Array Value} {below : List Frame} {meth : Method} {c : Code} {H : Heap} {locs : List Loc} {cells slots : Nat}
theorem vx_runIN {y : MethodName} {bytes cc : ByteArray} {maxL nL mc ms n index : Nat} {ws : List Cond} {rm : Room} {Pc : Array Value → State → Prop} {Qc : Array Value → State → Outcome → State → Prop} {XC : String → State → State → Prop} {free : Addr → Prop} {Ts : List Cond} {own host : String} {b : Addr} {As rest : List Value} {g : JFrame}
    (S : CallFix p m c cc nL s args Ts own) (hM : vx_Met l y ws rm Pc Qc XC mc ms free) (cw : va_CN R s args own index y host bytes maxL none ws rm mc ms n ∧ y.name = "<init>" ∧ (Cond.instanceMethod y).before args s = true) (hp : PreS s H Pc (.ref b :: As))
    (hg : g.method = m) (hn : As.length = n) (hsize : g.locals.size = nL) (hstack : g.stack = As.reverse ++ .ref b :: rest) (hW : 2 * g.monitorRoom + (rest.map fun v => v.category).sum ≤ 8) (hdg : decode cc g.pc = .ok (.invokespecial index, 3)) (hf : cells + mc ≤ R.cells ∧ slots + ms ≤ R.slots) :
    vx_Run p l e R s m args below meth c H locs cells slots mc ms g rest (Qc (Value.ref b :: As).toArray) XC free := by
  obtain ⟨⟨⟨hrc, hrs, hfr, hlo, hws, hcw⟩, hcode, hini, hy, hlen, hl⟩, hx1, hx2⟩ := cw
  have hK : vx_Back l R p e below s args y 3 8 (PreOf R mc ms Pc) (PostOf Qc mc ms free) (vx_Post XC mc ms free) := vx_back (bytes := bytes) (maxL := maxL) (ret := none) hM hp.1 hrc hrs hfr hlo hws hcw (fun a' U hW => word_at hW (Or.inl (by first | rfl | simp [Cond.onTables, Cond.keeps, Cond.steady])) hini)
  obtain ⟨hx, hb, hml, ho, -⟩ := S
  have hPc := hp.2
  intro T hT X
  rcases vx_callIN X hx (bytes := bytes) (maxL := maxL) ho hx1 hl hx2 hcode hy hK hg (hsize.trans hml.symm) (a := b) (argsL := As) (rest := rest) (fun sig h => hn.trans (hlen sig h)) hstack hW (by rw [hb]; exact hdg)
    (fun vm₁ hW₁ => ⟨hf.1, hf.2, hPc (T.setVm vm₁) hT hW₁⟩) with ⟨v, vm₁, ⟨U', l2, c2, s2⟩, hW₁, X', ⟨g', mk, t, L, e1, e2, hq, h1, hL, h2, h3⟩, st⟩ | ⟨q, vm₁, ⟨U', l2, c2, s2⟩, hW₁, X', ⟨g', mk, t, L, E, ce, e1, e2, hq, hce, hcv, hcl, h1, hL, h2, h3⟩, st⟩
  · dsimp only [Pt.U, Pt.locs, Pt.cells, Pt.slots] at X' e1 e2 h1 h2 h3 st
    subst h1; subst h2; subst h3
    exact Or.inl ⟨v, (T.setVm vm₁).calling g' mk (Value.ref b :: As).toArray, t, U', L, hT, X', hL, e1, e2, hq, st⟩
  · dsimp only [Pt.U, Pt.locs, Pt.cells, Pt.slots] at X' e1 e2 h1 h2 h3 st hcl
    subst h1; subst h2; subst h3
    exact Or.inr ⟨q, (T.setVm vm₁).calling g' mk (Value.ref b :: As).toArray, t, U', L, E, ce, hT, X', hL, e1, e2, hq, hce, hcv, vx_cls hW₁ hcl, st⟩
end VXID
/-! ===== END ===== -/
/-! ===== BEGIN a method of a class above, found by the receiver, that may throw (follows va_callVU, va_runU of this kit) ===== -/
section
variable {p : Program} {l : Launch} {e : Env} {R : Room} {s : State} {m : MethodId} {args : Array Value} {below : List Frame} {meth : Method} {c : Code} {H : Heap} {locs : List Loc} {cells slots : Nat}
theorem vx_callVU {T : State} {locs : List Loc} {cells slots : Nat} (X : Stand p l e R s m args below meth c T locs cells slots) (hexec : p.tables.exec = Jvm.exec) {own C owner : String} {index : Nat} {x y : MethodName} {bytes : ByteArray} {maxL : Nat} {ret : Option FieldType}
    (hown : s.vm.findClass own = some m.cls) (hlink : (Cond.methodLink own index x).before args s = true) (hsame : (Cond.sameMethod x.cls owner x.name x.desc).before args s = true)
    (hd0 : va_Decl s ⟨owner, x.name, x.desc⟩) (howner : owner ≠ "java/lang/invoke/MethodHandle" ∧ owner ≠ "java/lang/invoke/VarHandle")
    (hsel : (Cond.selects C x y).before args s = true) (hinst : (Cond.instanceMethod y).before args s = true) (hcode : (Cond.code y bytes maxL ret).before args s = true)
    {W : Nat} {Pre : Pt → Array Value → Prop} {Post : Pt → Array Value → Option Value → Pt → Prop} {PostX : Pt → Array Value → Addr → Pt → Prop} (hK : vx_Back l R p e below s args y 3 W Pre Post PostX)
    {b : Addr} {cellB : Cell} (hcell : T.heap[b]? = some cellB) (hobj : cellB.vm.isStatics = false) (hcls : s.vm.findClass C = some cellB.cls)
    {g : JFrame} (hg : g.method = m) (hsize : g.locals.size = c.maxLocals) {argsL rest : List Value} (hlen : ∀ sig, parseMethodDescriptor x.desc = some sig → argsL.length = sig.parameters.length)
    (hstack : g.stack = argsL.reverse ++ .ref b :: rest) (hW : 2 * g.monitorRoom + (rest.map fun v => v.category).sum ≤ W) (hdg : decode c.code g.pc = .ok (.invokevirtual index, 3))
    (hpre : ∀ vm₁, s.WarmedH vm₁ → Pre ⟨T.setVm vm₁, locs, cells, slots⟩ (Value.ref b :: argsL).toArray) :
    (∃ (v : Option Value) (vm₁ : Vm) (B : Pt), s.WarmedH vm₁ ∧ Stand p l e R s m args below meth c B.U B.locs B.cells B.slots ∧ Post ⟨T.setVm vm₁, locs, cells, slots⟩ (Value.ref b :: argsL).toArray v B ∧
      ∀ target, Steps p.tables e below (B.U.setTop { g with pc := g.pc + 3, stack := v.toList ++ rest }) target → Steps p.tables e below (T.setTop g) target) ∨
    (∃ (q : Addr) (vm₁ : Vm) (B : Pt), s.WarmedH vm₁ ∧ Stand p l e R s m args below meth c B.U B.locs B.cells B.slots ∧ PostX ⟨T.setVm vm₁, locs, cells, slots⟩ (Value.ref b :: argsL).toArray q B ∧
      Steps p.tables e below (T.setTop g) ((B.U.setTop { g with stack := rest }).pushFrame (.throwing q))) := by
  obtain ⟨r0, r, hn, hrm, hstR, hsigR⟩ := hd0
  obtain ⟨cn, ck, r1, hcn, hck, hni, hf, hn1⟩ := Cond.sameMethod_found hsame
  cases hn.symm.trans hn1
  obtain ⟨mk, methM, hnamed, hmethM, -, habM⟩ := Cond.instanceMethod_spec hinst
  obtain ⟨c2, r2, m2, q1, q2, q3, q4, kP, hkP, hkPi⟩ := Cond.selects_spec hsel
  cases hcls.symm.trans q1
  cases hf.symm.trans q2
  cases hnamed.symm.trans q3
  have hselP : selectMethod e.platform s.vm cellB.cls r0 = .method mk := by rw [Launch.admits_selectMethod X.admits]; exact q4
  obtain ⟨vm₁, X₁, hstep₁⟩ := X.invokevirtualUp hexec hown hlink hsame howner hn hrm hstR (a := b) (cell := cellB) hcell
    (fun z h => by rw [h] at hobj; cases hobj) hselP hmethM habM hkP hkPi (g := g) hg (argsL := argsL) (rest := rest) (hlen _ hsigR) hstack hdg
  rcases hK m meth c ⟨T.setVm vm₁, locs, cells, slots⟩ { g with stack := rest } (.invokevirtual index) mk (Value.ref b :: argsL).toArray X₁ hg hsize hdg hW (X₁.named hnamed) (hpre vm₁ X₁.warmed) with ⟨v, B, X', hpost, hsteps⟩ | ⟨q, B, X', hpost, hsteps⟩
  · exact Or.inl ⟨v, vm₁, B, X₁.warmed, X', hpost, fun target h => hstep₁ _ fun acts => by rw [doInvoke_state]; exact hsteps.trans h⟩
  · exact Or.inr ⟨q, vm₁, B, X₁.warmed, X', hpost, hstep₁ _ fun acts => by rw [doInvoke_state]; exact hsteps⟩
theorem vx_runU {x y : MethodName} {bytes cc : ByteArray} {maxL nL mc ms n index : Nat} {ret : Option FieldType} {ws : List Cond} {rm : Room} {Pc : Array Value → State → Prop} {Qc : Array Value → State → Outcome → State → Prop} {XC : String → State → State → Prop} {free : Addr → Prop} {Ts : List Cond} {own C owner : String} {b : Addr} {As rest : List Value} {g : JFrame}
    (S : CallFix p m c cc nL s args Ts own) (hM : vx_Met l y ws rm Pc Qc XC mc ms free) (cw : va_CU R s args own C owner index x y bytes maxL ret ws rm mc ms n) (hp : PreV s H C b Pc As)
    (hg : g.method = m) (hn : As.length = n) (hsize : g.locals.size = nL) (hstack : g.stack = As.reverse ++ .ref b :: rest) (hW : 2 * g.monitorRoom + (rest.map fun v => v.category).sum ≤ 8) (hdg : decode cc g.pc = .ok (.invokevirtual index, 3)) (hf : cells + mc ≤ R.cells ∧ slots + ms ≤ R.slots) :
    vx_Run p l e R s m args below meth c H locs cells slots mc ms g rest (Qc (Value.ref b :: As).toArray) XC free := by
  obtain ⟨hrc, hrs, hfr, hlo, hws, hcw⟩ := cw.back
  have hini := cw.init
  have hK : vx_Back l R p e below s args y 3 8 (PreOf R mc ms Pc) (PostOf Qc mc ms free) (vx_Post XC mc ms free) := vx_back (bytes := bytes) (maxL := maxL) (ret := ret) hM hp.1 hrc hrs hfr hlo hws hcw (fun a' U hW => word_at hW (Or.inl (by first | rfl | simp [Cond.onTables, Cond.keeps, Cond.steady])) hini)
  obtain ⟨hx, hb, hml, ho, -⟩ := S
  obtain ⟨-, ⟨cellB, hcB, hoB, hclB⟩, hPc⟩ := hp
  intro T hT X
  rcases vx_callVU X hx (C := C) (owner := owner) (bytes := bytes) (maxL := maxL) (ret := ret) ho cw.link cw.same cw.decl cw.notMH cw.sel cw.inst cw.code hK (by rw [hT]; exact hcB) hoB hclB hg (hsize.trans hml.symm) (argsL := As) (rest := rest) (fun sig h => hn.trans (cw.len sig h)) hstack hW (by rw [hb]; exact hdg)
    (fun vm₁ hW₁ => ⟨hf.1, hf.2, hPc (T.setVm vm₁) hT hW₁⟩) with ⟨v, vm₁, ⟨U', l2, c2, s2⟩, hW₁, X', ⟨g', mk, t, L, e1, e2, hq, h1, hL, h2, h3⟩, st⟩ | ⟨q, vm₁, ⟨U', l2, c2, s2⟩, hW₁, X', ⟨g', mk, t, L, E, ce, e1, e2, hq, hce, hcv, hcl, h1, hL, h2, h3⟩, st⟩
  · dsimp only [Pt.U, Pt.locs, Pt.cells, Pt.slots] at X' e1 e2 h1 h2 h3 st
    subst h1; subst h2; subst h3
    exact Or.inl ⟨v, (T.setVm vm₁).calling g' mk (Value.ref b :: As).toArray, t, U', L, hT, X', hL, e1, e2, hq, st⟩
  · dsimp only [Pt.U, Pt.locs, Pt.cells, Pt.slots] at X' e1 e2 h1 h2 h3 st hcl
    subst h1; subst h2; subst h3
    exact Or.inr ⟨q, (T.setVm vm₁).calling g' mk (Value.ref b :: As).toArray, t, U', L, E, ce, hT, X', hL, e1, e2, hq, hce, hcv, vx_cls hW₁ hcl, st⟩
end
/-! ===== END ===== -/
/-! ===== BEGIN super.m(..) that may throw (follows va_callSU, va_runSU) ===== -/
section
variable {p : Program} {l : Launch} {e : Env} {R : Room} {s : State} {m : MethodId} {args : Array Value} {below : List Frame} {meth : Method} {c : Code} {H : Heap} {locs : List Loc} {cells slots : Nat}
theorem vx_callSU {T : State} {locs : List Loc} {cells slots : Nat} (X : Stand p l e R s m args below meth c T locs cells slots) (hexec : p.tables.exec = Jvm.exec) {own : String} {index : Nat} {y : MethodName} {bytes : ByteArray} {maxL : Nat} {ret : Option FieldType}
    (hown : s.vm.findClass own = some m.cls) (hlink : (Cond.methodLink own index y).before args s = true) (hsame : (Cond.sameMethod y.cls y.cls y.name y.desc).before args s = true) (hsup : (Cond.superclass own y.cls).before args s = true)
    (hinst : (Cond.instanceMethod y).before args s = true) (hcode : (Cond.code y bytes maxL ret).before args s = true) (hno : y.name ≠ "<init>")
    {W : Nat} {Pre : Pt → Array Value → Prop} {Post : Pt → Array Value → Option Value → Pt → Prop} {PostX : Pt → Array Value → Addr → Pt → Prop} (hK : vx_Back l R p e below s args y 3 W Pre Post PostX)
    {b : Addr} {cellB : Cell} {kB : Class} (hcell : T.heap[b]? = some cellB) (hobj : cellB.vm.isStatics = false) (hkB : s.vm.classes[cellB.cls]? = some kB)
    {g : JFrame} (hg : g.method = m) (hsize : g.locals.size = c.maxLocals) {argsL rest : List Value} (hlen : ∀ sig, parseMethodDescriptor y.desc = some sig → argsL.length = sig.parameters.length)
    (hstack : g.stack = argsL.reverse ++ .ref b :: rest) (hW : 2 * g.monitorRoom + (rest.map fun v => v.category).sum ≤ W) (hdg : decode c.code g.pc = .ok (.invokespecial index, 3))
    (hpre : ∀ vm₁, s.WarmedH vm₁ → Pre ⟨T.setVm vm₁, locs, cells, slots⟩ (Value.ref b :: argsL).toArray) :
    (∃ (v : Option Value) (vm₁ : Vm) (B : Pt), s.WarmedH vm₁ ∧ Stand p l e R s m args below meth c B.U B.locs B.cells B.slots ∧ Post ⟨T.setVm vm₁, locs, cells, slots⟩ (Value.ref b :: argsL).toArray v B ∧
      ∀ target, Steps p.tables e below (B.U.setTop { g with pc := g.pc + 3, stack := v.toList ++ rest }) target → Steps p.tables e below (T.setTop g) target) ∨
    (∃ (q : Addr) (vm₁ : Vm) (B : Pt), s.WarmedH vm₁ ∧ Stand p l e R s m args below meth c B.U B.locs B.cells B.slots ∧ PostX ⟨T.setVm vm₁, locs, cells, slots⟩ (Value.ref b :: argsL).toArray q B ∧
      Steps p.tables e below (T.setTop g) ((B.U.setTop { g with stack := rest }).pushFrame (.throwing q))) := by
  obtain ⟨mk, methM, hnamed, hmethM, hstM, habM⟩ := Cond.instanceMethod_spec hinst
  obtain ⟨methM', cM, hmethM', -, -, -, -, -, -, hsigM⟩ := Cond.code_spec hnamed hcode
  cases hmethM.symm.trans hmethM'
  obtain ⟨ps, dk, kp, hps, hdk, hkp, hsuper, -, -, hnid⟩ := Cond.superclass_spec hown hsup
  have hn : s.methodNamed? ⟨y.cls, y.name, y.desc⟩ = some mk := hnamed
  have hpm : ps = mk.cls := Option.some.inj (hps.symm.trans (findClass_of_methodNamed hnamed))
  have hsub : s.vm.isSubclass ps mk.cls = true := by rw [hpm]; simp [Vm.isSubclass, Vm.isSubclassAux]
  obtain ⟨vm₁, X₁, hstep₁⟩ := X.invokespecialUp hexec hown hlink hsame hn hmethM hstM habM hno hdk hnid hps hsuper hsub (a := b) (cell := cellB) hcell
    (fun z h => by rw [h] at hobj; cases hobj) hkB (g := g) hg (argsL := argsL) (rest := rest) (hlen _ hsigM) hstack hdg
  rcases hK m meth c ⟨T.setVm vm₁, locs, cells, slots⟩ { g with stack := rest } (.invokespecial index) mk (Value.ref b :: argsL).toArray X₁ hg hsize hdg hW (X₁.named hnamed) (hpre vm₁ X₁.warmed) with ⟨v, B, X', hpost, hsteps⟩ | ⟨q, B, X', hpost, hsteps⟩
  · exact Or.inl ⟨v, vm₁, B, X₁.warmed, X', hpost, fun target h => hstep₁ _ (by rw [doInvoke_state]; exact hsteps.trans h)⟩
  · exact Or.inr ⟨q, vm₁, B, X₁.warmed, X', hpost, hstep₁ _ (by rw [doInvoke_state]; exact hsteps)⟩
theorem vx_runSU {y : MethodName} {bytes cc : ByteArray} {maxL nL mc ms n index : Nat} {ret : Option FieldType} {ws : List Cond} {rm : Room} {Pc : Array Value → State → Prop} {Qc : Array Value → State → Outcome → State → Prop} {XC : String → State → State → Prop} {free : Addr → Prop} {Ts : List Cond} {own C : String} {cC : ClassId} {b : Addr} {As rest : List Value} {g : JFrame}
    (hat : ClassAt s C cC) (S : CallFix p m c cc nL s args Ts own) (hM : vx_Met l y ws rm Pc Qc XC mc ms free) (cw : va_CS R s args own index y bytes maxL ret ws rm mc ms n) (hp : PreV s H C b Pc As)
    (hg : g.method = m) (hn : As.length = n) (hsize : g.locals.size = nL) (hstack : g.stack = As.reverse ++ .ref b :: rest) (hW : 2 * g.monitorRoom + (rest.map fun v => v.category).sum ≤ 8) (hdg : decode cc g.pc = .ok (.invokespecial index, 3)) (hf : cells + mc ≤ R.cells ∧ slots + ms ≤ R.slots) :
    vx_Run p l e R s m args below meth c H locs cells slots mc ms g rest (Qc (Value.ref b :: As).toArray) XC free := by
  obtain ⟨⟨hrc, hrs, hfr, hlo, hws, hcw⟩, hl1, hl2, hl3, hl4, hini, hcode, hno, hlen⟩ := cw
  have hK : vx_Back l R p e below s args y 3 8 (PreOf R mc ms Pc) (PostOf Qc mc ms free) (vx_Post XC mc ms free) := vx_back (bytes := bytes) (maxL := maxL) (ret := ret) hM hp.1 hrc hrs hfr hlo hws hcw (fun a' U hW => word_at hW (Or.inl (by first | rfl | simp [Cond.onTables, Cond.keeps, Cond.steady])) hini)
  obtain ⟨hx, hb, hml, ho, -⟩ := S
  obtain ⟨-, ⟨cellB, hcB, hoB, hclB⟩, hPc⟩ := hp
  obtain ⟨hfc, kB, hkB, -⟩ := hat
  cases hfc.symm.trans hclB
  intro T hT X
  rcases vx_callSU X hx (bytes := bytes) (maxL := maxL) (ret := ret) ho hl1 hl2 hl3 hl4 hcode hno hK (by rw [hT]; exact hcB) hoB hkB hg (hsize.trans hml.symm) (argsL := As) (rest := rest) (fun sig h => hn.trans (hlen sig h)) hstack hW (by rw [hb]; exact hdg)
    (fun vm₁ hW₁ => ⟨hf.1, hf.2, hPc (T.setVm vm₁) hT hW₁⟩) with ⟨v, vm₁, ⟨U', l2, c2, s2⟩, hW₁, X', ⟨g', mk, t, L, e1, e2, hq, h1, hL, h2, h3⟩, st⟩ | ⟨q, vm₁, ⟨U', l2, c2, s2⟩, hW₁, X', ⟨g', mk, t, L, E, ce, e1, e2, hq, hce, hcv, hcl, h1, hL, h2, h3⟩, st⟩
  · dsimp only [Pt.U, Pt.locs, Pt.cells, Pt.slots] at X' e1 e2 h1 h2 h3 st
    subst h1; subst h2; subst h3
    exact Or.inl ⟨v, (T.setVm vm₁).calling g' mk (Value.ref b :: As).toArray, t, U', L, hT, X', hL, e1, e2, hq, st⟩
  · dsimp only [Pt.U, Pt.locs, Pt.cells, Pt.slots] at X' e1 e2 h1 h2 h3 st hcl
    subst h1; subst h2; subst h3
    exact Or.inr ⟨q, (T.setVm vm₁).calling g' mk (Value.ref b :: As).toArray, t, U', L, E, ce, hT, X', hL, e1, e2, hq, hce, hcv, vx_cls hW₁ hcl, st⟩
end
/-! ===== END ===== -/
/-! ===== BEGIN a private method of a nest mate that may throw (follows va_callVN, va_callSN, va_runVN, va_runSN) ===== -/
section
variable {p : Program} {l : Launch} {e : Env} {R : Room} {s : State} {m : MethodId} {args : Array Value} {below : List Frame} {meth : Method} {c : Code} {H : Heap} {locs : List Loc} {cells slots : Nat}
variable {T : State}
theorem vx_callVN (X : Stand p l e R s m args below meth c T locs cells slots) (hexec : p.tables.exec = Jvm.exec) {own C : String} {index : Nat} {host : String} {y : MethodName} {bytes : ByteArray} {maxL : Nat} {ret : Option FieldType}
    (hown : s.vm.findClass own = some m.cls) (hlink : (Cond.methodLinkNest own index y host).before args s = true) (hinst : (Cond.instanceMethod y).before args s = true) (hsel : (Cond.selects C y y).before args s = true)
    (hcode : (Cond.code y bytes maxL ret).before args s = true) (hy : y.cls ≠ "java/lang/invoke/MethodHandle" ∧ y.cls ≠ "java/lang/invoke/VarHandle")
    {W : Nat} {Pre : Pt → Array Value → Prop} {Post : Pt → Array Value → Option Value → Pt → Prop} {PostX : Pt → Array Value → Addr → Pt → Prop} (hK : vx_Back l R p e below s args y 3 W Pre Post PostX)
    {b : Addr} {cellB : Cell} (hcell : T.heap[b]? = some cellB) (hobj : cellB.vm.isStatics = false) (hcls : s.vm.findClass C = some cellB.cls)
    {g : JFrame} (hg : g.method = m) (hsize : g.locals.size = c.maxLocals) {argsL rest : List Value} (hlen : ∀ sig, parseMethodDescriptor y.desc = some sig → argsL.length = sig.parameters.length)
    (hstack : g.stack = argsL.reverse ++ .ref b :: rest) (hW : 2 * g.monitorRoom + (rest.map fun v => v.category).sum ≤ W) (hdg : decode c.code g.pc = .ok (.invokevirtual index, 3))
    (hpre : ∀ vm₁, s.WarmedH vm₁ → Pre ⟨T.setVm vm₁, locs, cells, slots⟩ (Value.ref b :: argsL).toArray) :
    (∃ (v : Option Value) (vm₁ : Vm) (B : Pt), s.WarmedH vm₁ ∧ Stand p l e R s m args below meth c B.U B.locs B.cells B.slots ∧ Post ⟨T.setVm vm₁, locs, cells, slots⟩ (Value.ref b :: argsL).toArray v B ∧
      ∀ target, Steps p.tables e below (B.U.setTop { g with pc := g.pc + 3, stack := v.toList ++ rest }) target → Steps p.tables e below (T.setTop g) target) ∨
    (∃ (q : Addr) (vm₁ : Vm) (B : Pt), s.WarmedH vm₁ ∧ Stand p l e R s m args below meth c B.U B.locs B.cells B.slots ∧ PostX ⟨T.setVm vm₁, locs, cells, slots⟩ (Value.ref b :: argsL).toArray q B ∧
      Steps p.tables e below (T.setTop g) ((B.U.setTop { g with stack := rest }).pushFrame (.throwing q))) := by
  obtain ⟨mk, methM, hnamed, hmethM, hstM, habM⟩ := Cond.instanceMethod_spec hinst
  obtain ⟨methM', cM, hmethM', -, -, -, -, -, -, hsigM⟩ := Cond.code_spec hnamed hcode
  cases hmethM.symm.trans hmethM'
  obtain ⟨c2, r2, m2, q1, q2, q3, q4, kP, hkP, hkPi⟩ := Cond.selects_spec hsel
  cases hcls.symm.trans q1
  cases (State.methodFound?_of_named hnamed hy).symm.trans q2
  cases hnamed.symm.trans q3
  have hselP : selectMethod e.platform s.vm cellB.cls mk = .method mk := by rw [Launch.admits_selectMethod X.admits]; exact q4
  obtain ⟨vm₁, X₁, hstep₁⟩ := X.invokevirtualNest hexec hown hlink hnamed hmethM hstM hkP hkPi hy (a := b) (cell := cellB) hcell
    (fun z h => by rw [h] at hobj; cases hobj) hselP hmethM habM hkP hkPi (g := g) hg (argsL := argsL) (rest := rest) (hlen _ hsigM) hstack hdg
  rcases hK m meth c ⟨T.setVm vm₁, locs, cells, slots⟩ { g with stack := rest } (.invokevirtual index) mk (Value.ref b :: argsL).toArray X₁ hg hsize hdg hW (X₁.named hnamed) (hpre vm₁ X₁.warmed) with ⟨v, B, X', hpost, hsteps⟩ | ⟨q, B, X', hpost, hsteps⟩
  · exact Or.inl ⟨v, vm₁, B, X₁.warmed, X', hpost, fun target h => hstep₁ _ fun acts => by rw [doInvoke_state]; exact hsteps.trans h⟩
  · exact Or.inr ⟨q, vm₁, B, X₁.warmed, X', hpost, hstep₁ _ fun acts => by rw [doInvoke_state]; exact hsteps⟩
theorem vx_callSN (X : Stand p l e R s m args below meth c T locs cells slots) (hexec : p.tables.exec = Jvm.exec) {own : String} {index : Nat} {host : String} {y : MethodName} {bytes : ByteArray} {maxL : Nat} {ret : Option FieldType}
    (hown : s.vm.findClass own = some m.cls) (hlink : (Cond.methodLinkNest own index y host).before args s = true) (hstat : (Cond.static y).before args s = true) (hinit : (Cond.initialized y.cls).before args s = true)
    (hcode : (Cond.code y bytes maxL ret).before args s = true) (hy : y.cls ≠ "java/lang/invoke/MethodHandle" ∧ y.cls ≠ "java/lang/invoke/VarHandle")
    {W : Nat} {Pre : Pt → Array Value → Prop} {Post : Pt → Array Value → Option Value → Pt → Prop} {PostX : Pt → Array Value → Addr → Pt → Prop} (hK : vx_Back l R p e below s args y 3 W Pre Post PostX)
    {g : JFrame} (hg : g.method = m) (hsize : g.locals.size = c.maxLocals) {argsL rest : List Value} (hlen : ∀ sig, parseMethodDescriptor y.desc = some sig → argsL.length = sig.parameters.length)
    (hstack : g.stack = argsL.reverse ++ rest) (hW : 2 * g.monitorRoom + (rest.map fun v => v.category).sum ≤ W) (hdg : decode c.code g.pc = .ok (.invokestatic index, 3))
    (hpre : ∀ vm₁, s.WarmedH vm₁ → Pre ⟨T.setVm vm₁, locs, cells, slots⟩ argsL.toArray) :
    (∃ (v : Option Value) (vm₁ : Vm) (B : Pt), s.WarmedH vm₁ ∧ Stand p l e R s m args below meth c B.U B.locs B.cells B.slots ∧ Post ⟨T.setVm vm₁, locs, cells, slots⟩ argsL.toArray v B ∧
      ∀ target, Steps p.tables e below (B.U.setTop { g with pc := g.pc + 3, stack := v.toList ++ rest }) target → Steps p.tables e below (T.setTop g) target) ∨
    (∃ (q : Addr) (vm₁ : Vm) (B : Pt), s.WarmedH vm₁ ∧ Stand p l e R s m args below meth c B.U B.locs B.cells B.slots ∧ PostX ⟨T.setVm vm₁, locs, cells, slots⟩ argsL.toArray q B ∧
      Steps p.tables e below (T.setTop g) ((B.U.setTop { g with stack := rest }).pushFrame (.throwing q))) := by
  obtain ⟨mk, hnamed⟩ := Cond.code_named hcode
  obtain ⟨methM, cM, hmethM, -, -, -, -, -, -, hsigM⟩ := Cond.code_spec hnamed hcode
  have hstatic : methM.isStatic = true := Cond.static_spec hnamed hmethM hstat
  obtain ⟨kP, hkP, -⟩ := className_of_methodNamed hnamed
  have hinitP : kP.init = .initialized := Cond.initialized_spec (findClass_of_methodNamed hnamed) hkP hinit
  obtain ⟨vm₁, X₁, hstep₁⟩ := X.invokestaticNest hexec hown hlink hnamed hmethM hstatic hkP hinitP hy (g := g) hg (argsL := argsL) (rest := rest) (hlen _ hsigM) hstack hdg
  rcases hK m meth c ⟨T.setVm vm₁, locs, cells, slots⟩ { g with stack := rest } (.invokestatic index) mk argsL.toArray X₁ hg hsize hdg hW (X₁.named hnamed) (hpre vm₁ X₁.warmed) with ⟨v, B, X', hpost, hsteps⟩ | ⟨q, B, X', hpost, hsteps⟩
  · exact Or.inl ⟨v, vm₁, B, X₁.warmed, X', hpost, fun target h => hstep₁ _ fun acts => by rw [doInvoke_state]; exact hsteps.trans h⟩
  · exact Or.inr ⟨q, vm₁, B, X₁.warmed, X', hpost, hstep₁ _ fun acts => by rw [doInvoke_state]; exact hsteps⟩
theorem vx_runVN {y : MethodName} {bytes cc : ByteArray} {maxL nL mc ms n index : Nat} {ret : Option FieldType} {ws : List Cond} {rm : Room} {Pc : Array Value → State → Prop} {Qc : Array Value → State → Outcome → State → Prop} {XC : String → State → State → Prop} {free : Addr → Prop} {Ts : List Cond} {own C host : String} {b : Addr} {As rest : List Value} {g : JFrame}
    (S : CallFix p m c cc nL s args Ts own) (hM : vx_Met l y ws rm Pc Qc XC mc ms free) (cw : va_CN R s args own index y host bytes maxL ret ws rm mc ms n ∧ (Cond.instanceMethod y).before args s = true ∧ (Cond.selects C y y).before args s = true) (hp : PreV s H C b Pc As)
    (hg : g.method = m) (hn : As.length = n) (hsize : g.locals.size = nL) (hstack : g.stack = As.reverse ++ .ref b :: rest) (hW : 2 * g.monitorRoom + (rest.map fun v => v.category).sum ≤ 8) (hdg : decode cc g.pc = .ok (.invokevirtual index, 3)) (hf : cells + mc ≤ R.cells ∧ slots + ms ≤ R.slots) :
    vx_Run p l e R s m args below meth c H locs cells slots mc ms g rest (Qc (Value.ref b :: As).toArray) XC free := by
  obtain ⟨⟨⟨hrc, hrs, hfr, hlo, hws, hcw⟩, hcode, hini, hy, hlen, hl⟩, hx1, hx2⟩ := cw
  have hK : vx_Back l R p e below s args y 3 8 (PreOf R mc ms Pc) (PostOf Qc mc ms free) (vx_Post XC mc ms free) := vx_back (bytes := bytes) (maxL := maxL) (ret := ret) hM hp.1 hrc hrs hfr hlo hws hcw (fun a' U hW => word_at hW (Or.inl (by first | rfl | simp [Cond.onTables, Cond.keeps, Cond.steady])) hini)
  obtain ⟨hx, hb, hml, ho, -⟩ := S
  obtain ⟨-, ⟨cellB, hcB, hoB, hclB⟩, hPc⟩ := hp
  intro T hT X
  rcases vx_callVN X hx (C := C) (bytes := bytes) (maxL := maxL) (ret := ret) ho hl hx1 hx2 hcode hy hK (by rw [hT]; exact hcB) hoB hclB hg (hsize.trans hml.symm) (argsL := As) (rest := rest) (fun sig h => hn.trans (hlen sig h)) hstack hW (by rw [hb]; exact hdg)
    (fun vm₁ hW₁ => ⟨hf.1, hf.2, hPc (T.setVm vm₁) hT hW₁⟩) with ⟨v, vm₁, ⟨U', l2, c2, s2⟩, hW₁, X', ⟨g', mk, t, L, e1, e2, hq, h1, hL, h2, h3⟩, st⟩ | ⟨q, vm₁, ⟨U', l2, c2, s2⟩, hW₁, X', ⟨g', mk, t, L, E, ce, e1, e2, hq, hce, hcv, hcl, h1, hL, h2, h3⟩, st⟩
  · dsimp only [Pt.U, Pt.locs, Pt.cells, Pt.slots] at X' e1 e2 h1 h2 h3 st
    subst h1; subst h2; subst h3
    exact Or.inl ⟨v, (T.setVm vm₁).calling g' mk (Value.ref b :: As).toArray, t, U', L, hT, X', hL, e1, e2, hq, st⟩
  · dsimp only [Pt.U, Pt.locs, Pt.cells, Pt.slots] at X' e1 e2 h1 h2 h3 st hcl
    subst h1; subst h2; subst h3
    exact Or.inr ⟨q, (T.setVm vm₁).calling g' mk (Value.ref b :: As).toArray, t, U', L, E, ce, hT, X', hL, e1, e2, hq, hce, hcv, vx_cls hW₁ hcl, st⟩
theorem vx_runSN {y : MethodName} {bytes cc : ByteArray} {maxL nL mc ms n index : Nat} {ret : Option FieldType} {ws : List Cond} {rm : Room} {Pc : Array Value → State → Prop} {Qc : Array Value → State → Outcome → State → Prop} {XC : String → State → State → Prop} {free : Addr → Prop} {Ts : List Cond} {own host : String} {As rest : List Value} {g : JFrame}
    (S : CallFix p m c cc nL s args Ts own) (hM : vx_Met l y ws rm Pc Qc XC mc ms free) (cw : va_CN R s args own index y host bytes maxL ret ws rm mc ms n ∧ (Cond.static y).before args s = true ∧ True) (hp : PreS s H Pc As)
    (hg : g.method = m) (hn : As.length = n) (hsize : g.locals.size = nL) (hstack : g.stack = As.reverse ++ rest) (hW : 2 * g.monitorRoom + (rest.map fun v => v.category).sum ≤ 8) (hdg : decode cc g.pc = .ok (.invokestatic index, 3)) (hf : cells + mc ≤ R.cells ∧ slots + ms ≤ R.slots) :
    vx_Run p l e R s m args below meth c H locs cells slots mc ms g rest (Qc As.toArray) XC free := by
  obtain ⟨⟨⟨hrc, hrs, hfr, hlo, hws, hcw⟩, hcode, hini, hy, hlen, hl⟩, hx1, hx2⟩ := cw
  have hK : vx_Back l R p e below s args y 3 8 (PreOf R mc ms Pc) (PostOf Qc mc ms free) (vx_Post XC mc ms free) := vx_back (bytes := bytes) (maxL := maxL) (ret := ret) hM hp.1 hrc hrs hfr hlo hws hcw (fun a' U hW => word_at hW (Or.inl (by first | rfl | simp [Cond.onTables, Cond.keeps, Cond.steady])) hini)
  obtain ⟨hx, hb, hml, ho, -⟩ := S
  have hPc := hp.2
  intro T hT X
  rcases vx_callSN X hx (bytes := bytes) (maxL := maxL) (ret := ret) ho hl hx1 hini hcode hy hK hg (hsize.trans hml.symm) (argsL := As) (rest := rest) (fun sig h => hn.trans (hlen sig h)) hstack hW (by rw [hb]; exact hdg)
    (fun vm₁ hW₁ => ⟨hf.1, hf.2, hPc (T.setVm vm₁) hT hW₁⟩) with ⟨v, vm₁, ⟨U', l2, c2, s2⟩, hW₁, X', ⟨g', mk, t, L, e1, e2, hq, h1, hL, h2, h3⟩, st⟩ | ⟨q, vm₁, ⟨U', l2, c2, s2⟩, hW₁, X', ⟨g', mk, t, L, E, ce, e1, e2, hq, hce, hcv, hcl, h1, hL, h2, h3⟩, st⟩
  · dsimp only [Pt.U, Pt.locs, Pt.cells, Pt.slots] at X' e1 e2 h1 h2 h3 st
    subst h1; subst h2; subst h3
    exact Or.inl ⟨v, (T.setVm vm₁).calling g' mk As.toArray, t, U', L, hT, X', hL, e1, e2, hq, st⟩
  · dsimp only [Pt.U, Pt.locs, Pt.cells, Pt.slots] at X' e1 e2 h1 h2 h3 st hcl
    subst h1; subst h2; subst h3
    exact Or.inr ⟨q, (T.setVm vm₁).calling g' mk As.toArray, t, U', L, E, ce, hT, X', hL, e1, e2, hq, hce, hcv, vx_cls hW₁ hcl, st⟩
end
/-! ===== END ===== -/
/-! ===== BEGIN calls by an interface of methods that may throw (vx_callIF, vx_runF follow va_callIF, va_runF of this kit) ===== -/
section
variable {p : Program} {l : Launch} {e : Env} {R : Room} {s : State} {m : MethodId} {args : Array Value} {below : List Frame} {meth : Method} {c : Code} {H : Heap} {locs : List Loc} {cells slots : Nat} {Q : State → Prop}
variable {mc ms : Nat} {free : Addr → Prop} {A0 A1 : Nat → Prop} {H0 : Heap} {a : Array Value} {pc : Nat} {ls : Array Slot} {st0 rest : List Value}
def vx_Run5 (p : Program) (l : Launch) (e : Env) (R : Room) (s : State) (m : MethodId) (args : Array Value) (below : List Frame) (meth : Method) (c : Code) (H : Heap) (locs : List Loc) (cells slots mc ms : Nat) (g : JFrame) (rest : List Value) (Qa : State → Outcome → State → Prop) (XC : String → State → State → Prop) (free : Addr → Prop) : Prop :=
  ∀ T : State, T.heap = H → Stand p l e R s m args below meth c T locs cells slots →
    (∃ (v : Option Value) (st₀ t T' : State) (L : List Loc), st₀.heap = H ∧ Stand p l e R s m args below meth c T' (locs ++ L) (cells + mc) (slots + ms) ∧ (∀ q ∈ L, free q.base) ∧ T'.heap = t.heap ∧ T'.vm = t.vm ∧ Qa st₀ (.returned v) t ∧
      Goes p e below T g T' { g with pc := g.pc + 5, stack := v.toList ++ rest }) ∨
    (∃ (q : Addr) (st₀ t T' : State) (L : List Loc) (E : String) (ce : Cell), st₀.heap = H ∧ Stand p l e R s m args below meth c T' (locs ++ L) (cells + mc) (slots + ms) ∧ (∀ z ∈ L, free z.base) ∧ T'.heap = t.heap ∧ T'.vm = t.vm ∧ XC E st₀ t ∧ t.heap[q]? = some ce ∧ ce.vm = .none ∧ s.vm.findClass E = some ce.cls ∧
      Steps p.tables e below (T.setTop g) ((T'.setTop { g with stack := rest }).pushFrame (.throwing q)))
theorem vx_callIF {T : State} (X : Stand p l e R s m args below meth c T locs cells slots) (hexec : p.tables.exec = Jvm.exec) {own C : String} {index count : Nat} {x y : MethodName} {bytes : ByteArray} {maxL : Nat} {ret : Option FieldType}
    (hown : s.vm.findClass own = some m.cls) (hlink : (Cond.methodLink own index x).before args s = true) (hdecl : (Cond.declares x).before args s = true) (hface : (Cond.interfaceMethod x.cls x.cls x.name x.desc).before args s = true)
    (hsel : (Cond.selects C x y).before args s = true) (hinst : (Cond.instanceMethod y).before args s = true) (hpub : (Cond.publicMethod y).before args s = true) (hunh : (Cond.unhidden C x.name x.desc).before args s = true)
    (hcast : (Cond.castable C x.cls).before args s = true) (hcode : (Cond.code y bytes maxL ret).before args s = true) (hx : x.cls ≠ "java/lang/invoke/MethodHandle" ∧ x.cls ≠ "java/lang/invoke/VarHandle")
    {W9 : Nat} {Pre : Pt → Array Value → Prop} {Post : Pt → Array Value → Option Value → Pt → Prop} {PostX : Pt → Array Value → Addr → Pt → Prop} (hK : vx_Back l R p e below s args y 5 W9 Pre Post PostX)
    {b : Addr} {cellB : Cell} {kB : Class} (hcell : T.heap[b]? = some cellB) (hobj : cellB.vm.isStatics = false) (hcls : s.vm.findClass C = some cellB.cls) (hkB : s.vm.classes[cellB.cls]? = some kB)
    {g : JFrame} (hg : g.method = m) (hsize : g.locals.size = c.maxLocals) {argsL rest : List Value} (hlen : ∀ sig, parseMethodDescriptor x.desc = some sig → argsL.length = sig.parameters.length)
    (hstack : g.stack = argsL.reverse ++ .ref b :: rest) (hW : 2 * g.monitorRoom + (rest.map fun v => v.category).sum ≤ W9) (hdg : decode c.code g.pc = .ok (.invokeinterface index count, 5))
    (hpre : ∀ vm₁, s.WarmedH vm₁ → Pre ⟨T.setVm vm₁, locs, cells, slots⟩ (Value.ref b :: argsL).toArray) :
    (∃ (v : Option Value) (vm₁ : Vm) (B : Pt), s.WarmedH vm₁ ∧ Stand p l e R s m args below meth c B.U B.locs B.cells B.slots ∧ Post ⟨T.setVm vm₁, locs, cells, slots⟩ (Value.ref b :: argsL).toArray v B ∧
      ∀ target, Steps p.tables e below (B.U.setTop { g with pc := g.pc + 5, stack := v.toList ++ rest }) target → Steps p.tables e below (T.setTop g) target) ∨
    (∃ (q : Addr) (vm₁ : Vm) (B : Pt), s.WarmedH vm₁ ∧ Stand p l e R s m args below meth c B.U B.locs B.cells B.slots ∧ PostX ⟨T.setVm vm₁, locs, cells, slots⟩ (Value.ref b :: argsL).toArray q B ∧
      Steps p.tables e below (T.setTop g) ((B.U.setTop { g with stack := rest }).pushFrame (.throwing q))) := by
  obtain ⟨r0, r, hn, hrm, hstR, hsigR⟩ := Cond.declares_spec hdecl
  obtain ⟨cL, kL, r1, hcL, hkL, hiL, hfoundL, hn1⟩ := Cond.interfaceMethod_spec hface
  cases hn.symm.trans hn1
  have hr0cls : r0.cls = cL := Option.some.inj ((findClass_of_methodNamed hn).symm.trans hcL)
  obtain ⟨hnameR, hdescR⟩ := name_of_methodNamed hn hrm
  obtain ⟨mk, methM, hnamed, hmethM, -, habM⟩ := Cond.instanceMethod_spec hinst
  obtain ⟨c2, r2, m2, q1, q2, q3, q4, -⟩ := Cond.selects_spec hsel
  cases hcls.symm.trans q1
  cases hfoundL.symm.trans q2
  cases hnamed.symm.trans q3
  have hselP : selectMethod e.platform s.vm cellB.cls r0 = .method mk := by rw [Launch.admits_selectMethod X.admits]; exact q4
  have hpubM : hasFlag methM.accessFlags Acc.public_ = true := Cond.publicMethod_spec hnamed hmethM hpub
  have hway : ((cellB.cls :: s.vm.superclasses cellB.cls).any fun k => (declaredIn s.vm r.name r.desc k).any fun (_, z) => z.isPrivate || z.isStatic) = false := by
    rw [hnameR, hdescR]; exact Cond.unhidden_spec hcls hunh
  obtain ⟨c3, t3, w1, w2, w3⟩ := Cond.castable_spec hcast
  cases hcls.symm.trans w1
  cases hcL.symm.trans w2
  obtain ⟨vm₁, X₁, hstep₁⟩ := X.invokeinterface hexec hown hlink hn hrm hstR (by rw [hr0cls]; exact hkL) hiL hx (a := b) (cell := cellB) (kcell := kB) hcell
    (fun z h => by rw [h] at hobj; cases hobj) hkB (by rw [hr0cls]; exact w3) hselP hmethM hway hpubM habM (g := g) hg (argsL := argsL) (rest := rest) (hlen _ hsigR) hstack hdg
  rcases hK m meth c ⟨T.setVm vm₁, locs, cells, slots⟩ { g with stack := rest } (.invokeinterface index count) mk (Value.ref b :: argsL).toArray X₁ hg hsize hdg hW (X₁.named hnamed) (hpre vm₁ X₁.warmed) with ⟨v, B, X', hpost, hsteps⟩ | ⟨q, B, X', hpost, hsteps⟩
  · exact Or.inl ⟨v, vm₁, B, X₁.warmed, X', hpost, fun target h => hstep₁ _ fun acts => by rw [doInvoke_state]; exact hsteps.trans h⟩
  · exact Or.inr ⟨q, vm₁, B, X₁.warmed, X', hpost, hstep₁ _ fun acts => by rw [doInvoke_state]; exact hsteps⟩
theorem vx_runF {x y : MethodName} {bytes cc : ByteArray} {maxL nL mc ms n index count : Nat} {ret : Option FieldType} {ws : List Cond} {rm : Room} {Pc : Array Value → State → Prop} {Qc : Array Value → State → Outcome → State → Prop} {XC : String → State → State → Prop} {free : Addr → Prop} {Ts : List Cond} {own C : String} {cC : ClassId} {b : Addr} {As rest : List Value} {g : JFrame}
    (hat : ClassAt s C cC) (S : CallFix p m c cc nL s args Ts own) (hM : vx_Met l y ws rm Pc Qc XC mc ms free) (cw : va_CI R s args own C index x y bytes maxL ret ws rm mc ms n) (hp : PreV s H C b Pc As)
    (hg : g.method = m) (hn : As.length = n) (hsize : g.locals.size = nL) (hstack : g.stack = As.reverse ++ .ref b :: rest) (hW : 2 * g.monitorRoom + (rest.map fun v => v.category).sum ≤ 8) (hdg : decode cc g.pc = .ok (.invokeinterface index count, 5)) (hf : cells + mc ≤ R.cells ∧ slots + ms ≤ R.slots) :
    vx_Run5 p l e R s m args below meth c H locs cells slots mc ms g rest (Qc (Value.ref b :: As).toArray) XC free := by
  obtain ⟨hrc, hrs, hfr, hlo, hws, hcw⟩ := cw.back
  have hini := cw.init
  have hK : vx_Back l R p e below s args y 5 8 (PreOf R mc ms Pc) (PostOf Qc mc ms free) (vx_Post XC mc ms free) := vx_back (bytes := bytes) (maxL := maxL) (ret := ret) hM hp.1 hrc hrs hfr hlo hws hcw (fun a' U hW => word_at hW (Or.inl (by first | rfl | simp [Cond.onTables, Cond.keeps, Cond.steady])) hini)
  obtain ⟨hx, hb, hml, ho, -⟩ := S
  obtain ⟨-, ⟨cellB, hcB, hoB, hclB⟩, hPc⟩ := hp
  obtain ⟨hfc, kB, hkB, -⟩ := hat
  cases hfc.symm.trans hclB
  intro T hT X
  rcases vx_callIF X hx (C := C) (bytes := bytes) (maxL := maxL) (ret := ret) ho cw.link cw.decl cw.face cw.sel cw.inst cw.pub cw.unh cw.cast cw.code cw.notMH hK (by rw [hT]; exact hcB) hoB hclB hkB hg (hsize.trans hml.symm) (argsL := As) (rest := rest) (fun sig h => hn.trans (cw.len sig h)) hstack hW (by rw [hb]; exact hdg)
    (fun vm₁ hW₁ => ⟨hf.1, hf.2, hPc (T.setVm vm₁) hT hW₁⟩) with ⟨v, vm₁, ⟨U', l2, c2, s2⟩, hW₁, X', ⟨g', mk, t, L, e1, e2, hq, h1, hL, h2, h3⟩, st⟩ | ⟨q, vm₁, ⟨U', l2, c2, s2⟩, hW₁, X', ⟨g', mk, t, L, E, ce, e1, e2, hq, hce, hcv, hcl, h1, hL, h2, h3⟩, st⟩
  · dsimp only [Pt.U, Pt.locs, Pt.cells, Pt.slots] at X' e1 e2 h1 h2 h3 st
    subst h1; subst h2; subst h3
    exact Or.inl ⟨v, (T.setVm vm₁).calling g' mk (Value.ref b :: As).toArray, t, U', L, hT, X', hL, e1, e2, hq, st⟩
  · dsimp only [Pt.U, Pt.locs, Pt.cells, Pt.slots] at X' e1 e2 h1 h2 h3 st hcl
    subst h1; subst h2; subst h3
    exact Or.inr ⟨q, (T.setVm vm₁).calling g' mk (Value.ref b :: As).toArray, t, U', L, E, ce, hT, X', hL, e1, e2, hq, hce, hcv, vx_cls hW₁ hcl, st⟩
theorem vx_callFv {S SX : Type} {post : S → Prop} {px : SX → Prop} {B : S → State → Prop} {BX : String → SX → State → Prop} {AX : Nat → Prop} (hr : vx_Run5 p l e R s m args below meth c H locs cells slots mc ms (F0 m pc ls st0) rest (va_Qv post B A1 a) (vx_X px BX AX) free) (hS : va_S A0 H0 H locs) (hA : ∀ q, q < H.size → A1 q → A0 q) (hf : ∀ q, free q → A0 q) (hAX : ∀ q, q < H.size → AX q → A0 q)
    (kx : ∀ (E : String) (ce : Cell) (q9 : Addr) (u : SX) (t : State) (H1 : Heap) (locs1 : List Loc), t.heap = H1 → s.vm.Alike t.vm → px u → BX E u t → H.size ≤ H1.size → (∀ q : Nat, q < H.size → ¬ AX q → H1[q]? = H[q]?) → va_S A0 H0 H1 locs1 → H1[q9]? = some ce → ce.vm = .none → s.vm.findClass E = some ce.cls → vx_W p l e R s m args below meth c H1 locs1 (cells + mc) (slots + ms) Q (F0 m pc ls rest) q9)
    (kk : ∀ (u : S) (t : State) (H1 : Heap) (locs1 : List Loc), t.heap = H1 → s.vm.Alike t.vm → post u → B u t → H.size ≤ H1.size → (∀ q : Nat, q < H.size → ¬ A1 q → H1[q]? = H[q]?) → va_S A0 H0 H1 locs1 → W p l e R s m args below meth c H1 locs1 (cells + mc) (slots + ms) Q (F0 m (pc + 5) ls (rest))) : W p l e R s m args below meth c H locs cells slots Q (F0 m pc ls st0) := by
  intro T hT X
  rcases hr T hT X with ⟨v, st₀, t, T', L, h0, X', hL, e1, e2, ⟨⟨u, hv, hp, hb⟩, hF⟩, st⟩ | ⟨q, st₀, t, T', L, E, ce, h0, X', hL, e1, e2, ⟨u, hp, hb, hF⟩, hce, hcv, hcl, st⟩
  · cases hv
    obtain ⟨k1, k2, k3⟩ := vx_keep h0 e1 hS hA hf hL hF
    obtain ⟨t2, a1, b1⟩ := kk u t T'.heap (locs ++ L) e1.symm (by rw [← e2]; exact X'.warmed.alike) hp hb k1 k2 k3 T' rfl X'
    exact ⟨t2, st t2 a1, b1⟩
  · obtain ⟨k1, k2, k3⟩ := vx_keep h0 e1 hS hAX hf hL hF
    obtain ⟨t2, a1, b1⟩ := kx E ce q u t T'.heap (locs ++ L) e1.symm (by rw [← e2]; exact X'.warmed.alike) hp hb k1 k2 k3 (by rw [e1]; exact hce) hcv hcl T' rfl X'
    exact ⟨t2, st.trans a1, b1⟩
theorem vx_callFi {S SX : Type} {post : Int32 → S → Prop} {px : SX → Prop} {B : S → State → Prop} {BX : String → SX → State → Prop} {AX : Nat → Prop} (hr : vx_Run5 p l e R s m args below meth c H locs cells slots mc ms (F0 m pc ls st0) rest (va_Qi post B A1 a) (vx_X px BX AX) free) (hS : va_S A0 H0 H locs) (hA : ∀ q, q < H.size → A1 q → A0 q) (hf : ∀ q, free q → A0 q) (hAX : ∀ q, q < H.size → AX q → A0 q)
    (kx : ∀ (E : String) (ce : Cell) (q9 : Addr) (u : SX) (t : State) (H1 : Heap) (locs1 : List Loc), t.heap = H1 → s.vm.Alike t.vm → px u → BX E u t → H.size ≤ H1.size → (∀ q : Nat, q < H.size → ¬ AX q → H1[q]? = H[q]?) → va_S A0 H0 H1 locs1 → H1[q9]? = some ce → ce.vm = .none → s.vm.findClass E = some ce.cls → vx_W p l e R s m args below meth c H1 locs1 (cells + mc) (slots + ms) Q (F0 m pc ls rest) q9)
    (kk : ∀ (r : Int32) (u : S) (t : State) (H1 : Heap) (locs1 : List Loc), t.heap = H1 → s.vm.Alike t.vm → post r u → B u t → H.size ≤ H1.size → (∀ q : Nat, q < H.size → ¬ A1 q → H1[q]? = H[q]?) → va_S A0 H0 H1 locs1 → W p l e R s m args below meth c H1 locs1 (cells + mc) (slots + ms) Q (F0 m (pc + 5) ls (.int r :: rest))) : W p l e R s m args below meth c H locs cells slots Q (F0 m pc ls st0) := by
  intro T hT X
  rcases hr T hT X with ⟨v, st₀, t, T', L, h0, X', hL, e1, e2, ⟨⟨r, u, hv, hp, hb⟩, hF⟩, st⟩ | ⟨q, st₀, t, T', L, E, ce, h0, X', hL, e1, e2, ⟨u, hp, hb, hF⟩, hce, hcv, hcl, st⟩
  · cases hv
    obtain ⟨k1, k2, k3⟩ := vx_keep h0 e1 hS hA hf hL hF
    obtain ⟨t2, a1, b1⟩ := kk r u t T'.heap (locs ++ L) e1.symm (by rw [← e2]; exact X'.warmed.alike) hp hb k1 k2 k3 T' rfl X'
    exact ⟨t2, st t2 a1, b1⟩
  · obtain ⟨k1, k2, k3⟩ := vx_keep h0 e1 hS hAX hf hL hF
    obtain ⟨t2, a1, b1⟩ := kx E ce q u t T'.heap (locs ++ L) e1.symm (by rw [← e2]; exact X'.warmed.alike) hp hb k1 k2 k3 (by rw [e1]; exact hce) hcv hcl T' rfl X'
    exact ⟨t2, st.trans a1, b1⟩
theorem vx_callFl {S SX : Type} {post : Int64 → S → Prop} {px : SX → Prop} {B : S → State → Prop} {BX : String → SX → State → Prop} {AX : Nat → Prop} (hr : vx_Run5 p l e R s m args below meth c H locs cells slots mc ms (F0 m pc ls st0) rest (va_Ql post B A1 a) (vx_X px BX AX) free) (hS : va_S A0 H0 H locs) (hA : ∀ q, q < H.size → A1 q → A0 q) (hf : ∀ q, free q → A0 q) (hAX : ∀ q, q < H.size → AX q → A0 q)
    (kx : ∀ (E : String) (ce : Cell) (q9 : Addr) (u : SX) (t : State) (H1 : Heap) (locs1 : List Loc), t.heap = H1 → s.vm.Alike t.vm → px u → BX E u t → H.size ≤ H1.size → (∀ q : Nat, q < H.size → ¬ AX q → H1[q]? = H[q]?) → va_S A0 H0 H1 locs1 → H1[q9]? = some ce → ce.vm = .none → s.vm.findClass E = some ce.cls → vx_W p l e R s m args below meth c H1 locs1 (cells + mc) (slots + ms) Q (F0 m pc ls rest) q9)
    (kk : ∀ (r : Int64) (u : S) (t : State) (H1 : Heap) (locs1 : List Loc), t.heap = H1 → s.vm.Alike t.vm → post r u → B u t → H.size ≤ H1.size → (∀ q : Nat, q < H.size → ¬ A1 q → H1[q]? = H[q]?) → va_S A0 H0 H1 locs1 → W p l e R s m args below meth c H1 locs1 (cells + mc) (slots + ms) Q (F0 m (pc + 5) ls (.long r :: rest))) : W p l e R s m args below meth c H locs cells slots Q (F0 m pc ls st0) := by
  intro T hT X
  rcases hr T hT X with ⟨v, st₀, t, T', L, h0, X', hL, e1, e2, ⟨⟨r, u, hv, hp, hb⟩, hF⟩, st⟩ | ⟨q, st₀, t, T', L, E, ce, h0, X', hL, e1, e2, ⟨u, hp, hb, hF⟩, hce, hcv, hcl, st⟩
  · cases hv
    obtain ⟨k1, k2, k3⟩ := vx_keep h0 e1 hS hA hf hL hF
    obtain ⟨t2, a1, b1⟩ := kk r u t T'.heap (locs ++ L) e1.symm (by rw [← e2]; exact X'.warmed.alike) hp hb k1 k2 k3 T' rfl X'
    exact ⟨t2, st t2 a1, b1⟩
  · obtain ⟨k1, k2, k3⟩ := vx_keep h0 e1 hS hAX hf hL hF
    obtain ⟨t2, a1, b1⟩ := kx E ce q u t T'.heap (locs ++ L) e1.symm (by rw [← e2]; exact X'.warmed.alike) hp hb k1 k2 k3 (by rw [e1]; exact hce) hcv hcl T' rfl X'
    exact ⟨t2, st.trans a1, b1⟩
theorem vx_callFf {S SX : Type} {post : UInt32 → S → Prop} {px : SX → Prop} {B : S → State → Prop} {BX : String → SX → State → Prop} {AX : Nat → Prop} (hr : vx_Run5 p l e R s m args below meth c H locs cells slots mc ms (F0 m pc ls st0) rest (va_Qf post B A1 a) (vx_X px BX AX) free) (hS : va_S A0 H0 H locs) (hA : ∀ q, q < H.size → A1 q → A0 q) (hf : ∀ q, free q → A0 q) (hAX : ∀ q, q < H.size → AX q → A0 q)
    (kx : ∀ (E : String) (ce : Cell) (q9 : Addr) (u : SX) (t : State) (H1 : Heap) (locs1 : List Loc), t.heap = H1 → s.vm.Alike t.vm → px u → BX E u t → H.size ≤ H1.size → (∀ q : Nat, q < H.size → ¬ AX q → H1[q]? = H[q]?) → va_S A0 H0 H1 locs1 → H1[q9]? = some ce → ce.vm = .none → s.vm.findClass E = some ce.cls → vx_W p l e R s m args below meth c H1 locs1 (cells + mc) (slots + ms) Q (F0 m pc ls rest) q9)
    (kk : ∀ (r : UInt32) (u : S) (t : State) (H1 : Heap) (locs1 : List Loc), t.heap = H1 → s.vm.Alike t.vm → post r u → B u t → H.size ≤ H1.size → (∀ q : Nat, q < H.size → ¬ A1 q → H1[q]? = H[q]?) → va_S A0 H0 H1 locs1 → W p l e R s m args below meth c H1 locs1 (cells + mc) (slots + ms) Q (F0 m (pc + 5) ls (.float r :: rest))) : W p l e R s m args below meth c H locs cells slots Q (F0 m pc ls st0) := by
  intro T hT X
  rcases hr T hT X with ⟨v, st₀, t, T', L, h0, X', hL, e1, e2, ⟨⟨r, u, hv, hp, hb⟩, hF⟩, st⟩ | ⟨q, st₀, t, T', L, E, ce, h0, X', hL, e1, e2, ⟨u, hp, hb, hF⟩, hce, hcv, hcl, st⟩
  · cases hv
    obtain ⟨k1, k2, k3⟩ := vx_keep h0 e1 hS hA hf hL hF
    obtain ⟨t2, a1, b1⟩ := kk r u t T'.heap (locs ++ L) e1.symm (by rw [← e2]; exact X'.warmed.alike) hp hb k1 k2 k3 T' rfl X'
    exact ⟨t2, st t2 a1, b1⟩
  · obtain ⟨k1, k2, k3⟩ := vx_keep h0 e1 hS hAX hf hL hF
    obtain ⟨t2, a1, b1⟩ := kx E ce q u t T'.heap (locs ++ L) e1.symm (by rw [← e2]; exact X'.warmed.alike) hp hb k1 k2 k3 (by rw [e1]; exact hce) hcv hcl T' rfl X'
    exact ⟨t2, st.trans a1, b1⟩
theorem vx_callFd {S SX : Type} {post : UInt64 → S → Prop} {px : SX → Prop} {B : S → State → Prop} {BX : String → SX → State → Prop} {AX : Nat → Prop} (hr : vx_Run5 p l e R s m args below meth c H locs cells slots mc ms (F0 m pc ls st0) rest (va_Qd post B A1 a) (vx_X px BX AX) free) (hS : va_S A0 H0 H locs) (hA : ∀ q, q < H.size → A1 q → A0 q) (hf : ∀ q, free q → A0 q) (hAX : ∀ q, q < H.size → AX q → A0 q)
    (kx : ∀ (E : String) (ce : Cell) (q9 : Addr) (u : SX) (t : State) (H1 : Heap) (locs1 : List Loc), t.heap = H1 → s.vm.Alike t.vm → px u → BX E u t → H.size ≤ H1.size → (∀ q : Nat, q < H.size → ¬ AX q → H1[q]? = H[q]?) → va_S A0 H0 H1 locs1 → H1[q9]? = some ce → ce.vm = .none → s.vm.findClass E = some ce.cls → vx_W p l e R s m args below meth c H1 locs1 (cells + mc) (slots + ms) Q (F0 m pc ls rest) q9)
    (kk : ∀ (r : UInt64) (u : S) (t : State) (H1 : Heap) (locs1 : List Loc), t.heap = H1 → s.vm.Alike t.vm → post r u → B u t → H.size ≤ H1.size → (∀ q : Nat, q < H.size → ¬ A1 q → H1[q]? = H[q]?) → va_S A0 H0 H1 locs1 → W p l e R s m args below meth c H1 locs1 (cells + mc) (slots + ms) Q (F0 m (pc + 5) ls (.double r :: rest))) : W p l e R s m args below meth c H locs cells slots Q (F0 m pc ls st0) := by
  intro T hT X
  rcases hr T hT X with ⟨v, st₀, t, T', L, h0, X', hL, e1, e2, ⟨⟨r, u, hv, hp, hb⟩, hF⟩, st⟩ | ⟨q, st₀, t, T', L, E, ce, h0, X', hL, e1, e2, ⟨u, hp, hb, hF⟩, hce, hcv, hcl, st⟩
  · cases hv
    obtain ⟨k1, k2, k3⟩ := vx_keep h0 e1 hS hA hf hL hF
    obtain ⟨t2, a1, b1⟩ := kk r u t T'.heap (locs ++ L) e1.symm (by rw [← e2]; exact X'.warmed.alike) hp hb k1 k2 k3 T' rfl X'
    exact ⟨t2, st t2 a1, b1⟩
  · obtain ⟨k1, k2, k3⟩ := vx_keep h0 e1 hS hAX hf hL hF
    obtain ⟨t2, a1, b1⟩ := kx E ce q u t T'.heap (locs ++ L) e1.symm (by rw [← e2]; exact X'.warmed.alike) hp hb k1 k2 k3 (by rw [e1]; exact hce) hcv hcl T' rfl X'
    exact ⟨t2, st.trans a1, b1⟩
end
/-! ===== END ===== -/
/-! ===== BEGIN by an interface, a method with a table of its own that may throw (follows va_callIFW, va_runFW) ===== -/
section
variable {p : Program} {l : Launch} {e : Env} {R : Room} {s : State} {m : MethodId} {args : Array Value} {below : List Frame} {meth : Method} {c : Code} {H : Heap} {locs : List Loc} {cells slots : Nat}
theorem vx_callIFW {T : State} (X : Stand p l e R s m args below meth c T locs cells slots) (hexec : p.tables.exec = Jvm.exec) {own C : String} {index count : Nat} {x y : MethodName} {bytes : ByteArray} {maxL : Nat} {ret : Option FieldType} {hh : List (Nat × Nat × Nat × Nat)}
    (hown : s.vm.findClass own = some m.cls) (hlink : (Cond.methodLink own index x).before args s = true) (hdecl : (Cond.declares x).before args s = true) (hface : (Cond.interfaceMethod x.cls x.cls x.name x.desc).before args s = true)
    (hsel : (Cond.selects C x y).before args s = true) (hinst : (Cond.instanceMethod y).before args s = true) (hpub : (Cond.publicMethod y).before args s = true) (hunh : (Cond.unhidden C x.name x.desc).before args s = true)
    (hcast : (Cond.castable C x.cls).before args s = true) (hcode : (Cond.codeWith y bytes maxL ret hh).before args s = true) (hx : x.cls ≠ "java/lang/invoke/MethodHandle" ∧ x.cls ≠ "java/lang/invoke/VarHandle")
    {W : Nat} {Pre : Pt → Array Value → Prop} {Post : Pt → Array Value → Option Value → Pt → Prop} {PostX : Pt → Array Value → Addr → Pt → Prop} (hK : vx_Back l R p e below s args y 5 W Pre Post PostX)
    {b : Addr} {cellB : Cell} {kB : Class} (hcell : T.heap[b]? = some cellB) (hobj : cellB.vm.isStatics = false) (hcls : s.vm.findClass C = some cellB.cls) (hkB : s.vm.classes[cellB.cls]? = some kB)
    {g : JFrame} (hg : g.method = m) (hsize : g.locals.size = c.maxLocals) {argsL rest : List Value} (hlen : ∀ sig, parseMethodDescriptor x.desc = some sig → argsL.length = sig.parameters.length)
    (hstack : g.stack = argsL.reverse ++ .ref b :: rest) (hW : 2 * g.monitorRoom + (rest.map fun v => v.category).sum ≤ W) (hdg : decode c.code g.pc = .ok (.invokeinterface index count, 5))
    (hpre : ∀ vm₁, s.WarmedH vm₁ → Pre ⟨T.setVm vm₁, locs, cells, slots⟩ (Value.ref b :: argsL).toArray) :
    (∃ (v : Option Value) (vm₁ : Vm) (B : Pt), s.WarmedH vm₁ ∧ Stand p l e R s m args below meth c B.U B.locs B.cells B.slots ∧ Post ⟨T.setVm vm₁, locs, cells, slots⟩ (Value.ref b :: argsL).toArray v B ∧
      ∀ target, Steps p.tables e below (B.U.setTop { g with pc := g.pc + 5, stack := v.toList ++ rest }) target → Steps p.tables e below (T.setTop g) target) ∨
    (∃ (q : Addr) (vm₁ : Vm) (B : Pt), s.WarmedH vm₁ ∧ Stand p l e R s m args below meth c B.U B.locs B.cells B.slots ∧ PostX ⟨T.setVm vm₁, locs, cells, slots⟩ (Value.ref b :: argsL).toArray q B ∧
      Steps p.tables e below (T.setTop g) ((B.U.setTop { g with stack := rest }).pushFrame (.throwing q))) := by
  obtain ⟨r0, r, hn, hrm, hstR, hsigR⟩ := Cond.declares_spec hdecl
  obtain ⟨cL, kL, r1, hcL, hkL, hiL, hfoundL, hn1⟩ := Cond.interfaceMethod_spec hface
  cases hn.symm.trans hn1
  have hr0cls : r0.cls = cL := Option.some.inj ((findClass_of_methodNamed hn).symm.trans hcL)
  obtain ⟨hnameR, hdescR⟩ := name_of_methodNamed hn hrm
  obtain ⟨mk, methM, hnamed, hmethM, -, habM⟩ := Cond.instanceMethod_spec hinst
  obtain ⟨c2, r2, m2, q1, q2, q3, q4, -⟩ := Cond.selects_spec hsel
  cases hcls.symm.trans q1
  cases hfoundL.symm.trans q2
  cases hnamed.symm.trans q3
  have hselP : selectMethod e.platform s.vm cellB.cls r0 = .method mk := by rw [Launch.admits_selectMethod X.admits]; exact q4
  have hpubM : hasFlag methM.accessFlags Acc.public_ = true := Cond.publicMethod_spec hnamed hmethM hpub
  have hway : ((cellB.cls :: s.vm.superclasses cellB.cls).any fun k => (declaredIn s.vm r.name r.desc k).any fun (_, z) => z.isPrivate || z.isStatic) = false := by
    rw [hnameR, hdescR]; exact Cond.unhidden_spec hcls hunh
  obtain ⟨c3, t3, w1, w2, w3⟩ := Cond.castable_spec hcast
  cases hcls.symm.trans w1
  cases hcL.symm.trans w2
  obtain ⟨vm₁, X₁, hstep₁⟩ := X.invokeinterface hexec hown hlink hn hrm hstR (by rw [hr0cls]; exact hkL) hiL hx (a := b) (cell := cellB) (kcell := kB) hcell
    (fun z h => by rw [h] at hobj; cases hobj) hkB (by rw [hr0cls]; exact w3) hselP hmethM hway hpubM habM (g := g) hg (argsL := argsL) (rest := rest) (hlen _ hsigR) hstack hdg
  rcases hK m meth c ⟨T.setVm vm₁, locs, cells, slots⟩ { g with stack := rest } (.invokeinterface index count) mk (Value.ref b :: argsL).toArray X₁ hg hsize hdg hW (X₁.named hnamed) (hpre vm₁ X₁.warmed) with ⟨v, B, X', hpost, hsteps⟩ | ⟨q, B, X', hpost, hsteps⟩
  · exact Or.inl ⟨v, vm₁, B, X₁.warmed, X', hpost, fun target h => hstep₁ _ fun acts => by rw [doInvoke_state]; exact hsteps.trans h⟩
  · exact Or.inr ⟨q, vm₁, B, X₁.warmed, X', hpost, hstep₁ _ fun acts => by rw [doInvoke_state]; exact hsteps⟩
theorem vx_runFW {x y : MethodName} {bytes cc : ByteArray} {maxL nL mc ms n index count : Nat} {ret : Option FieldType} {hh : List (Nat × Nat × Nat × Nat)} {ws : List Cond} {rm : Room} {Pc : Array Value → State → Prop} {Qc : Array Value → State → Outcome → State → Prop} {XC : String → State → State → Prop} {free : Addr → Prop} {Ts : List Cond} {own C : String} {cC : ClassId} {b : Addr} {As rest : List Value} {g : JFrame}
    (hat : ClassAt s C cC) (S : CallFix p m c cc nL s args Ts own) (hM : vx_Met l y ws rm Pc Qc XC mc ms free) (cw : va_CIW R s args own C index x y bytes maxL ret hh ws rm mc ms n) (hp : PreV s H C b Pc As)
    (hg : g.method = m) (hn : As.length = n) (hsize : g.locals.size = nL) (hstack : g.stack = As.reverse ++ .ref b :: rest) (hW : 2 * g.monitorRoom + (rest.map fun v => v.category).sum ≤ 8) (hdg : decode cc g.pc = .ok (.invokeinterface index count, 5)) (hf : cells + mc ≤ R.cells ∧ slots + ms ≤ R.slots) :
    vx_Run5 p l e R s m args below meth c H locs cells slots mc ms g rest (Qc (Value.ref b :: As).toArray) XC free := by
  obtain ⟨hrc, hrs, hfr, hlo, hws, hcw⟩ := cw.back
  have hini := cw.init
  have hK : vx_Back l R p e below s args y 5 8 (PreOf R mc ms Pc) (PostOf Qc mc ms free) (vx_Post XC mc ms free) := vx_backW (hh := hh) (bytes := bytes) (maxL := maxL) (ret := ret) hM hp.1 hrc hrs hfr hlo hws hcw (fun a' U hW => word_at hW (Or.inl (by first | rfl | simp [Cond.onTables, Cond.keeps, Cond.steady])) hini)
  obtain ⟨hx, hb, hml, ho, -⟩ := S
  obtain ⟨-, ⟨cellB, hcB, hoB, hclB⟩, hPc⟩ := hp
  obtain ⟨hfc, kB, hkB, -⟩ := hat
  cases hfc.symm.trans hclB
  intro T hT X
  rcases vx_callIFW X hx (C := C) (hh := hh) (bytes := bytes) (maxL := maxL) (ret := ret) ho cw.link cw.decl cw.face cw.sel cw.inst cw.pub cw.unh cw.cast cw.code cw.notMH hK (by rw [hT]; exact hcB) hoB hclB hkB hg (hsize.trans hml.symm) (argsL := As) (rest := rest) (fun sig h => hn.trans (cw.len sig h)) hstack hW (by rw [hb]; exact hdg)
    (fun vm₁ hW₁ => ⟨hf.1, hf.2, hPc (T.setVm vm₁) hT hW₁⟩) with ⟨v, vm₁, ⟨U', l2, c2, s2⟩, hW₁, X', ⟨g', mk, t, L, e1, e2, hq, h1, hL, h2, h3⟩, st⟩ | ⟨q, vm₁, ⟨U', l2, c2, s2⟩, hW₁, X', ⟨g', mk, t, L, E, ce, e1, e2, hq, hce, hcv, hcl, h1, hL, h2, h3⟩, st⟩
  · dsimp only [Pt.U, Pt.locs, Pt.cells, Pt.slots] at X' e1 e2 h1 h2 h3 st
    subst h1; subst h2; subst h3
    exact Or.inl ⟨v, (T.setVm vm₁).calling g' mk (Value.ref b :: As).toArray, t, U', L, hT, X', hL, e1, e2, hq, st⟩
  · dsimp only [Pt.U, Pt.locs, Pt.cells, Pt.slots] at X' e1 e2 h1 h2 h3 st hcl
    subst h1; subst h2; subst h3
    exact Or.inr ⟨q, (T.setVm vm₁).calling g' mk (Value.ref b :: As).toArray, t, U', L, E, ce, hT, X', hL, e1, e2, hq, hce, hcv, vx_cls hW₁ hcl, st⟩
end
/-! ===== END ===== -/
/-! ===== BEGIN .. of methods that hand back an object of the pool ===== -/
section
variable {p : Program} {l : Launch} {e : Env} {R : Room} {s : State} {m : MethodId} {args : Array Value} {below : List Frame} {meth : Method} {c : Code} {H : Heap} {locs : List Loc} {cells slots : Nat} {Q : State → Prop}
variable {mc ms : Nat} {free : Addr → Prop} {A0 A1 : Nat → Prop} {H0 : Heap} {a : Array Value} {pc : Nat} {ls : Array Slot} {st0 rest : List Value}
theorem vx_callq {S SX : Type} {post : Option Nat → S → Prop} {px : SX → Prop} {B : S → State → Prop} {BX : String → SX → State → Prop} {AX : Nat → Prop} (hr : vx_Run p l e R s m args below meth c H locs cells slots mc ms (F0 m pc ls st0) rest (va_Qq post B A1 a) (vx_X px BX AX) free) (hS : va_S A0 H0 H locs) (hA : ∀ q, q < H.size → A1 q → A0 q) (hf : ∀ q, free q → A0 q) (hAX : ∀ q, q < H.size → AX q → A0 q)
    (kx : ∀ (E : String) (ce : Cell) (q9 : Addr) (u : SX) (t : State) (H1 : Heap) (locs1 : List Loc), t.heap = H1 → s.vm.Alike t.vm → px u → BX E u t → H.size ≤ H1.size → (∀ q : Nat, q < H.size → ¬ AX q → H1[q]? = H[q]?) → va_S A0 H0 H1 locs1 → H1[q9]? = some ce → ce.vm = .none → s.vm.findClass E = some ce.cls → vx_W p l e R s m args below meth c H1 locs1 (cells + mc) (slots + ms) Q (F0 m pc ls rest) q9)
    (kk : ∀ (r : Option Nat) (u : S) (t : State) (H1 : Heap) (locs1 : List Loc), t.heap = H1 → s.vm.Alike t.vm → post r u → B u t → H.size ≤ H1.size → (∀ q : Nat, q < H.size → ¬ A1 q → H1[q]? = H[q]?) → va_S A0 H0 H1 locs1 → W p l e R s m args below meth c H1 locs1 (cells + mc) (slots + ms) Q (F0 m (pc + 3) ls (va_rf r :: rest))) : W p l e R s m args below meth c H locs cells slots Q (F0 m pc ls st0) := by
  intro T hT X
  rcases hr T hT X with ⟨v, st₀, t, T', L, h0, X', hL, e1, e2, ⟨⟨r, u, hv, hp, hb⟩, hF⟩, st⟩ | ⟨q, st₀, t, T', L, E, ce, h0, X', hL, e1, e2, ⟨u, hp, hb, hF⟩, hce, hcv, hcl, st⟩
  · cases hv
    obtain ⟨k1, k2, k3⟩ := vx_keep h0 e1 hS hA hf hL hF
    obtain ⟨t2, a1, b1⟩ := kk r u t T'.heap (locs ++ L) e1.symm (by rw [← e2]; exact X'.warmed.alike) hp hb k1 k2 k3 T' rfl X'
    exact ⟨t2, st t2 a1, b1⟩
  · obtain ⟨k1, k2, k3⟩ := vx_keep h0 e1 hS hAX hf hL hF
    obtain ⟨t2, a1, b1⟩ := kx E ce q u t T'.heap (locs ++ L) e1.symm (by rw [← e2]; exact X'.warmed.alike) hp hb k1 k2 k3 (by rw [e1]; exact hce) hcv hcl T' rfl X'
    exact ⟨t2, st.trans a1, b1⟩
end
/-! ===== END ===== -/
/-! ===== BEGIN .. a constant ===== -/
section
variable {p : Program} {l : Launch} {e : Env} {R : Room} {s : State} {m : MethodId} {args : Array Value} {below : List Frame} {meth : Method} {c : Code} {H : Heap} {locs : List Loc} {cells slots : Nat} {Q : State → Prop}
variable {mc ms : Nat} {free : Addr → Prop} {A0 A1 : Nat → Prop} {H0 : Heap} {a : Array Value} {pc : Nat} {ls : Array Slot} {st0 rest : List Value}
theorem vx_calle {ad : Nat → Nat} {S SX : Type} {post : Option Nat → S → Prop} {px : SX → Prop} {B : S → State → Prop} {BX : String → SX → State → Prop} {AX : Nat → Prop} (hr : vx_Run p l e R s m args below meth c H locs cells slots mc ms (F0 m pc ls st0) rest (va_Qe ad post B A1 a) (vx_X px BX AX) free) (hS : va_S A0 H0 H locs) (hA : ∀ q, q < H.size → A1 q → A0 q) (hf : ∀ q, free q → A0 q) (hAX : ∀ q, q < H.size → AX q → A0 q)
    (kx : ∀ (E : String) (ce : Cell) (q9 : Addr) (u : SX) (t : State) (H1 : Heap) (locs1 : List Loc), t.heap = H1 → s.vm.Alike t.vm → px u → BX E u t → H.size ≤ H1.size → (∀ q : Nat, q < H.size → ¬ AX q → H1[q]? = H[q]?) → va_S A0 H0 H1 locs1 → H1[q9]? = some ce → ce.vm = .none → s.vm.findClass E = some ce.cls → vx_W p l e R s m args below meth c H1 locs1 (cells + mc) (slots + ms) Q (F0 m pc ls rest) q9)
    (kk : ∀ (r : Option Nat) (u : S) (t : State) (H1 : Heap) (locs1 : List Loc), t.heap = H1 → s.vm.Alike t.vm → post r u → B u t → H.size ≤ H1.size → (∀ q : Nat, q < H.size → ¬ A1 q → H1[q]? = H[q]?) → va_S A0 H0 H1 locs1 → W p l e R s m args below meth c H1 locs1 (cells + mc) (slots + ms) Q (F0 m (pc + 3) ls (va_re ad r :: rest))) : W p l e R s m args below meth c H locs cells slots Q (F0 m pc ls st0) := by
  intro T hT X
  rcases hr T hT X with ⟨v, st₀, t, T', L, h0, X', hL, e1, e2, ⟨⟨r, u, hv, hp, hb⟩, hF⟩, st⟩ | ⟨q, st₀, t, T', L, E, ce, h0, X', hL, e1, e2, ⟨u, hp, hb, hF⟩, hce, hcv, hcl, st⟩
  · cases hv
    obtain ⟨k1, k2, k3⟩ := vx_keep h0 e1 hS hA hf hL hF
    obtain ⟨t2, a1, b1⟩ := kk r u t T'.heap (locs ++ L) e1.symm (by rw [← e2]; exact X'.warmed.alike) hp hb k1 k2 k3 T' rfl X'
    exact ⟨t2, st t2 a1, b1⟩
  · obtain ⟨k1, k2, k3⟩ := vx_keep h0 e1 hS hAX hf hL hF
    obtain ⟨t2, a1, b1⟩ := kx E ce q u t T'.heap (locs ++ L) e1.symm (by rw [← e2]; exact X'.warmed.alike) hp hb k1 k2 k3 (by rw [e1]; exact hce) hcv hcl T' rfl X'
    exact ⟨t2, st.trans a1, b1⟩
end
/-! ===== END ===== -/
/-! ===== BEGIN .. by an interface, an object ===== -/
section
variable {p : Program} {l : Launch} {e : Env} {R : Room} {s : State} {m : MethodId} {args : Array Value} {below : List Frame} {meth : Method} {c : Code} {H : Heap} {locs : List Loc} {cells slots : Nat} {Q : State → Prop}
variable {mc ms : Nat} {free : Addr → Prop} {A0 A1 : Nat → Prop} {H0 : Heap} {a : Array Value} {pc : Nat} {ls : Array Slot} {st0 rest : List Value}
theorem vx_callFq {S SX : Type} {post : Option Nat → S → Prop} {px : SX → Prop} {B : S → State → Prop} {BX : String → SX → State → Prop} {AX : Nat → Prop} (hr : vx_Run5 p l e R s m args below meth c H locs cells slots mc ms (F0 m pc ls st0) rest (va_Qq post B A1 a) (vx_X px BX AX) free) (hS : va_S A0 H0 H locs) (hA : ∀ q, q < H.size → A1 q → A0 q) (hf : ∀ q, free q → A0 q) (hAX : ∀ q, q < H.size → AX q → A0 q)
    (kx : ∀ (E : String) (ce : Cell) (q9 : Addr) (u : SX) (t : State) (H1 : Heap) (locs1 : List Loc), t.heap = H1 → s.vm.Alike t.vm → px u → BX E u t → H.size ≤ H1.size → (∀ q : Nat, q < H.size → ¬ AX q → H1[q]? = H[q]?) → va_S A0 H0 H1 locs1 → H1[q9]? = some ce → ce.vm = .none → s.vm.findClass E = some ce.cls → vx_W p l e R s m args below meth c H1 locs1 (cells + mc) (slots + ms) Q (F0 m pc ls rest) q9)
    (kk : ∀ (r : Option Nat) (u : S) (t : State) (H1 : Heap) (locs1 : List Loc), t.heap = H1 → s.vm.Alike t.vm → post r u → B u t → H.size ≤ H1.size → (∀ q : Nat, q < H.size → ¬ A1 q → H1[q]? = H[q]?) → va_S A0 H0 H1 locs1 → W p l e R s m args below meth c H1 locs1 (cells + mc) (slots + ms) Q (F0 m (pc + 5) ls (va_rf r :: rest))) : W p l e R s m args below meth c H locs cells slots Q (F0 m pc ls st0) := by
  intro T hT X
  rcases hr T hT X with ⟨v, st₀, t, T', L, h0, X', hL, e1, e2, ⟨⟨r, u, hv, hp, hb⟩, hF⟩, st⟩ | ⟨q, st₀, t, T', L, E, ce, h0, X', hL, e1, e2, ⟨u, hp, hb, hF⟩, hce, hcv, hcl, st⟩
  · cases hv
    obtain ⟨k1, k2, k3⟩ := vx_keep h0 e1 hS hA hf hL hF
    obtain ⟨t2, a1, b1⟩ := kk r u t T'.heap (locs ++ L) e1.symm (by rw [← e2]; exact X'.warmed.alike) hp hb k1 k2 k3 T' rfl X'
    exact ⟨t2, st t2 a1, b1⟩
  · obtain ⟨k1, k2, k3⟩ := vx_keep h0 e1 hS hAX hf hL hF
    obtain ⟨t2, a1, b1⟩ := kx E ce q u t T'.heap (locs ++ L) e1.symm (by rw [← e2]; exact X'.warmed.alike) hp hb k1 k2 k3 (by rw [e1]; exact hce) hcv hcl T' rfl X'
    exact ⟨t2, st.trans a1, b1⟩
end
/-! ===== END ===== -/
/-! ===== BEGIN .. by an interface, a constant ===== -/
section
variable {p : Program} {l : Launch} {e : Env} {R : Room} {s : State} {m : MethodId} {args : Array Value} {below : List Frame} {meth : Method} {c : Code} {H : Heap} {locs : List Loc} {cells slots : Nat} {Q : State → Prop}
variable {mc ms : Nat} {free : Addr → Prop} {A0 A1 : Nat → Prop} {H0 : Heap} {a : Array Value} {pc : Nat} {ls : Array Slot} {st0 rest : List Value}
theorem vx_callFe {ad : Nat → Nat} {S SX : Type} {post : Option Nat → S → Prop} {px : SX → Prop} {B : S → State → Prop} {BX : String → SX → State → Prop} {AX : Nat → Prop} (hr : vx_Run5 p l e R s m args below meth c H locs cells slots mc ms (F0 m pc ls st0) rest (va_Qe ad post B A1 a) (vx_X px BX AX) free) (hS : va_S A0 H0 H locs) (hA : ∀ q, q < H.size → A1 q → A0 q) (hf : ∀ q, free q → A0 q) (hAX : ∀ q, q < H.size → AX q → A0 q)
    (kx : ∀ (E : String) (ce : Cell) (q9 : Addr) (u : SX) (t : State) (H1 : Heap) (locs1 : List Loc), t.heap = H1 → s.vm.Alike t.vm → px u → BX E u t → H.size ≤ H1.size → (∀ q : Nat, q < H.size → ¬ AX q → H1[q]? = H[q]?) → va_S A0 H0 H1 locs1 → H1[q9]? = some ce → ce.vm = .none → s.vm.findClass E = some ce.cls → vx_W p l e R s m args below meth c H1 locs1 (cells + mc) (slots + ms) Q (F0 m pc ls rest) q9)
    (kk : ∀ (r : Option Nat) (u : S) (t : State) (H1 : Heap) (locs1 : List Loc), t.heap = H1 → s.vm.Alike t.vm → post r u → B u t → H.size ≤ H1.size → (∀ q : Nat, q < H.size → ¬ A1 q → H1[q]? = H[q]?) → va_S A0 H0 H1 locs1 → W p l e R s m args below meth c H1 locs1 (cells + mc) (slots + ms) Q (F0 m (pc + 5) ls (va_re ad r :: rest))) : W p l e R s m args below meth c H locs cells slots Q (F0 m pc ls st0) := by
  intro T hT X
  rcases hr T hT X with ⟨v, st₀, t, T', L, h0, X', hL, e1, e2, ⟨⟨r, u, hv, hp, hb⟩, hF⟩, st⟩ | ⟨q, st₀, t, T', L, E, ce, h0, X', hL, e1, e2, ⟨u, hp, hb, hF⟩, hce, hcv, hcl, st⟩
  · cases hv
    obtain ⟨k1, k2, k3⟩ := vx_keep h0 e1 hS hA hf hL hF
    obtain ⟨t2, a1, b1⟩ := kk r u t T'.heap (locs ++ L) e1.symm (by rw [← e2]; exact X'.warmed.alike) hp hb k1 k2 k3 T' rfl X'
    exact ⟨t2, st t2 a1, b1⟩
  · obtain ⟨k1, k2, k3⟩ := vx_keep h0 e1 hS hAX hf hL hF
    obtain ⟨t2, a1, b1⟩ := kx E ce q u t T'.heap (locs ++ L) e1.symm (by rw [← e2]; exact X'.warmed.alike) hp hb k1 k2 k3 (by rw [e1]; exact hce) hcv hcl T' rfl X'
    exact ⟨t2, st.trans a1, b1⟩
end
/-! ===== END ===== -/
/-! ===== BEGIN what the machine throws by itself: null at a field, at athrow ===== -/
section VXM2
variable {p : Program} {l : Launch} {e : Env} {R : Room} {s : State} {m : MethodId} {args : Array Value} {below : List Frame} {meth : Method} {c : Code} {H : Heap} {locs : List Loc} {cells slots : Nat}
variable {Q : State → Prop} {cc : ByteArray} {pc : Nat} {ls : Array Slot} {rest : List Value}
theorem vx_getfN {D cl tys} {own ref C : String} {T : u_T} {N ci index : Nat} {Ts : List Cond} (hexec : p.tables.exec = Jvm.exec) (hb : c.code = cc) (hts : ∀ w ∈ Ts, w.before args s = true) (hin : ∀ w ∈ u_ws C T N, w ∈ Ts) (hown : s.vm.findClass own = some m.cls) (hK : va_K D cl tys s) (hc : cl[ci]? = some (C, T, N)) (k : Nat) (hk : k < N) (hlink : (Cond.fieldLink own index ref (T k).2.1 (T k).2.2.1).before args s = true) (hsame : ∀ x, s.fieldFound? (T k).1 (T k).2.1 (T k).2.2.1 = some x → s.fieldFound? ref (T k).2.1 (T k).2.2.1 = some x) (hdg : decode cc pc = .ok (.getfield index, 3)) (kk : vx_NoteN p l e R s m args below meth c H locs cells slots Q (F0 m pc ls rest)) : W p l e R s m args below meth c H locs cells slots Q (F0 m pc ls (.null :: rest)) := by
  obtain ⟨hS, hfc, kC, hkC, -⟩ := hK.1 ci _ hc
  obtain ⟨cf, kf, fi, f, hi, -⟩ := hS k hk
  intro U hU X
  obtain ⟨vm', X1, st1⟩ := X.getfieldNull hexec hown hlink (hsame _ hi) (u_facts hfc hkC (u_lays hts hin hk) hi).1 (g := F0 m pc ls (.null :: rest)) rfl (rest := rest) rfl (by rw [hb]; exact hdg)
  obtain ⟨t, st, q⟩ := kk (U.setVm vm') hU X1
  exact ⟨t, st1 t st, q⟩
theorem vx_getfNN {D cl tys} {own ref C host : String} {T : u_T} {N ci index : Nat} {Ts : List Cond} (hexec : p.tables.exec = Jvm.exec) (hb : c.code = cc) (hts : ∀ w ∈ Ts, w.before args s = true) (hin : ∀ w ∈ u_ws C T N, w ∈ Ts) (hown : s.vm.findClass own = some m.cls) (hK : va_K D cl tys s) (hc : cl[ci]? = some (C, T, N)) (k : Nat) (hk : k < N) (hlink : (Cond.fieldLinkNest own index ref (T k).2.1 (T k).2.2.1 host).before args s = true) (hsame : ∀ x, s.fieldFound? (T k).1 (T k).2.1 (T k).2.2.1 = some x → s.fieldFound? ref (T k).2.1 (T k).2.2.1 = some x) (hdg : decode cc pc = .ok (.getfield index, 3)) (kk : vx_NoteN p l e R s m args below meth c H locs cells slots Q (F0 m pc ls rest)) : W p l e R s m args below meth c H locs cells slots Q (F0 m pc ls (.null :: rest)) := by
  obtain ⟨hS, hfc, kC, hkC, -⟩ := hK.1 ci _ hc
  obtain ⟨cf, kf, fi, f, hi, -⟩ := hS k hk
  intro U hU X
  obtain ⟨vm', X1, st1⟩ := X.getfieldNullNest hexec hown hlink (hsame _ hi) (u_facts hfc hkC (u_lays hts hin hk) hi).1 (g := F0 m pc ls (.null :: rest)) rfl (rest := rest) rfl (by rw [hb]; exact hdg)
  obtain ⟨t, st, q⟩ := kk (U.setVm vm') hU X1
  exact ⟨t, st1 t st, q⟩
theorem vx_putfN {D cl tys} {own ref C : String} {T : u_T} {N ci index : Nat} {Ts : List Cond} (hexec : p.tables.exec = Jvm.exec) (hb : c.code = cc) (hts : ∀ w ∈ Ts, w.before args s = true) (hin : ∀ w ∈ u_ws C T N, w ∈ Ts) (hown : s.vm.findClass own = some m.cls) (hK : va_K D cl tys s) (hc : cl[ci]? = some (C, T, N)) (k : Nat) (hk : k < N) (hlink : (Cond.fieldLink own index ref (T k).2.1 (T k).2.2.1).before args s = true) (hsame : ∀ x, s.fieldFound? (T k).1 (T k).2.1 (T k).2.2.1 = some x → s.fieldFound? ref (T k).2.1 (T k).2.2.1 = some x) (hfin : (T k).2.2.2 = false) {v : Value} (hdg : decode cc pc = .ok (.putfield index, 3)) (kk : vx_NoteN p l e R s m args below meth c H locs cells slots Q (F0 m pc ls rest)) : W p l e R s m args below meth c H locs cells slots Q (F0 m pc ls (v :: .null :: rest)) := by
  obtain ⟨hS, hfc, kC, hkC, -⟩ := hK.1 ci _ hc
  obtain ⟨cf, kf, fi, f, hi, -⟩ := hS k hk
  have hlay := hts _ (hin _ (u_in_lay hk))
  unfold u_lay at hlay
  rw [if_neg (by rw [hfin]; decide)] at hlay
  obtain ⟨c9, k9, cf9, kf9, fi9, f9, -, -, hi9, hst9, hnf9, -⟩ := Cond.lays_spec hlay
  cases hi.symm.trans hi9
  intro U hU X
  obtain ⟨vm', X1, st1⟩ := X.putfieldNull hexec hown hlink (hsame _ hi) hst9 hnf9 (g := F0 m pc ls (v :: .null :: rest)) rfl (v := v) (rest := rest) rfl (by rw [hb]; exact hdg)
  obtain ⟨t, st, q⟩ := kk (U.setVm vm') hU X1
  exact ⟨t, st1 t st, q⟩
theorem vx_putfNN {D cl tys} {own ref C host : String} {T : u_T} {N ci index : Nat} {Ts : List Cond} (hexec : p.tables.exec = Jvm.exec) (hb : c.code = cc) (hts : ∀ w ∈ Ts, w.before args s = true) (hin : ∀ w ∈ u_ws C T N, w ∈ Ts) (hown : s.vm.findClass own = some m.cls) (hK : va_K D cl tys s) (hc : cl[ci]? = some (C, T, N)) (k : Nat) (hk : k < N) (hlink : (Cond.fieldLinkNest own index ref (T k).2.1 (T k).2.2.1 host).before args s = true) (hsame : ∀ x, s.fieldFound? (T k).1 (T k).2.1 (T k).2.2.1 = some x → s.fieldFound? ref (T k).2.1 (T k).2.2.1 = some x) (hfin : (T k).2.2.2 = false) {v : Value} (hdg : decode cc pc = .ok (.putfield index, 3)) (kk : vx_NoteN p l e R s m args below meth c H locs cells slots Q (F0 m pc ls rest)) : W p l e R s m args below meth c H locs cells slots Q (F0 m pc ls (v :: .null :: rest)) := by
  obtain ⟨hS, hfc, kC, hkC, -⟩ := hK.1 ci _ hc
  obtain ⟨cf, kf, fi, f, hi, -⟩ := hS k hk
  have hlay := hts _ (hin _ (u_in_lay hk))
  unfold u_lay at hlay
  rw [if_neg (by rw [hfin]; decide)] at hlay
  obtain ⟨c9, k9, cf9, kf9, fi9, f9, -, -, hi9, hst9, hnf9, -⟩ := Cond.lays_spec hlay
  cases hi.symm.trans hi9
  intro U hU X
  obtain ⟨vm', X1, st1⟩ := X.putfieldNullNest hexec hown hlink (hsame _ hi) hst9 hnf9 (g := F0 m pc ls (v :: .null :: rest)) rfl (v := v) (rest := rest) rfl (by rw [hb]; exact hdg)
  obtain ⟨t, st, q⟩ := kk (U.setVm vm') hU X1
  exact ⟨t, st1 t st, q⟩
theorem vx_athrowN (hexec : p.tables.exec = Jvm.exec) (hb : c.code = cc) (hdg : decode cc pc = .ok (.athrow, 1)) (k : vx_NoteN p l e R s m args below meth c H locs cells slots Q (F0 m pc ls rest)) : W p l e R s m args below meth c H locs cells slots Q (F0 m pc ls (.null :: rest)) := by
  intro T hT X
  obtain ⟨t, st, q⟩ := k T hT X
  exact ⟨t, X.athrowNull hexec (g := F0 m pc ls (.null :: rest)) rfl (rest := rest) rfl (by rw [hb]; exact hdg) t st, q⟩
end VXM2
/-! ===== END ===== -/
end
section
/-! THE ABSTRACT MACHINE: a flat memory of typed cells (kinds, ints, longs, references by number), values whose references are numbers of cells (0: null), a predicate transformer am_one for one instruction (of a resolved code), am_W its least fixpoint, am_C the calls by depth. What it says is tied to the machine in part 05. -/
/-- memory: kind (1,ci) object of class ci; (2,n) int[]; (3,n) byte[]; (4,n) boolean[]; (5,n) long[]; (6,n) an array of references; ints; longs; references; next cell (cells made), slots made -/
abbrev am_H : Type := (Nat → Nat × Nat) × (Nat → Nat → Int32) × (Nat → Nat → Int64) × (Nat → Nat → Nat) × Nat × Nat
def am_k (h : am_H) (a : Nat) : Nat × Nat := h.1 a
def am_i (h : am_H) (a k : Nat) : Int32 := h.2.1 a k
def am_l (h : am_H) (a k : Nat) : Int64 := h.2.2.1 a k
def am_r (h : am_H) (a k : Nat) : Nat := h.2.2.2.1 a k
def am_n (h : am_H) : Nat := h.2.2.2.2.1
def am_cs (h : am_H) : Nat := h.2.2.2.2.2
def am_pi (h : am_H) (a k : Nat) (v : Int32) : am_H := (h.1, va_up h.2.1 a (upd (h.2.1 a) k v), h.2.2)
def am_pl (h : am_H) (a k : Nat) (v : Int64) : am_H := (h.1, h.2.1, va_up h.2.2.1 a (vp_updL (h.2.2.1 a) k v), h.2.2.2)
def am_pr (h : am_H) (a k : Nat) (v : Nat) : am_H := (h.1, h.2.1, h.2.2.1, va_up h.2.2.2.1 a (va_up (h.2.2.2.1 a) k v), h.2.2.2.2)
def am_cp (h : am_H) (b sp a dp n : Nat) : am_H := (h.1, va_up h.2.1 a (va_cpy (h.2.1 b) (h.2.1 a) sp dp n), h.2.2)
def am_new (h : am_H) (t n w : Nat) : am_H := (va_up h.1 (am_n h) (t, n), va_up h.2.1 (am_n h) (fun _ => 0), va_up h.2.2.1 (am_n h) (fun _ => 0), va_up h.2.2.2.1 (am_n h) (fun _ => 0), am_n h + 1, am_cs h + w)
def am_thr (h : am_H) : am_H := (h.1, h.2.1, h.2.2.1, h.2.2.2.1, am_n h + 1, am_cs h + 6)
/-- numbers from here on aren't cells: String constants, the script -/
abbrev am_top : Nat := 1000000
abbrev am_S0 : Nat := 2000000
abbrev am_scr : Nat := 3000000
abbrev am_J : Value := .retAddr 0
abbrev am_R : Type := Option Value ⊕ Nat
abbrev am_Q : Type := am_R → am_H → Prop
abbrev am_K : Type := Nat → List Value → List Value → am_H → Prop
abbrev am_Cal : Type := Nat → List Value → am_H → am_Q → Prop
def am_set (L : List Value) (i : Nat) (v : Value) : List Value :=
  match i with
  | 0 => L.set 0 v
  | j + 1 => match L[j]? with
    | some (.long _) => (L.set j am_J).set (j + 1) v
    | some (.double _) => (L.set j am_J).set (j + 1) v
    | _ => L.set (j + 1) v
def am_set2 (L : List Value) (i : Nat) (v : Value) : List Value := (am_set L i v).set (i + 1) am_J
def am_strs : List (List Nat) := [[103, 114, 97, 112, 104], [116, 101, 114, 109, 105, 110, 97, 108], [101, 100, 103, 101], [108, 111, 97, 100], [99, 111, 115, 116], [119, 101, 105, 103, 104, 116], [108, 111, 119], [104, 105, 103, 104]]
def am_cond (c : Jvm.ClassFile.Cond) (x y : Int32) : Prop := match c with
  | .eq => x = y
  | .ne => x ≠ y
  | .lt => x < y
  | .ge => y ≤ x
  | .gt => y < x
  | .le => x ≤ y
def am_inc (x : Int32) (n : Int) : Int32 := match n with
  | .ofNat k => x + nI k
  | .negSucc k => x - nI (k + 1)
def am_tsw (d lo hi : Int) (offs : Array Int) (x : Int32) : Nat := if x.toInt < lo ∨ hi < x.toInt then d.toNat else (offs.getD (x.toInt - lo).toNat 0).toNat
def am_arr (h : am_H) (a t : Nat) (i : Int32) : Prop := (am_k h a).1 = t ∧ vp_in i (am_k h a).2
/-- what an instruction does that touches no local: next; check and next; branch; end; call -/
abbrev am_SC : Type := Nat × List Value × am_H
abbrev am_SO : Type := Option (am_SC ⊕ (Prop × am_SC) ⊕ (Prop × Nat × Nat × List Value) ⊕ (Prop × am_R × am_H) ⊕ (Prop × Nat × List Value × List Value))
abbrev am_nx (p : Nat) (S : List Value) (h : am_H) : am_SO := some (.inl (p, S, h))
abbrev am_ck (c : Prop) (p : Nat) (S : List Value) (h : am_H) : am_SO := some (.inr (.inl (c, p, S, h)))
abbrev am_br (c : Prop) (p q : Nat) (S : List Value) : am_SO := some (.inr (.inr (.inl (c, p, q, S))))
abbrev am_end (c : Prop) (r : am_R) (h : am_H) : am_SO := some (.inr (.inr (.inr (.inl (c, r, h)))))
abbrev am_call (c : Prop) (m : Nat) (as rest : List Value) : am_SO := some (.inr (.inr (.inr (.inr (c, m, as, rest)))))
/-- the script: its length and its ints -/
abbrev am_X : Type := Nat × (Nat → Int32)
/-- at most four values -/
def am_sh (S : List Value) : Bool := match S with
  | _ :: _ :: _ :: _ :: _ :: _ => false
  | _ => true
def am_stp (xs : am_X) (op : Instr) (nx : Nat) (S : List Value) (h : am_H) : am_SO :=
  match op with
  | .nop => am_nx nx S h
  | .ldc k => am_nx nx (.int (nI k) :: S) h
  | .ldc_w k => am_nx nx (.int (-nI k) :: S) h
  | .ldc2_w k => am_nx nx (.long (lN k) :: S) h
  | .goto_w k => am_nx nx (.long (Int64.ofInt k) :: S) h
  | .invokedynamic k => am_nx nx (.float (UInt32.ofNat k) :: S) h
  | .invokeinterface j _ => am_nx nx (.ref (am_S0 + j) :: S) h
  | .aconst_null => am_nx nx (.ref 0 :: S) h
  | .iadd => match S with | .int y :: .int x :: S => am_nx nx (.int (x + y) :: S) h | _ => none
  | .isub => match S with | .int y :: .int x :: S => am_nx nx (.int (x - y) :: S) h | _ => none
  | .imul => match S with | .int y :: .int x :: S => am_nx nx (.int (x * y) :: S) h | _ => none
  | .idiv => match S with | .int y :: .int x :: S => am_ck (¬ y = 0) nx (.int (x / y) :: S) h | _ => none
  | .irem => match S with | .int y :: .int x :: S => am_ck (¬ y = 0) nx (.int (x - x / y * y) :: S) h | _ => none
  | .iand => match S with | .int y :: .int x :: S => am_nx nx (.int (x &&& y) :: S) h | _ => none
  | .ior => match S with | .int y :: .int x :: S => am_nx nx (.int (x ||| y) :: S) h | _ => none
  | .ixor => match S with | .int y :: .int x :: S => am_nx nx (.int (x ^^^ y) :: S) h | _ => none
  | .ishl => match S with | .int y :: .int x :: S => am_nx nx (.int (x <<< (y &&& 31)) :: S) h | _ => none
  | .ishr => match S with | .int y :: .int x :: S => am_nx nx (.int (x >>> (y &&& 31)) :: S) h | _ => none
  | .iushr => match S with | .int y :: .int x :: S => am_nx nx (.int ((x.toUInt32 >>> (y.toUInt32 &&& Int32.toUInt32 31)).toInt32) :: S) h | _ => none
  | .i2l => match S with | .int x :: S => am_nx nx (.long x.toInt64 :: S) h | _ => none
  | .l2i => match S with | .long x :: S => am_nx nx (.int x.toInt32 :: S) h | _ => none
  | .i2b => match S with | .int x :: S => am_nx nx (.int x.toInt8.toInt32 :: S) h | _ => none
  | .i2f => match S with | .int x :: S => am_nx nx (.float (FP.i2f x) :: S) h | _ => none
  | .ladd => match S with | .long y :: .long x :: S => am_nx nx (.long (x + y) :: S) h | _ => none
  | .lsub => match S with | .long y :: .long x :: S => am_nx nx (.long (x - y) :: S) h | _ => none
  | .lmul => match S with | .long y :: .long x :: S => am_nx nx (.long (x * y) :: S) h | _ => none
  | .ldiv => match S with | .long y :: .long x :: S => am_ck (¬ y = 0) nx (.long (x / y) :: S) h | _ => none
  | .lneg => match S with | .long x :: S => am_nx nx (.long (-x) :: S) h | _ => none
  | .lcmp => match S with | .long y :: .long x :: S => am_nx nx (.int (lg_cmp x y) :: S) h | _ => none
  | .fadd => match S with | .float y :: .float x :: S => am_ck (vf_n32 (FP.fadd x y)) nx (.float (FP.fadd x y) :: S) h | _ => none
  | .fmul => match S with | .float y :: .float x :: S => am_ck (vf_n32 (FP.fmul x y)) nx (.float (FP.fmul x y) :: S) h | _ => none
  | .fdiv => match S with | .float y :: .float x :: S => am_ck (vf_n32 (FP.fdiv x y)) nx (.float (FP.fdiv x y) :: S) h | _ => none
  | .f2d => match S with | .float x :: S => am_ck (vf_n64 (FP.f2d x)) nx (.double (FP.f2d x) :: S) h | _ => none
  | .dcmp c => match S with | .double y :: .double x :: S => am_nx nx (.int (Op.cmpValue (FP.dcmp x y) c) :: S) h | _ => none
  | .dup => match S with
    | .int x :: S => am_nx nx (.int x :: .int x :: S) h
    | .ref x :: S => am_nx nx (.ref x :: .ref x :: S) h
    | _ => none
  | .dup2 => match S with | .int x :: .ref y :: S => am_nx nx (.int x :: .ref y :: .int x :: .ref y :: S) h | _ => none
  | .pop => match S with
    | .int _ :: S => am_nx nx S h
    | .ref _ :: S => am_nx nx S h
    | _ => none
  | .pop2 => match S with | [.ref a] => am_ck (a ≠ 0) nx [] h | _ => none
  | .dadd => match S with | .int y :: .int x :: S => bif am_sh S then am_nx nx (.int (if x < y then y else x) :: S) h else none | _ => none
  | .dsub => match S with | .int y :: .int x :: S => bif am_sh S then am_nx nx (.int (if y < x then y else x) :: S) h else none | _ => none
  | .dmul => match S with | .long y :: .long x :: S => bif am_sh S then am_nx nx (.long (if y < x then x else y) :: S) h else none | _ => none
  | .ddiv => match S with | .long y :: .long x :: S => bif am_sh S then am_nx nx (.long (if y < x then y else x) :: S) h else none | _ => none
  | .goto t => am_nx t.toNat S h
  | .if_icmp c t => match S with | .int y :: .int x :: S => am_br (am_cond c x y) t.toNat nx S | _ => none
  | .ifCond c t => match S with | .int x :: S => am_br (am_cond c x 0) t.toNat nx S | _ => none
  | .ifnull t => match S with | .ref a :: S => am_br (a = 0) t.toNat nx S | _ => none
  | .tableswitch d lo hi offs => match S with | .int x :: S => am_nx (am_tsw d lo hi offs x) S h | _ => none
  | .getfield e => match S with | .ref a :: S => am_ck (am_k h a = (1, e / 64)) nx (.int (am_i h a (e % 64)) :: S) h | _ => none
  | .getstatic e => match S with | .ref a :: S => am_ck (am_k h a = (1, e / 64)) nx (.ref (am_r h a (e % 64)) :: S) h | _ => none
  | .putfield e => match S with | .int x :: .ref a :: S => am_ck (am_k h a = (1, e / 64)) nx S (am_pi h a (e % 64) x) | _ => none
  | .putstatic e => match S with | .int x :: .ref a :: S => am_ck (am_k h a = (1, e / 64) ∧ (x = 0 ∨ x = 1)) nx S (am_pi h a (e % 64) x) | _ => none
  | .checkcast e => match S with | .ref b :: .ref a :: S => am_ck (am_k h a = (1, e / 64)) nx S (am_pr h a (e % 64) b) | _ => none
  | .iaload => match S with | .int i :: .ref a :: S => am_ck (am_arr h a 2 i) nx (.int (am_i h a i.toNatClampNeg) :: S) h | _ => none
  | .baload => match S with | .int i :: .ref a :: S => am_ck (am_arr h a 3 i) nx (.int (am_i h a i.toNatClampNeg) :: S) h | _ => none
  | .saload => match S with | .int i :: .ref a :: S => am_ck (am_arr h a 4 i) nx (.int (am_i h a i.toNatClampNeg) :: S) h | _ => none
  | .laload => match S with | .int i :: .ref a :: S => am_ck (am_arr h a 5 i) nx (.long (am_l h a i.toNatClampNeg) :: S) h | _ => none
  | .aaload => match S with | .int i :: .ref a :: S => am_ck (am_arr h a 6 i) nx (.ref (am_r h a i.toNatClampNeg) :: S) h | _ => none
  | .daload => match S with | .int i :: .ref a :: S => am_ck (a = am_scr ∧ vp_in i xs.1) nx (.int (xs.2 i.toNatClampNeg) :: S) h | _ => none
  | .monitorenter => match S with | .ref a :: S => am_ck (a = am_scr) nx (.int (nI xs.1) :: S) h | _ => none
  | .iastore => match S with | .int x :: .int i :: .ref a :: S => am_ck (am_arr h a 2 i) nx S (am_pi h a i.toNatClampNeg x) | _ => none
  | .bastore => match S with | .int x :: .int i :: .ref a :: S => am_ck (am_arr h a 3 i) nx S (am_pi h a i.toNatClampNeg (vp_nar .byte x)) | _ => none
  | .sastore => match S with | .int x :: .int i :: .ref a :: S => am_ck (am_arr h a 4 i) nx S (am_pi h a i.toNatClampNeg (vp_nar .boolean x)) | _ => none
  | .lastore => match S with | .long x :: .int i :: .ref a :: S => am_ck (am_arr h a 5 i) nx S (am_pl h a i.toNatClampNeg x) | _ => none
  | .aastore => match S with | .ref b :: .int i :: .ref a :: S => am_ck (am_arr h a 6 i ∧ am_k h b = (1, 2)) nx S (am_pr h a i.toNatClampNeg b) | _ => none
  | .arraylength => match S with | .ref a :: S => am_ck (2 ≤ (am_k h a).1 ∧ (am_k h a).1 ≤ 6) nx (.int (nI (am_k h a).2) :: S) h | _ => none
  | .new e => am_ck (am_n h < am_top) nx (.ref (am_n h) :: S) (am_new h 1 (e / 64) (e % 64))
  | .anewarray t => match S with | .int n :: S => am_ck (am_n h < am_top ∧ ¬ n < 0 ∧ n.toNatClampNeg ≤ 100000) nx (.ref (am_n h) :: S) (am_new h t n.toNatClampNeg n.toNatClampNeg) | _ => none
  | .multianewarray _ _ => match S with
    | .int n :: .int dp :: .ref a :: .int sp :: .ref b :: S => bif am_sh S then am_ck (((am_k h a).1 = 2 ∧ (am_k h b).1 = 2) ∧ (¬ sp < 0 ∧ ¬ dp < 0 ∧ ¬ n < 0) ∧ sp.toNatClampNeg + n.toNatClampNeg ≤ (am_k h b).2 ∧ dp.toNatClampNeg + n.toNatClampNeg ≤ (am_k h a).2) nx S (am_cp h b sp.toNatClampNeg a dp.toNatClampNeg n.toNatClampNeg) else none
    | _ => none
  | .monitorexit => match S with | .ref a :: S => bif am_sh S then am_ck (am_S0 ≤ a ∧ a - am_S0 < am_strs.length) nx (.int (nI (am_strs.getD (a - am_S0) []).length) :: S) h else none | _ => none
  | .instanceof _ => match S with | .int i :: .ref a :: S => bif am_sh S then am_ck ((am_S0 ≤ a ∧ a - am_S0 < am_strs.length) ∧ vp_in i (am_strs.getD (a - am_S0) []).length) nx (.int (nI ((am_strs.getD (a - am_S0) []).getD i.toNatClampNeg 0)) :: S) h else none | _ => none
  | .ireturn => match S with | [.int x] => am_end True (.inl (some (.int x))) h | _ => none
  | .areturn => match S with | [.int x] => am_end (x = 0 ∨ x = 1) (.inl (some (.int x))) h | _ => none
  | .dreturn => match S with | [.ref x] => am_end True (.inl (some (.ref x))) h | _ => none
  | .lreturn => match S with | [.long x] => am_end True (.inl (some (.long x))) h | _ => none
  | .freturn => match S with | [.float x] => am_end True (.inl (some (.float x))) h | _ => none
  | .return_ => match S with | [] => am_end True (.inl none) h | _ => none
  | .jsr k => bif am_sh S then am_end (am_n h < am_top) (.inr k.toNat) (am_thr h) else none
  | .invokestatic e => bif am_sh (S.drop (e % 16)) && Nat.beq (S.take (e % 16)).length (e % 16) then am_call True (e / 16) (S.take (e % 16)).reverse (S.drop (e % 16)) else none
  | .invokevirtual e => match S.drop (e % 16) with
    | .ref a :: S' => bif am_sh S' then am_call (am_k h a = (1, e / 8192)) (e / 16 % 512) (.ref a :: (S.take (e % 16)).reverse) S' else none
    | _ => none
  | _ => none
def am_out (rec : am_K) (cal : am_Cal) (hdl : Nat → Nat → Option (Nat × Nat)) (Q : am_Q) (pc nx : Nat) (L : List Value) (h : am_H) (o : am_SO) : Prop :=
  match o with
  | none => False
  | some (.inl (p, S, h)) => rec p L S h
  | some (.inr (.inl (c, p, S, h))) => c ∧ rec p L S h
  | some (.inr (.inr (.inl (c, p, q, S)))) => (c → rec p L S h) ∧ (¬ c → rec q L S h)
  | some (.inr (.inr (.inr (.inl (c, r, h))))) => c ∧ Q r h
  | some (.inr (.inr (.inr (.inr (c, m, as, S))))) => c ∧ cal m as h (fun r h => match r with
    | .inl none => rec nx L S h
    | .inl (some v) => rec nx L (v :: S) h
    | .inr E => match hdl pc E with
      | none => Q (.inr E) h
      | some (p, i) => rec p (am_set L i am_J) [] h)
/-- what an instruction does that touches the locals (none: another one; some none: it doesn't go) -/
def am_lop (op : Instr) (L S : List Value) : Option (Option (List Value × List Value)) :=
  match op with
  | .iload i => some (match L[i]? with | some (.int x) => some (L, .int x :: S) | _ => none)
  | .aload i => some (match L[i]? with | some (.ref x) => some (L, .ref x :: S) | _ => none)
  | .lload i => some (match L[i]? with | some (.long x) => some (L, .long x :: S) | _ => none)
  | .fload i => some (match L[i]? with | some (.float x) => some (L, .float x :: S) | _ => none)
  | .dload i => some (match L[i]? with | some (.double x) => some (L, .double x :: S) | _ => none)
  | .istore i => some (match S, L[i]? with | .int x :: S, some _ => some (am_set L i (.int x), S) | _, _ => none)
  | .astore i => some (match S, L[i]? with | .ref x :: S, some _ => some (am_set L i (.ref x), S) | _, _ => none)
  | .fstore i => some (match S, L[i]? with | .float x :: S, some _ => some (am_set L i (.float x), S) | _, _ => none)
  | .lstore i => some (match S, L[i + 1]? with | .long x :: S, some _ => some (am_set2 L i (.long x), S) | _, _ => none)
  | .dstore i => some (match S, L[i + 1]? with | .double x :: S, some _ => some (am_set2 L i (.double x), S) | _, _ => none)
  | .iinc i n => some (match L[i]? with | some (.int x) => some (am_set L i (.int (am_inc x n)), S) | _ => none)
  | _ => none
/-- one instruction -/
def am_one (xs : am_X) (code : Nat → Option (Instr × Nat)) (hdl : Nat → Nat → Option (Nat × Nat)) (rec : am_K) (cal : am_Cal) (Q : am_Q) : am_K := fun pc L S h =>
  match code pc with
  | none => False
  | some (op, nx) => match am_lop op L S with
    | some (some (L', S')) => rec nx L' S' h
    | some none => False
    | none => am_out rec cal hdl Q pc nx L h (am_stp xs op nx S h)
/-- its least fixpoint -/
def am_W (xs : am_X) (code : Nat → Option (Instr × Nat)) (hdl : Nat → Nat → Option (Nat × Nat)) (cal : am_Cal) (Q : am_Q) : am_K := fun pc L S h =>
  ∀ P : am_K, (∀ pc L S h, am_one xs code hdl P cal Q pc L S h → P pc L S h) → P pc L S h
def am_pad : List Value → List Value
  | [] => []
  | .long x :: l => .long x :: am_J :: am_pad l
  | .double x :: l => .double x :: am_J :: am_pad l
  | v :: l => v :: am_pad l
def am_loc (args : List Value) (n : Nat) : List Value := am_pad args ++ List.replicate (n - (am_pad args).length) am_J
abbrev am_P : Type := Nat → Option ((Nat → Option (Instr × Nat)) × (Nat → Nat → Option (Nat × Nat)) × Nat)
/-- a call at depth d: the method's code from its entry -/
def am_C (xs : am_X) (P : am_P) : Nat → am_Cal
  | 0 => fun _ _ _ _ => False
  | d + 1 => fun m as h Q => match P m with
    | none => False
    | some (code, hdl, n) => Nat.ble (am_pad as).length n = true ∧ am_W xs code hdl (am_C xs P d) Q 0 (am_loc as n) [] h
/-- code as chunks of 16 bytes -/
abbrev am_T : Type := List (List (Nat × Instr × Nat))
def am_find : List (Nat × Instr × Nat) → Nat → Option (Instr × Nat)
  | [], _ => none
  | (q, x) :: l, pc => bif Nat.beq q pc then some x else am_find l pc
def am_code (t : am_T) (pc : Nat) : Option (Instr × Nat) := match t[pc / 16]? with
  | none => none
  | some l => am_find l pc
/-- the same up to some stops, there a continuation -/
def am_ev (xs : am_X) (code : Nat → Option (Instr × Nat)) (hdl : Nat → Nat → Option (Nat × Nat)) (stop : Nat → Bool) (K : am_K) (cal : am_Cal) (Q : am_Q) : Nat → am_K
  | 0 => fun _ _ _ _ => False
  | n + 1 => fun pc L S h => bif stop pc then K pc L S h else am_one xs code hdl (am_ev xs code hdl stop K cal Q n) cal Q pc L S h
end
section
/-! rules of the abstract machine -/
theorem am_out_mono {hdl : Nat → Nat → Option (Nat × Nat)} {rec1 rec2 : am_K} {cal1 cal2 : am_Cal} {Q1 Q2 : am_Q} (hr : ∀ pc L S h, rec1 pc L S h → rec2 pc L S h) (hc : ∀ m as h (q1 q2 : am_Q), (∀ r h, q1 r h → q2 r h) → cal1 m as h q1 → cal2 m as h q2) (hQ : ∀ r h, Q1 r h → Q2 r h) (pc nx : Nat) (L : List Value) (h : am_H) (o : am_SO) (H : am_out rec1 cal1 hdl Q1 pc nx L h o) : am_out rec2 cal2 hdl Q2 pc nx L h o := by
  match o, H with
  | some (.inl (p, S, h)), H => exact hr _ _ _ _ H
  | some (.inr (.inl (c, p, S, h))), H => exact ⟨H.1, hr _ _ _ _ H.2⟩
  | some (.inr (.inr (.inl (c, p, q, S)))), H => exact ⟨fun hc => hr _ _ _ _ (H.1 hc), fun hc => hr _ _ _ _ (H.2 hc)⟩
  | some (.inr (.inr (.inr (.inl (c, r, h))))), H => exact ⟨H.1, hQ _ _ H.2⟩
  | some (.inr (.inr (.inr (.inr (c, m, as, S))))), H =>
    refine ⟨H.1, hc _ _ _ _ _ (fun r h' k => ?_) H.2⟩
    match r, k with
    | .inl none, k => exact hr _ _ _ _ k
    | .inl (some v), k => exact hr _ _ _ _ k
    | .inr E, k =>
      dsimp only at k ⊢
      cases e : hdl pc E with
      | none => rw [e] at k; exact hQ _ _ k
      | some z => rw [e] at k; exact hr _ _ _ _ k
theorem am_one_mono {xs : am_X} {code : Nat → Option (Instr × Nat)} {hdl : Nat → Nat → Option (Nat × Nat)} {rec1 rec2 : am_K} {cal1 cal2 : am_Cal} {Q1 Q2 : am_Q} (hr : ∀ pc L S h, rec1 pc L S h → rec2 pc L S h) (hc : ∀ m as h (q1 q2 : am_Q), (∀ r h, q1 r h → q2 r h) → cal1 m as h q1 → cal2 m as h q2) (hQ : ∀ r h, Q1 r h → Q2 r h) (pc : Nat) (L S : List Value) (h : am_H) (H : am_one xs code hdl rec1 cal1 Q1 pc L S h) : am_one xs code hdl rec2 cal2 Q2 pc L S h := by
  unfold am_one at H ⊢
  cases e : code pc with
  | none => rw [e] at H; exact H
  | some z =>
    rw [e] at H
    dsimp only at H ⊢
    cases e2 : am_lop z.1 L S with
    | none => rw [e2] at H; exact am_out_mono hr hc hQ _ _ _ _ _ H
    | some y =>
      rw [e2] at H
      cases y with
      | none => exact H
      | some w => exact hr _ _ _ _ H
theorem am_W_fold {xs : am_X} {code : Nat → Option (Instr × Nat)} {hdl : Nat → Nat → Option (Nat × Nat)} {cal : am_Cal} {Q : am_Q} (hc : ∀ m as h (q1 q2 : am_Q), (∀ r h, q1 r h → q2 r h) → cal m as h q1 → cal m as h q2) {pc : Nat} {L S : List Value} {h : am_H} (H : am_one xs code hdl (am_W xs code hdl cal Q) cal Q pc L S h) : am_W xs code hdl cal Q pc L S h :=
  fun P hP => hP _ _ _ _ (am_one_mono (fun _ _ _ _ w => w P hP) hc (fun _ _ q => q) _ _ _ _ H)
theorem am_W_mono {xs : am_X} {code : Nat → Option (Instr × Nat)} {hdl : Nat → Nat → Option (Nat × Nat)} {cal1 cal2 : am_Cal} {Q1 Q2 : am_Q} (hc : ∀ m as h (q1 q2 : am_Q), (∀ r h, q1 r h → q2 r h) → cal1 m as h q1 → cal2 m as h q2) (hQ : ∀ r h, Q1 r h → Q2 r h) {pc : Nat} {L S : List Value} {h : am_H} (H : am_W xs code hdl cal1 Q1 pc L S h) : am_W xs code hdl cal2 Q2 pc L S h :=
  fun P hP => H P (fun _ _ _ _ k => hP _ _ _ _ (am_one_mono (fun _ _ _ _ w => w) hc hQ _ _ _ _ k))
theorem am_C_eq (xs : am_X) (P : am_P) (d m : Nat) (as : List Value) (h : am_H) (Q : am_Q) : am_C xs P (d + 1) m as h Q = (match P m with | none => False | some (code, hdl, n) => Nat.ble (am_pad as).length n = true ∧ am_W xs code hdl (am_C xs P d) Q 0 (am_loc as n) [] h) := rfl
theorem am_C_mono {xs : am_X} {P : am_P} : ∀ (d m : Nat) (as : List Value) (h : am_H) (q1 q2 : am_Q), (∀ r h, q1 r h → q2 r h) → am_C xs P d m as h q1 → am_C xs P d m as h q2
  | 0, _, _, _, _, _, _, H => H
  | d + 1, m, as, h, q1, q2, hq, H => by
    unfold am_C at H ⊢
    cases e : P m with
    | none => rw [e] at H; exact H
    | some z => rw [e] at H; exact ⟨H.1, am_W_mono (am_C_mono d) hq H.2⟩
theorem am_C_up {xs : am_X} {P : am_P} : ∀ (d m : Nat) (as : List Value) (h : am_H) (q1 q2 : am_Q), (∀ r h, q1 r h → q2 r h) → am_C xs P d m as h q1 → am_C xs P (d + 1) m as h q2
  | 0, _, _, _, _, _, _, H => H.elim
  | d + 1, m, as, h, q1, q2, hq, H => by
    rw [am_C_eq] at H ⊢
    cases e : P m with
    | none => rw [e] at H; exact H
    | some z => rw [e] at H; exact ⟨H.1, am_W_mono (am_C_up d) hq H.2⟩
theorem am_C_le {xs : am_X} {P : am_P} {d e m : Nat} {as : List Value} {h : am_H} {q1 q2 : am_Q} (hde : d ≤ e) (H : am_C xs P d m as h q1) (hq : ∀ r h, q1 r h → q2 r h) : am_C xs P e m as h q2 := by
  induction hde with
  | refl => exact am_C_mono _ _ _ _ _ _ hq H
  | step _ ih => exact am_C_up _ _ _ _ _ _ (fun _ _ k => k) ih
theorem am_ev_W {xs : am_X} {P : am_P} {d : Nat} {code : Nat → Option (Instr × Nat)} {hdl : Nat → Nat → Option (Nat × Nat)} {Q : am_Q} {stop : Nat → Bool} : ∀ (n pc : Nat) (L S : List Value) (h : am_H), am_ev xs code hdl stop (am_W xs code hdl (am_C xs P d) Q) (am_C xs P d) Q n pc L S h → am_W xs code hdl (am_C xs P d) Q pc L S h
  | 0, _, _, _, _, H => H.elim
  | n + 1, pc, L, S, h, H => by
    rw [am_ev] at H
    cases e : stop pc with
    | true => rw [e] at H; exact H
    | false =>
      rw [e] at H
      exact am_W_fold (am_C_mono d) (am_one_mono (am_ev_W n) (am_C_mono d) (fun _ _ q => q) _ _ _ _ H)
/-- walk from here up to the stops -/
theorem am_go {xs : am_X} {P : am_P} {d : Nat} {code : Nat → Option (Instr × Nat)} {hdl : Nat → Nat → Option (Nat × Nat)} {Q : am_Q} (stop : Nat → Bool) {pc : Nat} {L S : List Value} {h : am_H}
    (H : ∀ (K : am_K) (cal : am_Cal) (Q' : am_Q), (∀ pc L S h, am_W xs code hdl (am_C xs P d) Q pc L S h → K pc L S h) → (∀ m as h q, am_C xs P d m as h q → cal m as h q) → (∀ r h, Q r h → Q' r h) → am_one xs code hdl (am_ev xs code hdl stop K cal Q' 2000) cal Q' pc L S h) : am_W xs code hdl (am_C xs P d) Q pc L S h :=
  am_W_fold (am_C_mono d) (am_one_mono (am_ev_W 2000) (am_C_mono d) (fun _ _ q => q) _ _ _ _ (H _ _ _ (fun _ _ _ _ w => w) (fun _ _ _ _ w => w) (fun _ _ q => q)))
theorem am_enter {xs : am_X} {P : am_P} {d m n : Nat} {code : Nat → Option (Instr × Nat)} {hdl : Nat → Nat → Option (Nat × Nat)} {Q : am_Q} {as : List Value} {h : am_H} (e : P m = some (code, hdl, n)) (hb : Nat.ble (am_pad as).length n = true) (H : am_W xs code hdl (am_C xs P d) Q 0 (am_loc as n) [] h) : am_C xs P (d + 1) m as h Q := by
  rw [am_C_eq, e]
  exact ⟨hb, H⟩
theorem am_use {xs : am_X} {P : am_P} {d e m : Nat} {as : List Value} {h : am_H} {q1 q2 : am_Q} {cal : am_Cal} (hC : ∀ m as h q, am_C xs P d m as h q → cal m as h q) (H : am_C xs P e m as h q1) (hde : e ≤ d) (k : ∀ r h, q1 r h → q2 r h) : cal m as h q2 := hC _ _ _ _ (am_C_le hde H k)
/-- forgetting locals -/
def am_fg : List Value → List Value → Prop
  | [], [] => True
  | x :: l, y :: k => (x = am_J ∨ x = y) ∧ am_fg l k
  | _, _ => False
end
section
/-! THE NAMES: classes, their fields, the links of the constant pools by number; written by wip/whole/gen.py out of the printed claim -/
def RX1 : String := "MultiwayCut$ExactSearch"
def TX1 : u_T := fun k => match k with
  | 0 => ("MultiwayCut$ExactSearch", "best", "[I", true)
  | 1 => ("MultiwayCut$ExactSearch", "bestCost", "I", false)
  | _ => ("MultiwayCut$ExactSearch", "trial", "[I", true)
def tyX1 : Nat → FieldType := fun k => match k with
  | 0 => .array .int
  | 1 => .int
  | _ => .array .int
theorem nmX1 : ∀ a, a < 3 → ∀ b, b < 3 → a ≠ b → (TX1 a).2.1 ≠ (TX1 b).2.1 := by decide +kernel
theorem tyX1_ok : ∀ k, k < 3 → parseFieldDescriptor (TX1 k).2.2.1 = some (tyX1 k) := by decide +kernel
def RX2 : String := "MultiwayCut$Formula"
def TX2 : u_T := fun k => match k with
  | 0 => ("MultiwayCut$Formula", "codes", "[I", true)
  | _ => ("MultiwayCut$Formula", "waiting", "[I", true)
def tyX2 : Nat → FieldType := fun k => match k with
  | 0 => .array .int
  | _ => .array .int
theorem nmX2 : ∀ a, a < 2 → ∀ b, b < 2 → a ≠ b → (TX2 a).2.1 ≠ (TX2 b).2.1 := by decide +kernel
theorem tyX2_ok : ∀ k, k < 2 → parseFieldDescriptor (TX2 k).2.2.1 = some (tyX2 k) := by decide +kernel
def RX3 : String := "MultiwayCut$Graph"
def TX3 : u_T := fun k => match k with
  | 0 => ("MultiwayCut$Graph", "vertexTotal", "I", false)
  | 1 => ("MultiwayCut$Graph", "edgeTotal", "I", false)
  | 2 => ("MultiwayCut$Graph", "terminalSet", "I", false)
  | 3 => ("MultiwayCut$Graph", "loads", "[I", true)
  | 4 => ("MultiwayCut$Graph", "labels", "[I", true)
  | 5 => ("MultiwayCut$Graph", "lowEnds", "[I", true)
  | 6 => ("MultiwayCut$Graph", "highEnds", "[I", true)
  | 7 => ("MultiwayCut$Graph", "weights", "[I", true)
  | 8 => ("MultiwayCut$Graph", "costs", "[I", true)
  | _ => ("MultiwayCut$Graph", "formula", "LMultiwayCut$Formula;", false)
def tyX3 : Nat → FieldType := fun k => match k with
  | 0 => .int
  | 1 => .int
  | 2 => .int
  | 3 => .array .int
  | 4 => .array .int
  | 5 => .array .int
  | 6 => .array .int
  | 7 => .array .int
  | 8 => .array .int
  | _ => .object "MultiwayCut$Formula"
theorem nmX3 : ∀ a, a < 10 → ∀ b, b < 10 → a ≠ b → (TX3 a).2.1 ≠ (TX3 b).2.1 := by decide +kernel
theorem tyX3_ok : ∀ k, k < 10 → parseFieldDescriptor (TX3 k).2.2.1 = some (tyX3 k) := by decide +kernel
def RX4 : String := "MultiwayCut$Grouping"
def TX4 : u_T := fun k => match k with
  | 0 => ("MultiwayCut$Grouping", "made", "I", false)
  | _ => ("MultiwayCut$Grouping", "groups", "[I", true)
def tyX4 : Nat → FieldType := fun k => match k with
  | 0 => .int
  | _ => .array .int
theorem nmX4 : ∀ a, a < 2 → ∀ b, b < 2 → a ≠ b → (TX4 a).2.1 ≠ (TX4 b).2.1 := by decide +kernel
theorem tyX4_ok : ∀ k, k < 2 → parseFieldDescriptor (TX4 k).2.2.1 = some (tyX4 k) := by decide +kernel
def RX5 : String := "MultiwayCut$History"
def TX5 : u_T := fun k => match k with
  | 0 => ("MultiwayCut$History", "saved", "[LMultiwayCut$Graph;", true)
  | 1 => ("MultiwayCut$History", "next", "I", false)
  | _ => ("MultiwayCut$History", "count", "I", false)
def tyX5 : Nat → FieldType := fun k => match k with
  | 0 => .array (.object "MultiwayCut$Graph")
  | 1 => .int
  | _ => .int
theorem nmX5 : ∀ a, a < 3 → ∀ b, b < 3 → a ≠ b → (TX5 a).2.1 ≠ (TX5 b).2.1 := by decide +kernel
theorem tyX5_ok : ∀ k, k < 3 → parseFieldDescriptor (TX5 k).2.2.1 = some (tyX5 k) := by decide +kernel
def RX6 : String := "MultiwayCut$MoveSearch"
def TX6 : u_T := fun k => match k with
  | 0 => ("MultiwayCut$MoveSearch", "vertex", "I", false)
  | 1 => ("MultiwayCut$MoveSearch", "terminal", "I", false)
  | _ => ("MultiwayCut$MoveSearch", "costThen", "I", false)
def tyX6 : Nat → FieldType := fun k => match k with
  | 0 => .int
  | 1 => .int
  | _ => .int
theorem nmX6 : ∀ a, a < 3 → ∀ b, b < 3 → a ≠ b → (TX6 a).2.1 ≠ (TX6 b).2.1 := by decide +kernel
theorem tyX6_ok : ∀ k, k < 3 → parseFieldDescriptor (TX6 k).2.2.1 = some (tyX6 k) := by decide +kernel
def RX7 : String := "MultiwayCut$NearestSearch"
def TX7 : u_T := fun k => match k with
  | 0 => ("MultiwayCut$NearestSearch", "goals", "[I", true)
  | _ => ("MultiwayCut$NearestSearch", "lengths", "[I", true)
def tyX7 : Nat → FieldType := fun k => match k with
  | 0 => .array .int
  | _ => .array .int
theorem nmX7 : ∀ a, a < 2 → ∀ b, b < 2 → a ≠ b → (TX7 a).2.1 ≠ (TX7 b).2.1 := by decide +kernel
theorem tyX7_ok : ∀ k, k < 2 → parseFieldDescriptor (TX7 k).2.2.1 = some (tyX7 k) := by decide +kernel
def RX8 : String := "MultiwayCut$SetupReader"
def TX8 : u_T := fun k => match k with
  | 0 => ("MultiwayCut$SetupReader", "graph", "LMultiwayCut$Graph;", true)
  | 1 => ("MultiwayCut$SetupReader", "errorCode", "I", false)
  | 2 => ("MultiwayCut$SetupReader", "errorStart", "I", false)
  | 3 => ("MultiwayCut$SetupReader", "text", "[B", false)
  | 4 => ("MultiwayCut$SetupReader", "length", "I", false)
  | 5 => ("MultiwayCut$SetupReader", "tokenKind", "I", false)
  | 6 => ("MultiwayCut$SetupReader", "tokenStart", "I", false)
  | 7 => ("MultiwayCut$SetupReader", "tokenEnd", "I", false)
  | 8 => ("MultiwayCut$SetupReader", "tokenValue", "I", false)
  | 9 => ("MultiwayCut$SetupReader", "loadedSet", "I", false)
  | 10 => ("MultiwayCut$SetupReader", "costSeen", "Z", false)
  | 11 => ("MultiwayCut$SetupReader", "codes", "[I", true)
  | _ => ("MultiwayCut$SetupReader", "codeTotal", "I", false)
def tyX8 : Nat → FieldType := fun k => match k with
  | 0 => .object "MultiwayCut$Graph"
  | 1 => .int
  | 2 => .int
  | 3 => .array .byte
  | 4 => .int
  | 5 => .int
  | 6 => .int
  | 7 => .int
  | 8 => .int
  | 9 => .int
  | 10 => .boolean
  | 11 => .array .int
  | _ => .int
theorem nmX8 : ∀ a, a < 13 → ∀ b, b < 13 → a ≠ b → (TX8 a).2.1 ≠ (TX8 b).2.1 := by decide +kernel
theorem tyX8_ok : ∀ k, k < 13 → parseFieldDescriptor (TX8 k).2.2.1 = some (tyX8 k) := by decide +kernel
def RX9 : String := "MultiwayCut"
def TX9 : u_T := fun k => match k with
  | 0 => ("MultiwayCut", "buffer", "[B", true)
  | 1 => ("MultiwayCut", "bufferLength", "I", false)
  | 2 => ("MultiwayCut", "errorAt", "I", false)
  | 3 => ("MultiwayCut", "graph", "LMultiwayCut$Graph;", true)
  | 4 => ("MultiwayCut", "history", "LMultiwayCut$History;", true)
  | 5 => ("MultiwayCut", "reader", "LMultiwayCut$SetupReader;", true)
  | 6 => ("MultiwayCut", "grouping", "LMultiwayCut$Grouping;", true)
  | 7 => ("MultiwayCut", "exactSearch", "LMultiwayCut$ExactSearch;", true)
  | 8 => ("MultiwayCut", "nearestSearch", "LMultiwayCut$NearestSearch;", true)
  | _ => ("MultiwayCut", "moveSearch", "LMultiwayCut$MoveSearch;", true)
def tyX9 : Nat → FieldType := fun k => match k with
  | 0 => .array .byte
  | 1 => .int
  | 2 => .int
  | 3 => .object "MultiwayCut$Graph"
  | 4 => .object "MultiwayCut$History"
  | 5 => .object "MultiwayCut$SetupReader"
  | 6 => .object "MultiwayCut$Grouping"
  | 7 => .object "MultiwayCut$ExactSearch"
  | 8 => .object "MultiwayCut$NearestSearch"
  | _ => .object "MultiwayCut$MoveSearch"
theorem nmX9 : ∀ a, a < 10 → ∀ b, b < 10 → a ≠ b → (TX9 a).2.1 ≠ (TX9 b).2.1 := by decide +kernel
theorem tyX9_ok : ∀ k, k < 10 → parseFieldDescriptor (TX9 k).2.2.1 = some (tyX9 k) := by decide +kernel
def RX10 : String := "MultiwayCutModel"
def TX10 : u_T := fun k => match k with
  | 0 => ("MultiwayCutModel", "thrown", "I", false)
  | 1 => ("MultiwayCutModel", "rows", "[I", true)
  | 2 => ("MultiwayCutModel", "read", "[I", true)
  | 3 => ("MultiwayCutModel", "now", "I", false)
  | 4 => ("MultiwayCutModel", "undoable", "I", false)
  | 5 => ("MultiwayCutModel", "text", "[I", true)
  | 6 => ("MultiwayCutModel", "hasLoad", "[Z", true)
  | 7 => ("MultiwayCutModel", "bytes", "I", false)
  | 8 => ("MultiwayCutModel", "errorAt", "I", false)
  | 9 => ("MultiwayCutModel", "size", "I", false)
  | 10 => ("MultiwayCutModel", "next", "I", false)
  | 11 => ("MultiwayCutModel", "error", "I", false)
  | 12 => ("MultiwayCutModel", "place", "I", false)
  | 13 => ("MultiwayCutModel", "began", "I", false)
  | 14 => ("MultiwayCutModel", "nested", "I", false)
  | 15 => ("MultiwayCutModel", "hasCost", "Z", false)
  | 16 => ("MultiwayCutModel", "pile", "[J", true)
  | 17 => ("MultiwayCutModel", "costs", "[I", true)
  | 18 => ("MultiwayCutModel", "cheapest", "I", false)
  | 19 => ("MultiwayCutModel", "values", "[I", true)
  | 20 => ("MultiwayCutModel", "sets", "[I", true)
  | 21 => ("MultiwayCutModel", "groups", "[I", true)
  | 22 => ("MultiwayCutModel", "roundMany", "I", false)
  | 23 => ("MultiwayCutModel", "trial", "[I", true)
  | 24 => ("MultiwayCutModel", "exactly", "[I", true)
  | 25 => ("MultiwayCutModel", "kinds", "[I", true)
  | 26 => ("MultiwayCutModel", "kindMany", "I", false)
  | 27 => ("MultiwayCutModel", "exactly0", "I", false)
  | 28 => ("MultiwayCutModel", "labels", "[I", true)
  | 29 => ("MultiwayCutModel", "far", "[I", true)
  | 30 => ("MultiwayCutModel", "nears", "[I", true)
  | 31 => ("MultiwayCutModel", "nearFar", "[I", true)
  | 32 => ("MultiwayCutModel", "moveVertex", "I", false)
  | 33 => ("MultiwayCutModel", "moveTerminal", "I", false)
  | _ => ("MultiwayCutModel", "moveCost", "I", false)
def tyX10 : Nat → FieldType := fun k => match k with
  | 0 => .int
  | 1 => .array .int
  | 2 => .array .int
  | 3 => .int
  | 4 => .int
  | 5 => .array .int
  | 6 => .array .boolean
  | 7 => .int
  | 8 => .int
  | 9 => .int
  | 10 => .int
  | 11 => .int
  | 12 => .int
  | 13 => .int
  | 14 => .int
  | 15 => .boolean
  | 16 => .array .long
  | 17 => .array .int
  | 18 => .int
  | 19 => .array .int
  | 20 => .array .int
  | 21 => .array .int
  | 22 => .int
  | 23 => .array .int
  | 24 => .array .int
  | 25 => .array .int
  | 26 => .int
  | 27 => .int
  | 28 => .array .int
  | 29 => .array .int
  | 30 => .array .int
  | 31 => .array .int
  | 32 => .int
  | 33 => .int
  | _ => .int
theorem nmX10 : ∀ a, a < 35 → ∀ b, b < 35 → a ≠ b → (TX10 a).2.1 ≠ (TX10 b).2.1 := by decide +kernel
theorem tyX10_ok : ∀ k, k < 35 → parseFieldDescriptor (TX10 k).2.2.1 = some (tyX10 k) := by decide +kernel
abbrev am_cl : List vw_C := [(RX1, TX1, 3), (RX2, TX2, 2), (RX3, TX3, 10), (RX4, TX4, 2), (RX5, TX5, 3), (RX6, TX6, 3), (RX7, TX7, 2), (RX8, TX8, 13), (RX9, TX9, 10), (RX10, TX10, 35)]
def am_cn (k : Nat) : String := match k with
  | 0 => "MultiwayCut$ExactSearch"
  | 1 => "MultiwayCut$Formula"
  | 2 => "MultiwayCut$Graph"
  | 3 => "MultiwayCut$Grouping"
  | 4 => "MultiwayCut$History"
  | 5 => "MultiwayCut$MoveSearch"
  | 6 => "MultiwayCut$NearestSearch"
  | 7 => "MultiwayCut$SetupReader"
  | 8 => "MultiwayCut"
  | 9 => "MultiwayCutModel"
  | 10 => "MultiwayCut$Cuts"
  | 11 => "MultiwayCutLaw"
  | 12 => "java/lang/Integer"
  | _ => "java/util/Arrays"
def am_tf (k : Nat) : u_T := match k with
  | 0 => TX1
  | 1 => TX2
  | 2 => TX3
  | 3 => TX4
  | 4 => TX5
  | 5 => TX6
  | 6 => TX7
  | 7 => TX8
  | 8 => TX9
  | _ => TX10
def am_ty (k : Nat) : Nat → FieldType := match k with
  | 0 => tyX1
  | 1 => tyX2
  | 2 => tyX3
  | 3 => tyX4
  | 4 => tyX5
  | 5 => tyX6
  | 6 => tyX7
  | 7 => tyX8
  | 8 => tyX9
  | _ => tyX10
def am_nf (k : Nat) : Nat := match k with
  | 0 => 3
  | 1 => 2
  | 2 => 10
  | 3 => 2
  | 4 => 3
  | 5 => 3
  | 6 => 2
  | 7 => 13
  | 8 => 10
  | _ => 35
/-- the words that hold in every method: the tables' that are kept -/
def am_TT : List Cond := lw_tbl.filter goodWord
theorem am_TT_of {w : Cond} (h : w ∈ lw_tbl) (g : goodWord w = true) : w ∈ am_TT := List.mem_filter.mpr ⟨h, g⟩
def am_fl_ : List (Nat × Nat × Nat) := [(0, 9, 0), (0, 15, 2), (0, 18, 1), (0, 35, 128), (0, 50, 129), (0, 53, 134), (0, 56, 133), (0, 59, 136), (1, 11, 65), (1, 15, 64), (2, 9, 131), (2, 15, 132), (2, 18, 133), (2, 21, 134), (2, 24, 135), (2, 27, 136), (2, 30, 128), (2, 34, 129), (2, 37, 130), (2, 40, 137), (3, 9, 193), (3, 15, 192), (3, 25, 130), (3, 32, 128), (4, 11, 256), (4, 18, 257), (4, 26, 258), (5, 9, 320), (5, 15, 321), (5, 18, 322), (5, 21, 128), (5, 30, 132), (6, 9, 384), (6, 15, 385), (6, 24, 128), (6, 28, 129), (6, 31, 133), (6, 34, 134), (7, 12, 448), (7, 18, 451), (7, 22, 459), (7, 35, 452), (7, 39, 455), (7, 42, 457), (7, 45, 458), (7, 49, 460), (7, 59, 453), (7, 83, 137), (7, 87, 128), (7, 90, 132), (7, 96, 129), (7, 137, 130), (7, 158, 131), (7, 176, 456), (7, 179, 454), (7, 190, 449), (7, 193, 450), (8, 9, 512), (8, 13, 514), (8, 20, 515), (8, 27, 516), (8, 34, 517), (8, 41, 518), (8, 48, 519), (8, 55, 520), (8, 62, 521), (8, 66, 513), (8, 84, 450), (8, 87, 449), (8, 94, 448), (8, 98, 129), (8, 101, 128), (8, 104, 130), (8, 110, 131), (8, 117, 133), (8, 120, 134), (8, 123, 135), (8, 126, 136), (8, 182, 192), (8, 191, 1), (8, 194, 0), (8, 198, 384), (8, 201, 385), (8, 204, 132), (8, 222, 320), (8, 225, 321), (8, 228, 322), (9, 7, 577), (9, 13, 578), (9, 16, 581), (9, 19, 582), (9, 23, 584), (9, 27, 592), (9, 31, 593), (9, 34, 595), (9, 37, 596), (9, 40, 597), (9, 43, 599), (9, 46, 600), (9, 49, 601), (9, 52, 604), (9, 55, 605), (9, 58, 606), (9, 61, 607), (9, 64, 576), (9, 67, 579), (9, 74, 580), (9, 77, 583), (9, 80, 587), (9, 83, 588), (9, 86, 586), (9, 89, 585), (9, 113, 589), (9, 136, 590), (9, 189, 591), (9, 240, 594), (9, 262, 598), (9, 268, 602), (9, 275, 603), (9, 323, 608), (9, 326, 609), (9, 329, 610), (10, 9, 128), (10, 21, 130), (10, 28, 129), (10, 65, 132)]
def am_cl_ : List (Nat × Nat × Nat) := [(4, 9, 138), (7, 9, 138), (7, 72, 66), (8, 17, 138), (8, 24, 259), (8, 31, 461), (8, 38, 194), (8, 45, 3), (8, 52, 386), (8, 59, 323), (11, 8, 522), (11, 94, 611)]
def am_ml_ : List (Nat × Nat × Nat) := [(0, 22, 217), (0, 31, 11), (0, 46, 12), (1, 18, 16), (1, 22, 15), (2, 44, 217), (2, 56, 20), (2, 60, 24), (2, 73, 14), (2, 79, 32), (2, 82, 33), (2, 85, 35), (3, 19, 21), (3, 28, 39), (3, 35, 22), (3, 39, 40), (3, 42, 2), (4, 22, 19), (5, 26, 21), (5, 34, 47), (5, 38, 36), (5, 42, 46), (6, 18, 21), (6, 37, 25), (6, 41, 51), (7, 26, 18), (7, 52, 70), (7, 55, 55), (7, 62, 56), (7, 65, 65), (7, 69, 54), (7, 74, 218), (7, 80, 13), (7, 93, 21), (7, 99, 27), (7, 104, 68), (7, 108, 69), (7, 111, 67), (7, 116, 57), (7, 121, 58), (7, 126, 59), (7, 131, 60), (7, 134, 61), (7, 140, 216), (7, 146, 66), (7, 150, 23), (7, 154, 26), (7, 161, 62), (7, 164, 64), (7, 167, 63), (8, 26, 42), (8, 69, 73), (8, 80, 53), (8, 90, 43), (8, 95, 19), (8, 107, 113), (8, 114, 114), (8, 129, 25), (8, 135, 22), (8, 141, 34), (8, 146, 0), (8, 152, 115), (8, 155, 4), (8, 159, 3), (8, 162, 21), (8, 166, 116), (8, 169, 5), (8, 173, 6), (8, 176, 33), (8, 179, 38), (8, 185, 41), (8, 188, 10), (8, 197, 50), (8, 207, 36), (8, 210, 35), (8, 214, 216), (8, 221, 46), (8, 236, 31), (8, 240, 7), (8, 245, 48), (8, 249, 117), (8, 252, 27), (8, 257, 23), (8, 263, 26), (8, 267, 28), (8, 272, 29), (8, 275, 30), (8, 278, 44), (8, 283, 20), (9, 70, 121), (9, 92, 127), (9, 105, 126), (9, 109, 130), (9, 123, 120), (9, 127, 134), (9, 130, 132), (9, 133, 135), (9, 139, 133), (9, 142, 129), (9, 146, 131), (9, 151, 128), (9, 159, 138), (9, 162, 136), (9, 168, 139), (9, 174, 137), (9, 179, 140), (9, 184, 141), (9, 195, 142), (9, 198, 124), (9, 202, 143), (9, 205, 123), (9, 208, 122), (9, 211, 154), (9, 217, 146), (9, 223, 150), (9, 226, 147), (9, 229, 153), (9, 232, 149), (9, 235, 151), (9, 237, 152), (9, 243, 155), (9, 246, 156), (9, 249, 157), (9, 253, 148), (9, 256, 158), (9, 259, 161), (9, 265, 162), (9, 271, 164), (9, 278, 165), (9, 281, 166), (9, 284, 169), (9, 287, 170), (9, 290, 175), (9, 295, 180), (9, 298, 159), (9, 301, 184), (9, 304, 160), (9, 307, 186), (9, 310, 163), (9, 313, 167), (9, 316, 171), (9, 319, 168), (9, 334, 201), (9, 339, 208), (9, 344, 210), (10, 15, 1), (10, 24, 21), (10, 31, 24), (10, 35, 34), (10, 38, 216), (10, 43, 22), (10, 47, 2), (10, 51, 3), (10, 55, 4), (10, 58, 5), (10, 62, 32), (10, 69, 217), (10, 75, 8), (11, 7, 74), (11, 15, 79), (11, 20, 80), (11, 24, 81), (11, 27, 82), (11, 31, 83), (11, 34, 84), (11, 37, 86), (11, 43, 87), (11, 46, 88), (11, 49, 90), (11, 52, 92), (11, 55, 93), (11, 58, 94), (11, 61, 95), (11, 64, 96), (11, 67, 101), (11, 70, 102), (11, 73, 104), (11, 76, 106), (11, 79, 107), (11, 82, 108), (11, 86, 109), (11, 89, 110), (11, 93, 71), (11, 96, 118), (11, 97, 72), (11, 101, 125), (11, 102, 219), (11, 107, 144), (11, 108, 119), (11, 111, 75), (11, 114, 145), (11, 115, 76), (11, 118, 172), (11, 119, 77), (11, 122, 173), (11, 123, 78), (11, 126, 174), (11, 127, 220), (11, 129, 176), (11, 130, 221), (11, 133, 177), (11, 134, 222), (11, 136, 178), (11, 137, 223), (11, 139, 179), (11, 140, 224), (11, 142, 181), (11, 143, 225), (11, 145, 182), (11, 146, 85), (11, 149, 183), (11, 150, 226), (11, 153, 185), (11, 154, 227), (11, 156, 187), (11, 157, 228), (11, 159, 188), (11, 160, 89), (11, 163, 189), (11, 164, 229), (11, 166, 190), (11, 167, 91), (11, 170, 191), (11, 171, 230), (11, 173, 192), (11, 174, 231), (11, 176, 193), (11, 177, 232), (11, 179, 194), (11, 180, 233), (11, 182, 195), (11, 183, 234), (11, 185, 196), (11, 186, 97), (11, 189, 197), (11, 190, 98), (11, 193, 198), (11, 194, 99), (11, 198, 199), (11, 199, 100), (11, 202, 200), (11, 203, 235), (11, 205, 202), (11, 206, 236), (11, 208, 203), (11, 209, 103), (11, 212, 204), (11, 213, 237), (11, 215, 205), (11, 216, 105), (11, 219, 206), (11, 220, 238), (11, 222, 207), (11, 223, 239), (11, 225, 209), (11, 226, 240), (11, 229, 211), (11, 230, 241), (11, 232, 212), (11, 233, 242), (11, 236, 213), (11, 237, 111), (11, 240, 214), (11, 241, 112), (11, 245, 215)]
def am_nl_ : List (Nat × Nat × Nat) := [(4, 17, 17), (7, 11, 17), (8, 19, 17), (8, 33, 52), (8, 40, 37), (8, 47, 9), (8, 54, 49), (8, 61, 45)]
def am_ol_ : List (Nat × Nat) := [(0, 3), (1, 3), (2, 3), (3, 3), (4, 3), (5, 3), (6, 3), (7, 3), (8, 1), (9, 1)]
def am_il_ : List (Nat × Nat × Int) := [(0, 30, 2147483647), (7, 196, 100000), (9, 116, 1000000), (9, 239, 1000000000), (12, 265, 1431655765), (12, 266, 858993459), (12, 267, 252645135)]
def am_ll_ : List (Nat × Nat × Int) := [(1, 26, -1000000), (1, 28, 1000000), (8, 281, 31), (9, 215, 1000000), (9, 221, 9999), (9, 293, 4), (9, 332, 2), (9, 337, 20), (9, 342, 99), (9, 347, 31)]
def am_ff_ : List (Nat × Nat × Nat) := [(8, 213, 3212836864), (9, 322, 3212836864)]
abbrev am_I : Type := MethodName × Nat × ByteArray × Nat × Option FieldType × List (Nat × Nat × Nat × Nat) × Nat
def am_i_Cu_keepsApart : am_I := (⟨"MultiwayCut$Cuts", "keepsApart", "(LMultiwayCut$Graph;I)Z"⟩, 10, prog_2_method_2_code, 4, (some .boolean), [], 1)
def am_i_Cu_reachedFrom : am_I := (⟨"MultiwayCut$Cuts", "reachedFrom", "(LMultiwayCut$Graph;II)I"⟩, 10, prog_2_method_3_code, 7, (some .int), [], 1)
def am_i_Cu_cheapestSet : am_I := (⟨"MultiwayCut$Cuts", "cheapestSet", "(LMultiwayCut$Graph;IIZ)I"⟩, 10, prog_2_method_4_code, 10, (some .int), [], 1)
def am_i_Cu_setOf : am_I := (⟨"MultiwayCut$Cuts", "setOf", "(LMultiwayCut$Graph;I)I"⟩, 10, prog_2_method_5_code, 3, (some .int), [], 1)
def am_i_Cu_valueOf : am_I := (⟨"MultiwayCut$Cuts", "valueOf", "(LMultiwayCut$Graph;I)I"⟩, 10, prog_2_method_6_code, 2, (some .int), [], 1)
def am_i_Cu_dearestOf : am_I := (⟨"MultiwayCut$Cuts", "dearestOf", "(LMultiwayCut$Graph;)I"⟩, 10, prog_2_method_7_code, 5, (some .int), [], 1)
def am_i_Cu_unionOf : am_I := (⟨"MultiwayCut$Cuts", "unionOf", "(LMultiwayCut$Graph;)I"⟩, 10, prog_2_method_8_code, 4, (some .int), [], 1)
def am_i_Cu_labelByUnion : am_I := (⟨"MultiwayCut$Cuts", "labelByUnion", "(LMultiwayCut$Graph;)V"⟩, 10, prog_2_method_9_code, 3, none, [], 1)
def am_i_Cu_labelSet : am_I := (⟨"MultiwayCut$Cuts", "labelSet", "(LMultiwayCut$Graph;II)V"⟩, 10, prog_2_method_10_code, 4, none, [], 1)
def am_i_Ex_init : am_I := (⟨"MultiwayCut$ExactSearch", "<init>", "()V"⟩, 0, prog_3_method_1_code, 1, none, [], 2)
def am_i_Ex_run : am_I := (⟨"MultiwayCut$ExactSearch", "run", "(LMultiwayCut$Graph;I)V"⟩, 0, prog_3_method_2_code, 3, none, [], 0)
def am_i_Ex_extend : am_I := (⟨"MultiwayCut$ExactSearch", "extend", "(LMultiwayCut$ExactSearch;LMultiwayCut$Graph;III)V"⟩, 0, prog_3_method_3_code, 8, none, [], 1)
def am_i_Ex_costToEarlier : am_I := (⟨"MultiwayCut$ExactSearch", "costToEarlier", "(LMultiwayCut$Graph;I)I"⟩, 0, prog_3_method_4_code, 5, (some .int), [], 0)
def am_i_Fo_init : am_I := (⟨"MultiwayCut$Formula", "<init>", "([I)V"⟩, 1, prog_4_method_1_code, 2, none, [], 2)
def am_i_Fo_evaluate : am_I := (⟨"MultiwayCut$Formula", "evaluate", "(III)I"⟩, 1, prog_4_method_2_code, 7, (some .int), [], 0)
def am_i_Fo_operand : am_I := (⟨"MultiwayCut$Formula", "operand", "(IIII)I"⟩, 1, prog_4_method_3_code, 4, (some .int), [], 1)
def am_i_Fo_combine : am_I := (⟨"MultiwayCut$Formula", "combine", "(III)I"⟩, 1, prog_4_method_4_code, 5, (some .int), [], 1)
def am_i_Gr_init : am_I := (⟨"MultiwayCut$Graph", "<init>", "()V"⟩, 2, prog_5_method_1_code, 1, none, [], 2)
def am_i_Gr_clear : am_I := (⟨"MultiwayCut$Graph", "clear", "()V"⟩, 2, prog_5_method_2_code, 1, none, [], 0)
def am_i_Gr_copyFrom : am_I := (⟨"MultiwayCut$Graph", "copyFrom", "(LMultiwayCut$Graph;)V"⟩, 2, prog_5_method_3_code, 2, none, [], 0)
def am_i_Gr_hasVertex : am_I := (⟨"MultiwayCut$Graph", "hasVertex", "(I)Z"⟩, 2, prog_5_method_4_code, 2, (some .boolean), [], 0)
def am_i_Gr_isTerminal : am_I := (⟨"MultiwayCut$Graph", "isTerminal", "(I)Z"⟩, 2, prog_5_method_5_code, 2, (some .boolean), [], 0)
def am_i_Gr_allVertices : am_I := (⟨"MultiwayCut$Graph", "allVertices", "()I"⟩, 2, prog_5_method_6_code, 1, (some .int), [], 0)
def am_i_Gr_hasEdgeBetween : am_I := (⟨"MultiwayCut$Graph", "hasEdgeBetween", "(II)Z"⟩, 2, prog_5_method_7_code, 5, (some .boolean), [], 0)
def am_i_Gr_endsOf : am_I := (⟨"MultiwayCut$Graph", "endsOf", "(I)I"⟩, 2, prog_5_method_8_code, 2, (some .int), [], 0)
def am_i_Gr_lengthOf : am_I := (⟨"MultiwayCut$Graph", "lengthOf", "(I)I"⟩, 2, prog_5_method_9_code, 2, (some .int), [], 0)
def am_i_Gr_putEdge : am_I := (⟨"MultiwayCut$Graph", "putEdge", "(III)V"⟩, 2, prog_5_method_10_code, 4, none, [], 0)
def am_i_Gr_updateCost : am_I := (⟨"MultiwayCut$Graph", "updateCost", "(I)V"⟩, 2, prog_5_method_11_code, 3, none, [], 0)
def am_i_Gr_dropEdge : am_I := (⟨"MultiwayCut$Graph", "dropEdge", "(I)V"⟩, 2, prog_5_method_12_code, 3, none, [], 0)
def am_i_Gr_startTerminal : am_I := (⟨"MultiwayCut$Graph", "startTerminal", "(I)V"⟩, 2, prog_5_method_13_code, 2, none, [], 0)
def am_i_Gr_endTerminal : am_I := (⟨"MultiwayCut$Graph", "endTerminal", "(I)V"⟩, 2, prog_5_method_14_code, 3, none, [], 0)
def am_i_Gr_takeLabels : am_I := (⟨"MultiwayCut$Graph", "takeLabels", "([I)V"⟩, 2, prog_5_method_15_code, 3, none, [], 0)
def am_i_Gr_borderOf : am_I := (⟨"MultiwayCut$Graph", "borderOf", "(I)I"⟩, 2, prog_5_method_16_code, 4, (some .int), [], 0)
def am_i_Gr_costOfEdges : am_I := (⟨"MultiwayCut$Graph", "costOfEdges", "(I)I"⟩, 2, prog_5_method_17_code, 4, (some .int), [], 0)
def am_i_Gr_costOfSet : am_I := (⟨"MultiwayCut$Graph", "costOfSet", "(I)I"⟩, 2, prog_5_method_18_code, 2, (some .int), [], 0)
def am_i_Gr_presentCut : am_I := (⟨"MultiwayCut$Graph", "presentCut", "()I"⟩, 2, prog_5_method_19_code, 3, (some .int), [], 0)
def am_i_Gr_presentCost : am_I := (⟨"MultiwayCut$Graph", "presentCost", "()I"⟩, 2, prog_5_method_20_code, 1, (some .int), [], 0)
def am_i_Gp_init : am_I := (⟨"MultiwayCut$Grouping", "<init>", "()V"⟩, 3, prog_6_method_1_code, 1, none, [], 2)
def am_i_Gp_run : am_I := (⟨"MultiwayCut$Grouping", "run", "(LMultiwayCut$Graph;)V"⟩, 3, prog_6_method_2_code, 3, none, [], 0)
def am_i_Gp_makeRound : am_I := (⟨"MultiwayCut$Grouping", "makeRound", "(LMultiwayCut$Graph;)Z"⟩, 3, prog_6_method_3_code, 6, (some .boolean), [], 0)
def am_i_Gp_grouped : am_I := (⟨"MultiwayCut$Grouping", "grouped", "()I"⟩, 3, prog_6_method_4_code, 3, (some .int), [], 0)
def am_i_Gp_ownerOf : am_I := (⟨"MultiwayCut$Grouping", "ownerOf", "(I)I"⟩, 3, prog_6_method_5_code, 3, (some .int), [], 0)
def am_i_Hi_init : am_I := (⟨"MultiwayCut$History", "<init>", "()V"⟩, 4, prog_7_method_1_code, 2, none, [], 2)
def am_i_Hi_save : am_I := (⟨"MultiwayCut$History", "save", "(LMultiwayCut$Graph;)V"⟩, 4, prog_7_method_2_code, 2, none, [], 0)
def am_i_Hi_restore : am_I := (⟨"MultiwayCut$History", "restore", "(LMultiwayCut$Graph;)I"⟩, 4, prog_7_method_3_code, 2, (some .int), [], 0)
def am_i_Mv_init : am_I := (⟨"MultiwayCut$MoveSearch", "<init>", "()V"⟩, 5, prog_8_method_1_code, 1, none, [], 2)
def am_i_Mv_run : am_I := (⟨"MultiwayCut$MoveSearch", "run", "(LMultiwayCut$Graph;)V"⟩, 5, prog_8_method_2_code, 4, none, [], 0)
def am_i_Mv_consider : am_I := (⟨"MultiwayCut$MoveSearch", "consider", "(LMultiwayCut$Graph;II)V"⟩, 5, prog_8_method_3_code, 6, none, [], 0)
def am_i_Mv_makeImprovement : am_I := (⟨"MultiwayCut$MoveSearch", "makeImprovement", "(LMultiwayCut$Graph;)Z"⟩, 5, prog_8_method_4_code, 2, (some .boolean), [], 0)
def am_i_Ne_init : am_I := (⟨"MultiwayCut$NearestSearch", "<init>", "()V"⟩, 6, prog_9_method_1_code, 1, none, [], 2)
def am_i_Ne_run : am_I := (⟨"MultiwayCut$NearestSearch", "run", "(LMultiwayCut$Graph;)V"⟩, 6, prog_9_method_2_code, 4, none, [], 0)
def am_i_Ne_offer : am_I := (⟨"MultiwayCut$NearestSearch", "offer", "(III)V"⟩, 6, prog_9_method_3_code, 6, none, [], 0)
def am_i_Rd_init : am_I := (⟨"MultiwayCut$SetupReader", "<init>", "()V"⟩, 7, prog_10_method_1_code, 1, none, [], 2)
def am_i_Rd_read : am_I := (⟨"MultiwayCut$SetupReader", "read", "([BI)Z"⟩, 7, prog_10_method_2_code, 5, (some .boolean), [], 0)
def am_i_Rd_finish : am_I := (⟨"MultiwayCut$SetupReader", "finish", "()V"⟩, 7, prog_10_method_3_code, 2, none, [], 0)
def am_i_Rd_readGraph : am_I := (⟨"MultiwayCut$SetupReader", "readGraph", "()Z"⟩, 7, prog_10_method_4_code, 2, (some .boolean), [], 0)
def am_i_Rd_readStatement : am_I := (⟨"MultiwayCut$SetupReader", "readStatement", "()Z"⟩, 7, prog_10_method_5_code, 1, (some .boolean), [], 0)
def am_i_Rd_readTerminal : am_I := (⟨"MultiwayCut$SetupReader", "readTerminal", "()Z"⟩, 7, prog_10_method_6_code, 2, (some .boolean), [], 0)
def am_i_Rd_readEdge : am_I := (⟨"MultiwayCut$SetupReader", "readEdge", "()Z"⟩, 7, prog_10_method_7_code, 4, (some .boolean), [], 0)
def am_i_Rd_readLoad : am_I := (⟨"MultiwayCut$SetupReader", "readLoad", "()Z"⟩, 7, prog_10_method_8_code, 3, (some .boolean), [], 0)
def am_i_Rd_startCost : am_I := (⟨"MultiwayCut$SetupReader", "startCost", "()Z"⟩, 7, prog_10_method_9_code, 1, (some .boolean), [], 0)
def am_i_Rd_readSum : am_I := (⟨"MultiwayCut$SetupReader", "readSum", "(I)Z"⟩, 7, prog_10_method_10_code, 5, (some .boolean), [], 0)
def am_i_Rd_readTerm : am_I := (⟨"MultiwayCut$SetupReader", "readTerm", "(I)Z"⟩, 7, prog_10_method_11_code, 5, (some .boolean), [], 0)
def am_i_Rd_readFactor : am_I := (⟨"MultiwayCut$SetupReader", "readFactor", "(I)Z"⟩, 7, prog_10_method_12_code, 3, (some .boolean), [], 0)
def am_i_Rd_putCode : am_I := (⟨"MultiwayCut$SetupReader", "putCode", "(I)V"⟩, 7, prog_10_method_13_code, 2, none, [], 0)
def am_i_Rd_readSymbol : am_I := (⟨"MultiwayCut$SetupReader", "readSymbol", "(I)Z"⟩, 7, prog_10_method_14_code, 2, (some .boolean), [], 0)
def am_i_Rd_vertexHere : am_I := (⟨"MultiwayCut$SetupReader", "vertexHere", "()I"⟩, 7, prog_10_method_15_code, 1, (some .int), [], 0)
def am_i_Rd_numberHere : am_I := (⟨"MultiwayCut$SetupReader", "numberHere", "(II)I"⟩, 7, prog_10_method_16_code, 3, (some .int), [], 0)
def am_i_Rd_isWord : am_I := (⟨"MultiwayCut$SetupReader", "isWord", "(Ljava/lang/String;)Z"⟩, 7, prog_10_method_17_code, 3, (some .boolean), [], 0)
def am_i_Rd_fail : am_I := (⟨"MultiwayCut$SetupReader", "fail", "(I)Z"⟩, 7, prog_10_method_18_code, 2, (some .boolean), [], 0)
def am_i_Rd_advance : am_I := (⟨"MultiwayCut$SetupReader", "advance", "()V"⟩, 7, prog_10_method_19_code, 2, none, [], 0)
def am_i_Mc_init : am_I := (⟨"MultiwayCut", "<init>", "()V"⟩, 8, prog_1_method_1_code, 1, none, [], 2)
def am_i_Mc_append : am_I := (⟨"MultiwayCut", "append", "(IIIII)I"⟩, 8, prog_1_method_2_code, 6, (some .int), [], 0)
def am_i_Mc_putWord : am_I := (⟨"MultiwayCut", "putWord", "(I)V"⟩, 8, prog_1_method_3_code, 3, none, [], 0)
def am_i_Mc_load : am_I := (⟨"MultiwayCut", "load", "(I)I"⟩, 8, prog_1_method_4_code, 3, (some .int), [], 0)
def am_i_Mc_errorOffset : am_I := (⟨"MultiwayCut", "errorOffset", "()I"⟩, 8, prog_1_method_5_code, 1, (some .int), [], 0)
def am_i_Mc_size : am_I := (⟨"MultiwayCut", "size", "()I"⟩, 8, prog_1_method_6_code, 1, (some .int), [], 0)
def am_i_Mc_edgeCount : am_I := (⟨"MultiwayCut", "edgeCount", "()I"⟩, 8, prog_1_method_7_code, 1, (some .int), [], 0)
def am_i_Mc_terminals : am_I := (⟨"MultiwayCut", "terminals", "()I"⟩, 8, prog_1_method_8_code, 1, (some .int), [], 0)
def am_i_Mc_burden : am_I := (⟨"MultiwayCut", "burden", "(I)I"⟩, 8, prog_1_method_9_code, 2, (some .int), [], 0)
def am_i_Mc_edge : am_I := (⟨"MultiwayCut", "edge", "(II)I"⟩, 8, prog_1_method_10_code, 3, (some .int), [], 0)
def am_i_Mc_cutCost : am_I := (⟨"MultiwayCut", "cutCost", "(I)I"⟩, 8, prog_1_method_11_code, 2, (some .int), [], 0)
def am_i_Mc_separates : am_I := (⟨"MultiwayCut", "separates", "(I)Z"⟩, 8, prog_1_method_12_code, 2, (some .boolean), [], 0)
def am_i_Mc_isolatingValue : am_I := (⟨"MultiwayCut", "isolatingValue", "(I)I"⟩, 8, prog_1_method_13_code, 2, (some .int), [], 0)
def am_i_Mc_isolatingSet : am_I := (⟨"MultiwayCut", "isolatingSet", "(I)I"⟩, 8, prog_1_method_14_code, 2, (some .int), [], 0)
def am_i_Mc_lowerBound : am_I := (⟨"MultiwayCut", "lowerBound", "()I"⟩, 8, prog_1_method_15_code, 3, (some .int), [], 0)
def am_i_Mc_dearest : am_I := (⟨"MultiwayCut", "dearest", "()I"⟩, 8, prog_1_method_16_code, 1, (some .int), [], 0)
def am_i_Mc_unionCut : am_I := (⟨"MultiwayCut", "unionCut", "()I"⟩, 8, prog_1_method_17_code, 1, (some .int), [], 0)
def am_i_Mc_unionCost : am_I := (⟨"MultiwayCut", "unionCost", "()I"⟩, 8, prog_1_method_18_code, 1, (some .int), [], 0)
def am_i_Mc_rounds : am_I := (⟨"MultiwayCut", "rounds", "()I"⟩, 8, prog_1_method_19_code, 1, (some .int), [], 0)
def am_i_Mc_fixed : am_I := (⟨"MultiwayCut", "fixed", "(I)I"⟩, 8, prog_1_method_20_code, 2, (some .int), [], 0)
def am_i_Mc_exactCost : am_I := (⟨"MultiwayCut", "exactCost", "()I"⟩, 8, prog_1_method_21_code, 1, (some .int), [], 0)
def am_i_Mc_exact : am_I := (⟨"MultiwayCut", "exact", "(I)I"⟩, 8, prog_1_method_22_code, 2, (some .int), [], 0)
def am_i_Mc_price : am_I := (⟨"MultiwayCut", "price", "(I)I"⟩, 8, prog_1_method_23_code, 3, (some .int), [], 0)
def am_i_Mc_nearest : am_I := (⟨"MultiwayCut", "nearest", "(I)I"⟩, 8, prog_1_method_24_code, 2, (some .int), [], 0)
def am_i_Mc_distance : am_I := (⟨"MultiwayCut", "distance", "(I)I"⟩, 8, prog_1_method_25_code, 2, (some .int), [], 0)
def am_i_Mc_label : am_I := (⟨"MultiwayCut", "label", "(I)I"⟩, 8, prog_1_method_26_code, 2, (some .int), [], 0)
def am_i_Mc_cost : am_I := (⟨"MultiwayCut", "cost", "()I"⟩, 8, prog_1_method_27_code, 1, (some .int), [], 0)
def am_i_Mc_cut : am_I := (⟨"MultiwayCut", "cut", "()I"⟩, 8, prog_1_method_28_code, 1, (some .int), [], 0)
def am_i_Mc_ratio : am_I := (⟨"MultiwayCut", "ratio", "()F"⟩, 8, prog_1_method_29_code, 3, (some .float), [], 0)
def am_i_Mc_meanCost : am_I := (⟨"MultiwayCut", "meanCost", "()F"⟩, 8, prog_1_method_30_code, 5, (some .float), [], 0)
def am_i_Mc_bestMove : am_I := (⟨"MultiwayCut", "bestMove", "(I)I"⟩, 8, prog_1_method_31_code, 2, (some .int), [], 0)
def am_i_Mc_setLabel : am_I := (⟨"MultiwayCut", "setLabel", "(II)I"⟩, 8, prog_1_method_32_code, 3, (some .int), [], 0)
def am_i_Mc_useNearest : am_I := (⟨"MultiwayCut", "useNearest", "()I"⟩, 8, prog_1_method_33_code, 1, (some .int), [], 0)
def am_i_Mc_useUnion : am_I := (⟨"MultiwayCut", "useUnion", "()I"⟩, 8, prog_1_method_34_code, 1, (some .int), [], 0)
def am_i_Mc_useExact : am_I := (⟨"MultiwayCut", "useExact", "()I"⟩, 8, prog_1_method_35_code, 1, (some .int), [], 0)
def am_i_Mc_improve : am_I := (⟨"MultiwayCut", "improve", "(I)I"⟩, 8, prog_1_method_36_code, 3, (some .int), [], 0)
def am_i_Mc_setWeight : am_I := (⟨"MultiwayCut", "setWeight", "(II)I"⟩, 8, prog_1_method_37_code, 4, (some .int), [], 0)
def am_i_Mc_addEdge : am_I := (⟨"MultiwayCut", "addEdge", "(III)I"⟩, 8, prog_1_method_38_code, 4, (some .int), [], 0)
def am_i_Mc_removeEdge : am_I := (⟨"MultiwayCut", "removeEdge", "(I)I"⟩, 8, prog_1_method_39_code, 2, (some .int), [], 0)
def am_i_Mc_setTerminal : am_I := (⟨"MultiwayCut", "setTerminal", "(IZ)I"⟩, 8, prog_1_method_40_code, 4, (some .int), [], 0)
def am_i_Mc_undo : am_I := (⟨"MultiwayCut", "undo", "()I"⟩, 8, prog_1_method_41_code, 1, (some .int), [], 0)
def am_i_Mc_checksum : am_I := (⟨"MultiwayCut", "checksum", "()J"⟩, 8, prog_1_method_42_code, 4, (some .long), [], 0)
def am_i_Mc_requireVertex : am_I := (⟨"MultiwayCut", "requireVertex", "(I)V"⟩, 8, prog_1_method_43_code, 2, none, [], 0)
def am_i_Mc_requireEdge : am_I := (⟨"MultiwayCut", "requireEdge", "(I)V"⟩, 8, prog_1_method_44_code, 2, none, [], 0)
def am_i_Mc_requireTerminal : am_I := (⟨"MultiwayCut", "requireTerminal", "(I)V"⟩, 8, prog_1_method_45_code, 2, none, [], 0)
def am_i_Mc_requireSomeTerminal : am_I := (⟨"MultiwayCut", "requireSomeTerminal", "()V"⟩, 8, prog_1_method_46_code, 1, none, [], 0)
def am_i_Mc_requireWeight : am_I := (⟨"MultiwayCut", "requireWeight", "(I)V"⟩, 8, prog_1_method_47_code, 2, none, [], 0)
def am_i_Mo_init : am_I := (⟨"MultiwayCutModel", "<init>", "()V"⟩, 9, prog_12_method_1_code, 1, none, [], 2)
def am_i_Mo_thrown : am_I := (⟨"MultiwayCutModel", "thrown", "()I"⟩, 9, prog_12_method_2_code, 1, (some .int), [], 0)
def am_i_Mo_isIn : am_I := (⟨"MultiwayCutModel", "isIn", "(JJJ)Z"⟩, 9, prog_12_method_3_code, 6, (some .boolean), [], 1)
def am_i_Mo_get : am_I := (⟨"MultiwayCutModel", "get", "(I)I"⟩, 9, prog_12_method_4_code, 2, (some .int), [], 0)
def am_i_Mo_put : am_I := (⟨"MultiwayCutModel", "put", "(II)V"⟩, 9, prog_12_method_5_code, 3, none, [], 0)
def am_i_Mo_change : am_I := (⟨"MultiwayCutModel", "change", "()V"⟩, 9, prog_12_method_6_code, 3, none, [], 0)
def am_i_Mo_right : am_I := (⟨"MultiwayCutModel", "right", "(ZI)Z"⟩, 9, prog_12_method_7_code, 3, (some .boolean), [], 0)
def am_i_Mo_append : am_I := (⟨"MultiwayCutModel", "append", "(IIIII)I"⟩, 9, prog_12_method_8_code, 8, (some .int), [], 0)
def am_i_Mo_fails : am_I := (⟨"MultiwayCutModel", "fails", "(II)V"⟩, 9, prog_12_method_9_code, 3, none, [], 0)
def am_i_Mo_sees : am_I := (⟨"MultiwayCutModel", "sees", "()I"⟩, 9, prog_12_method_10_code, 1, (some .int), [], 0)
def am_i_Mo_takes : am_I := (⟨"MultiwayCutModel", "takes", "(Ljava/lang/String;)Z"⟩, 9, prog_12_method_11_code, 5, (some .boolean), [], 0)
def am_i_Mo_wants : am_I := (⟨"MultiwayCutModel", "wants", "(I)V"⟩, 9, prog_12_method_12_code, 2, none, [], 0)
def am_i_Mo_isDigit : am_I := (⟨"MultiwayCutModel", "isDigit", "()Z"⟩, 9, prog_12_method_13_code, 1, (some .boolean), [], 0)
def am_i_Mo_reads : am_I := (⟨"MultiwayCutModel", "reads", "(II)I"⟩, 9, prog_12_method_14_code, 4, (some .int), [], 0)
def am_i_Mo_codes : am_I := (⟨"MultiwayCutModel", "codes", "(II)V"⟩, 9, prog_12_method_15_code, 4, none, [], 0)
def am_i_Mo_sum : am_I := (⟨"MultiwayCutModel", "sum", "()V"⟩, 9, prog_12_method_16_code, 2, none, [], 0)
def am_i_Mo_term : am_I := (⟨"MultiwayCutModel", "term", "()V"⟩, 9, prog_12_method_17_code, 2, none, [], 0)
def am_i_Mo_factor : am_I := (⟨"MultiwayCutModel", "factor", "()V"⟩, 9, prog_12_method_18_code, 2, none, [], 0)
def am_i_Mo_readsVertex : am_I := (⟨"MultiwayCutModel", "readsVertex", "()I"⟩, 9, prog_12_method_19_code, 1, (some .int), [], 0)
def am_i_Mo_terminalLine : am_I := (⟨"MultiwayCutModel", "terminalLine", "(I)V"⟩, 9, prog_12_method_20_code, 3, none, [], 0)
def am_i_Mo_bitsOf : am_I := (⟨"MultiwayCutModel", "bitsOf", "(I)I"⟩, 9, prog_12_method_21_code, 3, (some .int), [], 1)
def am_i_Mo_isJoined : am_I := (⟨"MultiwayCutModel", "isJoined", "(II)Z"⟩, 9, prog_12_method_22_code, 4, (some .boolean), [], 0)
def am_i_Mo_edgeLine : am_I := (⟨"MultiwayCutModel", "edgeLine", "(I)V"⟩, 9, prog_12_method_23_code, 6, none, [], 0)
def am_i_Mo_loadLine : am_I := (⟨"MultiwayCutModel", "loadLine", "()V"⟩, 9, prog_12_method_24_code, 3, none, [], 0)
def am_i_Mo_statement : am_I := (⟨"MultiwayCutModel", "statement", "()V"⟩, 9, prog_12_method_25_code, 2, none, [], 0)
def am_i_Mo_texts : am_I := (⟨"MultiwayCutModel", "texts", "()V"⟩, 9, prog_12_method_26_code, 2, none, [], 0)
def am_i_Mo_load : am_I := (⟨"MultiwayCutModel", "load", "(I)I"⟩, 9, prog_12_method_27_code, 3, (some .int), [], 0)
def am_i_Mo_errorOffset : am_I := (⟨"MultiwayCutModel", "errorOffset", "()I"⟩, 9, prog_12_method_28_code, 1, (some .int), [], 0)
def am_i_Mo_within : am_I := (⟨"MultiwayCutModel", "within", "(JJ)J"⟩, 9, prog_12_method_29_code, 4, (some .long), [], 1)
def am_i_Mo_costOf : am_I := (⟨"MultiwayCutModel", "costOf", "(I)I"⟩, 9, prog_12_method_30_code, 11, (some .int), [], 0)
def am_i_Mo_laysCosts : am_I := (⟨"MultiwayCutModel", "laysCosts", "()V"⟩, 9, prog_12_method_31_code, 2, none, [], 0)
def am_i_Mo_count : am_I := (⟨"MultiwayCutModel", "count", "()I"⟩, 9, prog_12_method_32_code, 1, (some .int), [], 0)
def am_i_Mo_edges : am_I := (⟨"MultiwayCutModel", "edges", "()I"⟩, 9, prog_12_method_33_code, 1, (some .int), [], 0)
def am_i_Mo_low : am_I := (⟨"MultiwayCutModel", "low", "(I)I"⟩, 9, prog_12_method_34_code, 2, (some .int), [], 0)
def am_i_Mo_high : am_I := (⟨"MultiwayCutModel", "high", "(I)I"⟩, 9, prog_12_method_35_code, 2, (some .int), [], 0)
def am_i_Mo_has : am_I := (⟨"MultiwayCutModel", "has", "(II)Z"⟩, 9, prog_12_method_36_code, 2, (some .boolean), [], 1)
def am_i_Mo_isTerminal : am_I := (⟨"MultiwayCutModel", "isTerminal", "(I)Z"⟩, 9, prog_12_method_37_code, 2, (some .boolean), [], 0)
def am_i_Mo_all : am_I := (⟨"MultiwayCutModel", "all", "()I"⟩, 9, prog_12_method_38_code, 1, (some .int), [], 0)
def am_i_Mo_cutOf : am_I := (⟨"MultiwayCutModel", "cutOf", "(I)I"⟩, 9, prog_12_method_39_code, 4, (some .int), [], 0)
def am_i_Mo_bestSet : am_I := (⟨"MultiwayCutModel", "bestSet", "(IIZ)I"⟩, 9, prog_12_method_40_code, 8, (some .int), [], 0)
def am_i_Mo_isolating : am_I := (⟨"MultiwayCutModel", "isolating", "(I)I"⟩, 9, prog_12_method_41_code, 2, (some .int), [], 0)
def am_i_Mo_laysIsolating : am_I := (⟨"MultiwayCutModel", "laysIsolating", "()V"⟩, 9, prog_12_method_42_code, 2, none, [], 0)
def am_i_Mo_dearestNow : am_I := (⟨"MultiwayCutModel", "dearestNow", "()I"⟩, 9, prog_12_method_43_code, 3, (some .int), [], 0)
def am_i_Mo_othersOf : am_I := (⟨"MultiwayCutModel", "othersOf", "(I)I"⟩, 9, prog_12_method_44_code, 4, (some .int), [], 0)
def am_i_Mo_goesRound : am_I := (⟨"MultiwayCutModel", "goesRound", "()Z"⟩, 9, prog_12_method_45_code, 4, (some .boolean), [], 0)
def am_i_Mo_laysGroups : am_I := (⟨"MultiwayCutModel", "laysGroups", "()V"⟩, 9, prog_12_method_46_code, 2, none, [], 0)
def am_i_Mo_costBy : am_I := (⟨"MultiwayCutModel", "costBy", "([I)I"⟩, 9, prog_12_method_47_code, 4, (some .int), [], 0)
def am_i_Mo_goesOn : am_I := (⟨"MultiwayCutModel", "goesOn", "(I)Z"⟩, 9, prog_12_method_48_code, 4, (some .boolean), [], 0)
def am_i_Mo_laysExact : am_I := (⟨"MultiwayCutModel", "laysExact", "(I)I"⟩, 9, prog_12_method_49_code, 4, (some .int), [], 0)
def am_i_Mo_exactNow : am_I := (⟨"MultiwayCutModel", "exactNow", "()I"⟩, 9, prog_12_method_50_code, 1, (some .int), [], 0)
def am_i_Mo_costNow : am_I := (⟨"MultiwayCutModel", "costNow", "()I"⟩, 9, prog_12_method_51_code, 2, (some .int), [], 0)
def am_i_Mo_lengthOf : am_I := (⟨"MultiwayCutModel", "lengthOf", "(I)I"⟩, 9, prog_12_method_52_code, 2, (some .int), [], 0)
def am_i_Mo_laysFar : am_I := (⟨"MultiwayCutModel", "laysFar", "(I)V"⟩, 9, prog_12_method_53_code, 6, none, [], 0)
def am_i_Mo_laysNear : am_I := (⟨"MultiwayCutModel", "laysNear", "()V"⟩, 9, prog_12_method_54_code, 3, none, [], 0)
def am_i_Mo_size : am_I := (⟨"MultiwayCutModel", "size", "()I"⟩, 9, prog_12_method_55_code, 1, (some .int), [], 0)
def am_i_Mo_edgeCount : am_I := (⟨"MultiwayCutModel", "edgeCount", "()I"⟩, 9, prog_12_method_56_code, 1, (some .int), [], 0)
def am_i_Mo_terminals : am_I := (⟨"MultiwayCutModel", "terminals", "()I"⟩, 9, prog_12_method_57_code, 1, (some .int), [], 0)
def am_i_Mo_isVertex : am_I := (⟨"MultiwayCutModel", "isVertex", "(I)Z"⟩, 9, prog_12_method_58_code, 2, (some .boolean), [], 0)
def am_i_Mo_burden : am_I := (⟨"MultiwayCutModel", "burden", "(I)I"⟩, 9, prog_12_method_59_code, 2, (some .int), [], 0)
def am_i_Mo_edge : am_I := (⟨"MultiwayCutModel", "edge", "(II)I"⟩, 9, prog_12_method_60_code, 3, (some .int), [], 0)
def am_i_Mo_cutCost : am_I := (⟨"MultiwayCutModel", "cutCost", "(I)I"⟩, 9, prog_12_method_61_code, 2, (some .int), [], 0)
def am_i_Mo_separates : am_I := (⟨"MultiwayCutModel", "separates", "(I)Z"⟩, 9, prog_12_method_62_code, 5, (some .boolean), [], 0)
def am_i_Mo_mustBe : am_I := (⟨"MultiwayCutModel", "mustBe", "(I)Z"⟩, 9, prog_12_method_63_code, 2, (some .boolean), [], 0)
def am_i_Mo_isolatingValue : am_I := (⟨"MultiwayCutModel", "isolatingValue", "(I)I"⟩, 9, prog_12_method_64_code, 3, (some .int), [], 0)
def am_i_Mo_isolatingSet : am_I := (⟨"MultiwayCutModel", "isolatingSet", "(I)I"⟩, 9, prog_12_method_65_code, 2, (some .int), [], 0)
def am_i_Mo_lowerBound : am_I := (⟨"MultiwayCutModel", "lowerBound", "()I"⟩, 9, prog_12_method_66_code, 3, (some .int), [], 0)
def am_i_Mo_hasTerminal : am_I := (⟨"MultiwayCutModel", "hasTerminal", "()Z"⟩, 9, prog_12_method_67_code, 1, (some .boolean), [], 0)
def am_i_Mo_dearest : am_I := (⟨"MultiwayCutModel", "dearest", "()I"⟩, 9, prog_12_method_68_code, 1, (some .int), [], 0)
def am_i_Mo_unionNow : am_I := (⟨"MultiwayCutModel", "unionNow", "()I"⟩, 9, prog_12_method_69_code, 5, (some .int), [], 0)
def am_i_Mo_unionCut : am_I := (⟨"MultiwayCutModel", "unionCut", "()I"⟩, 9, prog_12_method_70_code, 1, (some .int), [], 0)
def am_i_Mo_unionCost : am_I := (⟨"MultiwayCutModel", "unionCost", "()I"⟩, 9, prog_12_method_71_code, 4, (some .int), [], 0)
def am_i_Mo_rounds : am_I := (⟨"MultiwayCutModel", "rounds", "()I"⟩, 9, prog_12_method_72_code, 1, (some .int), [], 0)
def am_i_Mo_fixed : am_I := (⟨"MultiwayCutModel", "fixed", "(I)I"⟩, 9, prog_12_method_73_code, 3, (some .int), [], 0)
def am_i_Mo_exactCost : am_I := (⟨"MultiwayCutModel", "exactCost", "()I"⟩, 9, prog_12_method_74_code, 1, (some .int), [], 0)
def am_i_Mo_exact : am_I := (⟨"MultiwayCutModel", "exact", "(I)I"⟩, 9, prog_12_method_75_code, 3, (some .int), [], 0)
def am_i_Mo_price : am_I := (⟨"MultiwayCutModel", "price", "(I)I"⟩, 9, prog_12_method_76_code, 3, (some .int), [], 0)
def am_i_Mo_nearest : am_I := (⟨"MultiwayCutModel", "nearest", "(I)I"⟩, 9, prog_12_method_77_code, 2, (some .int), [], 0)
def am_i_Mo_distance : am_I := (⟨"MultiwayCutModel", "distance", "(I)I"⟩, 9, prog_12_method_78_code, 2, (some .int), [], 0)
def am_i_Mo_label : am_I := (⟨"MultiwayCutModel", "label", "(I)I"⟩, 9, prog_12_method_79_code, 2, (some .int), [], 0)
def am_i_Mo_cost : am_I := (⟨"MultiwayCutModel", "cost", "()I"⟩, 9, prog_12_method_80_code, 1, (some .int), [], 0)
def am_i_Mo_cut : am_I := (⟨"MultiwayCutModel", "cut", "()I"⟩, 9, prog_12_method_81_code, 3, (some .int), [], 0)
def am_i_Mo_ratio : am_I := (⟨"MultiwayCutModel", "ratio", "()F"⟩, 9, prog_12_method_82_code, 3, (some .float), [], 0)
def am_i_Mo_meanCost : am_I := (⟨"MultiwayCutModel", "meanCost", "()F"⟩, 9, prog_12_method_83_code, 5, (some .float), [], 0)
def am_i_Mo_laysMove : am_I := (⟨"MultiwayCutModel", "laysMove", "()V"⟩, 9, prog_12_method_84_code, 5, none, [], 0)
def am_i_Mo_bestMove : am_I := (⟨"MultiwayCutModel", "bestMove", "(I)I"⟩, 9, prog_12_method_85_code, 2, (some .int), [], 0)
def am_i_Mo_setLabel : am_I := (⟨"MultiwayCutModel", "setLabel", "(II)I"⟩, 9, prog_12_method_86_code, 4, (some .int), [], 0)
def am_i_Mo_useNearest : am_I := (⟨"MultiwayCutModel", "useNearest", "()I"⟩, 9, prog_12_method_87_code, 2, (some .int), [], 0)
def am_i_Mo_useUnion : am_I := (⟨"MultiwayCutModel", "useUnion", "()I"⟩, 9, prog_12_method_88_code, 5, (some .int), [], 0)
def am_i_Mo_useExact : am_I := (⟨"MultiwayCutModel", "useExact", "()I"⟩, 9, prog_12_method_89_code, 3, (some .int), [], 0)
def am_i_Mo_improve : am_I := (⟨"MultiwayCutModel", "improve", "(I)I"⟩, 9, prog_12_method_90_code, 3, (some .int), [], 0)
def am_i_Mo_isEdge : am_I := (⟨"MultiwayCutModel", "isEdge", "(I)Z"⟩, 9, prog_12_method_91_code, 2, (some .boolean), [], 0)
def am_i_Mo_setWeight : am_I := (⟨"MultiwayCutModel", "setWeight", "(II)I"⟩, 9, prog_12_method_92_code, 4, (some .int), [], 0)
def am_i_Mo_areJoined : am_I := (⟨"MultiwayCutModel", "areJoined", "(II)Z"⟩, 9, prog_12_method_93_code, 4, (some .boolean), [], 0)
def am_i_Mo_addEdge : am_I := (⟨"MultiwayCutModel", "addEdge", "(III)I"⟩, 9, prog_12_method_94_code, 5, (some .int), [], 0)
def am_i_Mo_removeEdge : am_I := (⟨"MultiwayCutModel", "removeEdge", "(I)I"⟩, 9, prog_12_method_95_code, 4, (some .int), [], 0)
def am_i_Mo_setTerminal : am_I := (⟨"MultiwayCutModel", "setTerminal", "(IZ)I"⟩, 9, prog_12_method_96_code, 5, (some .int), [], 0)
def am_i_Mo_undo : am_I := (⟨"MultiwayCutModel", "undo", "()I"⟩, 9, prog_12_method_97_code, 1, (some .int), [], 0)
def am_i_Mo_checksum : am_I := (⟨"MultiwayCutModel", "checksum", "()J"⟩, 9, prog_12_method_98_code, 5, (some .long), [], 0)
def am_i_JI_bitCount : am_I := (⟨"java/lang/Integer", "bitCount", "(I)I"⟩, 12, prog_18_method_49_code, 1, (some .int), [], 1)
def am_i_JA_fill : am_I := (⟨"java/util/Arrays", "fill", "([II)V"⟩, 13, prog_26_method_103_code, 4, none, [], 1)
def am_i_JA_copyOf : am_I := (⟨"java/util/Arrays", "copyOf", "([II)[I"⟩, 13, prog_26_method_123_code, 3, (some (.array .int)), [], 1)
def am_i_La_load : am_I := (⟨"MultiwayCutLaw", "load", "(LMultiwayCut;I[J)I"⟩, 11, method_3_code, 4, (some .int), [(0, 9, 12, 13)], 1)
def am_i_La_burden : am_I := (⟨"MultiwayCutLaw", "burden", "(LMultiwayCut;I[J)I"⟩, 11, method_4_code, 4, (some .int), [(0, 9, 12, 18)], 1)
def am_i_La_edge : am_I := (⟨"MultiwayCutLaw", "edge", "(LMultiwayCut;II[J)I"⟩, 11, method_5_code, 5, (some .int), [(0, 10, 13, 18), (0, 10, 17, 13)], 1)
def am_i_La_cutCost : am_I := (⟨"MultiwayCutLaw", "cutCost", "(LMultiwayCut;I[J)I"⟩, 11, method_6_code, 4, (some .int), [(0, 9, 12, 13)], 1)
def am_i_La_separates : am_I := (⟨"MultiwayCutLaw", "separates", "(LMultiwayCut;I[J)I"⟩, 11, method_7_code, 4, (some .int), [(0, 16, 19, 13)], 1)
def am_i_La_isolatingValue : am_I := (⟨"MultiwayCutLaw", "isolatingValue", "(LMultiwayCut;I[J)I"⟩, 11, method_8_code, 4, (some .int), [(0, 9, 12, 13)], 1)
def am_i_La_isolatingSet : am_I := (⟨"MultiwayCutLaw", "isolatingSet", "(LMultiwayCut;I[J)I"⟩, 11, method_9_code, 4, (some .int), [(0, 9, 12, 13)], 1)
def am_i_La_dearest : am_I := (⟨"MultiwayCutLaw", "dearest", "(LMultiwayCut;[J)I"⟩, 11, method_10_code, 3, (some .int), [(0, 8, 11, 41)], 1)
def am_i_La_unionCut : am_I := (⟨"MultiwayCutLaw", "unionCut", "(LMultiwayCut;[J)I"⟩, 11, method_11_code, 3, (some .int), [(0, 8, 11, 41)], 1)
def am_i_La_unionCost : am_I := (⟨"MultiwayCutLaw", "unionCost", "(LMultiwayCut;[J)I"⟩, 11, method_12_code, 3, (some .int), [(0, 8, 11, 41)], 1)
def am_i_La_fixed : am_I := (⟨"MultiwayCutLaw", "fixed", "(LMultiwayCut;I[J)I"⟩, 11, method_13_code, 4, (some .int), [(0, 9, 12, 18)], 1)
def am_i_La_exact : am_I := (⟨"MultiwayCutLaw", "exact", "(LMultiwayCut;I[J)I"⟩, 11, method_14_code, 4, (some .int), [(0, 9, 12, 18)], 1)
def am_i_La_price : am_I := (⟨"MultiwayCutLaw", "price", "(LMultiwayCut;I[J)I"⟩, 11, method_15_code, 4, (some .int), [(0, 9, 12, 13)], 1)
def am_i_La_nearest : am_I := (⟨"MultiwayCutLaw", "nearest", "(LMultiwayCut;I[J)I"⟩, 11, method_16_code, 4, (some .int), [(0, 9, 12, 18)], 1)
def am_i_La_distance : am_I := (⟨"MultiwayCutLaw", "distance", "(LMultiwayCut;I[J)I"⟩, 11, method_17_code, 4, (some .int), [(0, 9, 12, 18)], 1)
def am_i_La_label : am_I := (⟨"MultiwayCutLaw", "label", "(LMultiwayCut;I[J)I"⟩, 11, method_18_code, 4, (some .int), [(0, 9, 12, 18)], 1)
def am_i_La_bestMove : am_I := (⟨"MultiwayCutLaw", "bestMove", "(LMultiwayCut;I[J)I"⟩, 11, method_19_code, 4, (some .int), [(0, 9, 12, 13)], 1)
def am_i_La_setLabel : am_I := (⟨"MultiwayCutLaw", "setLabel", "(LMultiwayCut;II[J)I"⟩, 11, method_20_code, 5, (some .int), [(0, 10, 13, 18), (0, 10, 17, 13), (0, 10, 21, 41)], 1)
def am_i_La_useUnion : am_I := (⟨"MultiwayCutLaw", "useUnion", "(LMultiwayCut;[J)I"⟩, 11, method_21_code, 3, (some .int), [(0, 8, 11, 41)], 1)
def am_i_La_improve : am_I := (⟨"MultiwayCutLaw", "improve", "(LMultiwayCut;I[J)I"⟩, 11, method_22_code, 4, (some .int), [(0, 9, 12, 13)], 1)
def am_i_La_setWeight : am_I := (⟨"MultiwayCutLaw", "setWeight", "(LMultiwayCut;II[J)I"⟩, 11, method_23_code, 5, (some .int), [(0, 10, 13, 18), (0, 10, 17, 13)], 1)
def am_i_La_addEdge : am_I := (⟨"MultiwayCutLaw", "addEdge", "(LMultiwayCut;III[J)I"⟩, 11, method_24_code, 6, (some .int), [(0, 12, 15, 18), (0, 12, 19, 13), (0, 12, 23, 41)], 1)
def am_i_La_removeEdge : am_I := (⟨"MultiwayCutLaw", "removeEdge", "(LMultiwayCut;I[J)I"⟩, 11, method_25_code, 4, (some .int), [(0, 9, 12, 18)], 1)
def am_i_La_setTerminal : am_I := (⟨"MultiwayCutLaw", "setTerminal", "(LMultiwayCut;IZ[J)I"⟩, 11, method_26_code, 5, (some .int), [(0, 10, 13, 18), (0, 10, 17, 41)], 1)
def am_i_La_law : am_I := (⟨"MultiwayCutLaw", "law", "([I)Z"⟩, 11, code, 9, (some .boolean), [], 1)
def am_inf : List am_I := [am_i_Cu_keepsApart, am_i_Cu_reachedFrom, am_i_Cu_cheapestSet, am_i_Cu_setOf, am_i_Cu_valueOf, am_i_Cu_dearestOf, am_i_Cu_unionOf, am_i_Cu_labelByUnion, am_i_Cu_labelSet, am_i_Ex_init, am_i_Ex_run, am_i_Ex_extend, am_i_Ex_costToEarlier, am_i_Fo_init, am_i_Fo_evaluate, am_i_Fo_operand, am_i_Fo_combine, am_i_Gr_init, am_i_Gr_clear, am_i_Gr_copyFrom, am_i_Gr_hasVertex, am_i_Gr_isTerminal, am_i_Gr_allVertices, am_i_Gr_hasEdgeBetween, am_i_Gr_endsOf, am_i_Gr_lengthOf, am_i_Gr_putEdge, am_i_Gr_updateCost, am_i_Gr_dropEdge, am_i_Gr_startTerminal, am_i_Gr_endTerminal, am_i_Gr_takeLabels, am_i_Gr_borderOf, am_i_Gr_costOfEdges, am_i_Gr_costOfSet, am_i_Gr_presentCut, am_i_Gr_presentCost, am_i_Gp_init, am_i_Gp_run, am_i_Gp_makeRound, am_i_Gp_grouped, am_i_Gp_ownerOf, am_i_Hi_init, am_i_Hi_save, am_i_Hi_restore, am_i_Mv_init, am_i_Mv_run, am_i_Mv_consider, am_i_Mv_makeImprovement, am_i_Ne_init, am_i_Ne_run, am_i_Ne_offer, am_i_Rd_init, am_i_Rd_read, am_i_Rd_finish, am_i_Rd_readGraph, am_i_Rd_readStatement, am_i_Rd_readTerminal, am_i_Rd_readEdge, am_i_Rd_readLoad, am_i_Rd_startCost, am_i_Rd_readSum, am_i_Rd_readTerm, am_i_Rd_readFactor, am_i_Rd_putCode, am_i_Rd_readSymbol, am_i_Rd_vertexHere, am_i_Rd_numberHere, am_i_Rd_isWord, am_i_Rd_fail, am_i_Rd_advance, am_i_Mc_init, am_i_Mc_append, am_i_Mc_putWord, am_i_Mc_load, am_i_Mc_errorOffset, am_i_Mc_size, am_i_Mc_edgeCount, am_i_Mc_terminals, am_i_Mc_burden, am_i_Mc_edge, am_i_Mc_cutCost, am_i_Mc_separates, am_i_Mc_isolatingValue, am_i_Mc_isolatingSet, am_i_Mc_lowerBound, am_i_Mc_dearest, am_i_Mc_unionCut, am_i_Mc_unionCost, am_i_Mc_rounds, am_i_Mc_fixed, am_i_Mc_exactCost, am_i_Mc_exact, am_i_Mc_price, am_i_Mc_nearest, am_i_Mc_distance, am_i_Mc_label, am_i_Mc_cost, am_i_Mc_cut, am_i_Mc_ratio, am_i_Mc_meanCost, am_i_Mc_bestMove, am_i_Mc_setLabel, am_i_Mc_useNearest, am_i_Mc_useUnion, am_i_Mc_useExact, am_i_Mc_improve, am_i_Mc_setWeight, am_i_Mc_addEdge, am_i_Mc_removeEdge, am_i_Mc_setTerminal, am_i_Mc_undo, am_i_Mc_checksum, am_i_Mc_requireVertex, am_i_Mc_requireEdge, am_i_Mc_requireTerminal, am_i_Mc_requireSomeTerminal, am_i_Mc_requireWeight, am_i_Mo_init, am_i_Mo_thrown, am_i_Mo_isIn, am_i_Mo_get, am_i_Mo_put, am_i_Mo_change, am_i_Mo_right, am_i_Mo_append, am_i_Mo_fails, am_i_Mo_sees, am_i_Mo_takes, am_i_Mo_wants, am_i_Mo_isDigit, am_i_Mo_reads, am_i_Mo_codes, am_i_Mo_sum, am_i_Mo_term, am_i_Mo_factor, am_i_Mo_readsVertex, am_i_Mo_terminalLine, am_i_Mo_bitsOf, am_i_Mo_isJoined, am_i_Mo_edgeLine, am_i_Mo_loadLine, am_i_Mo_statement, am_i_Mo_texts, am_i_Mo_load, am_i_Mo_errorOffset, am_i_Mo_within, am_i_Mo_costOf, am_i_Mo_laysCosts, am_i_Mo_count, am_i_Mo_edges, am_i_Mo_low, am_i_Mo_high, am_i_Mo_has, am_i_Mo_isTerminal, am_i_Mo_all, am_i_Mo_cutOf, am_i_Mo_bestSet, am_i_Mo_isolating, am_i_Mo_laysIsolating, am_i_Mo_dearestNow, am_i_Mo_othersOf, am_i_Mo_goesRound, am_i_Mo_laysGroups, am_i_Mo_costBy, am_i_Mo_goesOn, am_i_Mo_laysExact, am_i_Mo_exactNow, am_i_Mo_costNow, am_i_Mo_lengthOf, am_i_Mo_laysFar, am_i_Mo_laysNear, am_i_Mo_size, am_i_Mo_edgeCount, am_i_Mo_terminals, am_i_Mo_isVertex, am_i_Mo_burden, am_i_Mo_edge, am_i_Mo_cutCost, am_i_Mo_separates, am_i_Mo_mustBe, am_i_Mo_isolatingValue, am_i_Mo_isolatingSet, am_i_Mo_lowerBound, am_i_Mo_hasTerminal, am_i_Mo_dearest, am_i_Mo_unionNow, am_i_Mo_unionCut, am_i_Mo_unionCost, am_i_Mo_rounds, am_i_Mo_fixed, am_i_Mo_exactCost, am_i_Mo_exact, am_i_Mo_price, am_i_Mo_nearest, am_i_Mo_distance, am_i_Mo_label, am_i_Mo_cost, am_i_Mo_cut, am_i_Mo_ratio, am_i_Mo_meanCost, am_i_Mo_laysMove, am_i_Mo_bestMove, am_i_Mo_setLabel, am_i_Mo_useNearest, am_i_Mo_useUnion, am_i_Mo_useExact, am_i_Mo_improve, am_i_Mo_isEdge, am_i_Mo_setWeight, am_i_Mo_areJoined, am_i_Mo_addEdge, am_i_Mo_removeEdge, am_i_Mo_setTerminal, am_i_Mo_undo, am_i_Mo_checksum, am_i_JI_bitCount, am_i_JA_fill, am_i_JA_copyOf, am_i_La_load, am_i_La_burden, am_i_La_edge, am_i_La_cutCost, am_i_La_separates, am_i_La_isolatingValue, am_i_La_isolatingSet, am_i_La_dearest, am_i_La_unionCut, am_i_La_unionCost, am_i_La_fixed, am_i_La_exact, am_i_La_price, am_i_La_nearest, am_i_La_distance, am_i_La_label, am_i_La_bestMove, am_i_La_setLabel, am_i_La_useUnion, am_i_La_improve, am_i_La_setWeight, am_i_La_addEdge, am_i_La_removeEdge, am_i_La_setTerminal, am_i_La_law]
def am_mm_ : List (Nat × Nat × Nat) := [(1, 30, 3), (1, 36, 2), (2, 64, 1), (2, 70, 0), (4, 29, 1), (7, 29, 1), (9, 117, 1), (9, 165, 0), (13, 304, 1)]
def am_sl_ : List (Nat × Nat × Nat) := [(7, 103, 0), (7, 114, 1), (7, 119, 2), (7, 124, 3), (7, 129, 4), (7, 170, 5), (7, 172, 6), (7, 174, 7), (9, 149, 5), (9, 155, 6), (9, 157, 7), (9, 172, 1), (9, 177, 2), (9, 182, 3), (9, 187, 4), (9, 193, 0)]
def am_xl_ : List (Nat × Nat × Nat × Nat × Nat × String) := [(8, 73, 75, 77, 1, "length is not within the input buffer"), (8, 73, 133, 77, 1, "what is not 0 to 4"), (8, 73, 139, 77, 1, "this is no set of vertices"), (8, 73, 144, 77, 1, "this is no set of edges"), (8, 73, 219, 77, 1, "what is not 0 to 2"), (8, 73, 243, 77, 1, "most is not 1 to 20"), (8, 73, 255, 77, 1, "an edge has two different ends"), (8, 73, 293, 77, 1, "this is no terminal"), (8, 73, 297, 77, 1, "weight is not 1 to 99"), (8, 231, 233, 235, 3, "a terminal keeps itself"), (8, 231, 261, 235, 3, "there is no room for this edge"), (8, 231, 270, 235, 3, "there are 5 terminals already"), (8, 231, 295, 235, 3, "there is no terminal"), (8, 286, 288, 290, 2, "there is no such vertex"), (8, 286, 291, 290, 2, "there is no such edge")]
def am_al_ : List (Nat × Nat) := [(0, 40), (2, 50), (13, 150)]
def am_s1_ : List (Nat × Nat) := [(7, 182), (9, 96)]
def am_s2_ : List (Nat × Nat) := [(7, 186), (9, 101)]
def am_txt (j : Nat) : String := match j with
  | 0 => "graph"
  | 1 => "terminal"
  | 2 => "edge"
  | 3 => "load"
  | 4 => "cost"
  | 5 => "weight"
  | 6 => "low"
  | _ => "high"
end
section
/-! THE PROGRAM, resolved: a method by its number, its code by chunks of 16 bytes; written by wip/whole/gen.py out of the printed claim -/
def at_Cu_keepsApart : am_T := [[(0, .ldc 0, 1), (1, .istore 2, 2), (2, .iload 2, 3), (3, .aload 0, 4), (4, .getfield 128, 7), (7, .if_icmp .ge (Int.ofNat 45), 10), (10, .aload 0, 11), (11, .iload 2, 12), (12, .iload 1, 13), (13, .invokestatic 19, 16)], [(16, .aload 0, 17), (17, .getfield 130, 20), (20, .iand, 21), (21, .istore 3, 22), (22, .aload 0, 23), (23, .iload 2, 24), (24, .invokevirtual 16721, 27), (27, .ifCond .eq (Int.ofNat 39), 30), (30, .iload 3, 31), (31, .ldc 1, 32)], [(32, .iload 2, 33), (33, .ishl, 34), (34, .if_icmp .eq (Int.ofNat 39), 37), (37, .ldc 0, 38), (38, .areturn, 39), (39, .iinc 2 (Int.ofNat 1), 42), (42, .goto (Int.ofNat 2), 45), (45, .ldc 1, 46), (46, .areturn, 47)]]
abbrev m_Cu_keepsApart : Nat := 0
def ah_Cu_keepsApart : List (Nat × Nat × Nat × Nat × Nat × Nat) := []
def at_Cu_reachedFrom : am_T := [[(0, .ldc 1, 1), (1, .iload 1, 2), (2, .ishl, 3), (3, .istore 3, 4), (4, .ldc 1, 5), (5, .istore 4, 7), (7, .iload 4, 9), (9, .aload 0, 10), (10, .getfield 128, 13), (13, .if_icmp .ge (Int.ofNat 69), 16)], [(16, .ldc 0, 17), (17, .istore 5, 19), (19, .iload 5, 21), (21, .aload 0, 22), (22, .getfield 129, 25), (25, .if_icmp .ge (Int.ofNat 63), 28), (28, .aload 0, 29), (29, .iload 5, 31), (31, .invokevirtual 16769, 34)], [(34, .istore 6, 36), (36, .iload 2, 37), (37, .iload 5, 39), (39, .ishr, 40), (40, .ldc 1, 41), (41, .iand, 42), (42, .ifCond .ne (Int.ofNat 57), 45), (45, .iload 6, 47), (47, .iload 3, 48)], [(48, .iand, 49), (49, .ifCond .eq (Int.ofNat 57), 52), (52, .iload 3, 53), (53, .iload 6, 55), (55, .ior, 56), (56, .istore 3, 57), (57, .iinc 5 (Int.ofNat 1), 60), (60, .goto (Int.ofNat 19), 63), (63, .iinc 4 (Int.ofNat 1), 66)], [(66, .goto (Int.ofNat 7), 69), (69, .iload 3, 70), (70, .ireturn, 71)]]
abbrev m_Cu_reachedFrom : Nat := 1
def ah_Cu_reachedFrom : List (Nat × Nat × Nat × Nat × Nat × Nat) := []
def at_Cu_cheapestSet : am_T := [[(0, .iload 1, 1), (1, .istore 4, 3), (3, .aload 0, 4), (4, .iload 1, 5), (5, .invokevirtual 16929, 8), (8, .istore 5, 10), (10, .ldc 1, 11), (11, .istore 6, 13), (13, .iload 6, 15), (15, .iload 2, 16)], [(16, .if_icmp .gt (Int.ofNat 103), 19), (19, .iload 6, 21), (21, .iload 2, 22), (22, .ldc_w 1, 23), (23, .ixor, 24), (24, .iand, 25), (25, .ifCond .eq (Int.ofNat 31), 28), (28, .goto (Int.ofNat 97), 31), (31, .iload 1, 32)], [(32, .iload 6, 34), (34, .ior, 35), (35, .istore 7, 37), (37, .aload 0, 38), (38, .iload 7, 40), (40, .invokevirtual 16929, 43), (43, .istore 8, 45), (45, .iload 7, 47), (47, .invokestatic 3457, 50)], [(50, .iload 4, 52), (52, .invokestatic 3457, 55), (55, .isub, 56), (56, .istore 9, 58), (58, .iload 8, 60), (60, .iload 5, 62), (62, .if_icmp .lt (Int.ofNat 89), 65)], [(65, .iload 8, 67), (67, .iload 5, 69), (69, .if_icmp .ne (Int.ofNat 97), 72), (72, .iload 3, 73), (73, .ifCond .eq (Int.ofNat 84), 76), (76, .iload 9, 78), (78, .ifCond .le (Int.ofNat 97), 81)], [(81, .goto (Int.ofNat 89), 84), (84, .iload 9, 86), (86, .ifCond .ge (Int.ofNat 97), 89), (89, .iload 7, 91), (91, .istore 4, 93), (93, .iload 8, 95), (95, .istore 5, 97)], [(97, .iinc 6 (Int.ofNat 1), 100), (100, .goto (Int.ofNat 13), 103), (103, .iload 4, 105), (105, .ireturn, 106)]]
abbrev m_Cu_cheapestSet : Nat := 2
def ah_Cu_cheapestSet : List (Nat × Nat × Nat × Nat × Nat × Nat) := []
def at_Cu_setOf : am_T := [[(0, .aload 0, 1), (1, .invokevirtual 16736, 4), (4, .aload 0, 5), (5, .getfield 130, 8), (8, .ldc_w 1, 9), (9, .ixor, 10), (10, .iand, 11), (11, .istore 2, 12), (12, .aload 0, 13), (13, .ldc 1, 14), (14, .iload 1, 15), (15, .ishl, 16)], [(16, .iload 2, 17), (17, .ldc 0, 18), (18, .invokestatic 36, 21), (21, .ireturn, 22)]]
abbrev m_Cu_setOf : Nat := 3
def ah_Cu_setOf : List (Nat × Nat × Nat × Nat × Nat × Nat) := []
def at_Cu_valueOf : am_T := [[(0, .aload 0, 1), (1, .aload 0, 2), (2, .iload 1, 3), (3, .invokestatic 50, 6), (6, .invokevirtual 16929, 9), (9, .ireturn, 10)]]
abbrev m_Cu_valueOf : Nat := 4
def ah_Cu_valueOf : List (Nat × Nat × Nat × Nat × Nat × Nat) := []
def at_Cu_dearestOf : am_T := [[(0, .ldc_w 1, 1), (1, .istore 1, 2), (2, .ldc_w 1, 3), (3, .istore 2, 4), (4, .ldc 0, 5), (5, .istore 3, 6), (6, .iload 3, 7), (7, .aload 0, 8), (8, .getfield 128, 11), (11, .if_icmp .ge (Int.ofNat 50), 14), (14, .aload 0, 15), (15, .iload 3, 16)], [(16, .invokevirtual 16721, 19), (19, .ifCond .eq (Int.ofNat 30), 22), (22, .aload 0, 23), (23, .iload 3, 24), (24, .invokestatic 66, 27), (27, .goto (Int.ofNat 31), 30), (30, .ldc_w 1, 31), (31, .istore 4, 33)], [(33, .iload 4, 35), (35, .iload 2, 36), (36, .if_icmp .le (Int.ofNat 44), 39), (39, .iload 3, 40), (40, .istore 1, 41), (41, .iload 4, 43), (43, .istore 2, 44), (44, .iinc 3 (Int.ofNat 1), 47), (47, .goto (Int.ofNat 6), 50)], [(50, .iload 1, 51), (51, .ireturn, 52)]]
abbrev m_Cu_dearestOf : Nat := 5
def ah_Cu_dearestOf : List (Nat × Nat × Nat × Nat × Nat × Nat) := []
def at_Cu_unionOf : am_T := [[(0, .aload 0, 1), (1, .invokestatic 81, 4), (4, .istore 1, 5), (5, .ldc 0, 6), (6, .istore 2, 7), (7, .ldc 0, 8), (8, .istore 3, 9), (9, .iload 3, 10), (10, .aload 0, 11), (11, .getfield 128, 14), (14, .if_icmp .ge (Int.ofNat 48), 17)], [(17, .aload 0, 18), (18, .iload 3, 19), (19, .invokevirtual 16721, 22), (22, .ifCond .eq (Int.ofNat 42), 25), (25, .iload 3, 26), (26, .iload 1, 27), (27, .if_icmp .eq (Int.ofNat 42), 30), (30, .iload 2, 31), (31, .aload 0, 32)], [(32, .aload 0, 33), (33, .iload 3, 34), (34, .invokestatic 50, 37), (37, .invokevirtual 16897, 40), (40, .ior, 41), (41, .istore 2, 42), (42, .iinc 3 (Int.ofNat 1), 45), (45, .goto (Int.ofNat 9), 48)], [(48, .iload 2, 49), (49, .ireturn, 50)]]
abbrev m_Cu_unionOf : Nat := 6
def ah_Cu_unionOf : List (Nat × Nat × Nat × Nat × Nat × Nat) := []
def at_Cu_labelByUnion : am_T := [[(0, .aload 0, 1), (1, .invokestatic 81, 4), (4, .istore 1, 5), (5, .aload 0, 6), (6, .getstatic 132, 9), (9, .iload 1, 10), (10, .invokestatic 3474, 13), (13, .ldc 0, 14), (14, .istore 2, 15), (15, .iload 2, 16)], [(16, .aload 0, 17), (17, .getfield 128, 20), (20, .if_icmp .ge (Int.ofNat 52), 23), (23, .aload 0, 24), (24, .iload 2, 25), (25, .invokevirtual 16721, 28), (28, .ifCond .eq (Int.ofNat 46), 31), (31, .iload 2, 32)], [(32, .iload 1, 33), (33, .if_icmp .eq (Int.ofNat 46), 36), (36, .aload 0, 37), (37, .aload 0, 38), (38, .iload 2, 39), (39, .invokestatic 50, 42), (42, .iload 2, 43), (43, .invokestatic 131, 46), (46, .iinc 2 (Int.ofNat 1), 49)], [(49, .goto (Int.ofNat 15), 52), (52, .return_, 53)]]
abbrev m_Cu_labelByUnion : Nat := 7
def ah_Cu_labelByUnion : List (Nat × Nat × Nat × Nat × Nat × Nat) := []
def at_Cu_labelSet : am_T := [[(0, .ldc 0, 1), (1, .istore 3, 2), (2, .iload 3, 3), (3, .aload 0, 4), (4, .getfield 128, 7), (7, .if_icmp .ge (Int.ofNat 31), 10), (10, .iload 1, 11), (11, .iload 3, 12), (12, .ishr, 13), (13, .ldc 1, 14), (14, .iand, 15), (15, .ifCond .eq (Int.ofNat 25), 18)], [(18, .aload 0, 19), (19, .getstatic 132, 22), (22, .iload 3, 23), (23, .iload 2, 24), (24, .iastore, 25), (25, .iinc 3 (Int.ofNat 1), 28), (28, .goto (Int.ofNat 2), 31), (31, .return_, 32)]]
abbrev m_Cu_labelSet : Nat := 8
def ah_Cu_labelSet : List (Nat × Nat × Nat × Nat × Nat × Nat) := []
def at_Ex_init : am_T := [[(0, .aload 0, 1), (1, .pop2, 4), (4, .aload 0, 5), (5, .ldc 9, 7), (7, .anewarray 2, 9), (9, .checkcast 0, 12), (12, .aload 0, 13), (13, .ldc 9, 15), (15, .anewarray 2, 17)], [(17, .checkcast 2, 20), (20, .return_, 21)]]
abbrev m_Ex_init : Nat := 9
def ah_Ex_init : List (Nat × Nat × Nat × Nat × Nat × Nat) := []
def at_Ex_run : am_T := [[(0, .aload 0, 1), (1, .ldc 0, 2), (2, .putfield 1, 5), (5, .aload 0, 6), (6, .getstatic 0, 9), (9, .ldc_w 1, 10), (10, .invokestatic 3474, 13), (13, .iload 2, 14), (14, .ifCond .eq (Int.ofNat 31), 17)], [(17, .aload 0, 18), (18, .ldc 2147483647, 20), (20, .putfield 1, 23), (23, .aload 0, 24), (24, .aload 1, 25), (25, .iload 2, 26), (26, .ldc 0, 27), (27, .ldc 0, 28), (28, .invokestatic 181, 31), (31, .return_, 32)]]
abbrev m_Ex_run : Nat := 10
def ah_Ex_run : List (Nat × Nat × Nat × Nat × Nat × Nat) := []
def at_Ex_extend : am_T := [[(0, .iload 4, 2), (2, .aload 0, 3), (3, .getfield 1, 6), (6, .if_icmp .lt (Int.ofNat 10), 9), (9, .return_, 10), (10, .iload 3, 11), (11, .aload 1, 12), (12, .getfield 128, 15), (15, .if_icmp .lt (Int.ofNat 42), 18)], [(18, .aload 0, 19), (19, .iload 4, 21), (21, .putfield 1, 24), (24, .aload 0, 25), (25, .getstatic 2, 28), (28, .ldc 0, 29), (29, .aload 0, 30), (30, .getstatic 0, 33)], [(33, .ldc 0, 34), (34, .aload 1, 35), (35, .getfield 128, 38), (38, .multianewarray 0 0, 41), (41, .return_, 42), (42, .iload 2, 43), (43, .iload 3, 44), (44, .ishr, 45), (45, .ldc 1, 46), (46, .iand, 47), (47, .ifCond .eq (Int.ofNat 56), 50)], [(50, .ldc 1, 51), (51, .iload 3, 52), (52, .ishl, 53), (53, .goto (Int.ofNat 57), 56), (56, .iload 2, 57), (57, .istore 5, 59), (59, .ldc 0, 60), (60, .istore 6, 62), (62, .iload 6, 64)], [(64, .aload 1, 65), (65, .getfield 128, 68), (68, .if_icmp .ge (Int.ofNat 117), 71), (71, .iload 5, 73), (73, .iload 6, 75), (75, .ishr, 76), (76, .ldc 1, 77), (77, .iand, 78), (78, .ifCond .eq (Int.ofNat 111), 81)], [(81, .aload 0, 82), (82, .getstatic 2, 85), (85, .iload 3, 86), (86, .iload 6, 88), (88, .iastore, 89), (89, .aload 0, 90), (90, .aload 1, 91), (91, .iload 3, 92), (92, .invokevirtual 194, 95), (95, .istore 7, 97)], [(97, .aload 0, 98), (98, .aload 1, 99), (99, .iload 2, 100), (100, .iload 3, 101), (101, .ldc 1, 102), (102, .iadd, 103), (103, .iload 4, 105), (105, .iload 7, 107), (107, .iadd, 108), (108, .invokestatic 181, 111), (111, .iinc 6 (Int.ofNat 1), 114)], [(114, .goto (Int.ofNat 62), 117), (117, .return_, 118)]]
abbrev m_Ex_extend : Nat := 11
def ah_Ex_extend : List (Nat × Nat × Nat × Nat × Nat × Nat) := []
def at_Ex_costToEarlier : am_T := [[(0, .ldc 0, 1), (1, .istore 3, 2), (2, .ldc 0, 3), (3, .istore 4, 5), (5, .iload 4, 7), (7, .aload 1, 8), (8, .getfield 129, 11), (11, .if_icmp .ge (Int.ofNat 62), 14), (14, .aload 1, 15), (15, .getstatic 134, 18)], [(18, .iload 4, 20), (20, .iaload, 21), (21, .iload 2, 22), (22, .if_icmp .ne (Int.ofNat 56), 25), (25, .aload 0, 26), (26, .getstatic 2, 29), (29, .aload 1, 30), (30, .getstatic 133, 33)], [(33, .iload 4, 35), (35, .iaload, 36), (36, .iaload, 37), (37, .aload 0, 38), (38, .getstatic 2, 41), (41, .iload 2, 42), (42, .iaload, 43), (43, .if_icmp .eq (Int.ofNat 56), 46), (46, .iload 3, 47), (47, .aload 1, 48)], [(48, .getstatic 136, 51), (51, .iload 4, 53), (53, .iaload, 54), (54, .iadd, 55), (55, .istore 3, 56), (56, .iinc 4 (Int.ofNat 1), 59), (59, .goto (Int.ofNat 5), 62), (62, .iload 3, 63), (63, .ireturn, 64)]]
abbrev m_Ex_costToEarlier : Nat := 12
def ah_Ex_costToEarlier : List (Nat × Nat × Nat × Nat × Nat × Nat) := []
def at_Fo_init : am_T := [[(0, .aload 0, 1), (1, .pop2, 4), (4, .aload 0, 5), (5, .ldc 11, 7), (7, .anewarray 2, 9), (9, .checkcast 65, 12), (12, .aload 0, 13), (13, .aload 1, 14), (14, .checkcast 64, 17)], [(17, .return_, 18)]]
abbrev m_Fo_init : Nat := 13
def ah_Fo_init : List (Nat × Nat × Nat × Nat × Nat × Nat) := []
def at_Fo_evaluate : am_T := [[(0, .ldc 0, 1), (1, .istore 4, 3), (3, .ldc 0, 4), (4, .istore 5, 6), (6, .iload 5, 8), (8, .aload 0, 9), (9, .getstatic 64, 12), (12, .arraylength, 13), (13, .if_icmp .ge (Int.ofNat 112), 16)], [(16, .aload 0, 17), (17, .getstatic 64, 20), (20, .iload 5, 22), (22, .iaload, 23), (23, .istore 6, 25), (25, .iload 6, 27), (27, .ldc_w 4, 29), (29, .if_icmp .gt (Int.ofNat 74), 32)], [(32, .iload 4, 34), (34, .ldc 2, 35), (35, .if_icmp .lt (Int.ofNat 74), 38), (38, .iinc 4 (Int.negSucc 0), 41), (41, .aload 0, 42), (42, .getstatic 65, 45), (45, .iload 4, 47), (47, .ldc 1, 48)], [(48, .isub, 49), (49, .iload 6, 51), (51, .aload 0, 52), (52, .getstatic 65, 55), (55, .iload 4, 57), (57, .ldc 1, 58), (58, .isub, 59), (59, .iaload, 60), (60, .aload 0, 61), (61, .getstatic 65, 64)], [(64, .iload 4, 66), (66, .iaload, 67), (67, .invokestatic 259, 70), (70, .iastore, 71), (71, .goto (Int.ofNat 106), 74), (74, .iload 6, 76), (76, .ldc_w 4, 78), (78, .if_icmp .le (Int.ofNat 106), 81)], [(81, .iload 4, 83), (83, .ldc 11, 85), (85, .if_icmp .ge (Int.ofNat 106), 88), (88, .aload 0, 89), (89, .getstatic 65, 92), (92, .iload 4, 94), (94, .iload 6, 96)], [(96, .iload 1, 97), (97, .iload 2, 98), (98, .iload 3, 99), (99, .invokestatic 244, 102), (102, .iastore, 103), (103, .iinc 4 (Int.ofNat 1), 106), (106, .iinc 5 (Int.ofNat 1), 109), (109, .goto (Int.ofNat 6), 112)], [(112, .aload 0, 113), (113, .getstatic 65, 116), (116, .ldc 0, 117), (117, .iaload, 118), (118, .ireturn, 119)]]
abbrev m_Fo_evaluate : Nat := 14
def ah_Fo_evaluate : List (Nat × Nat × Nat × Nat × Nat × Nat) := []
def at_Fo_operand : am_T := [[(0, .iload 0, 1), (1, .ldc_w 1, 2), (2, .if_icmp .ne (Int.ofNat 7), 5), (5, .iload 1, 6), (6, .ireturn, 7), (7, .iload 0, 8), (8, .ldc_w 2, 10), (10, .if_icmp .ne (Int.ofNat 15), 13), (13, .iload 2, 14), (14, .ireturn, 15), (15, .iload 0, 16)], [(16, .ldc_w 3, 18), (18, .if_icmp .ne (Int.ofNat 25), 21), (21, .iload 3, 22), (22, .goto (Int.ofNat 26), 25), (25, .iload 0, 26), (26, .ireturn, 27)]]
abbrev m_Fo_operand : Nat := 15
def ah_Fo_operand : List (Nat × Nat × Nat × Nat × Nat × Nat) := []
def at_Fo_combine : am_T := [[(0, .ldc2_w 0, 1), (1, .lstore 3, 2), (2, .iload 0, 3), (3, .ldc_w 4, 5), (5, .if_icmp .ne (Int.ofNat 17), 8), (8, .iload 1, 9), (9, .i2l, 10), (10, .iload 2, 11), (11, .i2l, 12), (12, .ladd, 13), (13, .lstore 3, 14), (14, .goto (Int.ofNat 56), 17)], [(17, .iload 0, 18), (18, .ldc_w 5, 20), (20, .if_icmp .ne (Int.ofNat 32), 23), (23, .iload 1, 24), (24, .i2l, 25), (25, .iload 2, 26), (26, .i2l, 27), (27, .lsub, 28), (28, .lstore 3, 29), (29, .goto (Int.ofNat 56), 32)], [(32, .iload 0, 33), (33, .ldc_w 6, 35), (35, .if_icmp .ne (Int.ofNat 47), 38), (38, .iload 1, 39), (39, .i2l, 40), (40, .iload 2, 41), (41, .i2l, 42), (42, .lmul, 43), (43, .lstore 3, 44), (44, .goto (Int.ofNat 56), 47), (47, .iload 2, 48)], [(48, .ifCond .eq (Int.ofNat 56), 51), (51, .iload 1, 52), (52, .iload 2, 53), (53, .idiv, 54), (54, .i2l, 55), (55, .lstore 3, 56), (56, .goto_w (Int.negSucc 999999), 59), (59, .ldc2_w 1000000, 62), (62, .lload 3, 63), (63, .ddiv, 66)], [(66, .dmul, 69), (69, .l2i, 70), (70, .ireturn, 71)]]
abbrev m_Fo_combine : Nat := 16
def ah_Fo_combine : List (Nat × Nat × Nat × Nat × Nat × Nat) := []
def at_Gr_init : am_T := [[(0, .aload 0, 1), (1, .pop2, 4), (4, .aload 0, 5), (5, .ldc 9, 7), (7, .anewarray 2, 9), (9, .checkcast 131, 12), (12, .aload 0, 13), (13, .ldc 9, 15), (15, .anewarray 2, 17)], [(17, .checkcast 132, 20), (20, .aload 0, 21), (21, .ldc 20, 23), (23, .anewarray 2, 25), (25, .checkcast 133, 28), (28, .aload 0, 29), (29, .ldc 20, 31), (31, .anewarray 2, 33)], [(33, .checkcast 134, 36), (36, .aload 0, 37), (37, .ldc 20, 39), (39, .anewarray 2, 41), (41, .checkcast 135, 44), (44, .aload 0, 45), (45, .ldc 20, 47), (47, .anewarray 2, 49)], [(49, .checkcast 136, 52), (52, .return_, 53)]]
abbrev m_Gr_init : Nat := 17
def ah_Gr_init : List (Nat × Nat × Nat × Nat × Nat × Nat) := []
def at_Gr_clear : am_T := [[(0, .aload 0, 1), (1, .ldc 0, 2), (2, .putfield 128, 5), (5, .aload 0, 6), (6, .ldc 0, 7), (7, .putfield 129, 10), (10, .aload 0, 11), (11, .ldc 0, 12), (12, .putfield 130, 15), (15, .aload 0, 16)], [(16, .aconst_null, 17), (17, .checkcast 137, 20), (20, .aload 0, 21), (21, .getstatic 131, 24), (24, .ldc 0, 25), (25, .invokestatic 3474, 28), (28, .aload 0, 29), (29, .getstatic 132, 32)], [(32, .ldc_w 1, 33), (33, .invokestatic 3474, 36), (36, .return_, 37)]]
abbrev m_Gr_clear : Nat := 18
def ah_Gr_clear : List (Nat × Nat × Nat × Nat × Nat × Nat) := []
def at_Gr_copyFrom : am_T := [[(0, .aload 0, 1), (1, .aload 1, 2), (2, .getfield 128, 5), (5, .putfield 128, 8), (8, .aload 0, 9), (9, .aload 1, 10), (10, .getfield 129, 13), (13, .putfield 129, 16)], [(16, .aload 0, 17), (17, .aload 1, 18), (18, .getfield 130, 21), (21, .putfield 130, 24), (24, .aload 0, 25), (25, .aload 1, 26), (26, .getstatic 137, 29), (29, .checkcast 137, 32)], [(32, .aload 1, 33), (33, .getstatic 131, 36), (36, .ldc 0, 37), (37, .aload 0, 38), (38, .getstatic 131, 41), (41, .ldc 0, 42), (42, .ldc 9, 44), (44, .multianewarray 0 0, 47), (47, .aload 1, 48)], [(48, .getstatic 132, 51), (51, .ldc 0, 52), (52, .aload 0, 53), (53, .getstatic 132, 56), (56, .ldc 0, 57), (57, .ldc 9, 59), (59, .multianewarray 0 0, 62), (62, .aload 1, 63), (63, .getstatic 133, 66)], [(66, .ldc 0, 67), (67, .aload 0, 68), (68, .getstatic 133, 71), (71, .ldc 0, 72), (72, .ldc 20, 74), (74, .multianewarray 0 0, 77), (77, .aload 1, 78), (78, .getstatic 134, 81)], [(81, .ldc 0, 82), (82, .aload 0, 83), (83, .getstatic 134, 86), (86, .ldc 0, 87), (87, .ldc 20, 89), (89, .multianewarray 0 0, 92), (92, .aload 1, 93), (93, .getstatic 135, 96)], [(96, .ldc 0, 97), (97, .aload 0, 98), (98, .getstatic 135, 101), (101, .ldc 0, 102), (102, .ldc 20, 104), (104, .multianewarray 0 0, 107), (107, .aload 1, 108), (108, .getstatic 136, 111), (111, .ldc 0, 112)], [(112, .aload 0, 113), (113, .getstatic 136, 116), (116, .ldc 0, 117), (117, .ldc 20, 119), (119, .multianewarray 0 0, 122), (122, .return_, 123)]]
abbrev m_Gr_copyFrom : Nat := 19
def ah_Gr_copyFrom : List (Nat × Nat × Nat × Nat × Nat × Nat) := []
def at_Gr_hasVertex : am_T := [[(0, .iload 1, 1), (1, .ifCond .lt (Int.ofNat 16), 4), (4, .iload 1, 5), (5, .aload 0, 6), (6, .getfield 128, 9), (9, .if_icmp .ge (Int.ofNat 16), 12), (12, .ldc 1, 13), (13, .goto (Int.ofNat 17), 16)], [(16, .ldc 0, 17), (17, .areturn, 18)]]
abbrev m_Gr_hasVertex : Nat := 20
def ah_Gr_hasVertex : List (Nat × Nat × Nat × Nat × Nat × Nat) := []
def at_Gr_isTerminal : am_T := [[(0, .aload 0, 1), (1, .iload 1, 2), (2, .invokevirtual 16705, 5), (5, .ifCond .eq (Int.ofNat 23), 8), (8, .aload 0, 9), (9, .getfield 130, 12), (12, .iload 1, 13), (13, .ishr, 14), (14, .ldc 1, 15), (15, .iand, 16)], [(16, .ifCond .eq (Int.ofNat 23), 19), (19, .ldc 1, 20), (20, .goto (Int.ofNat 24), 23), (23, .ldc 0, 24), (24, .areturn, 25)]]
abbrev m_Gr_isTerminal : Nat := 21
def ah_Gr_isTerminal : List (Nat × Nat × Nat × Nat × Nat × Nat) := []
def at_Gr_allVertices : am_T := [[(0, .ldc 1, 1), (1, .aload 0, 2), (2, .getfield 128, 5), (5, .ishl, 6), (6, .ldc 1, 7), (7, .isub, 8), (8, .ireturn, 9)]]
abbrev m_Gr_allVertices : Nat := 22
def ah_Gr_allVertices : List (Nat × Nat × Nat × Nat × Nat × Nat) := []
def at_Gr_hasEdgeBetween : am_T := [[(0, .ldc 1, 1), (1, .iload 1, 2), (2, .ishl, 3), (3, .ldc 1, 4), (4, .iload 2, 5), (5, .ishl, 6), (6, .ior, 7), (7, .istore 3, 8), (8, .ldc 0, 9), (9, .istore 4, 11), (11, .iload 4, 13), (13, .aload 0, 14), (14, .getfield 129, 17)], [(17, .if_icmp .ge (Int.ofNat 38), 20), (20, .aload 0, 21), (21, .iload 4, 23), (23, .invokevirtual 16769, 26), (26, .iload 3, 27), (27, .if_icmp .ne (Int.ofNat 32), 30), (30, .ldc 1, 31), (31, .areturn, 32)], [(32, .iinc 4 (Int.ofNat 1), 35), (35, .goto (Int.ofNat 11), 38), (38, .ldc 0, 39), (39, .areturn, 40)]]
abbrev m_Gr_hasEdgeBetween : Nat := 23
def ah_Gr_hasEdgeBetween : List (Nat × Nat × Nat × Nat × Nat × Nat) := []
def at_Gr_endsOf : am_T := [[(0, .ldc 1, 1), (1, .aload 0, 2), (2, .getstatic 133, 5), (5, .iload 1, 6), (6, .iaload, 7), (7, .ishl, 8), (8, .ldc 1, 9), (9, .aload 0, 10), (10, .getstatic 134, 13), (13, .iload 1, 14), (14, .iaload, 15), (15, .ishl, 16)], [(16, .ior, 17), (17, .ireturn, 18)]]
abbrev m_Gr_endsOf : Nat := 24
def ah_Gr_endsOf : List (Nat × Nat × Nat × Nat × Nat × Nat) := []
def at_Gr_lengthOf : am_T := [[(0, .aload 0, 1), (1, .getstatic 136, 4), (4, .iload 1, 5), (5, .iaload, 6), (6, .ifCond .le (Int.ofNat 22), 9), (9, .ldc 10000, 12), (12, .aload 0, 13), (13, .getstatic 136, 16)], [(16, .iload 1, 17), (17, .iaload, 18), (18, .idiv, 19), (19, .goto (Int.ofNat 23), 22), (22, .ldc 0, 23), (23, .ireturn, 24)]]
abbrev m_Gr_lengthOf : Nat := 25
def ah_Gr_lengthOf : List (Nat × Nat × Nat × Nat × Nat × Nat) := []
def at_Gr_putEdge : am_T := [[(0, .aload 0, 1), (1, .getfield 129, 4), (4, .ldc 20, 6), (6, .if_icmp .lt (Int.ofNat 10), 9), (9, .return_, 10), (10, .aload 0, 11), (11, .getstatic 133, 14), (14, .aload 0, 15), (15, .getfield 129, 18)], [(18, .iload 1, 19), (19, .iload 2, 20), (20, .dsub, 23), (23, .iastore, 24), (24, .aload 0, 25), (25, .getstatic 134, 28), (28, .aload 0, 29), (29, .getfield 129, 32)], [(32, .iload 1, 33), (33, .iload 2, 34), (34, .dadd, 37), (37, .iastore, 38), (38, .aload 0, 39), (39, .getstatic 135, 42), (42, .aload 0, 43), (43, .getfield 129, 46), (46, .iload 3, 47), (47, .iastore, 48)], [(48, .aload 0, 49), (49, .dup, 50), (50, .getfield 129, 53), (53, .ldc 1, 54), (54, .iadd, 55), (55, .putfield 129, 58), (58, .return_, 59)]]
abbrev m_Gr_putEdge : Nat := 26
def ah_Gr_putEdge : List (Nat × Nat × Nat × Nat × Nat × Nat) := []
def at_Gr_updateCost : am_T := [[(0, .aload 0, 1), (1, .getstatic 135, 4), (4, .iload 1, 5), (5, .iaload, 6), (6, .istore 2, 7), (7, .aload 0, 8), (8, .getstatic 137, 11), (11, .ifnull (Int.ofNat 45), 14), (14, .aload 0, 15), (15, .getstatic 137, 18)], [(18, .iload 2, 19), (19, .aload 0, 20), (20, .getstatic 131, 23), (23, .aload 0, 24), (24, .getstatic 133, 27), (27, .iload 1, 28), (28, .iaload, 29), (29, .iaload, 30), (30, .aload 0, 31), (31, .getstatic 131, 34)], [(34, .aload 0, 35), (35, .getstatic 134, 38), (38, .iload 1, 39), (39, .iaload, 40), (40, .iaload, 41), (41, .invokevirtual 8419, 44), (44, .istore 2, 45), (45, .aload 0, 46), (46, .getstatic 136, 49)], [(49, .iload 1, 50), (50, .ldc 1, 51), (51, .ldc 9999, 54), (54, .iload 2, 55), (55, .dsub, 58), (58, .dadd, 61), (61, .iastore, 62), (62, .return_, 63)]]
abbrev m_Gr_updateCost : Nat := 27
def ah_Gr_updateCost : List (Nat × Nat × Nat × Nat × Nat × Nat) := []
def at_Gr_dropEdge : am_T := [[(0, .iload 1, 1), (1, .ldc 1, 2), (2, .iadd, 3), (3, .istore 2, 4), (4, .iload 2, 5), (5, .aload 0, 6), (6, .getfield 129, 9), (9, .if_icmp .ge (Int.ofNat 74), 12), (12, .aload 0, 13), (13, .getstatic 133, 16)], [(16, .iload 2, 17), (17, .ldc 1, 18), (18, .isub, 19), (19, .aload 0, 20), (20, .getstatic 133, 23), (23, .iload 2, 24), (24, .iaload, 25), (25, .iastore, 26), (26, .aload 0, 27), (27, .getstatic 134, 30), (30, .iload 2, 31), (31, .ldc 1, 32)], [(32, .isub, 33), (33, .aload 0, 34), (34, .getstatic 134, 37), (37, .iload 2, 38), (38, .iaload, 39), (39, .iastore, 40), (40, .aload 0, 41), (41, .getstatic 135, 44), (44, .iload 2, 45), (45, .ldc 1, 46), (46, .isub, 47), (47, .aload 0, 48)], [(48, .getstatic 135, 51), (51, .iload 2, 52), (52, .iaload, 53), (53, .iastore, 54), (54, .aload 0, 55), (55, .getstatic 136, 58), (58, .iload 2, 59), (59, .ldc 1, 60), (60, .isub, 61), (61, .aload 0, 62), (62, .getstatic 136, 65)], [(65, .iload 2, 66), (66, .iaload, 67), (67, .iastore, 68), (68, .iinc 2 (Int.ofNat 1), 71), (71, .goto (Int.ofNat 4), 74), (74, .aload 0, 75), (75, .dup, 76), (76, .getfield 129, 79), (79, .ldc 1, 80)], [(80, .isub, 81), (81, .putfield 129, 84), (84, .return_, 85)]]
abbrev m_Gr_dropEdge : Nat := 28
def ah_Gr_dropEdge : List (Nat × Nat × Nat × Nat × Nat × Nat) := []
def at_Gr_startTerminal : am_T := [[(0, .aload 0, 1), (1, .dup, 2), (2, .getfield 130, 5), (5, .ldc 1, 6), (6, .iload 1, 7), (7, .ishl, 8), (8, .ior, 9), (9, .putfield 130, 12), (12, .aload 0, 13), (13, .getstatic 132, 16)], [(16, .iload 1, 17), (17, .iload 1, 18), (18, .iastore, 19), (19, .return_, 20)]]
abbrev m_Gr_startTerminal : Nat := 29
def ah_Gr_startTerminal : List (Nat × Nat × Nat × Nat × Nat × Nat) := []
def at_Gr_endTerminal : am_T := [[(0, .aload 0, 1), (1, .dup, 2), (2, .getfield 130, 5), (5, .ldc 1, 6), (6, .iload 1, 7), (7, .ishl, 8), (8, .ldc_w 1, 9), (9, .ixor, 10), (10, .iand, 11), (11, .putfield 130, 14), (14, .ldc 0, 15), (15, .istore 2, 16)], [(16, .iload 2, 17), (17, .aload 0, 18), (18, .getfield 128, 21), (21, .if_icmp .ge (Int.ofNat 47), 24), (24, .aload 0, 25), (25, .getstatic 132, 28), (28, .iload 2, 29), (29, .iaload, 30), (30, .iload 1, 31), (31, .if_icmp .ne (Int.ofNat 41), 34)], [(34, .aload 0, 35), (35, .getstatic 132, 38), (38, .iload 2, 39), (39, .ldc_w 1, 40), (40, .iastore, 41), (41, .iinc 2 (Int.ofNat 1), 44), (44, .goto (Int.ofNat 16), 47), (47, .return_, 48)]]
abbrev m_Gr_endTerminal : Nat := 30
def ah_Gr_endTerminal : List (Nat × Nat × Nat × Nat × Nat × Nat) := []
def at_Gr_takeLabels : am_T := [[(0, .ldc 0, 1), (1, .istore 2, 2), (2, .iload 2, 3), (3, .aload 0, 4), (4, .getfield 128, 7), (7, .if_icmp .ge (Int.ofNat 31), 10), (10, .iload 2, 11), (11, .aload 1, 12), (12, .arraylength, 13), (13, .if_icmp .ge (Int.ofNat 31), 16)], [(16, .aload 0, 17), (17, .getstatic 132, 20), (20, .iload 2, 21), (21, .aload 1, 22), (22, .iload 2, 23), (23, .iaload, 24), (24, .iastore, 25), (25, .iinc 2 (Int.ofNat 1), 28), (28, .goto (Int.ofNat 2), 31), (31, .return_, 32)]]
abbrev m_Gr_takeLabels : Nat := 31
def ah_Gr_takeLabels : List (Nat × Nat × Nat × Nat × Nat × Nat) := []
def at_Gr_borderOf : am_T := [[(0, .ldc 0, 1), (1, .istore 2, 2), (2, .ldc 0, 3), (3, .istore 3, 4), (4, .iload 3, 5), (5, .aload 0, 6), (6, .getfield 129, 9), (9, .if_icmp .ge (Int.ofNat 47), 12), (12, .iload 1, 13), (13, .aload 0, 14), (14, .getstatic 133, 17)], [(17, .iload 3, 18), (18, .iaload, 19), (19, .ishr, 20), (20, .ldc 1, 21), (21, .iand, 22), (22, .iload 1, 23), (23, .aload 0, 24), (24, .getstatic 134, 27), (27, .iload 3, 28), (28, .iaload, 29), (29, .ishr, 30), (30, .ldc 1, 31), (31, .iand, 32)], [(32, .if_icmp .eq (Int.ofNat 41), 35), (35, .iload 2, 36), (36, .ldc 1, 37), (37, .iload 3, 38), (38, .ishl, 39), (39, .ior, 40), (40, .istore 2, 41), (41, .iinc 3 (Int.ofNat 1), 44), (44, .goto (Int.ofNat 4), 47), (47, .iload 2, 48)], [(48, .ireturn, 49)]]
abbrev m_Gr_borderOf : Nat := 32
def ah_Gr_borderOf : List (Nat × Nat × Nat × Nat × Nat × Nat) := []
def at_Gr_costOfEdges : am_T := [[(0, .ldc 0, 1), (1, .istore 2, 2), (2, .ldc 0, 3), (3, .istore 3, 4), (4, .iload 3, 5), (5, .aload 0, 6), (6, .getfield 129, 9), (9, .if_icmp .ge (Int.ofNat 35), 12), (12, .iload 1, 13), (13, .iload 3, 14), (14, .ishr, 15), (15, .ldc 1, 16)], [(16, .iand, 17), (17, .ifCond .eq (Int.ofNat 29), 20), (20, .iload 2, 21), (21, .aload 0, 22), (22, .getstatic 136, 25), (25, .iload 3, 26), (26, .iaload, 27), (27, .iadd, 28), (28, .istore 2, 29), (29, .iinc 3 (Int.ofNat 1), 32)], [(32, .goto (Int.ofNat 4), 35), (35, .iload 2, 36), (36, .ireturn, 37)]]
abbrev m_Gr_costOfEdges : Nat := 33
def ah_Gr_costOfEdges : List (Nat × Nat × Nat × Nat × Nat × Nat) := []
def at_Gr_costOfSet : am_T := [[(0, .aload 0, 1), (1, .aload 0, 2), (2, .iload 1, 3), (3, .invokevirtual 16897, 6), (6, .invokevirtual 16913, 9), (9, .ireturn, 10)]]
abbrev m_Gr_costOfSet : Nat := 34
def ah_Gr_costOfSet : List (Nat × Nat × Nat × Nat × Nat × Nat) := []
def at_Gr_presentCut : am_T := [[(0, .ldc 0, 1), (1, .istore 1, 2), (2, .ldc 0, 3), (3, .istore 2, 4), (4, .iload 2, 5), (5, .aload 0, 6), (6, .getfield 129, 9), (9, .if_icmp .ge (Int.ofNat 49), 12), (12, .aload 0, 13), (13, .getstatic 132, 16)], [(16, .aload 0, 17), (17, .getstatic 133, 20), (20, .iload 2, 21), (21, .iaload, 22), (22, .iaload, 23), (23, .aload 0, 24), (24, .getstatic 132, 27), (27, .aload 0, 28), (28, .getstatic 134, 31), (31, .iload 2, 32)], [(32, .iaload, 33), (33, .iaload, 34), (34, .if_icmp .eq (Int.ofNat 43), 37), (37, .iload 1, 38), (38, .ldc 1, 39), (39, .iload 2, 40), (40, .ishl, 41), (41, .ior, 42), (42, .istore 1, 43), (43, .iinc 2 (Int.ofNat 1), 46), (46, .goto (Int.ofNat 4), 49)], [(49, .iload 1, 50), (50, .ireturn, 51)]]
abbrev m_Gr_presentCut : Nat := 35
def ah_Gr_presentCut : List (Nat × Nat × Nat × Nat × Nat × Nat) := []
def at_Gr_presentCost : am_T := [[(0, .aload 0, 1), (1, .aload 0, 2), (2, .invokevirtual 16944, 5), (5, .invokevirtual 16913, 8), (8, .ireturn, 9)]]
abbrev m_Gr_presentCost : Nat := 36
def ah_Gr_presentCost : List (Nat × Nat × Nat × Nat × Nat × Nat) := []
def at_Gp_init : am_T := [[(0, .aload 0, 1), (1, .pop2, 4), (4, .aload 0, 5), (5, .ldc 9, 7), (7, .anewarray 2, 9), (9, .checkcast 193, 12), (12, .return_, 13)]]
abbrev m_Gp_init : Nat := 37
def ah_Gp_init : List (Nat × Nat × Nat × Nat × Nat × Nat) := []
def at_Gp_run : am_T := [[(0, .aload 0, 1), (1, .ldc 0, 2), (2, .putfield 192, 5), (5, .ldc 0, 6), (6, .istore 2, 7), (7, .iload 2, 8), (8, .ldc 9, 10), (10, .if_icmp .ge (Int.ofNat 40), 13), (13, .aload 0, 14), (14, .getstatic 193, 17)], [(17, .iload 2, 18), (18, .aload 1, 19), (19, .iload 2, 20), (20, .invokevirtual 16721, 23), (23, .ifCond .eq (Int.ofNat 32), 26), (26, .ldc 1, 27), (27, .iload 2, 28), (28, .ishl, 29), (29, .goto (Int.ofNat 33), 32)], [(32, .ldc 0, 33), (33, .iastore, 34), (34, .iinc 2 (Int.ofNat 1), 37), (37, .goto (Int.ofNat 7), 40), (40, .aload 1, 41), (41, .getfield 130, 44), (44, .ifCond .eq (Int.ofNat 51), 47), (47, .ldc 1, 48)], [(48, .goto (Int.ofNat 52), 51), (51, .ldc 0, 52), (52, .istore 2, 53), (53, .iload 2, 54), (54, .ifCond .eq (Int.ofNat 85), 57), (57, .aload 0, 58), (58, .getfield 192, 61), (61, .ldc 9, 63), (63, .if_icmp .ge (Int.ofNat 85), 66)], [(66, .aload 0, 67), (67, .aload 1, 68), (68, .invokevirtual 25201, 71), (71, .istore 2, 72), (72, .aload 0, 73), (73, .dup, 74), (74, .getfield 192, 77), (77, .ldc 1, 78), (78, .iadd, 79), (79, .putfield 192, 82)], [(82, .goto (Int.ofNat 53), 85), (85, .return_, 86)]]
abbrev m_Gp_run : Nat := 38
def ah_Gp_run : List (Nat × Nat × Nat × Nat × Nat × Nat) := []
def at_Gp_makeRound : am_T := [[(0, .ldc 0, 1), (1, .istore 2, 2), (2, .ldc 0, 3), (3, .istore 3, 4), (4, .iload 3, 5), (5, .aload 1, 6), (6, .getfield 128, 9), (9, .if_icmp .ge (Int.ofNat 86), 12), (12, .aload 1, 13), (13, .iload 3, 14), (14, .invokevirtual 16721, 17)], [(17, .ifCond .ne (Int.ofNat 23), 20), (20, .goto (Int.ofNat 80), 23), (23, .aload 1, 24), (24, .invokevirtual 16736, 27), (27, .aload 0, 28), (28, .invokevirtual 25216, 31), (31, .ldc_w 1, 32)], [(32, .ixor, 33), (33, .iand, 34), (34, .istore 4, 36), (36, .aload 1, 37), (37, .aload 0, 38), (38, .getstatic 193, 41), (41, .iload 3, 42), (42, .iaload, 43), (43, .iload 4, 45), (45, .ldc 1, 46), (46, .invokestatic 36, 49)], [(49, .istore 5, 51), (51, .iload 2, 52), (52, .ifCond .ne (Int.ofNat 66), 55), (55, .iload 5, 57), (57, .aload 0, 58), (58, .getstatic 193, 61), (61, .iload 3, 62), (62, .iaload, 63), (63, .if_icmp .eq (Int.ofNat 70), 66)], [(66, .ldc 1, 67), (67, .goto (Int.ofNat 71), 70), (70, .ldc 0, 71), (71, .istore 2, 72), (72, .aload 0, 73), (73, .getstatic 193, 76), (76, .iload 3, 77), (77, .iload 5, 79), (79, .iastore, 80)], [(80, .iinc 3 (Int.ofNat 1), 83), (83, .goto (Int.ofNat 4), 86), (86, .iload 2, 87), (87, .areturn, 88)]]
abbrev m_Gp_makeRound : Nat := 39
def ah_Gp_makeRound : List (Nat × Nat × Nat × Nat × Nat × Nat) := []
def at_Gp_grouped : am_T := [[(0, .ldc 0, 1), (1, .istore 1, 2), (2, .ldc 0, 3), (3, .istore 2, 4), (4, .iload 2, 5), (5, .ldc 9, 7), (7, .if_icmp .ge (Int.ofNat 25), 10), (10, .iload 1, 11), (11, .aload 0, 12), (12, .getstatic 193, 15), (15, .iload 2, 16)], [(16, .iaload, 17), (17, .ior, 18), (18, .istore 1, 19), (19, .iinc 2 (Int.ofNat 1), 22), (22, .goto (Int.ofNat 4), 25), (25, .iload 1, 26), (26, .ireturn, 27)]]
abbrev m_Gp_grouped : Nat := 40
def ah_Gp_grouped : List (Nat × Nat × Nat × Nat × Nat × Nat) := []
def at_Gp_ownerOf : am_T := [[(0, .ldc 0, 1), (1, .istore 2, 2), (2, .iload 2, 3), (3, .ldc 9, 5), (5, .if_icmp .ge (Int.ofNat 29), 8), (8, .aload 0, 9), (9, .getstatic 193, 12), (12, .iload 2, 13), (13, .iaload, 14), (14, .iload 1, 15), (15, .ishr, 16)], [(16, .ldc 1, 17), (17, .iand, 18), (18, .ifCond .eq (Int.ofNat 23), 21), (21, .iload 2, 22), (22, .ireturn, 23), (23, .iinc 2 (Int.ofNat 1), 26), (26, .goto (Int.ofNat 2), 29), (29, .ldc_w 1, 30), (30, .ireturn, 31)]]
abbrev m_Gp_ownerOf : Nat := 41
def ah_Gp_ownerOf : List (Nat × Nat × Nat × Nat × Nat × Nat) := []
def at_Hi_init : am_T := [[(0, .aload 0, 1), (1, .pop2, 4), (4, .aload 0, 5), (5, .ldc 8, 7), (7, .anewarray 6, 10), (10, .checkcast 256, 13), (13, .ldc 0, 14), (14, .istore 1, 15), (15, .iload 1, 16)], [(16, .ldc 8, 18), (18, .if_icmp .ge (Int.ofNat 40), 21), (21, .aload 0, 22), (22, .getstatic 256, 25), (25, .iload 1, 26), (26, .new 138, 29), (29, .dup, 30), (30, .invokevirtual 16656, 33)], [(33, .aastore, 34), (34, .iinc 1 (Int.ofNat 1), 37), (37, .goto (Int.ofNat 15), 40), (40, .return_, 41)]]
abbrev m_Hi_init : Nat := 42
def ah_Hi_init : List (Nat × Nat × Nat × Nat × Nat × Nat) := []
def at_Hi_save : am_T := [[(0, .aload 0, 1), (1, .getstatic 256, 4), (4, .aload 0, 5), (5, .getfield 257, 8), (8, .aaload, 9), (9, .aload 1, 10), (10, .invokevirtual 16689, 13), (13, .aload 0, 14), (14, .aload 0, 15), (15, .getfield 257, 18)], [(18, .ldc 1, 19), (19, .iadd, 20), (20, .ldc 8, 22), (22, .irem, 23), (23, .putfield 257, 26), (26, .aload 0, 27), (27, .ldc 8, 29), (29, .aload 0, 30), (30, .getfield 258, 33)], [(33, .ldc 1, 34), (34, .iadd, 35), (35, .dsub, 38), (38, .putfield 258, 41), (41, .return_, 42)]]
abbrev m_Hi_save : Nat := 43
def ah_Hi_save : List (Nat × Nat × Nat × Nat × Nat × Nat) := []
def at_Hi_restore : am_T := [[(0, .aload 0, 1), (1, .getfield 258, 4), (4, .ifCond .ne (Int.ofNat 9), 7), (7, .ldc_w 1, 8), (8, .ireturn, 9), (9, .aload 0, 10), (10, .aload 0, 11), (11, .getfield 257, 14), (14, .ldc 8, 16)], [(16, .iadd, 17), (17, .ldc 1, 18), (18, .isub, 19), (19, .ldc 8, 21), (21, .irem, 22), (22, .putfield 257, 25), (25, .aload 0, 26), (26, .dup, 27), (27, .getfield 258, 30), (30, .ldc 1, 31), (31, .isub, 32)], [(32, .putfield 258, 35), (35, .aload 1, 36), (36, .aload 0, 37), (37, .getstatic 256, 40), (40, .aload 0, 41), (41, .getfield 257, 44), (44, .aaload, 45), (45, .invokevirtual 16689, 48)], [(48, .aload 0, 49), (49, .getfield 258, 52), (52, .ireturn, 53)]]
abbrev m_Hi_restore : Nat := 44
def ah_Hi_restore : List (Nat × Nat × Nat × Nat × Nat × Nat) := []
def at_Mv_init : am_T := [[(0, .aload 0, 1), (1, .pop2, 4), (4, .return_, 5)]]
abbrev m_Mv_init : Nat := 45
def ah_Mv_init : List (Nat × Nat × Nat × Nat × Nat × Nat) := []
def at_Mv_run : am_T := [[(0, .aload 0, 1), (1, .ldc_w 1, 2), (2, .putfield 320, 5), (5, .aload 0, 6), (6, .ldc_w 1, 7), (7, .putfield 321, 10), (10, .aload 0, 11), (11, .ldc_w 1, 12), (12, .putfield 322, 15), (15, .ldc 0, 16)], [(16, .istore 2, 17), (17, .iload 2, 18), (18, .aload 1, 19), (19, .getfield 128, 22), (22, .if_icmp .ge (Int.ofNat 80), 25), (25, .ldc 0, 26), (26, .istore 3, 27), (27, .iload 3, 28), (28, .aload 1, 29), (29, .getfield 128, 32)], [(32, .if_icmp .ge (Int.ofNat 74), 35), (35, .aload 1, 36), (36, .iload 2, 37), (37, .invokevirtual 16721, 40), (40, .ifCond .ne (Int.ofNat 68), 43), (43, .aload 1, 44), (44, .iload 3, 45), (45, .invokevirtual 16721, 48)], [(48, .ifCond .eq (Int.ofNat 68), 51), (51, .aload 1, 52), (52, .getstatic 132, 55), (55, .iload 2, 56), (56, .iaload, 57), (57, .iload 3, 58), (58, .if_icmp .eq (Int.ofNat 68), 61), (61, .aload 0, 62), (62, .aload 1, 63), (63, .iload 2, 64)], [(64, .iload 3, 65), (65, .invokevirtual 41715, 68), (68, .iinc 3 (Int.ofNat 1), 71), (71, .goto (Int.ofNat 27), 74), (74, .iinc 2 (Int.ofNat 1), 77), (77, .goto (Int.ofNat 17), 80)], [(80, .return_, 81)]]
abbrev m_Mv_run : Nat := 46
def ah_Mv_run : List (Nat × Nat × Nat × Nat × Nat × Nat) := []
def at_Mv_consider : am_T := [[(0, .aload 1, 1), (1, .getstatic 132, 4), (4, .iload 2, 5), (5, .iaload, 6), (6, .istore 4, 8), (8, .aload 1, 9), (9, .getstatic 132, 12), (12, .iload 2, 13), (13, .iload 3, 14), (14, .iastore, 15), (15, .aload 1, 16)], [(16, .invokevirtual 16960, 19), (19, .istore 5, 21), (21, .aload 1, 22), (22, .getstatic 132, 25), (25, .iload 2, 26), (26, .iload 4, 28), (28, .iastore, 29), (29, .aload 0, 30), (30, .getfield 320, 33)], [(33, .ldc_w 1, 34), (34, .if_icmp .eq (Int.ofNat 46), 37), (37, .iload 5, 39), (39, .aload 0, 40), (40, .getfield 322, 43), (43, .if_icmp .ge (Int.ofNat 62), 46), (46, .aload 0, 47), (47, .iload 2, 48)], [(48, .putfield 320, 51), (51, .aload 0, 52), (52, .iload 3, 53), (53, .putfield 321, 56), (56, .aload 0, 57), (57, .iload 5, 59), (59, .putfield 322, 62), (62, .return_, 63)]]
abbrev m_Mv_consider : Nat := 47
def ah_Mv_consider : List (Nat × Nat × Nat × Nat × Nat × Nat) := []
def at_Mv_makeImprovement : am_T := [[(0, .aload 0, 1), (1, .aload 1, 2), (2, .invokevirtual 41697, 5), (5, .aload 0, 6), (6, .getfield 320, 9), (9, .ldc_w 1, 10), (10, .if_icmp .eq (Int.ofNat 24), 13), (13, .aload 0, 14), (14, .getfield 322, 17)], [(17, .aload 1, 18), (18, .invokevirtual 16960, 21), (21, .if_icmp .lt (Int.ofNat 26), 24), (24, .ldc 0, 25), (25, .areturn, 26), (26, .aload 1, 27), (27, .getstatic 132, 30), (30, .aload 0, 31), (31, .getfield 320, 34)], [(34, .aload 0, 35), (35, .getfield 321, 38), (38, .iastore, 39), (39, .ldc 1, 40), (40, .areturn, 41)]]
abbrev m_Mv_makeImprovement : Nat := 48
def ah_Mv_makeImprovement : List (Nat × Nat × Nat × Nat × Nat × Nat) := []
def at_Ne_init : am_T := [[(0, .aload 0, 1), (1, .pop2, 4), (4, .aload 0, 5), (5, .ldc 9, 7), (7, .anewarray 2, 9), (9, .checkcast 384, 12), (12, .aload 0, 13), (13, .ldc 9, 15), (15, .anewarray 2, 17)], [(17, .checkcast 385, 20), (20, .return_, 21)]]
abbrev m_Ne_init : Nat := 49
def ah_Ne_init : List (Nat × Nat × Nat × Nat × Nat × Nat) := []
def at_Ne_run : am_T := [[(0, .ldc 0, 1), (1, .istore 2, 2), (2, .iload 2, 3), (3, .ldc 9, 5), (5, .if_icmp .ge (Int.ofNat 50), 8), (8, .aload 1, 9), (9, .iload 2, 10), (10, .invokevirtual 16721, 13), (13, .istore 3, 14), (14, .aload 0, 15), (15, .getstatic 384, 18)], [(18, .iload 2, 19), (19, .iload 3, 20), (20, .ifCond .eq (Int.ofNat 27), 23), (23, .iload 2, 24), (24, .goto (Int.ofNat 28), 27), (27, .ldc_w 1, 28), (28, .iastore, 29), (29, .aload 0, 30), (30, .getstatic 385, 33)], [(33, .iload 2, 34), (34, .iload 3, 35), (35, .ifCond .eq (Int.ofNat 42), 38), (38, .ldc 0, 39), (39, .goto (Int.ofNat 43), 42), (42, .ldc_w 1, 43), (43, .iastore, 44), (44, .iinc 2 (Int.ofNat 1), 47), (47, .goto (Int.ofNat 2), 50)], [(50, .ldc 1, 51), (51, .istore 2, 52), (52, .iload 2, 53), (53, .aload 1, 54), (54, .getfield 128, 57), (57, .if_icmp .ge (Int.ofNat 124), 60), (60, .ldc 0, 61), (61, .istore 3, 62), (62, .iload 3, 63), (63, .aload 1, 64)], [(64, .getfield 129, 67), (67, .if_icmp .ge (Int.ofNat 118), 70), (70, .aload 0, 71), (71, .aload 1, 72), (72, .getstatic 133, 75), (75, .iload 3, 76), (76, .iaload, 77), (77, .aload 1, 78), (78, .getstatic 134, 81)], [(81, .iload 3, 82), (82, .iaload, 83), (83, .aload 1, 84), (84, .iload 3, 85), (85, .invokevirtual 16785, 88), (88, .invokevirtual 49971, 91), (91, .aload 0, 92), (92, .aload 1, 93), (93, .getstatic 134, 96)], [(96, .iload 3, 97), (97, .iaload, 98), (98, .aload 1, 99), (99, .getstatic 133, 102), (102, .iload 3, 103), (103, .iaload, 104), (104, .aload 1, 105), (105, .iload 3, 106), (106, .invokevirtual 16785, 109), (109, .invokevirtual 49971, 112)], [(112, .iinc 3 (Int.ofNat 1), 115), (115, .goto (Int.ofNat 62), 118), (118, .iinc 2 (Int.ofNat 1), 121), (121, .goto (Int.ofNat 52), 124), (124, .return_, 125)]]
abbrev m_Ne_run : Nat := 50
def ah_Ne_run : List (Nat × Nat × Nat × Nat × Nat × Nat) := []
def at_Ne_offer : am_T := [[(0, .aload 0, 1), (1, .getstatic 384, 4), (4, .iload 1, 5), (5, .iaload, 6), (6, .ldc_w 1, 7), (7, .if_icmp .ne (Int.ofNat 11), 10), (10, .return_, 11), (11, .aload 0, 12), (12, .getstatic 385, 15), (15, .iload 1, 16)], [(16, .iaload, 17), (17, .iload 3, 18), (18, .iadd, 19), (19, .istore 4, 21), (21, .aload 0, 22), (22, .getstatic 384, 25), (25, .iload 2, 26), (26, .iaload, 27), (27, .ldc_w 1, 28), (28, .if_icmp .eq (Int.ofNat 42), 31), (31, .iload 4, 33)], [(33, .aload 0, 34), (34, .getstatic 385, 37), (37, .iload 2, 38), (38, .iaload, 39), (39, .if_icmp .ge (Int.ofNat 46), 42), (42, .ldc 1, 43), (43, .goto (Int.ofNat 47), 46), (46, .ldc 0, 47), (47, .istore 5, 49)], [(49, .iload 5, 51), (51, .ifCond .ne (Int.ofNat 80), 54), (54, .iload 4, 56), (56, .aload 0, 57), (57, .getstatic 385, 60), (60, .iload 2, 61), (61, .iaload, 62), (62, .if_icmp .ne (Int.ofNat 100), 65)], [(65, .aload 0, 66), (66, .getstatic 384, 69), (69, .iload 1, 70), (70, .iaload, 71), (71, .aload 0, 72), (72, .getstatic 384, 75), (75, .iload 2, 76), (76, .iaload, 77), (77, .if_icmp .ge (Int.ofNat 100), 80)], [(80, .aload 0, 81), (81, .getstatic 384, 84), (84, .iload 2, 85), (85, .aload 0, 86), (86, .getstatic 384, 89), (89, .iload 1, 90), (90, .iaload, 91), (91, .iastore, 92), (92, .aload 0, 93), (93, .getstatic 385, 96)], [(96, .iload 2, 97), (97, .iload 4, 99), (99, .iastore, 100), (100, .return_, 101)]]
abbrev m_Ne_offer : Nat := 51
def ah_Ne_offer : List (Nat × Nat × Nat × Nat × Nat × Nat) := []
def at_Rd_init : am_T := [[(0, .aload 0, 1), (1, .pop2, 4), (4, .aload 0, 5), (5, .new 138, 8), (8, .dup, 9), (9, .invokevirtual 16656, 12), (12, .checkcast 448, 15), (15, .aload 0, 16)], [(16, .ldc 0, 17), (17, .anewarray 3, 19), (19, .checkcast 451, 22), (22, .aload 0, 23), (23, .ldc 700, 26), (26, .anewarray 2, 28), (28, .checkcast 459, 31), (31, .return_, 32)]]
abbrev m_Rd_init : Nat := 52
def ah_Rd_init : List (Nat × Nat × Nat × Nat × Nat × Nat) := []
def at_Rd_read : am_T := [[(0, .aload 0, 1), (1, .getstatic 448, 4), (4, .invokevirtual 16672, 7), (7, .aload 0, 8), (8, .aload 1, 9), (9, .checkcast 451, 12), (12, .aload 0, 13), (13, .iload 2, 14), (14, .aload 1, 15), (15, .arraylength, 16)], [(16, .dsub, 19), (19, .putfield 452, 22), (22, .aload 0, 23), (23, .ldc 0, 24), (24, .putfield 455, 27), (27, .aload 0, 28), (28, .ldc 0, 29), (29, .putfield 457, 32)], [(32, .aload 0, 33), (33, .ldc 0, 34), (34, .putstatic 458, 37), (37, .aload 0, 38), (38, .ldc 0, 39), (39, .putfield 460, 42), (42, .aload 0, 43), (43, .invokevirtual 58464, 46), (46, .aload 0, 47), (47, .invokevirtual 58224, 50)], [(50, .istore 3, 51), (51, .ldc 0, 52), (52, .istore 4, 54), (54, .iload 3, 55), (55, .ifCond .eq (Int.ofNat 105), 58), (58, .aload 0, 59), (59, .getfield 453, 62), (62, .ldc 1000, 65)], [(65, .if_icmp .eq (Int.ofNat 105), 68), (68, .iload 4, 70), (70, .aload 0, 71), (71, .getfield 452, 74), (74, .if_icmp .ge (Int.ofNat 105), 77), (77, .aload 0, 78), (78, .invokevirtual 58240, 81)], [(81, .ifCond .eq (Int.ofNat 97), 84), (84, .aload 0, 85), (85, .ldc 59, 87), (87, .invokevirtual 58385, 90), (90, .ifCond .eq (Int.ofNat 97), 93), (93, .ldc 1, 94), (94, .goto (Int.ofNat 98), 97)], [(97, .ldc 0, 98), (98, .istore 3, 99), (99, .iinc 4 (Int.ofNat 1), 102), (102, .goto (Int.ofNat 54), 105), (105, .iload 3, 106), (106, .ifCond .eq (Int.ofNat 113), 109), (109, .aload 0, 110), (110, .invokevirtual 58208, 113)], [(113, .iload 3, 114), (114, .areturn, 115)]]
abbrev m_Rd_read : Nat := 53
def ah_Rd_read : List (Nat × Nat × Nat × Nat × Nat × Nat) := []
def at_Rd_finish : am_T := [[(0, .aload 0, 1), (1, .getfield 458, 4), (4, .ifCond .eq (Int.ofNat 32), 7), (7, .aload 0, 8), (8, .getstatic 448, 11), (11, .new 66, 14), (14, .dup, 15), (15, .aload 0, 16)], [(16, .getstatic 459, 19), (19, .aload 0, 20), (20, .getfield 460, 23), (23, .invokestatic 3490, 26), (26, .invokevirtual 8401, 29), (29, .checkcast 137, 32)], [(32, .ldc 0, 33), (33, .istore 1, 34), (34, .iload 1, 35), (35, .aload 0, 36), (36, .getstatic 448, 39), (39, .getfield 128, 42), (42, .if_icmp .ge (Int.ofNat 76), 45), (45, .aload 0, 46), (46, .getstatic 448, 49)], [(49, .getstatic 132, 52), (52, .iload 1, 53), (53, .aload 0, 54), (54, .getstatic 448, 57), (57, .iload 1, 58), (58, .invokevirtual 16721, 61), (61, .ifCond .eq (Int.ofNat 68), 64)], [(64, .iload 1, 65), (65, .goto (Int.ofNat 69), 68), (68, .ldc_w 1, 69), (69, .iastore, 70), (70, .iinc 1 (Int.ofNat 1), 73), (73, .goto (Int.ofNat 34), 76), (76, .ldc 0, 77), (77, .istore 1, 78), (78, .iload 1, 79), (79, .aload 0, 80)], [(80, .getstatic 448, 83), (83, .getfield 129, 86), (86, .if_icmp .ge (Int.ofNat 103), 89), (89, .aload 0, 90), (90, .getstatic 448, 93), (93, .iload 1, 94), (94, .invokevirtual 16817, 97)], [(97, .iinc 1 (Int.ofNat 1), 100), (100, .goto (Int.ofNat 78), 103), (103, .return_, 104)]]
abbrev m_Rd_finish : Nat := 54
def ah_Rd_finish : List (Nat × Nat × Nat × Nat × Nat × Nat) := []
def at_Rd_readGraph : am_T := [[(0, .aload 0, 1), (1, .invokeinterface 0 0, 3), (3, .invokevirtual 58433, 6), (6, .ifCond .ne (Int.ofNat 16), 9), (9, .aload 0, 10), (10, .ldc_w 2, 12), (12, .invokevirtual 58449, 15), (15, .areturn, 16)], [(16, .aload 0, 17), (17, .invokevirtual 58464, 20), (20, .aload 0, 21), (21, .ldc 2, 22), (22, .ldc 9, 24), (24, .invokevirtual 58418, 27), (27, .istore 1, 28), (28, .iload 1, 29), (29, .ifCond .ge (Int.ofNat 34), 32)], [(32, .ldc 0, 33), (33, .areturn, 34), (34, .aload 0, 35), (35, .getstatic 448, 38), (38, .iload 1, 39), (39, .putfield 128, 42), (42, .aload 0, 43), (43, .invokevirtual 58464, 46), (46, .aload 0, 47), (47, .ldc 59, 49)], [(49, .invokevirtual 58385, 52), (52, .areturn, 53)]]
abbrev m_Rd_readGraph : Nat := 55
def ah_Rd_readGraph : List (Nat × Nat × Nat × Nat × Nat × Nat) := []
def at_Rd_readStatement : am_T := [[(0, .aload 0, 1), (1, .invokeinterface 1 0, 3), (3, .invokevirtual 58433, 6), (6, .ifCond .eq (Int.ofNat 14), 9), (9, .aload 0, 10), (10, .invokevirtual 58256, 13), (13, .areturn, 14), (14, .aload 0, 15), (15, .invokeinterface 2 0, 17)], [(17, .invokevirtual 58433, 20), (20, .ifCond .eq (Int.ofNat 28), 23), (23, .aload 0, 24), (24, .invokevirtual 58272, 27), (27, .areturn, 28), (28, .aload 0, 29), (29, .invokeinterface 3 0, 31), (31, .invokevirtual 58433, 34)], [(34, .ifCond .eq (Int.ofNat 42), 37), (37, .aload 0, 38), (38, .invokevirtual 58288, 41), (41, .areturn, 42), (42, .aload 0, 43), (43, .invokeinterface 4 0, 45), (45, .invokevirtual 58433, 48)], [(48, .ifCond .eq (Int.ofNat 72), 51), (51, .aload 0, 52), (52, .invokevirtual 58304, 55), (55, .ifCond .eq (Int.ofNat 70), 58), (58, .aload 0, 59), (59, .ldc 0, 60), (60, .invokevirtual 58321, 63), (63, .ifCond .eq (Int.ofNat 70), 66)], [(66, .ldc 1, 67), (67, .goto (Int.ofNat 71), 70), (70, .ldc 0, 71), (71, .areturn, 72), (72, .aload 0, 73), (73, .ldc_w 2, 75), (75, .invokevirtual 58449, 78), (78, .areturn, 79)]]
abbrev m_Rd_readStatement : Nat := 56
def ah_Rd_readStatement : List (Nat × Nat × Nat × Nat × Nat × Nat) := []
def at_Rd_readTerminal : am_T := [[(0, .aload 0, 1), (1, .getstatic 448, 4), (4, .getfield 130, 7), (7, .invokestatic 3457, 10), (10, .ldc 5, 11), (11, .if_icmp .lt (Int.ofNat 21), 14), (14, .aload 0, 15), (15, .ldc_w 5, 17)], [(17, .invokevirtual 58449, 20), (20, .areturn, 21), (21, .aload 0, 22), (22, .invokevirtual 58464, 25), (25, .aload 0, 26), (26, .invokevirtual 58400, 29), (29, .istore 1, 30), (30, .iload 1, 31), (31, .ifCond .ge (Int.ofNat 36), 34)], [(34, .ldc 0, 35), (35, .areturn, 36), (36, .aload 0, 37), (37, .getstatic 448, 40), (40, .iload 1, 41), (41, .invokevirtual 16721, 44), (44, .ifCond .eq (Int.ofNat 54), 47), (47, .aload 0, 48)], [(48, .ldc_w 4, 50), (50, .invokevirtual 58449, 53), (53, .areturn, 54), (54, .aload 0, 55), (55, .getstatic 448, 58), (58, .dup, 59), (59, .getfield 130, 62), (62, .ldc 1, 63), (63, .iload 1, 64)], [(64, .ishl, 65), (65, .ior, 66), (66, .putfield 130, 69), (69, .aload 0, 70), (70, .invokevirtual 58464, 73), (73, .ldc 1, 74), (74, .areturn, 75)]]
abbrev m_Rd_readTerminal : Nat := 57
def ah_Rd_readTerminal : List (Nat × Nat × Nat × Nat × Nat × Nat) := []
def at_Rd_readEdge : am_T := [[(0, .aload 0, 1), (1, .getstatic 448, 4), (4, .getfield 129, 7), (7, .ldc 20, 9), (9, .if_icmp .lt (Int.ofNat 19), 12), (12, .aload 0, 13), (13, .ldc_w 5, 15), (15, .invokevirtual 58449, 18)], [(18, .areturn, 19), (19, .aload 0, 20), (20, .invokevirtual 58464, 23), (23, .aload 0, 24), (24, .invokevirtual 58400, 27), (27, .istore 1, 28), (28, .iload 1, 29), (29, .ifCond .ge (Int.ofNat 34), 32)], [(32, .ldc 0, 33), (33, .areturn, 34), (34, .aload 0, 35), (35, .invokevirtual 58464, 38), (38, .aload 0, 39), (39, .invokevirtual 58400, 42), (42, .istore 2, 43), (43, .iload 2, 44), (44, .ifCond .ge (Int.ofNat 49), 47), (47, .ldc 0, 48)], [(48, .areturn, 49), (49, .iload 1, 50), (50, .iload 2, 51), (51, .if_icmp .eq (Int.ofNat 66), 54), (54, .aload 0, 55), (55, .getstatic 448, 58), (58, .iload 1, 59), (59, .iload 2, 60), (60, .invokevirtual 16754, 63), (63, .ifCond .eq (Int.ofNat 73), 66)], [(66, .aload 0, 67), (67, .ldc_w 4, 69), (69, .invokevirtual 58449, 72), (72, .areturn, 73), (73, .aload 0, 74), (74, .invokevirtual 58464, 77), (77, .aload 0, 78), (78, .ldc 1, 79), (79, .ldc 99, 81)], [(81, .invokevirtual 58418, 84), (84, .istore 3, 85), (85, .iload 3, 86), (86, .ifCond .ge (Int.ofNat 91), 89), (89, .ldc 0, 90), (90, .areturn, 91), (91, .aload 0, 92), (92, .getstatic 448, 95), (95, .iload 1, 96)], [(96, .iload 2, 97), (97, .iload 3, 98), (98, .invokevirtual 16803, 101), (101, .aload 0, 102), (102, .invokevirtual 58464, 105), (105, .ldc 1, 106), (106, .areturn, 107)]]
abbrev m_Rd_readEdge : Nat := 58
def ah_Rd_readEdge : List (Nat × Nat × Nat × Nat × Nat × Nat) := []
def at_Rd_readLoad : am_T := [[(0, .aload 0, 1), (1, .invokevirtual 58464, 4), (4, .aload 0, 5), (5, .invokevirtual 58400, 8), (8, .istore 1, 9), (9, .iload 1, 10), (10, .ifCond .ge (Int.ofNat 15), 13), (13, .ldc 0, 14), (14, .areturn, 15), (15, .aload 0, 16)], [(16, .getfield 457, 19), (19, .iload 1, 20), (20, .ishr, 21), (21, .ldc 1, 22), (22, .iand, 23), (23, .ifCond .eq (Int.ofNat 33), 26), (26, .aload 0, 27), (27, .ldc_w 4, 29), (29, .invokevirtual 58449, 32)], [(32, .areturn, 33), (33, .aload 0, 34), (34, .dup, 35), (35, .getfield 457, 38), (38, .ldc 1, 39), (39, .iload 1, 40), (40, .ishl, 41), (41, .ior, 42), (42, .putfield 457, 45), (45, .aload 0, 46), (46, .invokevirtual 58464, 49)], [(49, .aload 0, 50), (50, .ldc 0, 51), (51, .ldc 99, 53), (53, .invokevirtual 58418, 56), (56, .istore 2, 57), (57, .iload 2, 58), (58, .ifCond .ge (Int.ofNat 63), 61), (61, .ldc 0, 62), (62, .areturn, 63), (63, .aload 0, 64)], [(64, .getstatic 448, 67), (67, .getstatic 131, 70), (70, .iload 1, 71), (71, .iload 2, 72), (72, .iastore, 73), (73, .aload 0, 74), (74, .invokevirtual 58464, 77), (77, .ldc 1, 78), (78, .areturn, 79)]]
abbrev m_Rd_readLoad : Nat := 59
def ah_Rd_readLoad : List (Nat × Nat × Nat × Nat × Nat × Nat) := []
def at_Rd_startCost : am_T := [[(0, .aload 0, 1), (1, .getfield 458, 4), (4, .ifCond .eq (Int.ofNat 14), 7), (7, .aload 0, 8), (8, .ldc_w 2, 10), (10, .invokevirtual 58449, 13), (13, .areturn, 14), (14, .aload 0, 15), (15, .ldc 1, 16)], [(16, .putstatic 458, 19), (19, .aload 0, 20), (20, .invokevirtual 58464, 23), (23, .ldc 1, 24), (24, .areturn, 25)]]
abbrev m_Rd_startCost : Nat := 60
def ah_Rd_startCost : List (Nat × Nat × Nat × Nat × Nat × Nat) := []
def at_Rd_readSum : am_T := [[(0, .aload 0, 1), (1, .iload 1, 2), (2, .invokevirtual 58337, 5), (5, .istore 2, 6), (6, .ldc 0, 7), (7, .istore 3, 8), (8, .iload 2, 9), (9, .ifCond .eq (Int.ofNat 78), 12), (12, .aload 0, 13), (13, .getfield 453, 16)], [(16, .ldc 43, 18), (18, .if_icmp .eq (Int.ofNat 30), 21), (21, .aload 0, 22), (22, .getfield 453, 25), (25, .ldc 45, 27), (27, .if_icmp .ne (Int.ofNat 78), 30), (30, .iload 3, 31), (31, .aload 0, 32)], [(32, .getfield 452, 35), (35, .if_icmp .ge (Int.ofNat 78), 38), (38, .aload 0, 39), (39, .getfield 453, 42), (42, .ldc 43, 44), (44, .if_icmp .ne (Int.ofNat 52), 47), (47, .ldc_w 4, 49)], [(49, .goto (Int.ofNat 54), 52), (52, .ldc_w 5, 54), (54, .istore 4, 56), (56, .aload 0, 57), (57, .invokevirtual 58464, 60), (60, .aload 0, 61), (61, .iload 1, 62), (62, .invokevirtual 58337, 65)], [(65, .istore 2, 66), (66, .aload 0, 67), (67, .iload 4, 69), (69, .invokevirtual 58369, 72), (72, .iinc 3 (Int.ofNat 1), 75), (75, .goto (Int.ofNat 8), 78), (78, .iload 2, 79), (79, .areturn, 80)]]
abbrev m_Rd_readSum : Nat := 61
def ah_Rd_readSum : List (Nat × Nat × Nat × Nat × Nat × Nat) := []
def at_Rd_readTerm : am_T := [[(0, .aload 0, 1), (1, .iload 1, 2), (2, .invokevirtual 58353, 5), (5, .istore 2, 6), (6, .ldc 0, 7), (7, .istore 3, 8), (8, .iload 2, 9), (9, .ifCond .eq (Int.ofNat 78), 12), (12, .aload 0, 13), (13, .getfield 453, 16)], [(16, .ldc 42, 18), (18, .if_icmp .eq (Int.ofNat 30), 21), (21, .aload 0, 22), (22, .getfield 453, 25), (25, .ldc 47, 27), (27, .if_icmp .ne (Int.ofNat 78), 30), (30, .iload 3, 31), (31, .aload 0, 32)], [(32, .getfield 452, 35), (35, .if_icmp .ge (Int.ofNat 78), 38), (38, .aload 0, 39), (39, .getfield 453, 42), (42, .ldc 42, 44), (44, .if_icmp .ne (Int.ofNat 52), 47), (47, .ldc_w 6, 49)], [(49, .goto (Int.ofNat 54), 52), (52, .ldc_w 7, 54), (54, .istore 4, 56), (56, .aload 0, 57), (57, .invokevirtual 58464, 60), (60, .aload 0, 61), (61, .iload 1, 62), (62, .invokevirtual 58353, 65)], [(65, .istore 2, 66), (66, .aload 0, 67), (67, .iload 4, 69), (69, .invokevirtual 58369, 72), (72, .iinc 3 (Int.ofNat 1), 75), (75, .goto (Int.ofNat 8), 78), (78, .iload 2, 79), (79, .areturn, 80)]]
abbrev m_Rd_readTerm : Nat := 62
def ah_Rd_readTerm : List (Nat × Nat × Nat × Nat × Nat × Nat) := []
def at_Rd_readFactor : am_T := [[(0, .aload 0, 1), (1, .getfield 453, 4), (4, .ldc 40, 6), (6, .if_icmp .ne (Int.ofNat 50), 9), (9, .iload 1, 10), (10, .ldc 4, 11), (11, .if_icmp .lt (Int.ofNat 21), 14), (14, .aload 0, 15), (15, .ldc_w 6, 17)], [(17, .invokevirtual 58449, 20), (20, .areturn, 21), (21, .aload 0, 22), (22, .invokevirtual 58464, 25), (25, .aload 0, 26), (26, .iload 1, 27), (27, .ldc 1, 28), (28, .iadd, 29), (29, .invokevirtual 58321, 32)], [(32, .ifCond .eq (Int.ofNat 48), 35), (35, .aload 0, 36), (36, .ldc 41, 38), (38, .invokevirtual 58385, 41), (41, .ifCond .eq (Int.ofNat 48), 44), (44, .ldc 1, 45), (45, .goto (Int.ofNat 49), 48)], [(48, .ldc 0, 49), (49, .areturn, 50), (50, .aload 0, 51), (51, .getfield 453, 54), (54, .ldc 1001, 57), (57, .if_icmp .ne (Int.ofNat 83), 60), (60, .aload 0, 61), (61, .ldc 0, 62), (62, .ldc 9999, 65)], [(65, .invokevirtual 58418, 68), (68, .istore 2, 69), (69, .iload 2, 70), (70, .ifCond .ge (Int.ofNat 75), 73), (73, .ldc 0, 74), (74, .areturn, 75), (75, .aload 0, 76), (76, .iload 2, 77), (77, .invokevirtual 58369, 80)], [(80, .goto (Int.ofNat 143), 83), (83, .aload 0, 84), (84, .invokeinterface 5 0, 86), (86, .invokevirtual 58433, 89), (89, .ifCond .eq (Int.ofNat 100), 92), (92, .aload 0, 93), (93, .ldc_w 1, 94), (94, .invokevirtual 58369, 97)], [(97, .goto (Int.ofNat 143), 100), (100, .aload 0, 101), (101, .invokeinterface 6 0, 103), (103, .invokevirtual 58433, 106), (106, .ifCond .eq (Int.ofNat 118), 109), (109, .aload 0, 110), (110, .ldc_w 2, 112)], [(112, .invokevirtual 58369, 115), (115, .goto (Int.ofNat 143), 118), (118, .aload 0, 119), (119, .invokeinterface 7 0, 121), (121, .invokevirtual 58433, 124), (124, .ifCond .eq (Int.ofNat 136), 127), (127, .aload 0, 128)], [(128, .ldc_w 3, 130), (130, .invokevirtual 58369, 133), (133, .goto (Int.ofNat 143), 136), (136, .aload 0, 137), (137, .ldc_w 2, 139), (139, .invokevirtual 58449, 142), (142, .areturn, 143), (143, .aload 0, 144)], [(144, .invokevirtual 58464, 147), (147, .ldc 1, 148), (148, .areturn, 149)]]
abbrev m_Rd_readFactor : Nat := 63
def ah_Rd_readFactor : List (Nat × Nat × Nat × Nat × Nat × Nat) := []
def at_Rd_putCode : am_T := [[(0, .aload 0, 1), (1, .getfield 460, 4), (4, .ldc 700, 7), (7, .if_icmp .ge (Int.ofNat 30), 10), (10, .aload 0, 11), (11, .getstatic 459, 14), (14, .aload 0, 15), (15, .getfield 460, 18)], [(18, .iload 1, 19), (19, .iastore, 20), (20, .aload 0, 21), (21, .dup, 22), (22, .getfield 460, 25), (25, .ldc 1, 26), (26, .iadd, 27), (27, .putfield 460, 30), (30, .return_, 31)]]
abbrev m_Rd_putCode : Nat := 64
def ah_Rd_putCode : List (Nat × Nat × Nat × Nat × Nat × Nat) := []
def at_Rd_readSymbol : am_T := [[(0, .aload 0, 1), (1, .getfield 453, 4), (4, .iload 1, 5), (5, .if_icmp .eq (Int.ofNat 15), 8), (8, .aload 0, 9), (9, .ldc_w 2, 11), (11, .invokevirtual 58449, 14), (14, .areturn, 15), (15, .aload 0, 16)], [(16, .invokevirtual 58464, 19), (19, .ldc 1, 20), (20, .areturn, 21)]]
abbrev m_Rd_readSymbol : Nat := 65
def ah_Rd_readSymbol : List (Nat × Nat × Nat × Nat × Nat × Nat) := []
def at_Rd_vertexHere : am_T := [[(0, .aload 0, 1), (1, .ldc 0, 2), (2, .aload 0, 3), (3, .getstatic 448, 6), (6, .getfield 128, 9), (9, .ldc 1, 10), (10, .isub, 11), (11, .invokevirtual 58418, 14), (14, .ireturn, 15)]]
abbrev m_Rd_vertexHere : Nat := 66
def ah_Rd_vertexHere : List (Nat × Nat × Nat × Nat × Nat × Nat) := []
def at_Rd_numberHere : am_T := [[(0, .aload 0, 1), (1, .getfield 453, 4), (4, .ldc 1001, 7), (7, .if_icmp .eq (Int.ofNat 19), 10), (10, .aload 0, 11), (11, .ldc_w 2, 13), (13, .invokevirtual 58449, 16)], [(16, .pop, 17), (17, .ldc_w 1, 18), (18, .ireturn, 19), (19, .aload 0, 20), (20, .getfield 456, 23), (23, .iload 1, 24), (24, .if_icmp .lt (Int.ofNat 35), 27), (27, .aload 0, 28), (28, .getfield 456, 31), (31, .iload 2, 32)], [(32, .if_icmp .le (Int.ofNat 44), 35), (35, .aload 0, 36), (36, .ldc_w 3, 38), (38, .invokevirtual 58449, 41), (41, .pop, 42), (42, .ldc_w 1, 43), (43, .ireturn, 44), (44, .aload 0, 45), (45, .getfield 456, 48)], [(48, .ireturn, 49)]]
abbrev m_Rd_numberHere : Nat := 67
def ah_Rd_numberHere : List (Nat × Nat × Nat × Nat × Nat × Nat) := []
def at_Rd_isWord : am_T := [[(0, .aload 0, 1), (1, .getfield 453, 4), (4, .ldc 1002, 7), (7, .if_icmp .ne (Int.ofNat 26), 10), (10, .aload 0, 11), (11, .getfield 455, 14), (14, .aload 0, 15), (15, .getfield 454, 18)], [(18, .isub, 19), (19, .aload 1, 20), (20, .monitorexit, 23), (23, .if_icmp .eq (Int.ofNat 28), 26), (26, .ldc 0, 27), (27, .areturn, 28), (28, .ldc 0, 29), (29, .istore 2, 30), (30, .iload 2, 31), (31, .aload 1, 32)], [(32, .monitorexit, 35), (35, .if_icmp .ge (Int.ofNat 65), 38), (38, .aload 0, 39), (39, .getstatic 451, 42), (42, .aload 0, 43), (43, .getfield 454, 46), (46, .iload 2, 47), (47, .iadd, 48)], [(48, .baload, 49), (49, .aload 1, 50), (50, .iload 2, 51), (51, .instanceof 0, 54), (54, .if_icmp .eq (Int.ofNat 59), 57), (57, .ldc 0, 58), (58, .areturn, 59), (59, .iinc 2 (Int.ofNat 1), 62), (62, .goto (Int.ofNat 30), 65)], [(65, .ldc 1, 66), (66, .areturn, 67)]]
abbrev m_Rd_isWord : Nat := 68
def ah_Rd_isWord : List (Nat × Nat × Nat × Nat × Nat × Nat) := []
def at_Rd_fail : am_T := [[(0, .aload 0, 1), (1, .iload 1, 2), (2, .putfield 449, 5), (5, .aload 0, 6), (6, .aload 0, 7), (7, .getfield 454, 10), (10, .putfield 450, 13), (13, .ldc 0, 14), (14, .areturn, 15)]]
abbrev m_Rd_fail : Nat := 69
def ah_Rd_fail : List (Nat × Nat × Nat × Nat × Nat × Nat) := []
def at_Rd_advance : am_T := [[(0, .aload 0, 1), (1, .getfield 455, 4), (4, .istore 1, 5), (5, .iload 1, 6), (6, .aload 0, 7), (7, .getfield 452, 10), (10, .if_icmp .ge (Int.ofNat 30), 13), (13, .aload 0, 14), (14, .getstatic 451, 17)], [(17, .iload 1, 18), (18, .baload, 19), (19, .ldc 32, 21), (21, .if_icmp .ne (Int.ofNat 30), 24), (24, .iinc 1 (Int.ofNat 1), 27), (27, .goto (Int.ofNat 5), 30), (30, .aload 0, 31), (31, .iload 1, 32)], [(32, .putfield 454, 35), (35, .aload 0, 36), (36, .ldc 0, 37), (37, .putfield 456, 40), (40, .iload 1, 41), (41, .aload 0, 42), (42, .getfield 452, 45), (45, .if_icmp .lt (Int.ofNat 58), 48)], [(48, .aload 0, 49), (49, .ldc 1000, 52), (52, .putfield 453, 55), (55, .goto (Int.ofNat 227), 58), (58, .aload 0, 59), (59, .getstatic 451, 62), (62, .iload 1, 63), (63, .baload, 64)], [(64, .ldc 48, 66), (66, .if_icmp .lt (Int.ofNat 149), 69), (69, .aload 0, 70), (70, .getstatic 451, 73), (73, .iload 1, 74), (74, .baload, 75), (75, .ldc 57, 77), (77, .if_icmp .gt (Int.ofNat 149), 80)], [(80, .aload 0, 81), (81, .ldc 1001, 84), (84, .putfield 453, 87), (87, .iload 1, 88), (88, .aload 0, 89), (89, .getfield 452, 92), (92, .if_icmp .ge (Int.ofNat 227), 95), (95, .aload 0, 96)], [(96, .getstatic 451, 99), (99, .iload 1, 100), (100, .baload, 101), (101, .ldc 48, 103), (103, .if_icmp .lt (Int.ofNat 227), 106), (106, .aload 0, 107), (107, .getstatic 451, 110), (110, .iload 1, 111), (111, .baload, 112)], [(112, .ldc 57, 114), (114, .if_icmp .gt (Int.ofNat 227), 117), (117, .aload 0, 118), (118, .ldc 100000, 120), (120, .ldc 10, 122), (122, .aload 0, 123), (123, .getfield 456, 126), (126, .imul, 127), (127, .aload 0, 128)], [(128, .getstatic 451, 131), (131, .iload 1, 132), (132, .baload, 133), (133, .iadd, 134), (134, .ldc 48, 136), (136, .isub, 137), (137, .dsub, 140), (140, .putfield 456, 143), (143, .iinc 1 (Int.ofNat 1), 146)], [(146, .goto (Int.ofNat 87), 149), (149, .aload 0, 150), (150, .getstatic 451, 153), (153, .iload 1, 154), (154, .baload, 155), (155, .ldc 97, 157), (157, .if_icmp .lt (Int.ofNat 214), 160)], [(160, .aload 0, 161), (161, .getstatic 451, 164), (164, .iload 1, 165), (165, .baload, 166), (166, .ldc 122, 168), (168, .if_icmp .gt (Int.ofNat 214), 171), (171, .aload 0, 172), (172, .ldc 1002, 175), (175, .putfield 453, 178)], [(178, .iload 1, 179), (179, .aload 0, 180), (180, .getfield 452, 183), (183, .if_icmp .ge (Int.ofNat 227), 186), (186, .aload 0, 187), (187, .getstatic 451, 190), (190, .iload 1, 191), (191, .baload, 192)], [(192, .ldc 97, 194), (194, .if_icmp .lt (Int.ofNat 227), 197), (197, .aload 0, 198), (198, .getstatic 451, 201), (201, .iload 1, 202), (202, .baload, 203), (203, .ldc 122, 205), (205, .if_icmp .gt (Int.ofNat 227), 208)], [(208, .iinc 1 (Int.ofNat 1), 211), (211, .goto (Int.ofNat 178), 214), (214, .aload 0, 215), (215, .aload 0, 216), (216, .getstatic 451, 219), (219, .iload 1, 220), (220, .baload, 221), (221, .putfield 453, 224)], [(224, .iinc 1 (Int.ofNat 1), 227), (227, .aload 0, 228), (228, .iload 1, 229), (229, .putfield 455, 232), (232, .return_, 233)]]
abbrev m_Rd_advance : Nat := 70
def ah_Rd_advance : List (Nat × Nat × Nat × Nat × Nat × Nat) := []
def at_Mc_init : am_T := [[(0, .aload 0, 1), (1, .pop2, 4), (4, .aload 0, 5), (5, .ldc 700, 8), (8, .anewarray 3, 10), (10, .checkcast 512, 13), (13, .aload 0, 14), (14, .ldc_w 1, 15), (15, .putfield 514, 18)], [(18, .aload 0, 19), (19, .new 138, 22), (22, .dup, 23), (23, .invokevirtual 16656, 26), (26, .checkcast 515, 29), (29, .aload 0, 30), (30, .new 259, 33)], [(33, .dup, 34), (34, .invokevirtual 33440, 37), (37, .checkcast 516, 40), (40, .aload 0, 41), (41, .new 461, 44), (44, .dup, 45), (45, .invokevirtual 58176, 48)], [(48, .checkcast 517, 51), (51, .aload 0, 52), (52, .new 194, 55), (55, .dup, 56), (56, .invokevirtual 25168, 59), (59, .checkcast 518, 62), (62, .aload 0, 63), (63, .new 3, 66)], [(66, .dup, 67), (67, .invokevirtual 144, 70), (70, .checkcast 519, 73), (73, .aload 0, 74), (74, .new 386, 77), (77, .dup, 78), (78, .invokevirtual 49936, 81)], [(81, .checkcast 520, 84), (84, .aload 0, 85), (85, .new 323, 88), (88, .dup, 89), (89, .invokevirtual 41680, 92), (92, .checkcast 521, 95), (95, .return_, 96)]]
abbrev m_Mc_init : Nat := 71
def ah_Mc_init : List (Nat × Nat × Nat × Nat × Nat × Nat) := []
def at_Mc_append : am_T := [[(0, .aload 0, 1), (1, .getfield 513, 4), (4, .ldc 680, 7), (7, .if_icmp .le (Int.ofNat 12), 10), (10, .ldc_w 1, 11), (11, .ireturn, 12), (12, .aload 0, 13), (13, .iload 1, 14), (14, .invokevirtual 66705, 17)], [(17, .aload 0, 18), (18, .iload 2, 19), (19, .invokevirtual 66705, 22), (22, .aload 0, 23), (23, .iload 3, 24), (24, .invokevirtual 66705, 27), (27, .aload 0, 28), (28, .iload 4, 30), (30, .invokevirtual 66705, 33)], [(33, .aload 0, 34), (34, .iload 5, 36), (36, .invokevirtual 66705, 39), (39, .aload 0, 40), (40, .getfield 513, 43), (43, .ireturn, 44)]]
abbrev m_Mc_append : Nat := 72
def ah_Mc_append : List (Nat × Nat × Nat × Nat × Nat × Nat) := []
def at_Mc_putWord : am_T := [[(0, .ldc 24, 2), (2, .istore 2, 3), (3, .iload 2, 4), (4, .ifCond .lt (Int.ofNat 46), 7), (7, .aload 0, 8), (8, .getfield 513, 11), (11, .ldc 700, 14), (14, .if_icmp .ge (Int.ofNat 46), 17)], [(17, .aload 0, 18), (18, .getstatic 512, 21), (21, .aload 0, 22), (22, .getfield 513, 25), (25, .iload 1, 26), (26, .iload 2, 27), (27, .ishr, 28), (28, .i2b, 29), (29, .bastore, 30), (30, .aload 0, 31), (31, .dup, 32)], [(32, .getfield 513, 35), (35, .ldc 1, 36), (36, .iadd, 37), (37, .putfield 513, 40), (40, .iinc 2 (Int.negSucc 7), 43), (43, .goto (Int.ofNat 3), 46), (46, .return_, 47)]]
abbrev m_Mc_putWord : Nat := 73
def ah_Mc_putWord : List (Nat × Nat × Nat × Nat × Nat × Nat) := []
def at_Mc_load : am_T := [[(0, .iload 1, 1), (1, .ifCond .lt (Int.ofNat 12), 4), (4, .iload 1, 5), (5, .aload 0, 6), (6, .getfield 513, 9), (9, .if_icmp .le (Int.ofNat 22), 12), (12, .jsr (Int.ofNat 1), 15)], [(22, .aload 0, 23), (23, .ldc 0, 24), (24, .putfield 513, 27), (27, .aload 0, 28), (28, .getstatic 517, 31), (31, .aload 0, 32)], [(32, .getstatic 512, 35), (35, .iload 1, 36), (36, .invokevirtual 58194, 39), (39, .istore 2, 40), (40, .aload 0, 41), (41, .iload 2, 42), (42, .ifCond .eq (Int.ofNat 49), 45), (45, .ldc_w 1, 46), (46, .goto (Int.ofNat 56), 49)], [(49, .aload 0, 50), (50, .getstatic 517, 53), (53, .getfield 450, 56), (56, .putfield 514, 59), (59, .iload 2, 60), (60, .ifCond .ne (Int.ofNat 71), 63), (63, .aload 0, 64)], [(64, .getstatic 517, 67), (67, .getfield 449, 70), (70, .ireturn, 71), (71, .aload 0, 72), (72, .getstatic 516, 75), (75, .aload 0, 76), (76, .getstatic 515, 79), (79, .invokevirtual 33457, 82)], [(82, .aload 0, 83), (83, .getstatic 515, 86), (86, .aload 0, 87), (87, .getstatic 517, 90), (90, .getstatic 448, 93), (93, .invokevirtual 16689, 96)], [(96, .aload 0, 97), (97, .getstatic 515, 100), (100, .getfield 129, 103), (103, .ireturn, 104)]]
abbrev m_Mc_load : Nat := 74
def ah_Mc_load : List (Nat × Nat × Nat × Nat × Nat × Nat) := []
def at_Mc_errorOffset : am_T := [[(0, .aload 0, 1), (1, .getfield 514, 4), (4, .ireturn, 5)]]
abbrev m_Mc_errorOffset : Nat := 75
def ah_Mc_errorOffset : List (Nat × Nat × Nat × Nat × Nat × Nat) := []
def at_Mc_size : am_T := [[(0, .aload 0, 1), (1, .getstatic 515, 4), (4, .getfield 128, 7), (7, .ireturn, 8)]]
abbrev m_Mc_size : Nat := 76
def ah_Mc_size : List (Nat × Nat × Nat × Nat × Nat × Nat) := []
def at_Mc_edgeCount : am_T := [[(0, .aload 0, 1), (1, .getstatic 515, 4), (4, .getfield 129, 7), (7, .ireturn, 8)]]
abbrev m_Mc_edgeCount : Nat := 77
def ah_Mc_edgeCount : List (Nat × Nat × Nat × Nat × Nat × Nat) := []
def at_Mc_terminals : am_T := [[(0, .aload 0, 1), (1, .getstatic 515, 4), (4, .getfield 130, 7), (7, .ireturn, 8)]]
abbrev m_Mc_terminals : Nat := 78
def ah_Mc_terminals : List (Nat × Nat × Nat × Nat × Nat × Nat) := []
def at_Mc_burden : am_T := [[(0, .aload 0, 1), (1, .iload 1, 2), (2, .invokevirtual 67345, 5), (5, .aload 0, 6), (6, .getstatic 515, 9), (9, .getstatic 131, 12), (12, .iload 1, 13), (13, .iaload, 14), (14, .ireturn, 15)]]
abbrev m_Mc_burden : Nat := 79
def ah_Mc_burden : List (Nat × Nat × Nat × Nat × Nat × Nat) := []
def at_Mc_edge : am_T := [[(0, .aload 0, 1), (1, .iload 1, 2), (2, .invokevirtual 67361, 5), (5, .iload 2, 6), (6, .ifCond .ne (Int.ofNat 19), 9), (9, .aload 0, 10), (10, .getstatic 515, 13), (13, .getstatic 133, 16)], [(16, .iload 1, 17), (17, .iaload, 18), (18, .ireturn, 19), (19, .iload 2, 20), (20, .ldc 1, 21), (21, .if_icmp .ne (Int.ofNat 34), 24), (24, .aload 0, 25), (25, .getstatic 515, 28), (28, .getstatic 134, 31), (31, .iload 1, 32)], [(32, .iaload, 33), (33, .ireturn, 34), (34, .iload 2, 35), (35, .ldc 2, 36), (36, .if_icmp .ne (Int.ofNat 49), 39), (39, .aload 0, 40), (40, .getstatic 515, 43), (43, .getstatic 135, 46), (46, .iload 1, 47), (47, .iaload, 48)], [(48, .ireturn, 49), (49, .iload 2, 50), (50, .ldc 3, 51), (51, .if_icmp .ne (Int.ofNat 64), 54), (54, .aload 0, 55), (55, .getstatic 515, 58), (58, .getstatic 136, 61), (61, .iload 1, 62), (62, .iaload, 63), (63, .ireturn, 64)], [(64, .iload 2, 65), (65, .ldc 4, 66), (66, .if_icmp .ne (Int.ofNat 78), 69), (69, .aload 0, 70), (70, .getstatic 515, 73), (73, .iload 1, 74), (74, .invokevirtual 16785, 77), (77, .ireturn, 78), (78, .jsr (Int.ofNat 1), 81)], []]
abbrev m_Mc_edge : Nat := 80
def ah_Mc_edge : List (Nat × Nat × Nat × Nat × Nat × Nat) := []
def at_Mc_cutCost : am_T := [[(0, .iload 1, 1), (1, .ifCond .lt (Int.ofNat 15), 4), (4, .iload 1, 5), (5, .aload 0, 6), (6, .getstatic 515, 9), (9, .invokevirtual 16736, 12), (12, .if_icmp .le (Int.ofNat 25), 15), (15, .jsr (Int.ofNat 1), 18)], [(25, .aload 0, 26), (26, .getstatic 515, 29), (29, .iload 1, 30), (30, .invokevirtual 16929, 33)], [(33, .ireturn, 34)]]
abbrev m_Mc_cutCost : Nat := 81
def ah_Mc_cutCost : List (Nat × Nat × Nat × Nat × Nat × Nat) := []
def at_Mc_separates : am_T := [[(0, .iload 1, 1), (1, .ifCond .lt (Int.ofNat 17), 4), (4, .iload 1, 5), (5, .ldc 1, 6), (6, .aload 0, 7), (7, .getstatic 515, 10), (10, .getfield 129, 13), (13, .ishl, 14), (14, .if_icmp .lt (Int.ofNat 27), 17)], [(17, .jsr (Int.ofNat 1), 20), (27, .aload 0, 28), (28, .getstatic 515, 31), (31, .iload 1, 32)], [(32, .invokestatic 2, 35), (35, .areturn, 36)]]
abbrev m_Mc_separates : Nat := 82
def ah_Mc_separates : List (Nat × Nat × Nat × Nat × Nat × Nat) := []
def at_Mc_isolatingValue : am_T := [[(0, .aload 0, 1), (1, .iload 1, 2), (2, .invokevirtual 67377, 5), (5, .aload 0, 6), (6, .getstatic 515, 9), (9, .iload 1, 10), (10, .invokestatic 66, 13), (13, .ireturn, 14)]]
abbrev m_Mc_isolatingValue : Nat := 83
def ah_Mc_isolatingValue : List (Nat × Nat × Nat × Nat × Nat × Nat) := []
def at_Mc_isolatingSet : am_T := [[(0, .aload 0, 1), (1, .iload 1, 2), (2, .invokevirtual 67377, 5), (5, .aload 0, 6), (6, .getstatic 515, 9), (9, .iload 1, 10), (10, .invokestatic 50, 13), (13, .ireturn, 14)]]
abbrev m_Mc_isolatingSet : Nat := 84
def ah_Mc_isolatingSet : List (Nat × Nat × Nat × Nat × Nat × Nat) := []
def at_Mc_lowerBound : am_T := [[(0, .ldc 0, 1), (1, .istore 1, 2), (2, .ldc 0, 3), (3, .istore 2, 4), (4, .iload 2, 5), (5, .aload 0, 6), (6, .getstatic 515, 9), (9, .getfield 128, 12), (12, .if_icmp .ge (Int.ofNat 43), 15), (15, .aload 0, 16)], [(16, .getstatic 515, 19), (19, .iload 2, 20), (20, .invokevirtual 16721, 23), (23, .ifCond .eq (Int.ofNat 37), 26), (26, .iload 1, 27), (27, .aload 0, 28), (28, .getstatic 515, 31), (31, .iload 2, 32)], [(32, .invokestatic 66, 35), (35, .iadd, 36), (36, .istore 1, 37), (37, .iinc 2 (Int.ofNat 1), 40), (40, .goto (Int.ofNat 4), 43), (43, .iload 1, 44), (44, .ldc 1, 45), (45, .iadd, 46), (46, .ldc 2, 47), (47, .idiv, 48)], [(48, .ireturn, 49)]]
abbrev m_Mc_lowerBound : Nat := 85
def ah_Mc_lowerBound : List (Nat × Nat × Nat × Nat × Nat × Nat) := []
def at_Mc_dearest : am_T := [[(0, .aload 0, 1), (1, .invokevirtual 67392, 4), (4, .aload 0, 5), (5, .getstatic 515, 8), (8, .invokestatic 81, 11), (11, .ireturn, 12)]]
abbrev m_Mc_dearest : Nat := 86
def ah_Mc_dearest : List (Nat × Nat × Nat × Nat × Nat × Nat) := []
def at_Mc_unionCut : am_T := [[(0, .aload 0, 1), (1, .invokevirtual 67392, 4), (4, .aload 0, 5), (5, .getstatic 515, 8), (8, .invokestatic 97, 11), (11, .ireturn, 12)]]
abbrev m_Mc_unionCut : Nat := 87
def ah_Mc_unionCut : List (Nat × Nat × Nat × Nat × Nat × Nat) := []
def at_Mc_unionCost : am_T := [[(0, .aload 0, 1), (1, .invokevirtual 67392, 4), (4, .aload 0, 5), (5, .getstatic 515, 8), (8, .aload 0, 9), (9, .getstatic 515, 12), (12, .invokestatic 97, 15), (15, .invokevirtual 16913, 18)], [(18, .ireturn, 19)]]
abbrev m_Mc_unionCost : Nat := 88
def ah_Mc_unionCost : List (Nat × Nat × Nat × Nat × Nat × Nat) := []
def at_Mc_rounds : am_T := [[(0, .aload 0, 1), (1, .getstatic 518, 4), (4, .aload 0, 5), (5, .getstatic 515, 8), (8, .invokevirtual 25185, 11), (11, .aload 0, 12), (12, .getstatic 518, 15), (15, .getfield 192, 18)], [(18, .ireturn, 19)]]
abbrev m_Mc_rounds : Nat := 89
def ah_Mc_rounds : List (Nat × Nat × Nat × Nat × Nat × Nat) := []
def at_Mc_fixed : am_T := [[(0, .aload 0, 1), (1, .iload 1, 2), (2, .invokevirtual 67345, 5), (5, .aload 0, 6), (6, .getstatic 518, 9), (9, .aload 0, 10), (10, .getstatic 515, 13), (13, .invokevirtual 25185, 16)], [(16, .aload 0, 17), (17, .getstatic 518, 20), (20, .iload 1, 21), (21, .invokevirtual 25233, 24), (24, .ireturn, 25)]]
abbrev m_Mc_fixed : Nat := 90
def ah_Mc_fixed : List (Nat × Nat × Nat × Nat × Nat × Nat) := []
def at_Mc_exactCost : am_T := [[(0, .aload 0, 1), (1, .getstatic 519, 4), (4, .aload 0, 5), (5, .getstatic 515, 8), (8, .aload 0, 9), (9, .getstatic 515, 12), (12, .getfield 130, 15), (15, .invokevirtual 162, 18)], [(18, .aload 0, 19), (19, .getstatic 519, 22), (22, .getfield 1, 25), (25, .ireturn, 26)]]
abbrev m_Mc_exactCost : Nat := 91
def ah_Mc_exactCost : List (Nat × Nat × Nat × Nat × Nat × Nat) := []
def at_Mc_exact : am_T := [[(0, .aload 0, 1), (1, .iload 1, 2), (2, .invokevirtual 67345, 5), (5, .aload 0, 6), (6, .getstatic 519, 9), (9, .aload 0, 10), (10, .getstatic 515, 13), (13, .aload 0, 14), (14, .getstatic 515, 17)], [(17, .getfield 130, 20), (20, .invokevirtual 162, 23), (23, .aload 0, 24), (24, .getstatic 519, 27), (27, .getstatic 0, 30), (30, .iload 1, 31), (31, .iaload, 32)], [(32, .ireturn, 33)]]
abbrev m_Mc_exact : Nat := 92
def ah_Mc_exact : List (Nat × Nat × Nat × Nat × Nat × Nat) := []
def at_Mc_price : am_T := [[(0, .aload 0, 1), (1, .iload 1, 2), (2, .invokevirtual 67377, 5), (5, .aload 0, 6), (6, .getstatic 519, 9), (9, .aload 0, 10), (10, .getstatic 515, 13), (13, .aload 0, 14), (14, .getstatic 515, 17)], [(17, .getfield 130, 20), (20, .invokevirtual 162, 23), (23, .aload 0, 24), (24, .getstatic 519, 27), (27, .getfield 1, 30), (30, .istore 2, 31), (31, .aload 0, 32)], [(32, .getstatic 519, 35), (35, .aload 0, 36), (36, .getstatic 515, 39), (39, .aload 0, 40), (40, .getstatic 515, 43), (43, .getfield 130, 46), (46, .ldc 1, 47), (47, .iload 1, 48)], [(48, .ishl, 49), (49, .ldc_w 1, 50), (50, .ixor, 51), (51, .iand, 52), (52, .invokevirtual 162, 55), (55, .iload 2, 56), (56, .aload 0, 57), (57, .getstatic 519, 60), (60, .getfield 1, 63), (63, .isub, 64)], [(64, .ireturn, 65)]]
abbrev m_Mc_price : Nat := 93
def ah_Mc_price : List (Nat × Nat × Nat × Nat × Nat × Nat) := []
def at_Mc_nearest : am_T := [[(0, .aload 0, 1), (1, .iload 1, 2), (2, .invokevirtual 67345, 5), (5, .aload 0, 6), (6, .getstatic 520, 9), (9, .aload 0, 10), (10, .getstatic 515, 13), (13, .invokevirtual 49953, 16)], [(16, .aload 0, 17), (17, .getstatic 520, 20), (20, .getstatic 384, 23), (23, .iload 1, 24), (24, .iaload, 25), (25, .ireturn, 26)]]
abbrev m_Mc_nearest : Nat := 94
def ah_Mc_nearest : List (Nat × Nat × Nat × Nat × Nat × Nat) := []
def at_Mc_distance : am_T := [[(0, .aload 0, 1), (1, .iload 1, 2), (2, .invokevirtual 67345, 5), (5, .aload 0, 6), (6, .getstatic 520, 9), (9, .aload 0, 10), (10, .getstatic 515, 13), (13, .invokevirtual 49953, 16)], [(16, .aload 0, 17), (17, .getstatic 520, 20), (20, .getstatic 385, 23), (23, .iload 1, 24), (24, .iaload, 25), (25, .ireturn, 26)]]
abbrev m_Mc_distance : Nat := 95
def ah_Mc_distance : List (Nat × Nat × Nat × Nat × Nat × Nat) := []
def at_Mc_label : am_T := [[(0, .aload 0, 1), (1, .iload 1, 2), (2, .invokevirtual 67345, 5), (5, .aload 0, 6), (6, .getstatic 515, 9), (9, .getstatic 132, 12), (12, .iload 1, 13), (13, .iaload, 14), (14, .ireturn, 15)]]
abbrev m_Mc_label : Nat := 96
def ah_Mc_label : List (Nat × Nat × Nat × Nat × Nat × Nat) := []
def at_Mc_cost : am_T := [[(0, .aload 0, 1), (1, .getstatic 515, 4), (4, .invokevirtual 16960, 7), (7, .ireturn, 8)]]
abbrev m_Mc_cost : Nat := 97
def ah_Mc_cost : List (Nat × Nat × Nat × Nat × Nat × Nat) := []
def at_Mc_cut : am_T := [[(0, .aload 0, 1), (1, .getstatic 515, 4), (4, .invokevirtual 16944, 7), (7, .ireturn, 8)]]
abbrev m_Mc_cut : Nat := 98
def ah_Mc_cut : List (Nat × Nat × Nat × Nat × Nat × Nat) := []
def at_Mc_ratio : am_T := [[(0, .aload 0, 1), (1, .getstatic 515, 4), (4, .invokevirtual 16960, 7), (7, .istore 1, 8), (8, .aload 0, 9), (9, .getstatic 519, 12), (12, .aload 0, 13), (13, .getstatic 515, 16)], [(16, .aload 0, 17), (17, .getstatic 515, 20), (20, .getfield 130, 23), (23, .invokevirtual 162, 26), (26, .aload 0, 27), (27, .getstatic 519, 30), (30, .getfield 1, 33)], [(33, .istore 2, 34), (34, .iload 2, 35), (35, .ifCond .ne (Int.ofNat 49), 38), (38, .iload 1, 39), (39, .ifCond .ne (Int.ofNat 46), 42), (42, .invokedynamic 1065353216, 43), (43, .goto (Int.ofNat 48), 46), (46, .invokedynamic 3212836864, 48)], [(48, .freturn, 49), (49, .iload 1, 50), (50, .i2f, 51), (51, .iload 2, 52), (52, .i2f, 53), (53, .fdiv, 54), (54, .freturn, 55)]]
abbrev m_Mc_ratio : Nat := 99
def ah_Mc_ratio : List (Nat × Nat × Nat × Nat × Nat × Nat) := []
def at_Mc_meanCost : am_T := [[(0, .aload 0, 1), (1, .getstatic 515, 4), (4, .getfield 130, 7), (7, .invokestatic 3457, 10), (10, .istore 1, 11), (11, .invokedynamic 0, 12), (12, .fstore 2, 13), (13, .iload 1, 14), (14, .ldc 2, 15), (15, .if_icmp .ge (Int.ofNat 20), 18)], [(18, .fload 2, 19), (19, .freturn, 20), (20, .ldc 0, 21), (21, .istore 3, 22), (22, .iload 3, 23), (23, .aload 0, 24), (24, .getstatic 515, 27), (27, .getfield 129, 30), (30, .if_icmp .ge (Int.ofNat 106), 33)], [(33, .aload 0, 34), (34, .getstatic 515, 37), (37, .getstatic 136, 40), (40, .iload 3, 41), (41, .iaload, 42), (42, .i2f, 43), (43, .fstore 4, 45), (45, .aload 0, 46), (46, .getstatic 515, 49)], [(49, .aload 0, 50), (50, .getstatic 515, 53), (53, .getstatic 133, 56), (56, .iload 3, 57), (57, .iaload, 58), (58, .invokevirtual 16721, 61), (61, .ifCond .eq (Int.ofNat 83), 64)], [(64, .aload 0, 65), (65, .getstatic 515, 68), (68, .aload 0, 69), (69, .getstatic 515, 72), (72, .getstatic 134, 75), (75, .iload 3, 76), (76, .iaload, 77), (77, .invokevirtual 16721, 80)], [(80, .ifCond .ne (Int.ofNat 95), 83), (83, .fload 4, 85), (85, .iload 1, 86), (86, .ldc 1, 87), (87, .isub, 88), (88, .i2f, 89), (89, .fmul, 90), (90, .iload 1, 91), (91, .i2f, 92), (92, .fdiv, 93), (93, .fstore 4, 95), (95, .fload 2, 96)], [(96, .fload 4, 98), (98, .fadd, 99), (99, .fstore 2, 100), (100, .iinc 3 (Int.ofNat 1), 103), (103, .goto (Int.ofNat 22), 106), (106, .fload 2, 107), (107, .freturn, 108)]]
abbrev m_Mc_meanCost : Nat := 100
def ah_Mc_meanCost : List (Nat × Nat × Nat × Nat × Nat × Nat) := []
def at_Mc_bestMove : am_T := [[(0, .iload 1, 1), (1, .ifCond .lt (Int.ofNat 9), 4), (4, .iload 1, 5), (5, .ldc 2, 6), (6, .if_icmp .le (Int.ofNat 19), 9), (9, .jsr (Int.ofNat 1), 12)], [(19, .aload 0, 20), (20, .getstatic 521, 23), (23, .aload 0, 24), (24, .getstatic 515, 27), (27, .invokevirtual 41697, 30), (30, .iload 1, 31), (31, .ifCond .ne (Int.ofNat 42), 34)], [(34, .aload 0, 35), (35, .getstatic 521, 38), (38, .getfield 320, 41), (41, .ireturn, 42), (42, .iload 1, 43), (43, .ldc 1, 44), (44, .if_icmp .ne (Int.ofNat 57), 47), (47, .aload 0, 48)], [(48, .getstatic 521, 51), (51, .getfield 321, 54), (54, .goto (Int.ofNat 64), 57), (57, .aload 0, 58), (58, .getstatic 521, 61), (61, .getfield 322, 64)], [(64, .ireturn, 65)]]
abbrev m_Mc_bestMove : Nat := 101
def ah_Mc_bestMove : List (Nat × Nat × Nat × Nat × Nat × Nat) := []
def at_Mc_setLabel : am_T := [[(0, .aload 0, 1), (1, .iload 1, 2), (2, .invokevirtual 67345, 5), (5, .iload 2, 6), (6, .ldc_w 1, 7), (7, .if_icmp .eq (Int.ofNat 15), 10), (10, .aload 0, 11), (11, .iload 2, 12), (12, .invokevirtual 67377, 15), (15, .aload 0, 16)], [(16, .getstatic 515, 19), (19, .iload 1, 20), (20, .invokevirtual 16721, 23), (23, .ifCond .eq (Int.ofNat 36), 26), (26, .jsr (Int.ofNat 3), 29)], [(36, .aload 0, 37), (37, .getstatic 516, 40), (40, .aload 0, 41), (41, .getstatic 515, 44), (44, .invokevirtual 33457, 47), (47, .aload 0, 48)], [(48, .getstatic 515, 51), (51, .getstatic 132, 54), (54, .iload 1, 55), (55, .iload 2, 56), (56, .iastore, 57), (57, .aload 0, 58), (58, .getstatic 515, 61), (61, .invokevirtual 16960, 64)], [(64, .ireturn, 65)]]
abbrev m_Mc_setLabel : Nat := 102
def ah_Mc_setLabel : List (Nat × Nat × Nat × Nat × Nat × Nat) := []
def at_Mc_useNearest : am_T := [[(0, .aload 0, 1), (1, .getstatic 516, 4), (4, .aload 0, 5), (5, .getstatic 515, 8), (8, .invokevirtual 33457, 11), (11, .aload 0, 12), (12, .getstatic 520, 15), (15, .aload 0, 16)], [(16, .getstatic 515, 19), (19, .invokevirtual 49953, 22), (22, .aload 0, 23), (23, .getstatic 515, 26), (26, .aload 0, 27), (27, .getstatic 520, 30), (30, .getstatic 384, 33)], [(33, .invokevirtual 16881, 36), (36, .aload 0, 37), (37, .getstatic 515, 40), (40, .invokevirtual 16960, 43), (43, .ireturn, 44)]]
abbrev m_Mc_useNearest : Nat := 103
def ah_Mc_useNearest : List (Nat × Nat × Nat × Nat × Nat × Nat) := []
def at_Mc_useUnion : am_T := [[(0, .aload 0, 1), (1, .invokevirtual 67392, 4), (4, .aload 0, 5), (5, .getstatic 516, 8), (8, .aload 0, 9), (9, .getstatic 515, 12), (12, .invokevirtual 33457, 15), (15, .aload 0, 16)], [(16, .getstatic 515, 19), (19, .invokestatic 113, 22), (22, .aload 0, 23), (23, .getstatic 515, 26), (26, .invokevirtual 16960, 29), (29, .ireturn, 30)]]
abbrev m_Mc_useUnion : Nat := 104
def ah_Mc_useUnion : List (Nat × Nat × Nat × Nat × Nat × Nat) := []
def at_Mc_useExact : am_T := [[(0, .aload 0, 1), (1, .getstatic 516, 4), (4, .aload 0, 5), (5, .getstatic 515, 8), (8, .invokevirtual 33457, 11), (11, .aload 0, 12), (12, .getstatic 519, 15), (15, .aload 0, 16)], [(16, .getstatic 515, 19), (19, .aload 0, 20), (20, .getstatic 515, 23), (23, .getfield 130, 26), (26, .invokevirtual 162, 29), (29, .aload 0, 30), (30, .getstatic 515, 33)], [(33, .aload 0, 34), (34, .getstatic 519, 37), (37, .getstatic 0, 40), (40, .invokevirtual 16881, 43), (43, .aload 0, 44), (44, .getstatic 515, 47), (47, .invokevirtual 16960, 50)], [(50, .ireturn, 51)]]
abbrev m_Mc_useExact : Nat := 105
def ah_Mc_useExact : List (Nat × Nat × Nat × Nat × Nat × Nat) := []
def at_Mc_improve : am_T := [[(0, .iload 1, 1), (1, .ldc 1, 2), (2, .if_icmp .lt (Int.ofNat 11), 5), (5, .iload 1, 6), (6, .ldc 20, 8), (8, .if_icmp .le (Int.ofNat 21), 11), (11, .jsr (Int.ofNat 1), 14)], [(21, .aload 0, 22), (22, .getstatic 516, 25), (25, .aload 0, 26), (26, .getstatic 515, 29), (29, .invokevirtual 33457, 32)], [(32, .ldc 0, 33), (33, .istore 2, 34), (34, .iload 2, 35), (35, .iload 1, 36), (36, .if_icmp .ge (Int.ofNat 59), 39), (39, .aload 0, 40), (40, .getstatic 521, 43), (43, .aload 0, 44), (44, .getstatic 515, 47), (47, .invokevirtual 41729, 50)], [(50, .ifCond .eq (Int.ofNat 59), 53), (53, .iinc 2 (Int.ofNat 1), 56), (56, .goto (Int.ofNat 34), 59), (59, .iload 2, 60), (60, .ireturn, 61)]]
abbrev m_Mc_improve : Nat := 106
def ah_Mc_improve : List (Nat × Nat × Nat × Nat × Nat × Nat) := []
def at_Mc_setWeight : am_T := [[(0, .aload 0, 1), (1, .iload 1, 2), (2, .invokevirtual 67361, 5), (5, .aload 0, 6), (6, .iload 2, 7), (7, .invokevirtual 67409, 10), (10, .aload 0, 11), (11, .getstatic 516, 14), (14, .aload 0, 15), (15, .getstatic 515, 18)], [(18, .invokevirtual 33457, 21), (21, .aload 0, 22), (22, .getstatic 515, 25), (25, .getstatic 135, 28), (28, .iload 1, 29), (29, .iaload, 30), (30, .istore 3, 31), (31, .aload 0, 32)], [(32, .getstatic 515, 35), (35, .getstatic 135, 38), (38, .iload 1, 39), (39, .iload 2, 40), (40, .iastore, 41), (41, .aload 0, 42), (42, .getstatic 515, 45), (45, .iload 1, 46), (46, .invokevirtual 16817, 49)], [(49, .iload 3, 50), (50, .ireturn, 51)]]
abbrev m_Mc_setWeight : Nat := 107
def ah_Mc_setWeight : List (Nat × Nat × Nat × Nat × Nat × Nat) := []
def at_Mc_addEdge : am_T := [[(0, .aload 0, 1), (1, .iload 1, 2), (2, .invokevirtual 67345, 5), (5, .aload 0, 6), (6, .iload 2, 7), (7, .invokevirtual 67345, 10), (10, .iload 1, 11), (11, .iload 2, 12), (12, .if_icmp .ne (Int.ofNat 25), 15), (15, .jsr (Int.ofNat 1), 18)], [(25, .aload 0, 26), (26, .iload 3, 27), (27, .invokevirtual 67409, 30), (30, .aload 0, 31), (31, .getstatic 515, 34)], [(34, .getfield 129, 37), (37, .ldc 20, 39), (39, .if_icmp .ge (Int.ofNat 54), 42), (42, .aload 0, 43), (43, .getstatic 515, 46), (46, .iload 1, 47), (47, .iload 2, 48)], [(48, .invokevirtual 16754, 51), (51, .ifCond .eq (Int.ofNat 65), 54), (54, .jsr (Int.ofNat 3), 57)], [(65, .aload 0, 66), (66, .getstatic 516, 69), (69, .aload 0, 70), (70, .getstatic 515, 73), (73, .invokevirtual 33457, 76), (76, .aload 0, 77), (77, .getstatic 515, 80)], [(80, .iload 1, 81), (81, .iload 2, 82), (82, .iload 3, 83), (83, .invokevirtual 16803, 86), (86, .aload 0, 87), (87, .getstatic 515, 90), (90, .aload 0, 91), (91, .getstatic 515, 94), (94, .getfield 129, 97)], [(97, .ldc 1, 98), (98, .isub, 99), (99, .invokevirtual 16817, 102), (102, .aload 0, 103), (103, .getstatic 515, 106), (106, .getfield 129, 109), (109, .ldc 1, 110), (110, .isub, 111), (111, .ireturn, 112)]]
abbrev m_Mc_addEdge : Nat := 108
def ah_Mc_addEdge : List (Nat × Nat × Nat × Nat × Nat × Nat) := []
def at_Mc_removeEdge : am_T := [[(0, .aload 0, 1), (1, .iload 1, 2), (2, .invokevirtual 67361, 5), (5, .aload 0, 6), (6, .getstatic 516, 9), (9, .aload 0, 10), (10, .getstatic 515, 13), (13, .invokevirtual 33457, 16)], [(16, .aload 0, 17), (17, .getstatic 515, 20), (20, .iload 1, 21), (21, .invokevirtual 16833, 24), (24, .aload 0, 25), (25, .getstatic 515, 28), (28, .getfield 129, 31), (31, .ireturn, 32)]]
abbrev m_Mc_removeEdge : Nat := 109
def ah_Mc_removeEdge : List (Nat × Nat × Nat × Nat × Nat × Nat) := []
def at_Mc_setTerminal : am_T := [[(0, .aload 0, 1), (1, .iload 1, 2), (2, .invokevirtual 67345, 5), (5, .aload 0, 6), (6, .getstatic 515, 9), (9, .iload 1, 10), (10, .invokevirtual 16721, 13), (13, .istore 3, 14), (14, .iload 2, 15), (15, .ifCond .eq (Int.ofNat 47), 18)], [(18, .iload 3, 19), (19, .ifCond .ne (Int.ofNat 47), 22), (22, .aload 0, 23), (23, .getstatic 515, 26), (26, .getfield 130, 29), (29, .invokestatic 3457, 32)], [(32, .ldc 5, 33), (33, .if_icmp .lt (Int.ofNat 47), 36), (36, .jsr (Int.ofNat 3), 39), (47, .aload 0, 48)], [(48, .getstatic 516, 51), (51, .aload 0, 52), (52, .getstatic 515, 55), (55, .invokevirtual 33457, 58), (58, .iload 2, 59), (59, .ifCond .eq (Int.ofNat 74), 62), (62, .iload 3, 63), (63, .ifCond .ne (Int.ofNat 74), 66)], [(66, .aload 0, 67), (67, .getstatic 515, 70), (70, .iload 1, 71), (71, .invokevirtual 16849, 74), (74, .iload 2, 75), (75, .ifCond .ne (Int.ofNat 90), 78), (78, .iload 3, 79), (79, .ifCond .eq (Int.ofNat 90), 82)], [(82, .aload 0, 83), (83, .getstatic 515, 86), (86, .iload 1, 87), (87, .invokevirtual 16865, 90), (90, .aload 0, 91), (91, .getstatic 515, 94), (94, .getfield 130, 97)], [(97, .invokestatic 3457, 100), (100, .ireturn, 101)]]
abbrev m_Mc_setTerminal : Nat := 110
def ah_Mc_setTerminal : List (Nat × Nat × Nat × Nat × Nat × Nat) := []
def at_Mc_undo : am_T := [[(0, .aload 0, 1), (1, .getstatic 516, 4), (4, .aload 0, 5), (5, .getstatic 515, 8), (8, .invokevirtual 33473, 11), (11, .ireturn, 12)]]
abbrev m_Mc_undo : Nat := 111
def ah_Mc_undo : List (Nat × Nat × Nat × Nat × Nat × Nat) := []
def at_Mc_checksum : am_T := [[(0, .ldc2_w 31, 3), (3, .aload 0, 4), (4, .getstatic 515, 7), (7, .getfield 128, 10), (10, .i2l, 11), (11, .lmul, 12), (12, .aload 0, 13), (13, .getstatic 515, 16)], [(16, .getfield 130, 19), (19, .i2l, 20), (20, .ladd, 21), (21, .lstore 1, 22), (22, .ldc 0, 23), (23, .istore 3, 24), (24, .iload 3, 25), (25, .aload 0, 26), (26, .getstatic 515, 29), (29, .getfield 129, 32)], [(32, .if_icmp .ge (Int.ofNat 92), 35), (35, .ldc2_w 31, 38), (38, .lload 1, 39), (39, .lmul, 40), (40, .aload 0, 41), (41, .getstatic 515, 44), (44, .getstatic 133, 47), (47, .iload 3, 48)], [(48, .iaload, 49), (49, .i2l, 50), (50, .ladd, 51), (51, .lstore 1, 52), (52, .ldc2_w 31, 55), (55, .lload 1, 56), (56, .lmul, 57), (57, .aload 0, 58), (58, .getstatic 515, 61), (61, .getstatic 134, 64)], [(64, .iload 3, 65), (65, .iaload, 66), (66, .i2l, 67), (67, .ladd, 68), (68, .lstore 1, 69), (69, .ldc2_w 31, 72), (72, .lload 1, 73), (73, .lmul, 74), (74, .aload 0, 75), (75, .getstatic 515, 78), (78, .getstatic 135, 81)], [(81, .iload 3, 82), (82, .iaload, 83), (83, .i2l, 84), (84, .ladd, 85), (85, .lstore 1, 86), (86, .iinc 3 (Int.ofNat 1), 89), (89, .goto (Int.ofNat 24), 92), (92, .ldc 0, 93), (93, .istore 3, 94), (94, .iload 3, 95), (95, .aload 0, 96)], [(96, .getstatic 515, 99), (99, .getfield 128, 102), (102, .if_icmp .ge (Int.ofNat 128), 105), (105, .ldc2_w 31, 108), (108, .lload 1, 109), (109, .lmul, 110), (110, .aload 0, 111), (111, .getstatic 515, 114)], [(114, .getstatic 132, 117), (117, .iload 3, 118), (118, .iaload, 119), (119, .i2l, 120), (120, .ladd, 121), (121, .lstore 1, 122), (122, .iinc 3 (Int.ofNat 1), 125), (125, .goto (Int.ofNat 94), 128)], [(128, .ldc2_w 31, 131), (131, .lload 1, 132), (132, .lmul, 133), (133, .aload 0, 134), (134, .getstatic 515, 137), (137, .invokevirtual 16960, 140), (140, .i2l, 141), (141, .ladd, 142), (142, .lreturn, 143)]]
abbrev m_Mc_checksum : Nat := 112
def ah_Mc_checksum : List (Nat × Nat × Nat × Nat × Nat × Nat) := []
def at_Mc_requireVertex : am_T := [[(0, .aload 0, 1), (1, .getstatic 515, 4), (4, .iload 1, 5), (5, .invokevirtual 16705, 8), (8, .ifCond .ne (Int.ofNat 22), 11), (11, .jsr (Int.ofNat 2), 14)], [(22, .return_, 23)]]
abbrev m_Mc_requireVertex : Nat := 113
def ah_Mc_requireVertex : List (Nat × Nat × Nat × Nat × Nat × Nat) := []
def at_Mc_requireEdge : am_T := [[(0, .iload 1, 1), (1, .ifCond .lt (Int.ofNat 15), 4), (4, .iload 1, 5), (5, .aload 0, 6), (6, .getstatic 515, 9), (9, .getfield 129, 12), (12, .if_icmp .lt (Int.ofNat 26), 15), (15, .jsr (Int.ofNat 2), 18)], [(26, .return_, 27)]]
abbrev m_Mc_requireEdge : Nat := 114
def ah_Mc_requireEdge : List (Nat × Nat × Nat × Nat × Nat × Nat) := []
def at_Mc_requireTerminal : am_T := [[(0, .aload 0, 1), (1, .getstatic 515, 4), (4, .iload 1, 5), (5, .invokevirtual 16721, 8), (8, .ifCond .ne (Int.ofNat 22), 11), (11, .jsr (Int.ofNat 1), 14)], [(22, .return_, 23)]]
abbrev m_Mc_requireTerminal : Nat := 115
def ah_Mc_requireTerminal : List (Nat × Nat × Nat × Nat × Nat × Nat) := []
def at_Mc_requireSomeTerminal : am_T := [[(0, .aload 0, 1), (1, .getstatic 515, 4), (4, .getfield 130, 7), (7, .ifCond .ne (Int.ofNat 21), 10), (10, .jsr (Int.ofNat 3), 13)], [(21, .return_, 22)]]
abbrev m_Mc_requireSomeTerminal : Nat := 116
def ah_Mc_requireSomeTerminal : List (Nat × Nat × Nat × Nat × Nat × Nat) := []
def at_Mc_requireWeight : am_T := [[(0, .iload 1, 1), (1, .ldc 1, 2), (2, .if_icmp .lt (Int.ofNat 11), 5), (5, .iload 1, 6), (6, .ldc 99, 8), (8, .if_icmp .le (Int.ofNat 22), 11), (11, .jsr (Int.ofNat 1), 14)], [(22, .return_, 23)]]
abbrev m_Mc_requireWeight : Nat := 117
def ah_Mc_requireWeight : List (Nat × Nat × Nat × Nat × Nat × Nat) := []
def at_Mo_init : am_T := [[(0, .aload 0, 1), (1, .pop2, 4), (4, .aload 0, 5), (5, .ldc 13248, 8), (8, .anewarray 2, 10), (10, .checkcast 577, 13), (13, .aload 0, 14), (14, .ldc 1472, 17)], [(17, .anewarray 2, 19), (19, .checkcast 578, 22), (22, .aload 0, 23), (23, .ldc 700, 26), (26, .anewarray 2, 28), (28, .checkcast 581, 31), (31, .aload 0, 32)], [(32, .ldc 9, 34), (34, .anewarray 4, 36), (36, .checkcast 582, 39), (39, .aload 0, 40), (40, .ldc_w 1, 41), (41, .putfield 584, 44), (44, .aload 0, 45), (45, .ldc 1400, 48)], [(48, .anewarray 5, 50), (50, .checkcast 592, 53), (53, .aload 0, 54), (54, .ldc 20, 56), (56, .anewarray 2, 58), (58, .checkcast 593, 61), (61, .aload 0, 62), (62, .ldc 9, 64)], [(64, .anewarray 2, 66), (66, .checkcast 595, 69), (69, .aload 0, 70), (70, .ldc 9, 72), (72, .anewarray 2, 74), (74, .checkcast 596, 77), (77, .aload 0, 78), (78, .ldc 9, 80)], [(80, .anewarray 2, 82), (82, .checkcast 597, 85), (85, .aload 0, 86), (86, .ldc 9, 88), (88, .anewarray 2, 90), (90, .checkcast 599, 93), (93, .aload 0, 94), (94, .ldc 9, 96)], [(96, .anewarray 2, 98), (98, .checkcast 600, 101), (101, .aload 0, 102), (102, .ldc 9, 104), (104, .anewarray 2, 106), (106, .checkcast 601, 109), (109, .aload 0, 110), (110, .ldc 9, 112)], [(112, .anewarray 2, 114), (114, .checkcast 604, 117), (117, .aload 0, 118), (118, .ldc 9, 120), (120, .anewarray 2, 122), (122, .checkcast 605, 125), (125, .aload 0, 126), (126, .ldc 9, 128)], [(128, .anewarray 2, 130), (130, .checkcast 606, 133), (133, .aload 0, 134), (134, .ldc 9, 136), (136, .anewarray 2, 138), (138, .checkcast 607, 141), (141, .return_, 142)]]
abbrev m_Mo_init : Nat := 118
def ah_Mo_init : List (Nat × Nat × Nat × Nat × Nat × Nat) := []
def at_Mo_thrown : am_T := [[(0, .aload 0, 1), (1, .getfield 576, 4), (4, .ireturn, 5)]]
abbrev m_Mo_thrown : Nat := 119
def ah_Mo_thrown : List (Nat × Nat × Nat × Nat × Nat × Nat) := []
def at_Mo_isIn : am_T := [[(0, .lload 0, 1), (1, .lload 2, 2), (2, .lcmp, 3), (3, .ifCond .lt (Int.ofNat 17), 6), (6, .lload 0, 7), (7, .lload 4, 9), (9, .lcmp, 10), (10, .ifCond .gt (Int.ofNat 17), 13), (13, .ldc 1, 14), (14, .goto (Int.ofNat 18), 17)], [(17, .ldc 0, 18), (18, .areturn, 19)]]
abbrev m_Mo_isIn : Nat := 120
def ah_Mo_isIn : List (Nat × Nat × Nat × Nat × Nat × Nat) := []
def at_Mo_get : am_T := [[(0, .aload 0, 1), (1, .getstatic 577, 4), (4, .ldc 1472, 7), (7, .aload 0, 8), (8, .getfield 579, 11), (11, .imul, 12), (12, .iload 1, 13), (13, .iadd, 14), (14, .iaload, 15), (15, .ireturn, 16)]]
abbrev m_Mo_get : Nat := 121
def ah_Mo_get : List (Nat × Nat × Nat × Nat × Nat × Nat) := []
def at_Mo_put : am_T := [[(0, .aload 0, 1), (1, .getstatic 577, 4), (4, .ldc 1472, 7), (7, .aload 0, 8), (8, .getfield 579, 11), (11, .imul, 12), (12, .iload 1, 13), (13, .iadd, 14), (14, .iload 2, 15), (15, .iastore, 16)], [(16, .return_, 17)]]
abbrev m_Mo_put : Nat := 122
def ah_Mo_put : List (Nat × Nat × Nat × Nat × Nat × Nat) := []
def at_Mo_change : am_T := [[(0, .aload 0, 1), (1, .getfield 579, 4), (4, .ldc 1, 5), (5, .iadd, 6), (6, .ldc 9, 8), (8, .irem, 9), (9, .istore 1, 10), (10, .ldc 0, 11), (11, .istore 2, 12), (12, .iload 2, 13), (13, .ldc 1472, 16)], [(16, .if_icmp .ge (Int.ofNat 42), 19), (19, .aload 0, 20), (20, .getstatic 577, 23), (23, .ldc 1472, 26), (26, .iload 1, 27), (27, .imul, 28), (28, .iload 2, 29), (29, .iadd, 30), (30, .aload 0, 31), (31, .iload 2, 32)], [(32, .invokevirtual 75665, 35), (35, .iastore, 36), (36, .iinc 2 (Int.ofNat 1), 39), (39, .goto (Int.ofNat 12), 42), (42, .aload 0, 43), (43, .iload 1, 44), (44, .putfield 579, 47), (47, .aload 0, 48)], [(48, .aload 0, 49), (49, .getfield 580, 52), (52, .ldc 8, 54), (54, .if_icmp .ge (Int.ofNat 66), 57), (57, .aload 0, 58), (58, .getfield 580, 61), (61, .ldc 1, 62), (62, .iadd, 63), (63, .goto (Int.ofNat 70), 66)], [(66, .aload 0, 67), (67, .getfield 580, 70), (70, .putfield 580, 73), (73, .return_, 74)]]
abbrev m_Mo_change : Nat := 123
def ah_Mo_change : List (Nat × Nat × Nat × Nat × Nat × Nat) := []
def at_Mo_right : am_T := [[(0, .aload 0, 1), (1, .getfield 576, 4), (4, .ifCond .ne (Int.ofNat 16), 7), (7, .iload 1, 8), (8, .ifCond .ne (Int.ofNat 16), 11), (11, .aload 0, 12), (12, .iload 2, 13), (13, .putfield 576, 16)], [(16, .aload 0, 17), (17, .getfield 576, 20), (20, .ifCond .ne (Int.ofNat 27), 23), (23, .ldc 1, 24), (24, .goto (Int.ofNat 28), 27), (27, .ldc 0, 28), (28, .areturn, 29)]]
abbrev m_Mo_right : Nat := 124
def ah_Mo_right : List (Nat × Nat × Nat × Nat × Nat × Nat) := []
def at_Mo_append : am_T := [[(0, .aload 0, 1), (1, .ldc 0, 2), (2, .putfield 576, 5), (5, .aload 0, 6), (6, .getfield 583, 9), (9, .ldc 20, 11), (11, .iadd, 12), (12, .ldc 700, 15), (15, .if_icmp .le (Int.ofNat 20), 18)], [(18, .ldc_w 1, 19), (19, .ireturn, 20), (20, .ldc 0, 21), (21, .istore 6, 23), (23, .iload 6, 25), (25, .ldc 20, 27), (27, .if_icmp .ge (Int.ofNat 113), 30), (30, .iload 6, 32)], [(32, .ldc 4, 33), (33, .if_icmp .ge (Int.ofNat 40), 36), (36, .iload 1, 37), (37, .goto (Int.ofNat 76), 40), (40, .iload 6, 42), (42, .ldc 8, 44), (44, .if_icmp .ge (Int.ofNat 51), 47), (47, .iload 2, 48)], [(48, .goto (Int.ofNat 76), 51), (51, .iload 6, 53), (53, .ldc 12, 55), (55, .if_icmp .ge (Int.ofNat 62), 58), (58, .iload 3, 59), (59, .goto (Int.ofNat 76), 62), (62, .iload 6, 64)], [(64, .ldc 16, 66), (66, .if_icmp .ge (Int.ofNat 74), 69), (69, .iload 4, 71), (71, .goto (Int.ofNat 76), 74), (74, .iload 5, 76), (76, .istore 7, 78), (78, .aload 0, 79), (79, .getstatic 581, 82)], [(82, .aload 0, 83), (83, .getfield 583, 86), (86, .iload 6, 88), (88, .iadd, 89), (89, .iload 7, 91), (91, .ldc 24, 93), (93, .ldc 8, 95), (95, .iload 6, 97)], [(97, .ldc 4, 98), (98, .irem, 99), (99, .imul, 100), (100, .isub, 101), (101, .ishr, 102), (102, .ldc 255, 105), (105, .iand, 106), (106, .iastore, 107), (107, .iinc 6 (Int.ofNat 1), 110), (110, .goto (Int.ofNat 23), 113)], [(113, .aload 0, 114), (114, .dup, 115), (115, .getfield 583, 118), (118, .ldc 20, 120), (120, .iadd, 121), (121, .putfield 583, 124), (124, .aload 0, 125), (125, .getfield 583, 128)], [(128, .ireturn, 129)]]
abbrev m_Mo_append : Nat := 125
def ah_Mo_append : List (Nat × Nat × Nat × Nat × Nat × Nat) := []
def at_Mo_fails : am_T := [[(0, .aload 0, 1), (1, .getfield 587, 4), (4, .ifCond .eq (Int.ofNat 8), 7), (7, .return_, 8), (8, .aload 0, 9), (9, .iload 1, 10), (10, .putfield 587, 13), (13, .aload 0, 14), (14, .iload 2, 15), (15, .putfield 588, 18)], [(18, .return_, 19)]]
abbrev m_Mo_fails : Nat := 126
def ah_Mo_fails : List (Nat × Nat × Nat × Nat × Nat × Nat) := []
def at_Mo_sees : am_T := [[(0, .aload 0, 1), (1, .getfield 586, 4), (4, .aload 0, 5), (5, .getfield 585, 8), (8, .if_icmp .ge (Int.ofNat 38), 11), (11, .aload 0, 12), (12, .getstatic 581, 15), (15, .aload 0, 16)], [(16, .getfield 586, 19), (19, .iaload, 20), (20, .ldc 32, 22), (22, .if_icmp .ne (Int.ofNat 38), 25), (25, .aload 0, 26), (26, .dup, 27), (27, .getfield 586, 30), (30, .ldc 1, 31), (31, .iadd, 32)], [(32, .putfield 586, 35), (35, .goto (Int.ofNat 0), 38), (38, .aload 0, 39), (39, .getfield 586, 42), (42, .aload 0, 43), (43, .getfield 585, 46), (46, .if_icmp .ge (Int.ofNat 61), 49)], [(49, .aload 0, 50), (50, .getstatic 581, 53), (53, .aload 0, 54), (54, .getfield 586, 57), (57, .iaload, 58), (58, .goto (Int.ofNat 62), 61), (61, .ldc_w 1, 62), (62, .ireturn, 63)]]
abbrev m_Mo_sees : Nat := 127
def ah_Mo_sees : List (Nat × Nat × Nat × Nat × Nat × Nat) := []
def at_Mo_takes : am_T := [[(0, .aload 0, 1), (1, .getfield 587, 4), (4, .ifCond .eq (Int.ofNat 9), 7), (7, .ldc 0, 8), (8, .areturn, 9), (9, .aload 0, 10), (10, .invokevirtual 75760, 13), (13, .pop, 14), (14, .aload 0, 15), (15, .getfield 586, 18)], [(18, .istore 2, 19), (19, .iload 2, 20), (20, .aload 0, 21), (21, .getfield 585, 24), (24, .if_icmp .ge (Int.ofNat 55), 27), (27, .aload 0, 28), (28, .getstatic 581, 31), (31, .iload 2, 32)], [(32, .iaload, 33), (33, .ldc 97, 35), (35, .if_icmp .lt (Int.ofNat 55), 38), (38, .aload 0, 39), (39, .getstatic 581, 42), (42, .iload 2, 43), (43, .iaload, 44), (44, .ldc 122, 46), (46, .if_icmp .gt (Int.ofNat 55), 49)], [(49, .iinc 2 (Int.ofNat 1), 52), (52, .goto (Int.ofNat 19), 55), (55, .iload 2, 56), (56, .aload 0, 57), (57, .getfield 586, 60), (60, .isub, 61), (61, .aload 1, 62), (62, .monitorexit, 65)], [(65, .if_icmp .ne (Int.ofNat 72), 68), (68, .ldc 1, 69), (69, .goto (Int.ofNat 73), 72), (72, .ldc 0, 73), (73, .istore 3, 74), (74, .ldc 0, 75), (75, .istore 4, 77), (77, .iload 3, 78), (78, .ifCond .eq (Int.ofNat 123), 81)], [(81, .iload 4, 83), (83, .aload 1, 84), (84, .monitorexit, 87), (87, .if_icmp .ge (Int.ofNat 123), 90), (90, .aload 0, 91), (91, .getstatic 581, 94), (94, .aload 0, 95), (95, .getfield 586, 98)], [(98, .iload 4, 100), (100, .iadd, 101), (101, .iaload, 102), (102, .aload 1, 103), (103, .iload 4, 105), (105, .instanceof 0, 108), (108, .if_icmp .ne (Int.ofNat 115), 111), (111, .ldc 1, 112)], [(112, .goto (Int.ofNat 116), 115), (115, .ldc 0, 116), (116, .istore 3, 117), (117, .iinc 4 (Int.ofNat 1), 120), (120, .goto (Int.ofNat 77), 123), (123, .iload 3, 124), (124, .ifCond .eq (Int.ofNat 132), 127), (127, .aload 0, 128)], [(128, .iload 2, 129), (129, .putfield 586, 132), (132, .iload 3, 133), (133, .areturn, 134)]]
abbrev m_Mo_takes : Nat := 128
def ah_Mo_takes : List (Nat × Nat × Nat × Nat × Nat × Nat) := []
def at_Mo_wants : am_T := [[(0, .aload 0, 1), (1, .getfield 587, 4), (4, .ifCond .eq (Int.ofNat 8), 7), (7, .return_, 8), (8, .aload 0, 9), (9, .invokevirtual 75760, 12), (12, .iload 1, 13), (13, .if_icmp .eq (Int.ofNat 29), 16)], [(16, .aload 0, 17), (17, .ldc_w 2, 19), (19, .aload 0, 20), (20, .getfield 586, 23), (23, .invokevirtual 75746, 26), (26, .goto (Int.ofNat 39), 29), (29, .aload 0, 30), (30, .dup, 31), (31, .getfield 586, 34)], [(34, .ldc 1, 35), (35, .iadd, 36), (36, .putfield 586, 39), (39, .return_, 40)]]
abbrev m_Mo_wants : Nat := 129
def ah_Mo_wants : List (Nat × Nat × Nat × Nat × Nat × Nat) := []
def at_Mo_isDigit : am_T := [[(0, .aload 0, 1), (1, .invokevirtual 75760, 4), (4, .ldc 48, 6), (6, .if_icmp .lt (Int.ofNat 22), 9), (9, .aload 0, 10), (10, .invokevirtual 75760, 13), (13, .ldc 57, 15), (15, .if_icmp .gt (Int.ofNat 22), 18)], [(18, .ldc 1, 19), (19, .goto (Int.ofNat 23), 22), (22, .ldc 0, 23), (23, .areturn, 24)]]
abbrev m_Mo_isDigit : Nat := 130
def ah_Mo_isDigit : List (Nat × Nat × Nat × Nat × Nat × Nat) := []
def at_Mo_reads : am_T := [[(0, .aload 0, 1), (1, .getfield 587, 4), (4, .ifCond .eq (Int.ofNat 9), 7), (7, .ldc 0, 8), (8, .ireturn, 9), (9, .aload 0, 10), (10, .invokevirtual 75808, 13), (13, .ifCond .ne (Int.ofNat 28), 16)], [(16, .aload 0, 17), (17, .ldc_w 2, 19), (19, .aload 0, 20), (20, .getfield 586, 23), (23, .invokevirtual 75746, 26), (26, .ldc 0, 27), (27, .ireturn, 28), (28, .aload 0, 29), (29, .aload 0, 30), (30, .getfield 586, 33)], [(33, .putfield 589, 36), (36, .ldc 0, 37), (37, .istore 3, 38), (38, .aload 0, 39), (39, .getfield 586, 42), (42, .aload 0, 43), (43, .getfield 585, 46), (46, .if_icmp .ge (Int.ofNat 113), 49)], [(49, .aload 0, 50), (50, .getstatic 581, 53), (53, .aload 0, 54), (54, .getfield 586, 57), (57, .iaload, 58), (58, .ldc 48, 60), (60, .if_icmp .lt (Int.ofNat 113), 63), (63, .aload 0, 64)], [(64, .getstatic 581, 67), (67, .aload 0, 68), (68, .getfield 586, 71), (71, .iaload, 72), (72, .ldc 57, 74), (74, .if_icmp .gt (Int.ofNat 113), 77), (77, .ldc 1000000, 79), (79, .ldc 10, 81)], [(81, .iload 3, 82), (82, .imul, 83), (83, .aload 0, 84), (84, .getstatic 581, 87), (87, .aload 0, 88), (88, .getfield 586, 91), (91, .iaload, 92), (92, .iadd, 93), (93, .ldc 48, 95), (95, .isub, 96)], [(96, .dsub, 99), (99, .istore 3, 100), (100, .aload 0, 101), (101, .dup, 102), (102, .getfield 586, 105), (105, .ldc 1, 106), (106, .iadd, 107), (107, .putfield 586, 110), (110, .goto (Int.ofNat 38), 113)], [(113, .iload 3, 114), (114, .i2l, 115), (115, .iload 1, 116), (116, .i2l, 117), (117, .iload 2, 118), (118, .i2l, 119), (119, .invokestatic 1923, 122), (122, .ifCond .ne (Int.ofNat 135), 125), (125, .aload 0, 126), (126, .ldc_w 3, 128)], [(128, .aload 0, 129), (129, .getfield 589, 132), (132, .invokevirtual 75746, 135), (135, .aload 0, 136), (136, .getfield 587, 139), (139, .ifCond .ne (Int.ofNat 146), 142), (142, .iload 3, 143), (143, .goto (Int.ofNat 147), 146)], [(146, .ldc 0, 147), (147, .ireturn, 148)]]
abbrev m_Mo_reads : Nat := 131
def ah_Mo_reads : List (Nat × Nat × Nat × Nat × Nat × Nat) := []
def at_Mo_codes : am_T := [[(0, .aload 0, 1), (1, .getfield 587, 4), (4, .ifCond .eq (Int.ofNat 8), 7), (7, .return_, 8), (8, .ldc 84, 10), (10, .ldc 2, 11), (11, .aload 0, 12), (12, .getstatic 578, 15), (15, .ldc 3, 16)], [(16, .iaload, 17), (17, .imul, 18), (18, .iadd, 19), (19, .istore 3, 20), (20, .aload 0, 21), (21, .getstatic 578, 24), (24, .iload 3, 25), (25, .iload 1, 26), (26, .iastore, 27), (27, .aload 0, 28), (28, .getstatic 578, 31), (31, .iload 3, 32)], [(32, .ldc 1, 33), (33, .iadd, 34), (34, .iload 2, 35), (35, .iastore, 36), (36, .aload 0, 37), (37, .getstatic 578, 40), (40, .ldc 3, 41), (41, .dup2, 42), (42, .iaload, 43), (43, .ldc 1, 44), (44, .iadd, 45), (45, .iastore, 46), (46, .return_, 47)]]
abbrev m_Mo_codes : Nat := 132
def ah_Mo_codes : List (Nat × Nat × Nat × Nat × Nat × Nat) := []
def at_Mo_sum : am_T := [[(0, .aload 0, 1), (1, .invokevirtual 75872, 4), (4, .aload 0, 5), (5, .getfield 587, 8), (8, .ifCond .ne (Int.ofNat 75), 11), (11, .aload 0, 12), (12, .invokevirtual 75760, 15), (15, .ldc 43, 17)], [(17, .if_icmp .eq (Int.ofNat 29), 20), (20, .aload 0, 21), (21, .invokevirtual 75760, 24), (24, .ldc 45, 26), (26, .if_icmp .ne (Int.ofNat 75), 29), (29, .aload 0, 30), (30, .invokevirtual 75760, 33)], [(33, .ldc 43, 35), (35, .if_icmp .ne (Int.ofNat 42), 38), (38, .ldc 1, 39), (39, .goto (Int.ofNat 43), 42), (42, .ldc 0, 43), (43, .istore 1, 44), (44, .aload 0, 45), (45, .dup, 46), (46, .getfield 586, 49)], [(49, .ldc 1, 50), (50, .iadd, 51), (51, .putfield 586, 54), (54, .aload 0, 55), (55, .invokevirtual 75872, 58), (58, .aload 0, 59), (59, .iload 1, 60), (60, .ifCond .eq (Int.ofNat 67), 63), (63, .ldc 1, 64)], [(64, .goto (Int.ofNat 68), 67), (67, .ldc 2, 68), (68, .ldc 0, 69), (69, .invokevirtual 75842, 72), (72, .goto (Int.ofNat 4), 75), (75, .return_, 76)]]
abbrev m_Mo_sum : Nat := 133
def ah_Mo_sum : List (Nat × Nat × Nat × Nat × Nat × Nat) := []
def at_Mo_term : am_T := [[(0, .aload 0, 1), (1, .invokevirtual 75888, 4), (4, .aload 0, 5), (5, .getfield 587, 8), (8, .ifCond .ne (Int.ofNat 75), 11), (11, .aload 0, 12), (12, .invokevirtual 75760, 15), (15, .ldc 42, 17)], [(17, .if_icmp .eq (Int.ofNat 29), 20), (20, .aload 0, 21), (21, .invokevirtual 75760, 24), (24, .ldc 47, 26), (26, .if_icmp .ne (Int.ofNat 75), 29), (29, .aload 0, 30), (30, .invokevirtual 75760, 33)], [(33, .ldc 42, 35), (35, .if_icmp .ne (Int.ofNat 42), 38), (38, .ldc 1, 39), (39, .goto (Int.ofNat 43), 42), (42, .ldc 0, 43), (43, .istore 1, 44), (44, .aload 0, 45), (45, .dup, 46), (46, .getfield 586, 49)], [(49, .ldc 1, 50), (50, .iadd, 51), (51, .putfield 586, 54), (54, .aload 0, 55), (55, .invokevirtual 75888, 58), (58, .aload 0, 59), (59, .iload 1, 60), (60, .ifCond .eq (Int.ofNat 67), 63), (63, .ldc 3, 64)], [(64, .goto (Int.ofNat 68), 67), (67, .ldc 4, 68), (68, .ldc 0, 69), (69, .invokevirtual 75842, 72), (72, .goto (Int.ofNat 4), 75), (75, .return_, 76)]]
abbrev m_Mo_term : Nat := 134
def ah_Mo_term : List (Nat × Nat × Nat × Nat × Nat × Nat) := []
def at_Mo_factor : am_T := [[(0, .aload 0, 1), (1, .getfield 587, 4), (4, .ifCond .eq (Int.ofNat 8), 7), (7, .return_, 8), (8, .aload 0, 9), (9, .invokevirtual 75760, 12), (12, .ldc 40, 14), (14, .if_icmp .ne (Int.ofNat 77), 17)], [(17, .aload 0, 18), (18, .getfield 590, 21), (21, .ldc 4, 22), (22, .if_icmp .ne (Int.ofNat 36), 25), (25, .aload 0, 26), (26, .ldc_w 6, 28), (28, .aload 0, 29), (29, .getfield 586, 32)], [(32, .invokevirtual 75746, 35), (35, .return_, 36), (36, .aload 0, 37), (37, .dup, 38), (38, .getfield 590, 41), (41, .ldc 1, 42), (42, .iadd, 43), (43, .putfield 590, 46), (46, .aload 0, 47), (47, .dup, 48)], [(48, .getfield 586, 51), (51, .ldc 1, 52), (52, .iadd, 53), (53, .putfield 586, 56), (56, .aload 0, 57), (57, .invokevirtual 75856, 60), (60, .aload 0, 61), (61, .ldc 41, 63), (63, .invokevirtual 75793, 66)], [(66, .aload 0, 67), (67, .dup, 68), (68, .getfield 590, 71), (71, .ldc 1, 72), (72, .isub, 73), (73, .putfield 590, 76), (76, .return_, 77), (77, .aload 0, 78), (78, .invokevirtual 75808, 81)], [(81, .ifCond .eq (Int.ofNat 98), 84), (84, .aload 0, 85), (85, .ldc 0, 86), (86, .aload 0, 87), (87, .ldc 0, 88), (88, .ldc 9999, 91), (91, .invokevirtual 75826, 94), (94, .invokevirtual 75842, 97)], [(97, .return_, 98), (98, .aload 0, 99), (99, .invokeinterface 5 0, 101), (101, .invokevirtual 75777, 104), (104, .ifCond .eq (Int.ofNat 111), 107), (107, .ldc 0, 108), (108, .goto (Int.ofNat 138), 111), (111, .aload 0, 112)], [(112, .invokeinterface 6 0, 114), (114, .invokevirtual 75777, 117), (117, .ifCond .eq (Int.ofNat 124), 120), (120, .ldc 1, 121), (121, .goto (Int.ofNat 138), 124), (124, .aload 0, 125), (125, .invokeinterface 7 0, 127), (127, .invokevirtual 75777, 130)], [(130, .ifCond .eq (Int.ofNat 137), 133), (133, .ldc 2, 134), (134, .goto (Int.ofNat 138), 137), (137, .ldc_w 1, 138), (138, .istore 1, 139), (139, .iload 1, 140), (140, .ldc_w 1, 141), (141, .if_icmp .ne (Int.ofNat 157), 144)], [(144, .aload 0, 145), (145, .ldc_w 2, 147), (147, .aload 0, 148), (148, .getfield 586, 151), (151, .invokevirtual 75746, 154), (154, .goto (Int.ofNat 163), 157), (157, .aload 0, 158), (158, .ldc 5, 159), (159, .iload 1, 160)], [(160, .invokevirtual 75842, 163), (163, .return_, 164)]]
abbrev m_Mo_factor : Nat := 135
def ah_Mo_factor : List (Nat × Nat × Nat × Nat × Nat × Nat) := []
def at_Mo_readsVertex : am_T := [[(0, .aload 0, 1), (1, .ldc 0, 2), (2, .aload 0, 3), (3, .getstatic 578, 6), (6, .ldc 0, 7), (7, .iaload, 8), (8, .ldc 1, 9), (9, .isub, 10), (10, .invokevirtual 75826, 13), (13, .ireturn, 14)]]
abbrev m_Mo_readsVertex : Nat := 136
def ah_Mo_readsVertex : List (Nat × Nat × Nat × Nat × Nat × Nat) := []
def at_Mo_terminalLine : am_T := [[(0, .aload 0, 1), (1, .getstatic 578, 4), (4, .ldc 2, 5), (5, .iaload, 6), (6, .invokestatic 2209, 9), (9, .ldc 5, 10), (10, .if_icmp .ne (Int.ofNat 20), 13), (13, .aload 0, 14), (14, .ldc_w 5, 16)], [(16, .iload 1, 17), (17, .invokevirtual 75746, 20), (20, .aload 0, 21), (21, .invokevirtual 75904, 24), (24, .istore 2, 25), (25, .aload 0, 26), (26, .getfield 587, 29), (29, .ifCond .ne (Int.ofNat 56), 32)], [(32, .aload 0, 33), (33, .getstatic 578, 36), (36, .ldc 2, 37), (37, .iaload, 38), (38, .iload 2, 39), (39, .ishr, 40), (40, .ldc 1, 41), (41, .iand, 42), (42, .ldc 1, 43), (43, .if_icmp .ne (Int.ofNat 56), 46), (46, .aload 0, 47), (47, .ldc_w 4, 49)], [(49, .aload 0, 50), (50, .getfield 589, 53), (53, .invokevirtual 75746, 56), (56, .aload 0, 57), (57, .getfield 587, 60), (60, .ifCond .ne (Int.ofNat 75), 63), (63, .aload 0, 64)], [(64, .getstatic 578, 67), (67, .ldc 2, 68), (68, .dup2, 69), (69, .iaload, 70), (70, .ldc 1, 71), (71, .iload 2, 72), (72, .ishl, 73), (73, .ior, 74), (74, .iastore, 75), (75, .return_, 76)]]
abbrev m_Mo_terminalLine : Nat := 137
def ah_Mo_terminalLine : List (Nat × Nat × Nat × Nat × Nat × Nat) := []
def at_Mo_bitsOf : am_T := [[(0, .ldc 0, 1), (1, .istore 1, 2), (2, .ldc 0, 3), (3, .istore 2, 4), (4, .iload 2, 5), (5, .ldc 30, 7), (7, .if_icmp .ge (Int.ofNat 24), 10), (10, .iload 1, 11), (11, .iload 0, 12), (12, .iload 2, 13), (13, .ishr, 14), (14, .ldc 1, 15), (15, .iand, 16)], [(16, .iadd, 17), (17, .istore 1, 18), (18, .iinc 2 (Int.ofNat 1), 21), (21, .goto (Int.ofNat 4), 24), (24, .iload 1, 25), (25, .ireturn, 26)]]
abbrev m_Mo_bitsOf : Nat := 138
def ah_Mo_bitsOf : List (Nat × Nat × Nat × Nat × Nat × Nat) := []
def at_Mo_isJoined : am_T := [[(0, .ldc 0, 1), (1, .istore 3, 2), (2, .iload 3, 3), (3, .aload 0, 4), (4, .getstatic 578, 7), (7, .ldc 1, 8), (8, .iaload, 9), (9, .if_icmp .ge (Int.ofNat 60), 12), (12, .aload 0, 13), (13, .getstatic 578, 16)], [(16, .ldc 15, 18), (18, .ldc 3, 19), (19, .iload 3, 20), (20, .imul, 21), (21, .iadd, 22), (22, .iaload, 23), (23, .iload 1, 24), (24, .iload 2, 25), (25, .dsub, 28), (28, .if_icmp .ne (Int.ofNat 54), 31), (31, .aload 0, 32)], [(32, .getstatic 578, 35), (35, .ldc 15, 37), (37, .ldc 3, 38), (38, .iload 3, 39), (39, .imul, 40), (40, .iadd, 41), (41, .ldc 1, 42), (42, .iadd, 43), (43, .iaload, 44), (44, .iload 1, 45), (45, .iload 2, 46), (46, .dadd, 49)], [(49, .if_icmp .ne (Int.ofNat 54), 52), (52, .ldc 1, 53), (53, .areturn, 54), (54, .iinc 3 (Int.ofNat 1), 57), (57, .goto (Int.ofNat 2), 60), (60, .ldc 0, 61), (61, .areturn, 62)]]
abbrev m_Mo_isJoined : Nat := 139
def ah_Mo_isJoined : List (Nat × Nat × Nat × Nat × Nat × Nat) := []
def at_Mo_edgeLine : am_T := [[(0, .aload 0, 1), (1, .getstatic 578, 4), (4, .ldc 1, 5), (5, .iaload, 6), (6, .ldc 20, 8), (8, .if_icmp .ne (Int.ofNat 18), 11), (11, .aload 0, 12), (12, .ldc_w 5, 14), (14, .iload 1, 15), (15, .invokevirtual 75746, 18)], [(18, .aload 0, 19), (19, .invokevirtual 75904, 22), (22, .istore 2, 23), (23, .aload 0, 24), (24, .invokevirtual 75904, 27), (27, .istore 3, 28), (28, .aload 0, 29), (29, .getfield 587, 32)], [(32, .ifCond .ne (Int.ofNat 59), 35), (35, .iload 2, 36), (36, .iload 3, 37), (37, .if_icmp .eq (Int.ofNat 49), 40), (40, .aload 0, 41), (41, .iload 2, 42), (42, .iload 3, 43), (43, .invokevirtual 75954, 46), (46, .ifCond .eq (Int.ofNat 59), 49)], [(49, .aload 0, 50), (50, .ldc_w 4, 52), (52, .aload 0, 53), (53, .getfield 589, 56), (56, .invokevirtual 75746, 59), (59, .aload 0, 60), (60, .ldc 1, 61), (61, .ldc 99, 63), (63, .invokevirtual 75826, 66)], [(66, .istore 4, 68), (68, .aload 0, 69), (69, .getfield 587, 72), (72, .ifCond .eq (Int.ofNat 76), 75), (75, .return_, 76), (76, .ldc 15, 78), (78, .ldc 3, 79), (79, .aload 0, 80)], [(80, .getstatic 578, 83), (83, .ldc 1, 84), (84, .iaload, 85), (85, .imul, 86), (86, .iadd, 87), (87, .istore 5, 89), (89, .aload 0, 90), (90, .getstatic 578, 93), (93, .iload 5, 95), (95, .iload 2, 96)], [(96, .iload 3, 97), (97, .dsub, 100), (100, .iastore, 101), (101, .aload 0, 102), (102, .getstatic 578, 105), (105, .iload 5, 107), (107, .ldc 1, 108), (108, .iadd, 109), (109, .iload 2, 110), (110, .iload 3, 111), (111, .dadd, 114)], [(114, .iastore, 115), (115, .aload 0, 116), (116, .getstatic 578, 119), (119, .iload 5, 121), (121, .ldc 2, 122), (122, .iadd, 123), (123, .iload 4, 125), (125, .iastore, 126), (126, .aload 0, 127), (127, .getstatic 578, 130)], [(130, .ldc 1, 131), (131, .dup2, 132), (132, .iaload, 133), (133, .ldc 1, 134), (134, .iadd, 135), (135, .iastore, 136), (136, .return_, 137)]]
abbrev m_Mo_edgeLine : Nat := 140
def ah_Mo_edgeLine : List (Nat × Nat × Nat × Nat × Nat × Nat) := []
def at_Mo_loadLine : am_T := [[(0, .aload 0, 1), (1, .invokevirtual 75904, 4), (4, .istore 1, 5), (5, .aload 0, 6), (6, .getfield 587, 9), (9, .ifCond .ne (Int.ofNat 31), 12), (12, .aload 0, 13), (13, .getstatic 582, 16)], [(16, .iload 1, 17), (17, .saload, 18), (18, .ifCond .eq (Int.ofNat 31), 21), (21, .aload 0, 22), (22, .ldc_w 4, 24), (24, .aload 0, 25), (25, .getfield 589, 28), (28, .invokevirtual 75746, 31), (31, .aload 0, 32)], [(32, .ldc 0, 33), (33, .ldc 99, 35), (35, .invokevirtual 75826, 38), (38, .istore 2, 39), (39, .aload 0, 40), (40, .getfield 587, 43), (43, .ifCond .eq (Int.ofNat 47), 46), (46, .return_, 47), (47, .aload 0, 48)], [(48, .getstatic 582, 51), (51, .iload 1, 52), (52, .ldc 1, 53), (53, .sastore, 54), (54, .aload 0, 55), (55, .getstatic 578, 58), (58, .ldc 6, 60), (60, .iload 1, 61), (61, .iadd, 62), (62, .iload 2, 63), (63, .iastore, 64)], [(64, .return_, 65)]]
abbrev m_Mo_loadLine : Nat := 141
def ah_Mo_loadLine : List (Nat × Nat × Nat × Nat × Nat × Nat) := []
def at_Mo_statement : am_T := [[(0, .aload 0, 1), (1, .invokevirtual 75760, 4), (4, .pop, 5), (5, .aload 0, 6), (6, .getfield 586, 9), (9, .istore 1, 10), (10, .aload 0, 11), (11, .invokeinterface 1 0, 13), (13, .invokevirtual 75777, 16)], [(16, .ifCond .eq (Int.ofNat 27), 19), (19, .aload 0, 20), (20, .iload 1, 21), (21, .invokevirtual 75921, 24), (24, .goto (Int.ofNat 109), 27), (27, .aload 0, 28), (28, .invokeinterface 2 0, 30), (30, .invokevirtual 75777, 33)], [(33, .ifCond .eq (Int.ofNat 44), 36), (36, .aload 0, 37), (37, .iload 1, 38), (38, .invokevirtual 75969, 41), (41, .goto (Int.ofNat 109), 44), (44, .aload 0, 45), (45, .invokeinterface 3 0, 47), (47, .invokevirtual 75777, 50)], [(50, .ifCond .eq (Int.ofNat 60), 53), (53, .aload 0, 54), (54, .invokevirtual 75984, 57), (57, .goto (Int.ofNat 109), 60), (60, .aload 0, 61), (61, .invokeinterface 4 0, 63), (63, .invokevirtual 75777, 66)], [(66, .ifCond .eq (Int.ofNat 102), 69), (69, .aload 0, 70), (70, .getfield 591, 73), (73, .ifCond .eq (Int.ofNat 83), 76), (76, .aload 0, 77), (77, .ldc_w 2, 79), (79, .iload 1, 80)], [(80, .invokevirtual 75746, 83), (83, .aload 0, 84), (84, .ldc 1, 85), (85, .putstatic 591, 88), (88, .aload 0, 89), (89, .getfield 587, 92), (92, .ifCond .ne (Int.ofNat 109), 95), (95, .aload 0, 96)], [(96, .invokevirtual 75856, 99), (99, .goto (Int.ofNat 109), 102), (102, .aload 0, 103), (103, .ldc_w 2, 105), (105, .iload 1, 106), (106, .invokevirtual 75746, 109), (109, .aload 0, 110), (110, .ldc 59, 112)], [(112, .invokevirtual 75793, 115), (115, .return_, 116)]]
abbrev m_Mo_statement : Nat := 142
def ah_Mo_statement : List (Nat × Nat × Nat × Nat × Nat × Nat) := []
def at_Mo_texts : am_T := [[(0, .ldc 0, 1), (1, .istore 1, 2), (2, .iload 1, 3), (3, .ldc 1472, 6), (6, .if_icmp .ge (Int.ofNat 22), 9), (9, .aload 0, 10), (10, .getstatic 578, 13), (13, .iload 1, 14), (14, .ldc 0, 15), (15, .iastore, 16)], [(16, .iinc 1 (Int.ofNat 1), 19), (19, .goto (Int.ofNat 2), 22), (22, .ldc 0, 23), (23, .istore 1, 24), (24, .iload 1, 25), (25, .ldc 9, 27), (27, .if_icmp .ge (Int.ofNat 43), 30), (30, .aload 0, 31), (31, .getstatic 582, 34)], [(34, .iload 1, 35), (35, .ldc 0, 36), (36, .sastore, 37), (37, .iinc 1 (Int.ofNat 1), 40), (40, .goto (Int.ofNat 24), 43), (43, .aload 0, 44), (44, .ldc 0, 45), (45, .putfield 586, 48)], [(48, .aload 0, 49), (49, .ldc 0, 50), (50, .putfield 587, 53), (53, .aload 0, 54), (54, .ldc 0, 55), (55, .putfield 590, 58), (58, .aload 0, 59), (59, .ldc 0, 60), (60, .putstatic 591, 63), (63, .aload 0, 64)], [(64, .invokeinterface 0 0, 66), (66, .invokevirtual 75777, 69), (69, .ifCond .ne (Int.ofNat 82), 72), (72, .aload 0, 73), (73, .ldc_w 2, 75), (75, .aload 0, 76), (76, .getfield 586, 79), (79, .invokevirtual 75746, 82)], [(82, .aload 0, 83), (83, .getstatic 578, 86), (86, .ldc 0, 87), (87, .aload 0, 88), (88, .ldc 2, 89), (89, .ldc 9, 91), (91, .invokevirtual 75826, 94), (94, .iastore, 95), (95, .aload 0, 96)], [(96, .ldc 59, 98), (98, .invokevirtual 75793, 101), (101, .aload 0, 102), (102, .getfield 587, 105), (105, .ifCond .ne (Int.ofNat 123), 108), (108, .aload 0, 109), (109, .invokevirtual 75760, 112)], [(112, .ldc_w 1, 113), (113, .if_icmp .eq (Int.ofNat 123), 116), (116, .aload 0, 117), (117, .invokevirtual 76000, 120), (120, .goto (Int.ofNat 101), 123), (123, .return_, 124)]]
abbrev m_Mo_texts : Nat := 143
def ah_Mo_texts : List (Nat × Nat × Nat × Nat × Nat × Nat) := []
def at_Mo_load : am_T := [[(0, .aload 0, 1), (1, .ldc 0, 2), (2, .putfield 576, 5), (5, .aload 0, 6), (6, .iload 1, 7), (7, .i2l, 8), (8, .ldc2_w 0, 9), (9, .aload 0, 10), (10, .getfield 583, 13), (13, .i2l, 14), (14, .invokestatic 1923, 17)], [(17, .ldc 1, 18), (18, .invokevirtual 75714, 21), (21, .ifCond .ne (Int.ofNat 26), 24), (24, .ldc 0, 25), (25, .ireturn, 26), (26, .aload 0, 27), (27, .iload 1, 28), (28, .putfield 585, 31), (31, .aload 0, 32)], [(32, .ldc 0, 33), (33, .putfield 583, 36), (36, .aload 0, 37), (37, .ldc_w 1, 38), (38, .putfield 584, 41), (41, .aload 0, 42), (42, .invokevirtual 76016, 45), (45, .aload 0, 46), (46, .getfield 587, 49)], [(49, .ifCond .eq (Int.ofNat 65), 52), (52, .aload 0, 53), (53, .aload 0, 54), (54, .getfield 588, 57), (57, .putfield 584, 60), (60, .aload 0, 61), (61, .getfield 587, 64)], [(64, .ireturn, 65), (65, .aload 0, 66), (66, .invokevirtual 75696, 69), (69, .ldc 0, 70), (70, .istore 2, 71), (71, .iload 2, 72), (72, .ldc 1472, 75), (75, .if_icmp .ge (Int.ofNat 95), 78), (78, .aload 0, 79), (79, .iload 2, 80)], [(80, .aload 0, 81), (81, .getstatic 578, 84), (84, .iload 2, 85), (85, .iaload, 86), (86, .invokevirtual 75682, 89), (89, .iinc 2 (Int.ofNat 1), 92), (92, .goto (Int.ofNat 71), 95), (95, .ldc 0, 96)], [(96, .istore 2, 97), (97, .iload 2, 98), (98, .ldc 9, 100), (100, .if_icmp .ge (Int.ofNat 130), 103), (103, .aload 0, 104), (104, .ldc 75, 106), (106, .iload 2, 107), (107, .iadd, 108), (108, .aload 0, 109), (109, .iload 2, 110), (110, .invokevirtual 76193, 113)], [(113, .ifCond .eq (Int.ofNat 120), 116), (116, .iload 2, 117), (117, .goto (Int.ofNat 121), 120), (120, .ldc_w 1, 121), (121, .invokevirtual 75682, 124), (124, .iinc 2 (Int.ofNat 1), 127), (127, .goto (Int.ofNat 97), 130)], [(130, .aload 0, 131), (131, .ldc 1, 132), (132, .invokevirtual 75665, 135), (135, .ireturn, 136)]]
abbrev m_Mo_load : Nat := 144
def ah_Mo_load : List (Nat × Nat × Nat × Nat × Nat × Nat) := []
def at_Mo_errorOffset : am_T := [[(0, .aload 0, 1), (1, .ldc 0, 2), (2, .putfield 576, 5), (5, .aload 0, 6), (6, .getfield 584, 9), (9, .ireturn, 10)]]
abbrev m_Mo_errorOffset : Nat := 145
def ah_Mo_errorOffset : List (Nat × Nat × Nat × Nat × Nat × Nat) := []
def at_Mo_within : am_T := [[(0, .lload 0, 1), (1, .lload 2, 2), (2, .lneg, 3), (3, .lcmp, 4), (4, .ifCond .ge (Int.ofNat 12), 7), (7, .lload 2, 8), (8, .lneg, 9), (9, .goto (Int.ofNat 23), 12), (12, .lload 0, 13), (13, .lload 2, 14), (14, .lcmp, 15), (15, .ifCond .le (Int.ofNat 22), 18)], [(18, .lload 2, 19), (19, .goto (Int.ofNat 23), 22), (22, .lload 0, 23), (23, .lreturn, 24)]]
abbrev m_Mo_within : Nat := 146
def ah_Mo_within : List (Nat × Nat × Nat × Nat × Nat × Nat) := []
def at_Mo_costOf : am_T := [[(0, .ldc 15, 2), (2, .ldc 3, 3), (3, .iload 1, 4), (4, .imul, 5), (5, .iadd, 6), (6, .istore 2, 7), (7, .aload 0, 8), (8, .ldc 3, 9), (9, .invokevirtual 75665, 12), (12, .ifCond .ne (Int.ofNat 23), 15), (15, .aload 0, 16)], [(16, .iload 2, 17), (17, .ldc 2, 18), (18, .iadd, 19), (19, .invokevirtual 75665, 22), (22, .ireturn, 23), (23, .ldc 0, 24), (24, .istore 3, 25), (25, .ldc 0, 26), (26, .istore 4, 28), (28, .iload 4, 30), (30, .aload 0, 31), (31, .ldc 3, 32)], [(32, .invokevirtual 75665, 35), (35, .if_icmp .ge (Int.ofNat 233), 38), (38, .aload 0, 39), (39, .ldc 84, 41), (41, .ldc 2, 42), (42, .iload 4, 44), (44, .imul, 45), (45, .iadd, 46), (46, .invokevirtual 75665, 49)], [(49, .istore 5, 51), (51, .aload 0, 52), (52, .ldc 84, 54), (54, .ldc 2, 55), (55, .iload 4, 57), (57, .imul, 58), (58, .iadd, 59), (59, .ldc 1, 60), (60, .iadd, 61), (61, .invokevirtual 75665, 64)], [(64, .istore 6, 66), (66, .iload 5, 68), (68, .ifCond .eq (Int.ofNat 77), 71), (71, .iload 5, 73), (73, .ldc 5, 74), (74, .if_icmp .ne (Int.ofNat 134), 77), (77, .aload 0, 78), (78, .getstatic 592, 81)], [(81, .iload 3, 82), (82, .iload 5, 84), (84, .ifCond .ne (Int.ofNat 93), 87), (87, .iload 6, 89), (89, .i2l, 90), (90, .goto (Int.ofNat 127), 93), (93, .iload 6, 95), (95, .ifCond .ne (Int.ofNat 109), 98)], [(98, .aload 0, 99), (99, .iload 2, 100), (100, .ldc 2, 101), (101, .iadd, 102), (102, .invokevirtual 75665, 105), (105, .i2l, 106), (106, .goto (Int.ofNat 127), 109), (109, .aload 0, 110), (110, .ldc 6, 112)], [(112, .aload 0, 113), (113, .iload 2, 114), (114, .iload 6, 116), (116, .iadd, 117), (117, .ldc 1, 118), (118, .isub, 119), (119, .invokevirtual 75665, 122), (122, .iadd, 123), (123, .invokevirtual 75665, 126), (126, .i2l, 127), (127, .lastore, 128)], [(128, .iinc 3 (Int.ofNat 1), 131), (131, .goto (Int.ofNat 227), 134), (134, .iinc 3 (Int.negSucc 0), 137), (137, .aload 0, 138), (138, .getstatic 592, 141), (141, .iload 3, 142), (142, .ldc 1, 143), (143, .isub, 144)], [(144, .laload, 145), (145, .lstore 7, 147), (147, .aload 0, 148), (148, .getstatic 592, 151), (151, .iload 3, 152), (152, .laload, 153), (153, .lstore 9, 155), (155, .aload 0, 156), (156, .getstatic 592, 159), (159, .iload 3, 160)], [(160, .ldc 1, 161), (161, .isub, 162), (162, .iload 5, 164), (164, .ldc 1, 165), (165, .if_icmp .ne (Int.ofNat 176), 168), (168, .lload 7, 170), (170, .lload 9, 172), (172, .ladd, 173), (173, .goto (Int.ofNat 220), 176)], [(176, .iload 5, 178), (178, .ldc 2, 179), (179, .if_icmp .ne (Int.ofNat 190), 182), (182, .lload 7, 184), (184, .lload 9, 186), (186, .lsub, 187), (187, .goto (Int.ofNat 220), 190), (190, .iload 5, 192)], [(192, .ldc 3, 193), (193, .if_icmp .ne (Int.ofNat 204), 196), (196, .lload 7, 198), (198, .lload 9, 200), (200, .lmul, 201), (201, .goto (Int.ofNat 220), 204), (204, .lload 9, 206), (206, .ldc2_w 0, 207), (207, .lcmp, 208)], [(208, .ifCond .ne (Int.ofNat 215), 211), (211, .ldc2_w 0, 212), (212, .goto (Int.ofNat 220), 215), (215, .lload 7, 217), (217, .lload 9, 219), (219, .ldiv, 220), (220, .ldc2_w 1000000, 223), (223, .invokestatic 2338, 226)], [(226, .lastore, 227), (227, .iinc 4 (Int.ofNat 1), 230), (230, .goto (Int.ofNat 28), 233), (233, .aload 0, 234), (234, .getstatic 592, 237), (237, .ldc 0, 238), (238, .laload, 239), (239, .ldc2_w 1, 240)], [(240, .lcmp, 241), (241, .ifCond .ge (Int.ofNat 248), 244), (244, .ldc2_w 1, 245), (245, .goto (Int.ofNat 273), 248), (248, .aload 0, 249), (249, .getstatic 592, 252), (252, .ldc 0, 253), (253, .laload, 254), (254, .ldc2_w 9999, 257)], [(257, .lcmp, 258), (258, .ifCond .le (Int.ofNat 267), 261), (261, .ldc2_w 9999, 264), (264, .goto (Int.ofNat 273), 267), (267, .aload 0, 268), (268, .getstatic 592, 271), (271, .ldc 0, 272)], [(272, .laload, 273), (273, .l2i, 274), (274, .ireturn, 275)]]
abbrev m_Mo_costOf : Nat := 147
def ah_Mo_costOf : List (Nat × Nat × Nat × Nat × Nat × Nat) := []
def at_Mo_laysCosts : am_T := [[(0, .ldc 0, 1), (1, .istore 1, 2), (2, .iload 1, 3), (3, .aload 0, 4), (4, .invokevirtual 76128, 7), (7, .if_icmp .ge (Int.ofNat 27), 10), (10, .aload 0, 11), (11, .getstatic 593, 14), (14, .iload 1, 15), (15, .aload 0, 16)], [(16, .iload 1, 17), (17, .invokevirtual 76081, 20), (20, .iastore, 21), (21, .iinc 1 (Int.ofNat 1), 24), (24, .goto (Int.ofNat 2), 27), (27, .return_, 28)]]
abbrev m_Mo_laysCosts : Nat := 148
def ah_Mo_laysCosts : List (Nat × Nat × Nat × Nat × Nat × Nat) := []
def at_Mo_count : am_T := [[(0, .aload 0, 1), (1, .ldc 0, 2), (2, .invokevirtual 75665, 5), (5, .ireturn, 6)]]
abbrev m_Mo_count : Nat := 149
def ah_Mo_count : List (Nat × Nat × Nat × Nat × Nat × Nat) := []
def at_Mo_edges : am_T := [[(0, .aload 0, 1), (1, .ldc 1, 2), (2, .invokevirtual 75665, 5), (5, .ireturn, 6)]]
abbrev m_Mo_edges : Nat := 150
def ah_Mo_edges : List (Nat × Nat × Nat × Nat × Nat × Nat) := []
def at_Mo_low : am_T := [[(0, .aload 0, 1), (1, .ldc 15, 3), (3, .ldc 3, 4), (4, .iload 1, 5), (5, .imul, 6), (6, .iadd, 7), (7, .invokevirtual 75665, 10), (10, .ireturn, 11)]]
abbrev m_Mo_low : Nat := 151
def ah_Mo_low : List (Nat × Nat × Nat × Nat × Nat × Nat) := []
def at_Mo_high : am_T := [[(0, .aload 0, 1), (1, .ldc 15, 3), (3, .ldc 3, 4), (4, .iload 1, 5), (5, .imul, 6), (6, .iadd, 7), (7, .ldc 1, 8), (8, .iadd, 9), (9, .invokevirtual 75665, 12), (12, .ireturn, 13)]]
abbrev m_Mo_high : Nat := 152
def ah_Mo_high : List (Nat × Nat × Nat × Nat × Nat × Nat) := []
def at_Mo_has : am_T := [[(0, .iload 0, 1), (1, .iload 1, 2), (2, .ishr, 3), (3, .ldc 1, 4), (4, .iand, 5), (5, .ldc 1, 6), (6, .if_icmp .ne (Int.ofNat 13), 9), (9, .ldc 1, 10), (10, .goto (Int.ofNat 14), 13), (13, .ldc 0, 14), (14, .areturn, 15)]]
abbrev m_Mo_has : Nat := 153
def ah_Mo_has : List (Nat × Nat × Nat × Nat × Nat × Nat) := []
def at_Mo_isTerminal : am_T := [[(0, .aload 0, 1), (1, .ldc 2, 2), (2, .invokevirtual 75665, 5), (5, .iload 1, 6), (6, .invokestatic 2450, 9), (9, .areturn, 10)]]
abbrev m_Mo_isTerminal : Nat := 154
def ah_Mo_isTerminal : List (Nat × Nat × Nat × Nat × Nat × Nat) := []
def at_Mo_all : am_T := [[(0, .ldc 1, 1), (1, .aload 0, 2), (2, .invokevirtual 76112, 5), (5, .ishl, 6), (6, .ldc 1, 7), (7, .isub, 8), (8, .ireturn, 9)]]
abbrev m_Mo_all : Nat := 155
def ah_Mo_all : List (Nat × Nat × Nat × Nat × Nat × Nat) := []
def at_Mo_cutOf : am_T := [[(0, .ldc 0, 1), (1, .istore 2, 2), (2, .ldc 0, 3), (3, .istore 3, 4), (4, .iload 3, 5), (5, .aload 0, 6), (6, .invokevirtual 76128, 9), (9, .if_icmp .ge (Int.ofNat 52), 12), (12, .iload 2, 13), (13, .iload 1, 14), (14, .aload 0, 15), (15, .iload 3, 16)], [(16, .invokevirtual 76145, 19), (19, .invokestatic 2450, 22), (22, .iload 1, 23), (23, .aload 0, 24), (24, .iload 3, 25), (25, .invokevirtual 76161, 28), (28, .invokestatic 2450, 31), (31, .if_icmp .eq (Int.ofNat 43), 34)], [(34, .aload 0, 35), (35, .getstatic 593, 38), (38, .iload 3, 39), (39, .iaload, 40), (40, .goto (Int.ofNat 44), 43), (43, .ldc 0, 44), (44, .iadd, 45), (45, .istore 2, 46), (46, .iinc 3 (Int.ofNat 1), 49)], [(49, .goto (Int.ofNat 4), 52), (52, .iload 2, 53), (53, .ireturn, 54)]]
abbrev m_Mo_cutOf : Nat := 156
def ah_Mo_cutOf : List (Nat × Nat × Nat × Nat × Nat × Nat) := []
def at_Mo_bestSet : am_T := [[(0, .ldc_w 1, 1), (1, .istore 4, 3), (3, .aload 0, 4), (4, .ldc 1000000000, 6), (6, .putfield 594, 9), (9, .ldc 0, 10), (10, .istore 5, 12), (12, .iload 5, 14), (14, .aload 0, 15), (15, .invokevirtual 76208, 18)], [(18, .if_icmp .gt (Int.ofNat 129), 21), (21, .iload 5, 23), (23, .iload 1, 24), (24, .iand, 25), (25, .iload 1, 26), (26, .if_icmp .ne (Int.ofNat 123), 29), (29, .iload 5, 31), (31, .iload 2, 32)], [(32, .iand, 33), (33, .ifCond .eq (Int.ofNat 39), 36), (36, .goto (Int.ofNat 123), 39), (39, .aload 0, 40), (40, .iload 5, 42), (42, .invokevirtual 76225, 45), (45, .istore 6, 47), (47, .iload 6, 49)], [(49, .aload 0, 50), (50, .getfield 594, 53), (53, .if_icmp .lt (Int.ofNat 98), 56), (56, .iload 6, 58), (58, .aload 0, 59), (59, .getfield 594, 62), (62, .if_icmp .ne (Int.ofNat 102), 65)], [(65, .iload 3, 66), (66, .ifCond .eq (Int.ofNat 85), 69), (69, .iload 5, 71), (71, .invokestatic 2209, 74), (74, .iload 4, 76), (76, .invokestatic 2209, 79), (79, .if_icmp .ge (Int.ofNat 102), 82)], [(82, .goto (Int.ofNat 98), 85), (85, .iload 5, 87), (87, .invokestatic 2209, 90), (90, .iload 4, 92), (92, .invokestatic 2209, 95), (95, .if_icmp .le (Int.ofNat 102), 98)], [(98, .ldc 1, 99), (99, .goto (Int.ofNat 103), 102), (102, .ldc 0, 103), (103, .istore 7, 105), (105, .iload 7, 107), (107, .ifCond .ne (Int.ofNat 113), 110), (110, .goto (Int.ofNat 123), 113)], [(113, .aload 0, 114), (114, .iload 6, 116), (116, .putfield 594, 119), (119, .iload 5, 121), (121, .istore 4, 123), (123, .iinc 5 (Int.ofNat 1), 126), (126, .goto (Int.ofNat 12), 129)], [(129, .iload 4, 131), (131, .ireturn, 132)]]
abbrev m_Mo_bestSet : Nat := 157
def ah_Mo_bestSet : List (Nat × Nat × Nat × Nat × Nat × Nat) := []
def at_Mo_isolating : am_T := [[(0, .aload 0, 1), (1, .ldc 1, 2), (2, .iload 1, 3), (3, .ishl, 4), (4, .aload 0, 5), (5, .ldc 2, 6), (6, .invokevirtual 75665, 9), (9, .ldc 1, 10), (10, .iload 1, 11), (11, .ishl, 12), (12, .ldc_w 1, 13), (13, .ixor, 14), (14, .iand, 15), (15, .ldc 1, 16)], [(16, .invokevirtual 76243, 19), (19, .ireturn, 20)]]
abbrev m_Mo_isolating : Nat := 158
def ah_Mo_isolating : List (Nat × Nat × Nat × Nat × Nat × Nat) := []
def at_Mo_laysIsolating : am_T := [[(0, .aload 0, 1), (1, .invokevirtual 76096, 4), (4, .ldc 0, 5), (5, .istore 1, 6), (6, .iload 1, 7), (7, .aload 0, 8), (8, .invokevirtual 76112, 11), (11, .if_icmp .ge (Int.ofNat 52), 14), (14, .aload 0, 15), (15, .iload 1, 16)], [(16, .invokevirtual 76193, 19), (19, .ifCond .ne (Int.ofNat 25), 22), (22, .goto (Int.ofNat 46), 25), (25, .aload 0, 26), (26, .getstatic 596, 29), (29, .iload 1, 30), (30, .aload 0, 31), (31, .iload 1, 32)], [(32, .invokevirtual 76257, 35), (35, .iastore, 36), (36, .aload 0, 37), (37, .getstatic 595, 40), (40, .iload 1, 41), (41, .aload 0, 42), (42, .getfield 594, 45), (45, .iastore, 46), (46, .iinc 1 (Int.ofNat 1), 49)], [(49, .goto (Int.ofNat 6), 52), (52, .return_, 53)]]
abbrev m_Mo_laysIsolating : Nat := 159
def ah_Mo_laysIsolating : List (Nat × Nat × Nat × Nat × Nat × Nat) := []
def at_Mo_dearestNow : am_T := [[(0, .ldc_w 1, 1), (1, .istore 1, 2), (2, .ldc 0, 3), (3, .istore 2, 4), (4, .iload 2, 5), (5, .aload 0, 6), (6, .invokevirtual 76112, 9), (9, .if_icmp .ge (Int.ofNat 48), 12), (12, .aload 0, 13), (13, .iload 2, 14), (14, .invokevirtual 76193, 17)], [(17, .ifCond .eq (Int.ofNat 42), 20), (20, .iload 1, 21), (21, .ldc_w 1, 22), (22, .if_icmp .eq (Int.ofNat 40), 25), (25, .aload 0, 26), (26, .getstatic 595, 29), (29, .iload 2, 30), (30, .iaload, 31), (31, .aload 0, 32)], [(32, .getstatic 595, 35), (35, .iload 1, 36), (36, .iaload, 37), (37, .if_icmp .le (Int.ofNat 42), 40), (40, .iload 2, 41), (41, .istore 1, 42), (42, .iinc 2 (Int.ofNat 1), 45), (45, .goto (Int.ofNat 4), 48)], [(48, .iload 1, 49), (49, .ireturn, 50)]]
abbrev m_Mo_dearestNow : Nat := 160
def ah_Mo_dearestNow : List (Nat × Nat × Nat × Nat × Nat × Nat) := []
def at_Mo_othersOf : am_T := [[(0, .ldc 0, 1), (1, .istore 2, 2), (2, .ldc 0, 3), (3, .istore 3, 4), (4, .iload 3, 5), (5, .aload 0, 6), (6, .invokevirtual 76112, 9), (9, .if_icmp .ge (Int.ofNat 40), 12), (12, .iload 3, 13), (13, .iload 1, 14), (14, .if_icmp .eq (Int.ofNat 34), 17)], [(17, .aload 0, 18), (18, .iload 3, 19), (19, .invokevirtual 76193, 22), (22, .ifCond .eq (Int.ofNat 34), 25), (25, .iload 2, 26), (26, .aload 0, 27), (27, .getstatic 597, 30), (30, .iload 3, 31), (31, .iaload, 32)], [(32, .ior, 33), (33, .istore 2, 34), (34, .iinc 3 (Int.ofNat 1), 37), (37, .goto (Int.ofNat 4), 40), (40, .iload 2, 41), (41, .ireturn, 42)]]
abbrev m_Mo_othersOf : Nat := 161
def ah_Mo_othersOf : List (Nat × Nat × Nat × Nat × Nat × Nat) := []
def at_Mo_goesRound : am_T := [[(0, .ldc 0, 1), (1, .istore 1, 2), (2, .ldc 0, 3), (3, .istore 2, 4), (4, .iload 2, 5), (5, .aload 0, 6), (6, .invokevirtual 76112, 9), (9, .if_icmp .ge (Int.ofNat 73), 12), (12, .aload 0, 13), (13, .iload 2, 14), (14, .invokevirtual 76193, 17)], [(17, .ifCond .ne (Int.ofNat 23), 20), (20, .goto (Int.ofNat 67), 23), (23, .aload 0, 24), (24, .aload 0, 25), (25, .getstatic 597, 28), (28, .iload 2, 29), (29, .iaload, 30), (30, .aload 0, 31), (31, .iload 2, 32)], [(32, .invokevirtual 76305, 35), (35, .ldc 0, 36), (36, .invokevirtual 76243, 39), (39, .istore 3, 40), (40, .iload 1, 41), (41, .ifCond .ne (Int.ofNat 54), 44), (44, .iload 3, 45), (45, .aload 0, 46), (46, .getstatic 597, 49)], [(49, .iload 2, 50), (50, .iaload, 51), (51, .if_icmp .eq (Int.ofNat 58), 54), (54, .ldc 1, 55), (55, .goto (Int.ofNat 59), 58), (58, .ldc 0, 59), (59, .istore 1, 60), (60, .aload 0, 61), (61, .getstatic 597, 64)], [(64, .iload 2, 65), (65, .iload 3, 66), (66, .iastore, 67), (67, .iinc 2 (Int.ofNat 1), 70), (70, .goto (Int.ofNat 4), 73), (73, .iload 1, 74), (74, .areturn, 75)]]
abbrev m_Mo_goesRound : Nat := 162
def ah_Mo_goesRound : List (Nat × Nat × Nat × Nat × Nat × Nat) := []
def at_Mo_laysGroups : am_T := [[(0, .aload 0, 1), (1, .invokevirtual 76096, 4), (4, .aload 0, 5), (5, .ldc 0, 6), (6, .putfield 598, 9), (9, .ldc 0, 10), (10, .istore 1, 11), (11, .iload 1, 12), (12, .aload 0, 13), (13, .invokevirtual 76112, 16)], [(16, .if_icmp .ge (Int.ofNat 46), 19), (19, .aload 0, 20), (20, .getstatic 597, 23), (23, .iload 1, 24), (24, .aload 0, 25), (25, .iload 1, 26), (26, .invokevirtual 76193, 29), (29, .ifCond .eq (Int.ofNat 38), 32)], [(32, .ldc 1, 33), (33, .iload 1, 34), (34, .ishl, 35), (35, .goto (Int.ofNat 39), 38), (38, .ldc 0, 39), (39, .iastore, 40), (40, .iinc 1 (Int.ofNat 1), 43), (43, .goto (Int.ofNat 11), 46), (46, .aload 0, 47), (47, .ldc 2, 48)], [(48, .invokevirtual 75665, 51), (51, .ifCond .ne (Int.ofNat 55), 54), (54, .return_, 55), (55, .ldc 1, 56), (56, .istore 1, 57), (57, .iload 1, 58), (58, .ifCond .eq (Int.ofNat 79), 61), (61, .aload 0, 62), (62, .invokevirtual 76320, 65)], [(65, .istore 1, 66), (66, .aload 0, 67), (67, .dup, 68), (68, .getfield 598, 71), (71, .ldc 1, 72), (72, .iadd, 73), (73, .putfield 598, 76), (76, .goto (Int.ofNat 57), 79), (79, .return_, 80)]]
abbrev m_Mo_laysGroups : Nat := 163
def ah_Mo_laysGroups : List (Nat × Nat × Nat × Nat × Nat × Nat) := []
def at_Mo_costBy : am_T := [[(0, .ldc 0, 1), (1, .istore 2, 2), (2, .ldc 0, 3), (3, .istore 3, 4), (4, .iload 3, 5), (5, .aload 0, 6), (6, .invokevirtual 76128, 9), (9, .if_icmp .ge (Int.ofNat 48), 12), (12, .iload 2, 13), (13, .aload 1, 14), (14, .aload 0, 15), (15, .iload 3, 16)], [(16, .invokevirtual 76145, 19), (19, .iaload, 20), (20, .aload 1, 21), (21, .aload 0, 22), (22, .iload 3, 23), (23, .invokevirtual 76161, 26), (26, .iaload, 27), (27, .if_icmp .eq (Int.ofNat 39), 30), (30, .aload 0, 31), (31, .getstatic 593, 34)], [(34, .iload 3, 35), (35, .iaload, 36), (36, .goto (Int.ofNat 40), 39), (39, .ldc 0, 40), (40, .iadd, 41), (41, .istore 2, 42), (42, .iinc 3 (Int.ofNat 1), 45), (45, .goto (Int.ofNat 4), 48)], [(48, .iload 2, 49), (49, .ireturn, 50)]]
abbrev m_Mo_costBy : Nat := 164
def ah_Mo_costBy : List (Nat × Nat × Nat × Nat × Nat × Nat) := []
def at_Mo_goesOn : am_T := [[(0, .aload 0, 1), (1, .invokevirtual 76112, 4), (4, .ldc 1, 5), (5, .isub, 6), (6, .istore 2, 7), (7, .iload 2, 8), (8, .ifCond .lt (Int.ofNat 89), 11), (11, .iload 1, 12), (12, .iload 2, 13), (13, .invokestatic 2450, 16)], [(16, .ifCond .eq (Int.ofNat 22), 19), (19, .goto (Int.ofNat 83), 22), (22, .ldc 0, 23), (23, .istore 3, 24), (24, .aload 0, 25), (25, .getstatic 601, 28), (28, .iload 3, 29), (29, .iaload, 30), (30, .aload 0, 31), (31, .getstatic 599, 34)], [(34, .iload 2, 35), (35, .iaload, 36), (36, .if_icmp .eq (Int.ofNat 45), 39), (39, .iinc 3 (Int.ofNat 1), 42), (42, .goto (Int.ofNat 24), 45), (45, .iload 3, 46), (46, .ldc 1, 47), (47, .iadd, 48)], [(48, .aload 0, 49), (49, .getfield 602, 52), (52, .if_icmp .ge (Int.ofNat 71), 55), (55, .aload 0, 56), (56, .getstatic 599, 59), (59, .iload 2, 60), (60, .aload 0, 61), (61, .getstatic 601, 64)], [(64, .iload 3, 65), (65, .ldc 1, 66), (66, .iadd, 67), (67, .iaload, 68), (68, .iastore, 69), (69, .ldc 1, 70), (70, .areturn, 71), (71, .aload 0, 72), (72, .getstatic 599, 75), (75, .iload 2, 76), (76, .aload 0, 77), (77, .getstatic 601, 80)], [(80, .ldc 0, 81), (81, .iaload, 82), (82, .iastore, 83), (83, .iinc 2 (Int.negSucc 0), 86), (86, .goto (Int.ofNat 7), 89), (89, .ldc 0, 90), (90, .areturn, 91)]]
abbrev m_Mo_goesOn : Nat := 165
def ah_Mo_goesOn : List (Nat × Nat × Nat × Nat × Nat × Nat) := []
def at_Mo_laysExact : am_T := [[(0, .aload 0, 1), (1, .ldc 0, 2), (2, .putfield 602, 5), (5, .ldc 0, 6), (6, .istore 2, 7), (7, .iload 2, 8), (8, .aload 0, 9), (9, .invokevirtual 76112, 12), (12, .if_icmp .ge (Int.ofNat 52), 15), (15, .iload 1, 16)], [(16, .iload 2, 17), (17, .invokestatic 2450, 20), (20, .ifCond .ne (Int.ofNat 26), 23), (23, .goto (Int.ofNat 46), 26), (26, .aload 0, 27), (27, .getstatic 601, 30), (30, .aload 0, 31), (31, .getfield 602, 34)], [(34, .iload 2, 35), (35, .iastore, 36), (36, .aload 0, 37), (37, .dup, 38), (38, .getfield 602, 41), (41, .ldc 1, 42), (42, .iadd, 43), (43, .putfield 602, 46), (46, .iinc 2 (Int.ofNat 1), 49)], [(49, .goto (Int.ofNat 7), 52), (52, .ldc 0, 53), (53, .istore 2, 54), (54, .iload 2, 55), (55, .aload 0, 56), (56, .invokevirtual 76112, 59), (59, .if_icmp .ge (Int.ofNat 115), 62), (62, .aload 0, 63), (63, .getstatic 599, 66)], [(66, .iload 2, 67), (67, .aload 0, 68), (68, .getfield 602, 71), (71, .ifCond .ne (Int.ofNat 78), 74), (74, .ldc_w 1, 75), (75, .goto (Int.ofNat 96), 78), (78, .iload 1, 79), (79, .iload 2, 80)], [(80, .invokestatic 2450, 83), (83, .ifCond .eq (Int.ofNat 90), 86), (86, .iload 2, 87), (87, .goto (Int.ofNat 96), 90), (90, .aload 0, 91), (91, .getstatic 601, 94), (94, .ldc 0, 95), (95, .iaload, 96)], [(96, .iastore, 97), (97, .aload 0, 98), (98, .getstatic 600, 101), (101, .iload 2, 102), (102, .aload 0, 103), (103, .getstatic 599, 106), (106, .iload 2, 107), (107, .iaload, 108), (108, .iastore, 109), (109, .iinc 2 (Int.ofNat 1), 112)], [(112, .goto (Int.ofNat 54), 115), (115, .aload 0, 116), (116, .aload 0, 117), (117, .aload 0, 118), (118, .getstatic 599, 121), (121, .invokevirtual 76353, 124), (124, .putfield 603, 127), (127, .aload 0, 128)], [(128, .getfield 602, 131), (131, .ifCond .ne (Int.ofNat 139), 134), (134, .aload 0, 135), (135, .getfield 603, 138), (138, .ireturn, 139), (139, .aload 0, 140), (140, .iload 1, 141), (141, .invokevirtual 76369, 144)], [(144, .ifCond .eq (Int.ofNat 203), 147), (147, .aload 0, 148), (148, .aload 0, 149), (149, .getstatic 599, 152), (152, .invokevirtual 76353, 155), (155, .istore 2, 156), (156, .iload 2, 157), (157, .aload 0, 158), (158, .getfield 603, 161)], [(161, .if_icmp .lt (Int.ofNat 167), 164), (164, .goto (Int.ofNat 139), 167), (167, .aload 0, 168), (168, .iload 2, 169), (169, .putfield 603, 172), (172, .ldc 0, 173), (173, .istore 3, 174), (174, .iload 3, 175), (175, .aload 0, 176)], [(176, .invokevirtual 76112, 179), (179, .if_icmp .ge (Int.ofNat 200), 182), (182, .aload 0, 183), (183, .getstatic 600, 186), (186, .iload 3, 187), (187, .aload 0, 188), (188, .getstatic 599, 191), (191, .iload 3, 192)], [(192, .iaload, 193), (193, .iastore, 194), (194, .iinc 3 (Int.ofNat 1), 197), (197, .goto (Int.ofNat 174), 200), (200, .goto (Int.ofNat 139), 203), (203, .aload 0, 204), (204, .getfield 603, 207), (207, .ireturn, 208)]]
abbrev m_Mo_laysExact : Nat := 166
def ah_Mo_laysExact : List (Nat × Nat × Nat × Nat × Nat × Nat) := []
def at_Mo_exactNow : am_T := [[(0, .aload 0, 1), (1, .invokevirtual 76096, 4), (4, .aload 0, 5), (5, .aload 0, 6), (6, .ldc 2, 7), (7, .invokevirtual 75665, 10), (10, .invokevirtual 76385, 13), (13, .ireturn, 14)]]
abbrev m_Mo_exactNow : Nat := 167
def ah_Mo_exactNow : List (Nat × Nat × Nat × Nat × Nat × Nat) := []
def at_Mo_costNow : am_T := [[(0, .aload 0, 1), (1, .invokevirtual 76096, 4), (4, .ldc 0, 5), (5, .istore 1, 6), (6, .iload 1, 7), (7, .aload 0, 8), (8, .invokevirtual 76112, 11), (11, .if_icmp .ge (Int.ofNat 34), 14), (14, .aload 0, 15), (15, .getstatic 604, 18)], [(18, .iload 1, 19), (19, .aload 0, 20), (20, .ldc 75, 22), (22, .iload 1, 23), (23, .iadd, 24), (24, .invokevirtual 75665, 27), (27, .iastore, 28), (28, .iinc 1 (Int.ofNat 1), 31), (31, .goto (Int.ofNat 6), 34)], [(34, .aload 0, 35), (35, .aload 0, 36), (36, .getstatic 604, 39), (39, .invokevirtual 76353, 42), (42, .ireturn, 43)]]
abbrev m_Mo_costNow : Nat := 168
def ah_Mo_costNow : List (Nat × Nat × Nat × Nat × Nat × Nat) := []
def at_Mo_lengthOf : am_T := [[(0, .ldc 10000, 3), (3, .aload 0, 4), (4, .getstatic 593, 7), (7, .iload 1, 8), (8, .iaload, 9), (9, .idiv, 10), (10, .ireturn, 11)]]
abbrev m_Mo_lengthOf : Nat := 169
def ah_Mo_lengthOf : List (Nat × Nat × Nat × Nat × Nat × Nat) := []
def at_Mo_laysFar : am_T := [[(0, .ldc 0, 1), (1, .istore 2, 2), (2, .iload 2, 3), (3, .aload 0, 4), (4, .invokevirtual 76112, 7), (7, .if_icmp .ge (Int.ofNat 33), 10), (10, .aload 0, 11), (11, .getstatic 605, 14), (14, .iload 2, 15), (15, .iload 2, 16)], [(16, .iload 1, 17), (17, .if_icmp .ne (Int.ofNat 24), 20), (20, .ldc 0, 21), (21, .goto (Int.ofNat 26), 24), (24, .ldc 1000000000, 26), (26, .iastore, 27), (27, .iinc 2 (Int.ofNat 1), 30), (30, .goto (Int.ofNat 2), 33)], [(33, .ldc 1, 34), (34, .istore 2, 35), (35, .iload 2, 36), (36, .aload 0, 37), (37, .invokevirtual 76112, 40), (40, .if_icmp .ge (Int.ofNat 149), 43), (43, .ldc 0, 44), (44, .istore 3, 45), (45, .iload 3, 46), (46, .aload 0, 47), (47, .invokevirtual 76128, 50)], [(50, .if_icmp .ge (Int.ofNat 143), 53), (53, .aload 0, 54), (54, .iload 3, 55), (55, .invokevirtual 76145, 58), (58, .istore 4, 60), (60, .aload 0, 61), (61, .iload 3, 62), (62, .invokevirtual 76161, 65)], [(65, .istore 5, 67), (67, .aload 0, 68), (68, .getstatic 605, 71), (71, .iload 4, 73), (73, .aload 0, 74), (74, .getstatic 605, 77), (77, .iload 4, 79), (79, .iaload, 80)], [(80, .ldc 1000000000, 82), (82, .aload 0, 83), (83, .getstatic 605, 86), (86, .iload 5, 88), (88, .iaload, 89), (89, .aload 0, 90), (90, .iload 3, 91), (91, .invokevirtual 76433, 94), (94, .iadd, 95), (95, .dsub, 98)], [(98, .dsub, 101), (101, .iastore, 102), (102, .aload 0, 103), (103, .getstatic 605, 106), (106, .iload 5, 108), (108, .aload 0, 109), (109, .getstatic 605, 112)], [(112, .iload 5, 114), (114, .iaload, 115), (115, .ldc 1000000000, 117), (117, .aload 0, 118), (118, .getstatic 605, 121), (121, .iload 4, 123), (123, .iaload, 124), (124, .aload 0, 125), (125, .iload 3, 126), (126, .invokevirtual 76433, 129)], [(129, .iadd, 130), (130, .dsub, 133), (133, .dsub, 136), (136, .iastore, 137), (137, .iinc 3 (Int.ofNat 1), 140), (140, .goto (Int.ofNat 45), 143), (143, .iinc 2 (Int.ofNat 1), 146)], [(146, .goto (Int.ofNat 35), 149), (149, .return_, 150)]]
abbrev m_Mo_laysFar : Nat := 170
def ah_Mo_laysFar : List (Nat × Nat × Nat × Nat × Nat × Nat) := []
def at_Mo_laysNear : am_T := [[(0, .aload 0, 1), (1, .invokevirtual 76096, 4), (4, .ldc 0, 5), (5, .istore 1, 6), (6, .iload 1, 7), (7, .aload 0, 8), (8, .invokevirtual 76112, 11), (11, .if_icmp .ge (Int.ofNat 35), 14), (14, .aload 0, 15), (15, .getstatic 606, 18)], [(18, .iload 1, 19), (19, .ldc_w 1, 20), (20, .iastore, 21), (21, .aload 0, 22), (22, .getstatic 607, 25), (25, .iload 1, 26), (26, .ldc 1000000000, 28), (28, .iastore, 29), (29, .iinc 1 (Int.ofNat 1), 32)], [(32, .goto (Int.ofNat 6), 35), (35, .ldc 0, 36), (36, .istore 1, 37), (37, .iload 1, 38), (38, .aload 0, 39), (39, .invokevirtual 76112, 42), (42, .if_icmp .ge (Int.ofNat 120), 45), (45, .aload 0, 46), (46, .iload 1, 47), (47, .invokevirtual 76193, 50)], [(50, .ifCond .ne (Int.ofNat 56), 53), (53, .goto (Int.ofNat 114), 56), (56, .aload 0, 57), (57, .iload 1, 58), (58, .invokevirtual 76449, 61), (61, .ldc 0, 62), (62, .istore 2, 63), (63, .iload 2, 64)], [(64, .aload 0, 65), (65, .invokevirtual 76112, 68), (68, .if_icmp .ge (Int.ofNat 114), 71), (71, .aload 0, 72), (72, .getstatic 605, 75), (75, .iload 2, 76), (76, .iaload, 77), (77, .aload 0, 78), (78, .getstatic 607, 81)], [(81, .iload 2, 82), (82, .iaload, 83), (83, .if_icmp .lt (Int.ofNat 89), 86), (86, .goto (Int.ofNat 108), 89), (89, .aload 0, 90), (90, .getstatic 607, 93), (93, .iload 2, 94), (94, .aload 0, 95), (95, .getstatic 605, 98)], [(98, .iload 2, 99), (99, .iaload, 100), (100, .iastore, 101), (101, .aload 0, 102), (102, .getstatic 606, 105), (105, .iload 2, 106), (106, .iload 1, 107), (107, .iastore, 108), (108, .iinc 2 (Int.ofNat 1), 111), (111, .goto (Int.ofNat 63), 114)], [(114, .iinc 1 (Int.ofNat 1), 117), (117, .goto (Int.ofNat 37), 120), (120, .return_, 121)]]
abbrev m_Mo_laysNear : Nat := 171
def ah_Mo_laysNear : List (Nat × Nat × Nat × Nat × Nat × Nat) := []
def at_Mo_size : am_T := [[(0, .aload 0, 1), (1, .ldc 0, 2), (2, .putfield 576, 5), (5, .aload 0, 6), (6, .invokevirtual 76112, 9), (9, .ireturn, 10)]]
abbrev m_Mo_size : Nat := 172
def ah_Mo_size : List (Nat × Nat × Nat × Nat × Nat × Nat) := []
def at_Mo_edgeCount : am_T := [[(0, .aload 0, 1), (1, .ldc 0, 2), (2, .putfield 576, 5), (5, .aload 0, 6), (6, .invokevirtual 76128, 9), (9, .ireturn, 10)]]
abbrev m_Mo_edgeCount : Nat := 173
def ah_Mo_edgeCount : List (Nat × Nat × Nat × Nat × Nat × Nat) := []
def at_Mo_terminals : am_T := [[(0, .aload 0, 1), (1, .ldc 0, 2), (2, .putfield 576, 5), (5, .aload 0, 6), (6, .ldc 2, 7), (7, .invokevirtual 75665, 10), (10, .ireturn, 11)]]
abbrev m_Mo_terminals : Nat := 174
def ah_Mo_terminals : List (Nat × Nat × Nat × Nat × Nat × Nat) := []
def at_Mo_isVertex : am_T := [[(0, .aload 0, 1), (1, .iload 1, 2), (2, .i2l, 3), (3, .ldc2_w 0, 4), (4, .aload 0, 5), (5, .invokevirtual 76112, 8), (8, .ldc 1, 9), (9, .isub, 10), (10, .i2l, 11), (11, .invokestatic 1923, 14), (14, .ldc 1, 15), (15, .invokevirtual 75714, 18)], [(18, .areturn, 19)]]
abbrev m_Mo_isVertex : Nat := 175
def ah_Mo_isVertex : List (Nat × Nat × Nat × Nat × Nat × Nat) := []
def at_Mo_burden : am_T := [[(0, .aload 0, 1), (1, .ldc 0, 2), (2, .putfield 576, 5), (5, .aload 0, 6), (6, .iload 1, 7), (7, .invokevirtual 76529, 10), (10, .ifCond .eq (Int.ofNat 24), 13), (13, .aload 0, 14), (14, .ldc 6, 16)], [(16, .iload 1, 17), (17, .iadd, 18), (18, .invokevirtual 75665, 21), (21, .goto (Int.ofNat 25), 24), (24, .ldc 0, 25), (25, .ireturn, 26)]]
abbrev m_Mo_burden : Nat := 176
def ah_Mo_burden : List (Nat × Nat × Nat × Nat × Nat × Nat) := []
def at_Mo_edge : am_T := [[(0, .aload 0, 1), (1, .ldc 0, 2), (2, .putfield 576, 5), (5, .aload 0, 6), (6, .iload 1, 7), (7, .i2l, 8), (8, .ldc2_w 0, 9), (9, .aload 0, 10), (10, .invokevirtual 76128, 13), (13, .ldc 1, 14), (14, .isub, 15), (15, .i2l, 16)], [(16, .invokestatic 1923, 19), (19, .ldc 1, 20), (20, .invokevirtual 75714, 23), (23, .ifCond .eq (Int.ofNat 43), 26), (26, .aload 0, 27), (27, .iload 2, 28), (28, .i2l, 29), (29, .ldc2_w 0, 30), (30, .ldc2_w 4, 33)], [(33, .invokestatic 1923, 36), (36, .ldc 2, 37), (37, .invokevirtual 75714, 40), (40, .ifCond .ne (Int.ofNat 45), 43), (43, .ldc 0, 44), (44, .ireturn, 45), (45, .iload 2, 46), (46, .ldc 3, 47), (47, .if_icmp .ge (Int.ofNat 63), 50)], [(50, .aload 0, 51), (51, .ldc 15, 53), (53, .ldc 3, 54), (54, .iload 1, 55), (55, .imul, 56), (56, .iadd, 57), (57, .iload 2, 58), (58, .iadd, 59), (59, .invokevirtual 75665, 62), (62, .ireturn, 63), (63, .aload 0, 64)], [(64, .invokevirtual 76096, 67), (67, .iload 2, 68), (68, .ldc 3, 69), (69, .if_icmp .ne (Int.ofNat 81), 72), (72, .aload 0, 73), (73, .getstatic 593, 76), (76, .iload 1, 77), (77, .iaload, 78), (78, .goto (Int.ofNat 86), 81)], [(81, .aload 0, 82), (82, .iload 1, 83), (83, .invokevirtual 76433, 86), (86, .ireturn, 87)]]
abbrev m_Mo_edge : Nat := 177
def ah_Mo_edge : List (Nat × Nat × Nat × Nat × Nat × Nat) := []
def at_Mo_cutCost : am_T := [[(0, .aload 0, 1), (1, .ldc 0, 2), (2, .putfield 576, 5), (5, .aload 0, 6), (6, .iload 1, 7), (7, .i2l, 8), (8, .ldc2_w 0, 9), (9, .aload 0, 10), (10, .invokevirtual 76208, 13), (13, .i2l, 14), (14, .invokestatic 1923, 17)], [(17, .ldc 1, 18), (18, .invokevirtual 75714, 21), (21, .ifCond .ne (Int.ofNat 26), 24), (24, .ldc 0, 25), (25, .ireturn, 26), (26, .aload 0, 27), (27, .invokevirtual 76096, 30), (30, .aload 0, 31), (31, .iload 1, 32)], [(32, .invokevirtual 76225, 35), (35, .ireturn, 36)]]
abbrev m_Mo_cutCost : Nat := 178
def ah_Mo_cutCost : List (Nat × Nat × Nat × Nat × Nat × Nat) := []
def at_Mo_separates : am_T := [[(0, .aload 0, 1), (1, .ldc 0, 2), (2, .putfield 576, 5), (5, .aload 0, 6), (6, .iload 1, 7), (7, .i2l, 8), (8, .ldc2_w 0, 9), (9, .ldc 1, 10), (10, .aload 0, 11), (11, .invokevirtual 76128, 14), (14, .ishl, 15), (15, .ldc 1, 16)], [(16, .isub, 17), (17, .i2l, 18), (18, .invokestatic 1923, 21), (21, .ldc 1, 22), (22, .invokevirtual 75714, 25), (25, .ifCond .ne (Int.ofNat 30), 28), (28, .ldc 0, 29), (29, .areturn, 30), (30, .ldc 0, 31), (31, .istore 2, 32)], [(32, .iload 2, 33), (33, .aload 0, 34), (34, .invokevirtual 76112, 37), (37, .if_icmp .ge (Int.ofNat 53), 40), (40, .aload 0, 41), (41, .getstatic 604, 44), (44, .iload 2, 45), (45, .iload 2, 46), (46, .iastore, 47), (47, .iinc 2 (Int.ofNat 1), 50)], [(50, .goto (Int.ofNat 32), 53), (53, .ldc 0, 54), (54, .istore 2, 55), (55, .iload 2, 56), (56, .aload 0, 57), (57, .invokevirtual 76112, 60), (60, .if_icmp .ge (Int.ofNat 145), 63), (63, .ldc 0, 64)], [(64, .istore 3, 65), (65, .iload 3, 66), (66, .aload 0, 67), (67, .invokevirtual 76128, 70), (70, .if_icmp .ge (Int.ofNat 139), 73), (73, .iload 1, 74), (74, .iload 3, 75), (75, .invokestatic 2450, 78), (78, .ifCond .eq (Int.ofNat 84), 81)], [(81, .goto (Int.ofNat 133), 84), (84, .aload 0, 85), (85, .getstatic 604, 88), (88, .aload 0, 89), (89, .iload 3, 90), (90, .invokevirtual 76145, 93), (93, .iaload, 94), (94, .aload 0, 95), (95, .getstatic 604, 98)], [(98, .aload 0, 99), (99, .iload 3, 100), (100, .invokevirtual 76161, 103), (103, .iaload, 104), (104, .dsub, 107), (107, .istore 4, 109), (109, .aload 0, 110), (110, .getstatic 604, 113)], [(113, .aload 0, 114), (114, .iload 3, 115), (115, .invokevirtual 76145, 118), (118, .iload 4, 120), (120, .iastore, 121), (121, .aload 0, 122), (122, .getstatic 604, 125), (125, .aload 0, 126), (126, .iload 3, 127), (127, .invokevirtual 76161, 130)], [(130, .iload 4, 132), (132, .iastore, 133), (133, .iinc 3 (Int.ofNat 1), 136), (136, .goto (Int.ofNat 65), 139), (139, .iinc 2 (Int.ofNat 1), 142), (142, .goto (Int.ofNat 55), 145)], [(145, .ldc 0, 146), (146, .istore 2, 147), (147, .iload 2, 148), (148, .aload 0, 149), (149, .invokevirtual 76112, 152), (152, .if_icmp .ge (Int.ofNat 207), 155), (155, .ldc 0, 156), (156, .istore 3, 157), (157, .iload 3, 158), (158, .iload 2, 159), (159, .if_icmp .ge (Int.ofNat 201), 162)], [(162, .aload 0, 163), (163, .iload 2, 164), (164, .invokevirtual 76193, 167), (167, .ifCond .eq (Int.ofNat 195), 170), (170, .aload 0, 171), (171, .iload 3, 172), (172, .invokevirtual 76193, 175), (175, .ifCond .eq (Int.ofNat 195), 178)], [(178, .aload 0, 179), (179, .getstatic 604, 182), (182, .iload 2, 183), (183, .iaload, 184), (184, .aload 0, 185), (185, .getstatic 604, 188), (188, .iload 3, 189), (189, .iaload, 190), (190, .if_icmp .ne (Int.ofNat 195), 193)], [(193, .ldc 0, 194), (194, .areturn, 195), (195, .iinc 3 (Int.ofNat 1), 198), (198, .goto (Int.ofNat 157), 201), (201, .iinc 2 (Int.ofNat 1), 204), (204, .goto (Int.ofNat 147), 207), (207, .ldc 1, 208)], [(208, .areturn, 209)]]
abbrev m_Mo_separates : Nat := 179
def ah_Mo_separates : List (Nat × Nat × Nat × Nat × Nat × Nat) := []
def at_Mo_mustBe : am_T := [[(0, .aload 0, 1), (1, .ldc 0, 2), (2, .putfield 576, 5), (5, .aload 0, 6), (6, .iload 1, 7), (7, .i2l, 8), (8, .ldc2_w 0, 9), (9, .aload 0, 10), (10, .invokevirtual 76112, 13), (13, .ldc 1, 14), (14, .isub, 15), (15, .i2l, 16)], [(16, .invokestatic 1923, 19), (19, .ifCond .eq (Int.ofNat 34), 22), (22, .aload 0, 23), (23, .iload 1, 24), (24, .invokevirtual 76193, 27), (27, .ifCond .eq (Int.ofNat 34), 30), (30, .ldc 1, 31), (31, .goto (Int.ofNat 35), 34)], [(34, .ldc 0, 35), (35, .ldc 1, 36), (36, .invokevirtual 75714, 39), (39, .areturn, 40)]]
abbrev m_Mo_mustBe : Nat := 180
def ah_Mo_mustBe : List (Nat × Nat × Nat × Nat × Nat × Nat) := []
def at_Mo_isolatingValue : am_T := [[(0, .aload 0, 1), (1, .iload 1, 2), (2, .invokevirtual 76609, 5), (5, .ifCond .ne (Int.ofNat 10), 8), (8, .ldc 0, 9), (9, .ireturn, 10), (10, .aload 0, 11), (11, .invokevirtual 76096, 14), (14, .aload 0, 15), (15, .iload 1, 16)], [(16, .invokevirtual 76257, 19), (19, .istore 2, 20), (20, .aload 0, 21), (21, .getfield 594, 24), (24, .ireturn, 25)]]
abbrev m_Mo_isolatingValue : Nat := 181
def ah_Mo_isolatingValue : List (Nat × Nat × Nat × Nat × Nat × Nat) := []
def at_Mo_isolatingSet : am_T := [[(0, .aload 0, 1), (1, .iload 1, 2), (2, .invokevirtual 76609, 5), (5, .ifCond .ne (Int.ofNat 10), 8), (8, .ldc 0, 9), (9, .ireturn, 10), (10, .aload 0, 11), (11, .invokevirtual 76096, 14), (14, .aload 0, 15), (15, .iload 1, 16)], [(16, .invokevirtual 76257, 19), (19, .ireturn, 20)]]
abbrev m_Mo_isolatingSet : Nat := 182
def ah_Mo_isolatingSet : List (Nat × Nat × Nat × Nat × Nat × Nat) := []
def at_Mo_lowerBound : am_T := [[(0, .aload 0, 1), (1, .ldc 0, 2), (2, .putfield 576, 5), (5, .aload 0, 6), (6, .invokevirtual 76272, 9), (9, .ldc 0, 10), (10, .istore 1, 11), (11, .ldc 0, 12), (12, .istore 2, 13), (13, .iload 2, 14), (14, .aload 0, 15), (15, .invokevirtual 76112, 18)], [(18, .if_icmp .ge (Int.ofNat 48), 21), (21, .iload 1, 22), (22, .aload 0, 23), (23, .iload 2, 24), (24, .invokevirtual 76193, 27), (27, .ifCond .eq (Int.ofNat 39), 30), (30, .aload 0, 31), (31, .getstatic 595, 34)], [(34, .iload 2, 35), (35, .iaload, 36), (36, .goto (Int.ofNat 40), 39), (39, .ldc 0, 40), (40, .iadd, 41), (41, .istore 1, 42), (42, .iinc 2 (Int.ofNat 1), 45), (45, .goto (Int.ofNat 13), 48)], [(48, .iload 1, 49), (49, .ldc 1, 50), (50, .iadd, 51), (51, .ldc 2, 52), (52, .idiv, 53), (53, .ireturn, 54)]]
abbrev m_Mo_lowerBound : Nat := 183
def ah_Mo_lowerBound : List (Nat × Nat × Nat × Nat × Nat × Nat) := []
def at_Mo_hasTerminal : am_T := [[(0, .aload 0, 1), (1, .ldc 0, 2), (2, .putfield 576, 5), (5, .aload 0, 6), (6, .aload 0, 7), (7, .ldc 2, 8), (8, .invokevirtual 75665, 11), (11, .ifCond .eq (Int.ofNat 18), 14), (14, .ldc 1, 15), (15, .goto (Int.ofNat 19), 18)], [(18, .ldc 0, 19), (19, .ldc 1, 20), (20, .invokevirtual 75714, 23), (23, .areturn, 24)]]
abbrev m_Mo_hasTerminal : Nat := 184
def ah_Mo_hasTerminal : List (Nat × Nat × Nat × Nat × Nat × Nat) := []
def at_Mo_dearest : am_T := [[(0, .aload 0, 1), (1, .invokevirtual 76672, 4), (4, .ifCond .ne (Int.ofNat 9), 7), (7, .ldc 0, 8), (8, .ireturn, 9), (9, .aload 0, 10), (10, .invokevirtual 76272, 13), (13, .aload 0, 14), (14, .invokevirtual 76288, 17)], [(17, .ireturn, 18)]]
abbrev m_Mo_dearest : Nat := 185
def ah_Mo_dearest : List (Nat × Nat × Nat × Nat × Nat × Nat) := []
def at_Mo_unionNow : am_T := [[(0, .aload 0, 1), (1, .invokevirtual 76272, 4), (4, .aload 0, 5), (5, .invokevirtual 76288, 8), (8, .istore 1, 9), (9, .ldc 0, 10), (10, .istore 2, 11), (11, .ldc 0, 12), (12, .istore 3, 13), (13, .iload 3, 14), (14, .aload 0, 15), (15, .invokevirtual 76128, 18)], [(18, .if_icmp .ge (Int.ofNat 99), 21), (21, .ldc 0, 22), (22, .istore 4, 24), (24, .iload 4, 26), (26, .aload 0, 27), (27, .invokevirtual 76112, 30), (30, .if_icmp .ge (Int.ofNat 93), 33)], [(33, .aload 0, 34), (34, .iload 4, 36), (36, .invokevirtual 76193, 39), (39, .ifCond .eq (Int.ofNat 87), 42), (42, .iload 4, 44), (44, .iload 1, 45), (45, .if_icmp .eq (Int.ofNat 87), 48)], [(48, .aload 0, 49), (49, .getstatic 596, 52), (52, .iload 4, 54), (54, .iaload, 55), (55, .aload 0, 56), (56, .iload 3, 57), (57, .invokevirtual 76145, 60), (60, .invokestatic 2450, 63), (63, .aload 0, 64)], [(64, .getstatic 596, 67), (67, .iload 4, 69), (69, .iaload, 70), (70, .aload 0, 71), (71, .iload 3, 72), (72, .invokevirtual 76161, 75), (75, .invokestatic 2450, 78), (78, .if_icmp .eq (Int.ofNat 87), 81)], [(81, .iload 2, 82), (82, .ldc 1, 83), (83, .iload 3, 84), (84, .ishl, 85), (85, .ior, 86), (86, .istore 2, 87), (87, .iinc 4 (Int.ofNat 1), 90), (90, .goto (Int.ofNat 24), 93), (93, .iinc 3 (Int.ofNat 1), 96)], [(96, .goto (Int.ofNat 13), 99), (99, .iload 2, 100), (100, .ireturn, 101)]]
abbrev m_Mo_unionNow : Nat := 186
def ah_Mo_unionNow : List (Nat × Nat × Nat × Nat × Nat × Nat) := []
def at_Mo_unionCut : am_T := [[(0, .aload 0, 1), (1, .invokevirtual 76672, 4), (4, .ifCond .eq (Int.ofNat 14), 7), (7, .aload 0, 8), (8, .invokevirtual 76704, 11), (11, .goto (Int.ofNat 15), 14), (14, .ldc 0, 15), (15, .ireturn, 16)]]
abbrev m_Mo_unionCut : Nat := 187
def ah_Mo_unionCut : List (Nat × Nat × Nat × Nat × Nat × Nat) := []
def at_Mo_unionCost : am_T := [[(0, .aload 0, 1), (1, .invokevirtual 76672, 4), (4, .ifCond .ne (Int.ofNat 9), 7), (7, .ldc 0, 8), (8, .ireturn, 9), (9, .aload 0, 10), (10, .invokevirtual 76704, 13), (13, .istore 1, 14), (14, .ldc 0, 15), (15, .istore 2, 16)], [(16, .ldc 0, 17), (17, .istore 3, 18), (18, .iload 3, 19), (19, .aload 0, 20), (20, .invokevirtual 76128, 23), (23, .if_icmp .ge (Int.ofNat 53), 26), (26, .iload 2, 27), (27, .iload 1, 28), (28, .iload 3, 29), (29, .invokestatic 2450, 32)], [(32, .ifCond .eq (Int.ofNat 44), 35), (35, .aload 0, 36), (36, .getstatic 593, 39), (39, .iload 3, 40), (40, .iaload, 41), (41, .goto (Int.ofNat 45), 44), (44, .ldc 0, 45), (45, .iadd, 46), (46, .istore 2, 47), (47, .iinc 3 (Int.ofNat 1), 50)], [(50, .goto (Int.ofNat 18), 53), (53, .iload 2, 54), (54, .ireturn, 55)]]
abbrev m_Mo_unionCost : Nat := 188
def ah_Mo_unionCost : List (Nat × Nat × Nat × Nat × Nat × Nat) := []
def at_Mo_rounds : am_T := [[(0, .aload 0, 1), (1, .ldc 0, 2), (2, .putfield 576, 5), (5, .aload 0, 6), (6, .invokevirtual 76336, 9), (9, .aload 0, 10), (10, .getfield 598, 13), (13, .ireturn, 14)]]
abbrev m_Mo_rounds : Nat := 189
def ah_Mo_rounds : List (Nat × Nat × Nat × Nat × Nat × Nat) := []
def at_Mo_fixed : am_T := [[(0, .aload 0, 1), (1, .ldc 0, 2), (2, .putfield 576, 5), (5, .aload 0, 6), (6, .iload 1, 7), (7, .invokevirtual 76529, 10), (10, .ifCond .ne (Int.ofNat 15), 13), (13, .ldc 0, 14), (14, .ireturn, 15), (15, .aload 0, 16)], [(16, .invokevirtual 76336, 19), (19, .ldc 0, 20), (20, .istore 2, 21), (21, .iload 2, 22), (22, .aload 0, 23), (23, .invokevirtual 76112, 26), (26, .if_icmp .ge (Int.ofNat 58), 29), (29, .aload 0, 30), (30, .iload 2, 31), (31, .invokevirtual 76193, 34)], [(34, .ifCond .eq (Int.ofNat 52), 37), (37, .aload 0, 38), (38, .getstatic 597, 41), (41, .iload 2, 42), (42, .iaload, 43), (43, .iload 1, 44), (44, .invokestatic 2450, 47), (47, .ifCond .eq (Int.ofNat 52), 50)], [(50, .iload 2, 51), (51, .ireturn, 52), (52, .iinc 2 (Int.ofNat 1), 55), (55, .goto (Int.ofNat 21), 58), (58, .ldc_w 1, 59), (59, .ireturn, 60)]]
abbrev m_Mo_fixed : Nat := 190
def ah_Mo_fixed : List (Nat × Nat × Nat × Nat × Nat × Nat) := []
def at_Mo_exactCost : am_T := [[(0, .aload 0, 1), (1, .ldc 0, 2), (2, .putfield 576, 5), (5, .aload 0, 6), (6, .invokevirtual 76400, 9), (9, .ireturn, 10)]]
abbrev m_Mo_exactCost : Nat := 191
def ah_Mo_exactCost : List (Nat × Nat × Nat × Nat × Nat × Nat) := []
def at_Mo_exact : am_T := [[(0, .aload 0, 1), (1, .ldc 0, 2), (2, .putfield 576, 5), (5, .aload 0, 6), (6, .iload 1, 7), (7, .invokevirtual 76529, 10), (10, .ifCond .ne (Int.ofNat 15), 13), (13, .ldc 0, 14), (14, .ireturn, 15), (15, .aload 0, 16)], [(16, .invokevirtual 76400, 19), (19, .istore 2, 20), (20, .aload 0, 21), (21, .getstatic 600, 24), (24, .iload 1, 25), (25, .iaload, 26), (26, .ireturn, 27)]]
abbrev m_Mo_exact : Nat := 192
def ah_Mo_exact : List (Nat × Nat × Nat × Nat × Nat × Nat) := []
def at_Mo_price : am_T := [[(0, .aload 0, 1), (1, .iload 1, 2), (2, .invokevirtual 76609, 5), (5, .ifCond .ne (Int.ofNat 10), 8), (8, .ldc 0, 9), (9, .ireturn, 10), (10, .aload 0, 11), (11, .invokevirtual 76400, 14), (14, .istore 2, 15), (15, .iload 2, 16)], [(16, .aload 0, 17), (17, .aload 0, 18), (18, .ldc 2, 19), (19, .invokevirtual 75665, 22), (22, .ldc 1, 23), (23, .iload 1, 24), (24, .ishl, 25), (25, .ldc_w 1, 26), (26, .ixor, 27), (27, .iand, 28), (28, .invokevirtual 76385, 31), (31, .isub, 32)], [(32, .ireturn, 33)]]
abbrev m_Mo_price : Nat := 193
def ah_Mo_price : List (Nat × Nat × Nat × Nat × Nat × Nat) := []
def at_Mo_nearest : am_T := [[(0, .aload 0, 1), (1, .ldc 0, 2), (2, .putfield 576, 5), (5, .aload 0, 6), (6, .iload 1, 7), (7, .invokevirtual 76529, 10), (10, .ifCond .ne (Int.ofNat 15), 13), (13, .ldc 0, 14), (14, .ireturn, 15), (15, .aload 0, 16)], [(16, .invokevirtual 76464, 19), (19, .aload 0, 20), (20, .getstatic 606, 23), (23, .iload 1, 24), (24, .iaload, 25), (25, .ireturn, 26)]]
abbrev m_Mo_nearest : Nat := 194
def ah_Mo_nearest : List (Nat × Nat × Nat × Nat × Nat × Nat) := []
def at_Mo_distance : am_T := [[(0, .aload 0, 1), (1, .ldc 0, 2), (2, .putfield 576, 5), (5, .aload 0, 6), (6, .iload 1, 7), (7, .invokevirtual 76529, 10), (10, .ifCond .ne (Int.ofNat 15), 13), (13, .ldc 0, 14), (14, .ireturn, 15), (15, .aload 0, 16)], [(16, .invokevirtual 76464, 19), (19, .aload 0, 20), (20, .getstatic 606, 23), (23, .iload 1, 24), (24, .iaload, 25), (25, .ldc_w 1, 26), (26, .if_icmp .ne (Int.ofNat 33), 29), (29, .ldc_w 1, 30), (30, .goto (Int.ofNat 39), 33)], [(33, .aload 0, 34), (34, .getstatic 607, 37), (37, .iload 1, 38), (38, .iaload, 39), (39, .ireturn, 40)]]
abbrev m_Mo_distance : Nat := 195
def ah_Mo_distance : List (Nat × Nat × Nat × Nat × Nat × Nat) := []
def at_Mo_label : am_T := [[(0, .aload 0, 1), (1, .ldc 0, 2), (2, .putfield 576, 5), (5, .aload 0, 6), (6, .iload 1, 7), (7, .invokevirtual 76529, 10), (10, .ifCond .eq (Int.ofNat 24), 13), (13, .aload 0, 14), (14, .ldc 75, 16)], [(16, .iload 1, 17), (17, .iadd, 18), (18, .invokevirtual 75665, 21), (21, .goto (Int.ofNat 25), 24), (24, .ldc 0, 25), (25, .ireturn, 26)]]
abbrev m_Mo_label : Nat := 196
def ah_Mo_label : List (Nat × Nat × Nat × Nat × Nat × Nat) := []
def at_Mo_cost : am_T := [[(0, .aload 0, 1), (1, .ldc 0, 2), (2, .putfield 576, 5), (5, .aload 0, 6), (6, .invokevirtual 76416, 9), (9, .ireturn, 10)]]
abbrev m_Mo_cost : Nat := 197
def ah_Mo_cost : List (Nat × Nat × Nat × Nat × Nat × Nat) := []
def at_Mo_cut : am_T := [[(0, .aload 0, 1), (1, .ldc 0, 2), (2, .putfield 576, 5), (5, .ldc 0, 6), (6, .istore 1, 7), (7, .ldc 0, 8), (8, .istore 2, 9), (9, .iload 2, 10), (10, .aload 0, 11), (11, .invokevirtual 76128, 14), (14, .if_icmp .ge (Int.ofNat 60), 17)], [(17, .iload 1, 18), (18, .aload 0, 19), (19, .ldc 75, 21), (21, .aload 0, 22), (22, .iload 2, 23), (23, .invokevirtual 76145, 26), (26, .iadd, 27), (27, .invokevirtual 75665, 30), (30, .aload 0, 31), (31, .ldc 75, 33)], [(33, .aload 0, 34), (34, .iload 2, 35), (35, .invokevirtual 76161, 38), (38, .iadd, 39), (39, .invokevirtual 75665, 42), (42, .if_icmp .eq (Int.ofNat 51), 45), (45, .ldc 1, 46), (46, .iload 2, 47), (47, .ishl, 48)], [(48, .goto (Int.ofNat 52), 51), (51, .ldc 0, 52), (52, .ior, 53), (53, .istore 1, 54), (54, .iinc 2 (Int.ofNat 1), 57), (57, .goto (Int.ofNat 9), 60), (60, .iload 1, 61), (61, .ireturn, 62)]]
abbrev m_Mo_cut : Nat := 198
def ah_Mo_cut : List (Nat × Nat × Nat × Nat × Nat × Nat) := []
def at_Mo_ratio : am_T := [[(0, .aload 0, 1), (1, .ldc 0, 2), (2, .putfield 576, 5), (5, .aload 0, 6), (6, .invokevirtual 76416, 9), (9, .istore 1, 10), (10, .aload 0, 11), (11, .invokevirtual 76400, 14), (14, .istore 2, 15), (15, .iload 2, 16)], [(16, .ifCond .ne (Int.ofNat 31), 19), (19, .iload 1, 20), (20, .ifCond .ne (Int.ofNat 27), 23), (23, .invokedynamic 1065353216, 24), (24, .goto (Int.ofNat 30), 27), (27, .invokedynamic 3212836864, 30), (30, .freturn, 31), (31, .iload 1, 32)], [(32, .i2f, 33), (33, .iload 2, 34), (34, .i2f, 35), (35, .fdiv, 36), (36, .freturn, 37)]]
abbrev m_Mo_ratio : Nat := 199
def ah_Mo_ratio : List (Nat × Nat × Nat × Nat × Nat × Nat) := []
def at_Mo_meanCost : am_T := [[(0, .aload 0, 1), (1, .ldc 0, 2), (2, .putfield 576, 5), (5, .aload 0, 6), (6, .ldc 2, 7), (7, .invokevirtual 75665, 10), (10, .invokestatic 2209, 13), (13, .istore 1, 14), (14, .invokedynamic 0, 15), (15, .fstore 2, 16)], [(16, .iload 1, 17), (17, .ldc 2, 18), (18, .if_icmp .ge (Int.ofNat 23), 21), (21, .fload 2, 22), (22, .freturn, 23), (23, .aload 0, 24), (24, .invokevirtual 76096, 27), (27, .ldc 0, 28), (28, .istore 3, 29), (29, .iload 3, 30), (30, .aload 0, 31), (31, .invokevirtual 76128, 34)], [(34, .if_icmp .ge (Int.ofNat 94), 37), (37, .aload 0, 38), (38, .getstatic 593, 41), (41, .iload 3, 42), (42, .iaload, 43), (43, .i2f, 44), (44, .fstore 4, 46), (46, .fload 2, 47), (47, .aload 0, 48)], [(48, .aload 0, 49), (49, .iload 3, 50), (50, .invokevirtual 76145, 53), (53, .invokevirtual 76193, 56), (56, .ifCond .eq (Int.ofNat 76), 59), (59, .aload 0, 60), (60, .aload 0, 61), (61, .iload 3, 62), (62, .invokevirtual 76161, 65)], [(65, .invokevirtual 76193, 68), (68, .ifCond .eq (Int.ofNat 76), 71), (71, .fload 4, 73), (73, .goto (Int.ofNat 86), 76), (76, .fload 4, 78), (78, .iload 1, 79), (79, .ldc 1, 80)], [(80, .isub, 81), (81, .i2f, 82), (82, .fmul, 83), (83, .iload 1, 84), (84, .i2f, 85), (85, .fdiv, 86), (86, .fadd, 87), (87, .fstore 2, 88), (88, .iinc 3 (Int.ofNat 1), 91), (91, .goto (Int.ofNat 29), 94), (94, .fload 2, 95), (95, .freturn, 96)]]
abbrev m_Mo_meanCost : Nat := 200
def ah_Mo_meanCost : List (Nat × Nat × Nat × Nat × Nat × Nat) := []
def at_Mo_laysMove : am_T := [[(0, .aload 0, 1), (1, .invokevirtual 76416, 4), (4, .istore 1, 5), (5, .aload 0, 6), (6, .ldc_w 1, 7), (7, .putfield 608, 10), (10, .aload 0, 11), (11, .ldc_w 1, 12), (12, .putfield 609, 15), (15, .aload 0, 16)], [(16, .ldc_w 1, 17), (17, .putfield 610, 20), (20, .ldc 0, 21), (21, .istore 2, 22), (22, .iload 2, 23), (23, .aload 0, 24), (24, .invokevirtual 76112, 27), (27, .if_icmp .ge (Int.ofNat 147), 30), (30, .ldc 0, 31), (31, .istore 3, 32)], [(32, .iload 3, 33), (33, .aload 0, 34), (34, .invokevirtual 76112, 37), (37, .if_icmp .ge (Int.ofNat 127), 40), (40, .aload 0, 41), (41, .iload 2, 42), (42, .invokevirtual 76193, 45), (45, .ifCond .ne (Int.ofNat 127), 48)], [(48, .aload 0, 49), (49, .iload 3, 50), (50, .invokevirtual 76193, 53), (53, .ifCond .eq (Int.ofNat 121), 56), (56, .aload 0, 57), (57, .ldc 75, 59), (59, .iload 2, 60), (60, .iadd, 61), (61, .invokevirtual 75665, 64)], [(64, .iload 3, 65), (65, .if_icmp .ne (Int.ofNat 71), 68), (68, .goto (Int.ofNat 121), 71), (71, .aload 0, 72), (72, .getstatic 604, 75), (75, .iload 2, 76), (76, .iload 3, 77), (77, .iastore, 78), (78, .aload 0, 79), (79, .aload 0, 80)], [(80, .getstatic 604, 83), (83, .invokevirtual 76353, 86), (86, .istore 4, 88), (88, .aload 0, 89), (89, .getfield 608, 92), (92, .ldc_w 1, 93), (93, .if_icmp .eq (Int.ofNat 105), 96)], [(96, .iload 4, 98), (98, .aload 0, 99), (99, .getfield 610, 102), (102, .if_icmp .ge (Int.ofNat 121), 105), (105, .aload 0, 106), (106, .iload 2, 107), (107, .putfield 608, 110), (110, .aload 0, 111), (111, .iload 3, 112)], [(112, .putfield 609, 115), (115, .aload 0, 116), (116, .iload 4, 118), (118, .putfield 610, 121), (121, .iinc 3 (Int.ofNat 1), 124), (124, .goto (Int.ofNat 32), 127), (127, .aload 0, 128)], [(128, .getstatic 604, 131), (131, .iload 2, 132), (132, .aload 0, 133), (133, .ldc 75, 135), (135, .iload 2, 136), (136, .iadd, 137), (137, .invokevirtual 75665, 140), (140, .iastore, 141), (141, .iinc 2 (Int.ofNat 1), 144)], [(144, .goto (Int.ofNat 22), 147), (147, .return_, 148)]]
abbrev m_Mo_laysMove : Nat := 201
def ah_Mo_laysMove : List (Nat × Nat × Nat × Nat × Nat × Nat) := []
def at_Mo_bestMove : am_T := [[(0, .aload 0, 1), (1, .ldc 0, 2), (2, .putfield 576, 5), (5, .aload 0, 6), (6, .iload 1, 7), (7, .i2l, 8), (8, .ldc2_w 0, 9), (9, .ldc2_w 2, 12), (12, .invokestatic 1923, 15), (15, .ldc 1, 16)], [(16, .invokevirtual 75714, 19), (19, .ifCond .ne (Int.ofNat 24), 22), (22, .ldc 0, 23), (23, .ireturn, 24), (24, .aload 0, 25), (25, .invokevirtual 76944, 28), (28, .iload 1, 29), (29, .ifCond .ne (Int.ofNat 39), 32)], [(32, .aload 0, 33), (33, .getfield 608, 36), (36, .goto (Int.ofNat 55), 39), (39, .iload 1, 40), (40, .ldc 1, 41), (41, .if_icmp .ne (Int.ofNat 51), 44), (44, .aload 0, 45), (45, .getfield 609, 48)], [(48, .goto (Int.ofNat 55), 51), (51, .aload 0, 52), (52, .getfield 610, 55), (55, .ireturn, 56)]]
abbrev m_Mo_bestMove : Nat := 202
def ah_Mo_bestMove : List (Nat × Nat × Nat × Nat × Nat × Nat) := []
def at_Mo_setLabel : am_T := [[(0, .aload 0, 1), (1, .ldc 0, 2), (2, .putfield 576, 5), (5, .iload 2, 6), (6, .ldc_w 1, 7), (7, .if_icmp .eq (Int.ofNat 34), 10), (10, .iload 2, 11), (11, .i2l, 12), (12, .ldc2_w 0, 13), (13, .aload 0, 14), (14, .invokevirtual 76112, 17)], [(17, .ldc 1, 18), (18, .isub, 19), (19, .i2l, 20), (20, .invokestatic 1923, 23), (23, .ifCond .eq (Int.ofNat 38), 26), (26, .aload 0, 27), (27, .iload 2, 28), (28, .invokevirtual 76193, 31), (31, .ifCond .eq (Int.ofNat 38), 34)], [(34, .ldc 1, 35), (35, .goto (Int.ofNat 39), 38), (38, .ldc 0, 39), (39, .istore 3, 40), (40, .aload 0, 41), (41, .iload 1, 42), (42, .invokevirtual 76529, 45), (45, .ifCond .eq (Int.ofNat 78), 48)], [(48, .aload 0, 49), (49, .iload 3, 50), (50, .ldc 2, 51), (51, .invokevirtual 75714, 54), (54, .ifCond .eq (Int.ofNat 78), 57), (57, .aload 0, 58), (58, .aload 0, 59), (59, .iload 1, 60), (60, .invokevirtual 76193, 63), (63, .ifCond .ne (Int.ofNat 70), 66)], [(66, .ldc 1, 67), (67, .goto (Int.ofNat 71), 70), (70, .ldc 0, 71), (71, .ldc 3, 72), (72, .invokevirtual 75714, 75), (75, .ifCond .ne (Int.ofNat 80), 78), (78, .ldc 0, 79), (79, .ireturn, 80)], [(80, .aload 0, 81), (81, .invokevirtual 75696, 84), (84, .aload 0, 85), (85, .ldc 75, 87), (87, .iload 1, 88), (88, .iadd, 89), (89, .iload 2, 90), (90, .invokevirtual 75682, 93), (93, .aload 0, 94), (94, .invokevirtual 76416, 97)], [(97, .ireturn, 98)]]
abbrev m_Mo_setLabel : Nat := 203
def ah_Mo_setLabel : List (Nat × Nat × Nat × Nat × Nat × Nat) := []
def at_Mo_useNearest : am_T := [[(0, .aload 0, 1), (1, .ldc 0, 2), (2, .putfield 576, 5), (5, .aload 0, 6), (6, .invokevirtual 76464, 9), (9, .aload 0, 10), (10, .invokevirtual 75696, 13), (13, .ldc 0, 14), (14, .istore 1, 15), (15, .iload 1, 16)], [(16, .aload 0, 17), (17, .invokevirtual 76112, 20), (20, .if_icmp .ge (Int.ofNat 43), 23), (23, .aload 0, 24), (24, .ldc 75, 26), (26, .iload 1, 27), (27, .iadd, 28), (28, .aload 0, 29), (29, .getstatic 606, 32)], [(32, .iload 1, 33), (33, .iaload, 34), (34, .invokevirtual 75682, 37), (37, .iinc 1 (Int.ofNat 1), 40), (40, .goto (Int.ofNat 15), 43), (43, .aload 0, 44), (44, .invokevirtual 76416, 47), (47, .ireturn, 48)]]
abbrev m_Mo_useNearest : Nat := 204
def ah_Mo_useNearest : List (Nat × Nat × Nat × Nat × Nat × Nat) := []
def at_Mo_useUnion : am_T := [[(0, .aload 0, 1), (1, .invokevirtual 76672, 4), (4, .ifCond .ne (Int.ofNat 9), 7), (7, .ldc 0, 8), (8, .ireturn, 9), (9, .aload 0, 10), (10, .invokevirtual 76272, 13), (13, .aload 0, 14), (14, .invokevirtual 76288, 17)], [(17, .istore 1, 18), (18, .aload 0, 19), (19, .invokevirtual 75696, 22), (22, .ldc 0, 23), (23, .istore 2, 24), (24, .iload 2, 25), (25, .aload 0, 26), (26, .invokevirtual 76112, 29), (29, .if_icmp .ge (Int.ofNat 104), 32)], [(32, .iload 1, 33), (33, .istore 3, 34), (34, .aload 0, 35), (35, .invokevirtual 76112, 38), (38, .ldc 1, 39), (39, .isub, 40), (40, .istore 4, 42), (42, .iload 4, 44), (44, .ifCond .lt (Int.ofNat 89), 47), (47, .iload 4, 49)], [(49, .iload 1, 50), (50, .if_icmp .eq (Int.ofNat 81), 53), (53, .aload 0, 54), (54, .iload 4, 56), (56, .invokevirtual 76193, 59), (59, .ifCond .eq (Int.ofNat 81), 62), (62, .aload 0, 63), (63, .getstatic 596, 66)], [(66, .iload 4, 68), (68, .iaload, 69), (69, .iload 2, 70), (70, .invokestatic 2450, 73), (73, .ifCond .eq (Int.ofNat 81), 76), (76, .iload 4, 78), (78, .goto (Int.ofNat 82), 81)], [(81, .iload 3, 82), (82, .istore 3, 83), (83, .iinc 4 (Int.negSucc 0), 86), (86, .goto (Int.ofNat 42), 89), (89, .aload 0, 90), (90, .ldc 75, 92), (92, .iload 2, 93), (93, .iadd, 94), (94, .iload 3, 95), (95, .invokevirtual 75682, 98)], [(98, .iinc 2 (Int.ofNat 1), 101), (101, .goto (Int.ofNat 24), 104), (104, .aload 0, 105), (105, .invokevirtual 76416, 108), (108, .ireturn, 109)]]
abbrev m_Mo_useUnion : Nat := 205
def ah_Mo_useUnion : List (Nat × Nat × Nat × Nat × Nat × Nat) := []
def at_Mo_useExact : am_T := [[(0, .aload 0, 1), (1, .ldc 0, 2), (2, .putfield 576, 5), (5, .aload 0, 6), (6, .invokevirtual 76400, 9), (9, .istore 1, 10), (10, .aload 0, 11), (11, .invokevirtual 75696, 14), (14, .ldc 0, 15), (15, .istore 2, 16)], [(16, .iload 2, 17), (17, .aload 0, 18), (18, .invokevirtual 76112, 21), (21, .if_icmp .ge (Int.ofNat 44), 24), (24, .aload 0, 25), (25, .ldc 75, 27), (27, .iload 2, 28), (28, .iadd, 29), (29, .aload 0, 30), (30, .getstatic 600, 33)], [(33, .iload 2, 34), (34, .iaload, 35), (35, .invokevirtual 75682, 38), (38, .iinc 2 (Int.ofNat 1), 41), (41, .goto (Int.ofNat 16), 44), (44, .aload 0, 45), (45, .invokevirtual 76416, 48)], [(48, .ireturn, 49)]]
abbrev m_Mo_useExact : Nat := 206
def ah_Mo_useExact : List (Nat × Nat × Nat × Nat × Nat × Nat) := []
def at_Mo_improve : am_T := [[(0, .aload 0, 1), (1, .ldc 0, 2), (2, .putfield 576, 5), (5, .aload 0, 6), (6, .iload 1, 7), (7, .i2l, 8), (8, .ldc2_w 1, 9), (9, .ldc2_w 20, 12), (12, .invokestatic 1923, 15), (15, .ldc 1, 16)], [(16, .invokevirtual 75714, 19), (19, .ifCond .ne (Int.ofNat 24), 22), (22, .ldc 0, 23), (23, .ireturn, 24), (24, .aload 0, 25), (25, .invokevirtual 75696, 28), (28, .ldc 0, 29), (29, .istore 2, 30), (30, .iload 2, 31), (31, .iload 1, 32)], [(32, .if_icmp .ge (Int.ofNat 81), 35), (35, .aload 0, 36), (36, .invokevirtual 76944, 39), (39, .aload 0, 40), (40, .getfield 608, 43), (43, .ldc_w 1, 44), (44, .if_icmp .eq (Int.ofNat 58), 47), (47, .aload 0, 48)], [(48, .getfield 610, 51), (51, .aload 0, 52), (52, .invokevirtual 76416, 55), (55, .if_icmp .lt (Int.ofNat 60), 58), (58, .iload 2, 59), (59, .ireturn, 60), (60, .aload 0, 61), (61, .ldc 75, 63), (63, .aload 0, 64)], [(64, .getfield 608, 67), (67, .iadd, 68), (68, .aload 0, 69), (69, .getfield 609, 72), (72, .invokevirtual 75682, 75), (75, .iinc 2 (Int.ofNat 1), 78), (78, .goto (Int.ofNat 30), 81)], [(81, .iload 2, 82), (82, .ireturn, 83)]]
abbrev m_Mo_improve : Nat := 207
def ah_Mo_improve : List (Nat × Nat × Nat × Nat × Nat × Nat) := []
def at_Mo_isEdge : am_T := [[(0, .aload 0, 1), (1, .ldc 0, 2), (2, .putfield 576, 5), (5, .aload 0, 6), (6, .iload 1, 7), (7, .i2l, 8), (8, .ldc2_w 0, 9), (9, .aload 0, 10), (10, .invokevirtual 76128, 13), (13, .ldc 1, 14), (14, .isub, 15), (15, .i2l, 16)], [(16, .invokestatic 1923, 19), (19, .ldc 1, 20), (20, .invokevirtual 75714, 23), (23, .areturn, 24)]]
abbrev m_Mo_isEdge : Nat := 208
def ah_Mo_isEdge : List (Nat × Nat × Nat × Nat × Nat × Nat) := []
def at_Mo_setWeight : am_T := [[(0, .aload 0, 1), (1, .iload 1, 2), (2, .invokevirtual 77057, 5), (5, .ifCond .eq (Int.ofNat 25), 8), (8, .aload 0, 9), (9, .iload 2, 10), (10, .i2l, 11), (11, .ldc2_w 1, 12), (12, .ldc2_w 99, 15), (15, .invokestatic 1923, 18)], [(18, .ldc 2, 19), (19, .invokevirtual 75714, 22), (22, .ifCond .ne (Int.ofNat 27), 25), (25, .ldc 0, 26), (26, .ireturn, 27), (27, .aload 0, 28), (28, .ldc 15, 30), (30, .ldc 3, 31), (31, .iload 1, 32)], [(32, .imul, 33), (33, .iadd, 34), (34, .ldc 2, 35), (35, .iadd, 36), (36, .invokevirtual 75665, 39), (39, .istore 3, 40), (40, .aload 0, 41), (41, .invokevirtual 75696, 44), (44, .aload 0, 45), (45, .ldc 15, 47), (47, .ldc 3, 48)], [(48, .iload 1, 49), (49, .imul, 50), (50, .iadd, 51), (51, .ldc 2, 52), (52, .iadd, 53), (53, .iload 2, 54), (54, .invokevirtual 75682, 57), (57, .iload 3, 58), (58, .ireturn, 59)]]
abbrev m_Mo_setWeight : Nat := 209
def ah_Mo_setWeight : List (Nat × Nat × Nat × Nat × Nat × Nat) := []
def at_Mo_areJoined : am_T := [[(0, .ldc 0, 1), (1, .istore 3, 2), (2, .iload 3, 3), (3, .aload 0, 4), (4, .invokevirtual 76128, 7), (7, .if_icmp .ge (Int.ofNat 44), 10), (10, .aload 0, 11), (11, .iload 3, 12), (12, .invokevirtual 76145, 15), (15, .iload 1, 16)], [(16, .iload 2, 17), (17, .dsub, 20), (20, .if_icmp .ne (Int.ofNat 38), 23), (23, .aload 0, 24), (24, .iload 3, 25), (25, .invokevirtual 76161, 28), (28, .iload 1, 29), (29, .iload 2, 30), (30, .dadd, 33)], [(33, .if_icmp .ne (Int.ofNat 38), 36), (36, .ldc 1, 37), (37, .areturn, 38), (38, .iinc 3 (Int.ofNat 1), 41), (41, .goto (Int.ofNat 2), 44), (44, .ldc 0, 45), (45, .areturn, 46)]]
abbrev m_Mo_areJoined : Nat := 210
def ah_Mo_areJoined : List (Nat × Nat × Nat × Nat × Nat × Nat) := []
def at_Mo_addEdge : am_T := [[(0, .aload 0, 1), (1, .ldc 0, 2), (2, .putfield 576, 5), (5, .aload 0, 6), (6, .iload 1, 7), (7, .invokevirtual 76529, 10), (10, .ifCond .eq (Int.ofNat 82), 13), (13, .aload 0, 14), (14, .iload 2, 15), (15, .invokevirtual 76529, 18)], [(18, .ifCond .eq (Int.ofNat 82), 21), (21, .aload 0, 22), (22, .iload 1, 23), (23, .iload 2, 24), (24, .if_icmp .eq (Int.ofNat 43), 27), (27, .iload 3, 28), (28, .i2l, 29), (29, .ldc2_w 1, 30), (30, .ldc2_w 99, 33)], [(33, .invokestatic 1923, 36), (36, .ifCond .eq (Int.ofNat 43), 39), (39, .ldc 1, 40), (40, .goto (Int.ofNat 44), 43), (43, .ldc 0, 44), (44, .ldc 2, 45), (45, .invokevirtual 75714, 48)], [(48, .ifCond .eq (Int.ofNat 82), 51), (51, .aload 0, 52), (52, .aload 0, 53), (53, .iload 1, 54), (54, .iload 2, 55), (55, .invokevirtual 77090, 58), (58, .ifCond .ne (Int.ofNat 74), 61), (61, .aload 0, 62), (62, .invokevirtual 76128, 65)], [(65, .ldc 20, 67), (67, .if_icmp .ge (Int.ofNat 74), 70), (70, .ldc 1, 71), (71, .goto (Int.ofNat 75), 74), (74, .ldc 0, 75), (75, .ldc 3, 76), (76, .invokevirtual 75714, 79), (79, .ifCond .ne (Int.ofNat 84), 82)], [(82, .ldc 0, 83), (83, .ireturn, 84), (84, .aload 0, 85), (85, .invokevirtual 75696, 88), (88, .aload 0, 89), (89, .invokevirtual 76128, 92), (92, .istore 4, 94), (94, .aload 0, 95), (95, .ldc 15, 97)], [(97, .ldc 3, 98), (98, .iload 4, 100), (100, .imul, 101), (101, .iadd, 102), (102, .iload 1, 103), (103, .iload 2, 104), (104, .dsub, 107), (107, .invokevirtual 75682, 110), (110, .aload 0, 111), (111, .ldc 15, 113)], [(113, .ldc 3, 114), (114, .iload 4, 116), (116, .imul, 117), (117, .iadd, 118), (118, .ldc 1, 119), (119, .iadd, 120), (120, .iload 1, 121), (121, .iload 2, 122), (122, .dadd, 125), (125, .invokevirtual 75682, 128)], [(128, .aload 0, 129), (129, .ldc 15, 131), (131, .ldc 3, 132), (132, .iload 4, 134), (134, .imul, 135), (135, .iadd, 136), (136, .ldc 2, 137), (137, .iadd, 138), (138, .iload 3, 139), (139, .invokevirtual 75682, 142), (142, .aload 0, 143), (143, .ldc 1, 144)], [(144, .iload 4, 146), (146, .ldc 1, 147), (147, .iadd, 148), (148, .invokevirtual 75682, 151), (151, .iload 4, 153), (153, .ireturn, 154)]]
abbrev m_Mo_addEdge : Nat := 211
def ah_Mo_addEdge : List (Nat × Nat × Nat × Nat × Nat × Nat) := []
def at_Mo_removeEdge : am_T := [[(0, .aload 0, 1), (1, .iload 1, 2), (2, .invokevirtual 77057, 5), (5, .ifCond .ne (Int.ofNat 10), 8), (8, .ldc 0, 9), (9, .ireturn, 10), (10, .aload 0, 11), (11, .invokevirtual 75696, 14), (14, .aload 0, 15), (15, .invokevirtual 76128, 18)], [(18, .ldc 1, 19), (19, .isub, 20), (20, .istore 2, 21), (21, .ldc 15, 23), (23, .ldc 3, 24), (24, .iload 1, 25), (25, .imul, 26), (26, .iadd, 27), (27, .istore 3, 28), (28, .iload 3, 29), (29, .ldc 15, 31), (31, .ldc 3, 32)], [(32, .iload 2, 33), (33, .imul, 34), (34, .iadd, 35), (35, .if_icmp .ge (Int.ofNat 56), 38), (38, .aload 0, 39), (39, .iload 3, 40), (40, .aload 0, 41), (41, .iload 3, 42), (42, .ldc 3, 43), (43, .iadd, 44), (44, .invokevirtual 75665, 47), (47, .invokevirtual 75682, 50)], [(50, .iinc 3 (Int.ofNat 1), 53), (53, .goto (Int.ofNat 28), 56), (56, .aload 0, 57), (57, .ldc 1, 58), (58, .iload 2, 59), (59, .invokevirtual 75682, 62), (62, .iload 2, 63), (63, .ireturn, 64)]]
abbrev m_Mo_removeEdge : Nat := 212
def ah_Mo_removeEdge : List (Nat × Nat × Nat × Nat × Nat × Nat) := []
def at_Mo_setTerminal : am_T := [[(0, .aload 0, 1), (1, .ldc 0, 2), (2, .putfield 576, 5), (5, .aload 0, 6), (6, .iload 1, 7), (7, .invokevirtual 76529, 10), (10, .ifCond .eq (Int.ofNat 50), 13), (13, .aload 0, 14), (14, .iload 2, 15), (15, .ifCond .eq (Int.ofNat 38), 18)], [(18, .aload 0, 19), (19, .iload 1, 20), (20, .invokevirtual 76193, 23), (23, .ifCond .ne (Int.ofNat 38), 26), (26, .aload 0, 27), (27, .ldc 2, 28), (28, .invokevirtual 75665, 31), (31, .invokestatic 2209, 34)], [(34, .ldc 5, 35), (35, .if_icmp .ge (Int.ofNat 42), 38), (38, .ldc 1, 39), (39, .goto (Int.ofNat 43), 42), (42, .ldc 0, 43), (43, .ldc 2, 44), (44, .invokevirtual 75714, 47), (47, .ifCond .ne (Int.ofNat 52), 50)], [(50, .ldc 0, 51), (51, .ireturn, 52), (52, .aload 0, 53), (53, .iload 1, 54), (54, .invokevirtual 76193, 57), (57, .istore 3, 58), (58, .aload 0, 59), (59, .invokevirtual 75696, 62), (62, .iload 2, 63), (63, .ifCond .eq (Int.ofNat 93), 66)], [(66, .iload 3, 67), (67, .ifCond .ne (Int.ofNat 93), 70), (70, .aload 0, 71), (71, .ldc 2, 72), (72, .aload 0, 73), (73, .ldc 2, 74), (74, .invokevirtual 75665, 77), (77, .ldc 1, 78), (78, .iload 1, 79), (79, .ishl, 80)], [(80, .ior, 81), (81, .invokevirtual 75682, 84), (84, .aload 0, 85), (85, .ldc 75, 87), (87, .iload 1, 88), (88, .iadd, 89), (89, .iload 1, 90), (90, .invokevirtual 75682, 93), (93, .iload 2, 94), (94, .ifCond .ne (Int.ofNat 158), 97)], [(97, .iload 3, 98), (98, .ifCond .eq (Int.ofNat 158), 101), (101, .aload 0, 102), (102, .ldc 2, 103), (103, .aload 0, 104), (104, .ldc 2, 105), (105, .invokevirtual 75665, 108), (108, .ldc 1, 109), (109, .iload 1, 110), (110, .ishl, 111), (111, .ldc_w 1, 112)], [(112, .ixor, 113), (113, .iand, 114), (114, .invokevirtual 75682, 117), (117, .ldc 0, 118), (118, .istore 4, 120), (120, .iload 4, 122), (122, .aload 0, 123), (123, .invokevirtual 76112, 126), (126, .if_icmp .ge (Int.ofNat 158), 129)], [(129, .aload 0, 130), (130, .ldc 75, 132), (132, .iload 4, 134), (134, .iadd, 135), (135, .invokevirtual 75665, 138), (138, .iload 1, 139), (139, .if_icmp .ne (Int.ofNat 152), 142), (142, .aload 0, 143), (143, .ldc 75, 145)], [(145, .iload 4, 147), (147, .iadd, 148), (148, .ldc_w 1, 149), (149, .invokevirtual 75682, 152), (152, .iinc 4 (Int.ofNat 1), 155), (155, .goto (Int.ofNat 120), 158), (158, .aload 0, 159), (159, .ldc 2, 160)], [(160, .invokevirtual 75665, 163), (163, .invokestatic 2209, 166), (166, .ireturn, 167)]]
abbrev m_Mo_setTerminal : Nat := 213
def ah_Mo_setTerminal : List (Nat × Nat × Nat × Nat × Nat × Nat) := []
def at_Mo_undo : am_T := [[(0, .aload 0, 1), (1, .ldc 0, 2), (2, .putfield 576, 5), (5, .aload 0, 6), (6, .getfield 580, 9), (9, .ifCond .ne (Int.ofNat 14), 12), (12, .ldc_w 1, 13), (13, .ireturn, 14), (14, .aload 0, 15), (15, .dup, 16)], [(16, .getfield 580, 19), (19, .ldc 1, 20), (20, .isub, 21), (21, .putfield 580, 24), (24, .aload 0, 25), (25, .aload 0, 26), (26, .getfield 579, 29), (29, .ldc 9, 31), (31, .iadd, 32)], [(32, .ldc 1, 33), (33, .isub, 34), (34, .ldc 9, 36), (36, .irem, 37), (37, .putfield 579, 40), (40, .aload 0, 41), (41, .getfield 580, 44), (44, .ireturn, 45)]]
abbrev m_Mo_undo : Nat := 214
def ah_Mo_undo : List (Nat × Nat × Nat × Nat × Nat × Nat) := []
def at_Mo_checksum : am_T := [[(0, .aload 0, 1), (1, .ldc 0, 2), (2, .putfield 576, 5), (5, .ldc2_w 31, 8), (8, .aload 0, 9), (9, .invokevirtual 76112, 12), (12, .i2l, 13), (13, .lmul, 14), (14, .aload 0, 15), (15, .ldc 2, 16)], [(16, .invokevirtual 75665, 19), (19, .i2l, 20), (20, .ladd, 21), (21, .lstore 1, 22), (22, .ldc 0, 23), (23, .istore 3, 24), (24, .iload 3, 25), (25, .aload 0, 26), (26, .invokevirtual 76128, 29), (29, .if_icmp .ge (Int.ofNat 74), 32)], [(32, .ldc 0, 33), (33, .istore 4, 35), (35, .iload 4, 37), (37, .ldc 3, 38), (38, .if_icmp .ge (Int.ofNat 68), 41), (41, .ldc2_w 31, 44), (44, .lload 1, 45), (45, .lmul, 46), (46, .aload 0, 47), (47, .ldc 15, 49)], [(49, .ldc 3, 50), (50, .iload 3, 51), (51, .imul, 52), (52, .iadd, 53), (53, .iload 4, 55), (55, .iadd, 56), (56, .invokevirtual 75665, 59), (59, .i2l, 60), (60, .ladd, 61), (61, .lstore 1, 62), (62, .iinc 4 (Int.ofNat 1), 65)], [(65, .goto (Int.ofNat 35), 68), (68, .iinc 3 (Int.ofNat 1), 71), (71, .goto (Int.ofNat 24), 74), (74, .ldc 0, 75), (75, .istore 3, 76), (76, .iload 3, 77), (77, .aload 0, 78), (78, .invokevirtual 76112, 81)], [(81, .if_icmp .ge (Int.ofNat 106), 84), (84, .ldc2_w 31, 87), (87, .lload 1, 88), (88, .lmul, 89), (89, .aload 0, 90), (90, .ldc 75, 92), (92, .iload 3, 93), (93, .iadd, 94), (94, .invokevirtual 75665, 97)], [(97, .i2l, 98), (98, .ladd, 99), (99, .lstore 1, 100), (100, .iinc 3 (Int.ofNat 1), 103), (103, .goto (Int.ofNat 76), 106), (106, .ldc2_w 31, 109), (109, .lload 1, 110), (110, .lmul, 111), (111, .aload 0, 112)], [(112, .invokevirtual 76416, 115), (115, .i2l, 116), (116, .ladd, 117), (117, .lreturn, 118)]]
abbrev m_Mo_checksum : Nat := 215
def ah_Mo_checksum : List (Nat × Nat × Nat × Nat × Nat × Nat) := []
def at_JI_bitCount : am_T := [[(0, .iload 0, 1), (1, .iload 0, 2), (2, .ldc 1, 3), (3, .iushr, 4), (4, .ldc 1431655765, 7), (7, .iand, 8), (8, .isub, 9), (9, .istore 0, 10), (10, .iload 0, 11), (11, .ldc 858993459, 14), (14, .iand, 15), (15, .iload 0, 16)], [(16, .ldc 2, 17), (17, .iushr, 18), (18, .ldc 858993459, 21), (21, .iand, 22), (22, .iadd, 23), (23, .istore 0, 24), (24, .iload 0, 25), (25, .iload 0, 26), (26, .ldc 4, 27), (27, .iushr, 28), (28, .iadd, 29), (29, .ldc 252645135, 32)], [(32, .iand, 33), (33, .istore 0, 34), (34, .iload 0, 35), (35, .iload 0, 36), (36, .ldc 8, 38), (38, .iushr, 39), (39, .iadd, 40), (40, .istore 0, 41), (41, .iload 0, 42), (42, .iload 0, 43), (43, .ldc 16, 45), (45, .iushr, 46), (46, .iadd, 47), (47, .istore 0, 48)], [(48, .iload 0, 49), (49, .ldc 63, 51), (51, .iand, 52), (52, .ireturn, 53)]]
abbrev m_JI_bitCount : Nat := 216
def ah_JI_bitCount : List (Nat × Nat × Nat × Nat × Nat × Nat) := []
def at_JA_fill : am_T := [[(0, .ldc 0, 1), (1, .istore 2, 2), (2, .aload 0, 3), (3, .arraylength, 4), (4, .istore 3, 5), (5, .iload 2, 6), (6, .iload 3, 7), (7, .if_icmp .ge (Int.ofNat 20), 10), (10, .aload 0, 11), (11, .iload 2, 12), (12, .iload 1, 13), (13, .iastore, 14), (14, .iinc 2 (Int.ofNat 1), 17)], [(17, .goto (Int.ofNat 5), 20), (20, .return_, 21)]]
abbrev m_JA_fill : Nat := 217
def ah_JA_fill : List (Nat × Nat × Nat × Nat × Nat × Nat) := []
def at_JA_copyOf : am_T := [[(0, .iload 1, 1), (1, .aload 0, 2), (2, .arraylength, 3), (3, .if_icmp .ne (Int.ofNat 14), 6), (6, .aload 0, 7), (13, .dreturn, 14), (14, .iload 1, 15), (15, .anewarray 2, 17)], [(17, .astore 2, 18), (18, .aload 0, 19), (19, .ldc 0, 20), (20, .aload 2, 21), (21, .ldc 0, 22), (22, .aload 0, 23), (23, .arraylength, 24), (24, .iload 1, 25), (25, .dsub, 28), (28, .multianewarray 0 0, 31), (31, .aload 2, 32)], [(32, .dreturn, 33)]]
abbrev m_JA_copyOf : Nat := 218
def ah_JA_copyOf : List (Nat × Nat × Nat × Nat × Nat × Nat) := []
def at_La_load : am_T := [[(0, .aload 2, 1), (1, .ldc 0, 2), (2, .aload 0, 3), (3, .iload 1, 4), (4, .invokevirtual 66721, 7), (7, .i2l, 8), (8, .lastore, 9), (9, .goto (Int.ofNat 15), 12), (12, .astore 3, 13), (13, .ldc 1, 14), (14, .ireturn, 15), (15, .ldc 0, 16)], [(16, .ireturn, 17)]]
abbrev m_La_load : Nat := 219
def ah_La_load : List (Nat × Nat × Nat × Nat × Nat × Nat) := [(0, 9, 12, 1, 13, 3)]
def at_La_burden : am_T := [[(0, .aload 2, 1), (1, .ldc 0, 2), (2, .aload 0, 3), (3, .iload 1, 4), (4, .invokevirtual 66801, 7), (7, .i2l, 8), (8, .lastore, 9), (9, .goto (Int.ofNat 15), 12), (12, .astore 3, 13), (13, .ldc 1, 14), (14, .ireturn, 15), (15, .ldc 0, 16)], [(16, .ireturn, 17)]]
abbrev m_La_burden : Nat := 220
def ah_La_burden : List (Nat × Nat × Nat × Nat × Nat × Nat) := [(0, 9, 12, 2, 13, 3)]
def at_La_edge : am_T := [[(0, .aload 3, 1), (1, .ldc 0, 2), (2, .aload 0, 3), (3, .iload 1, 4), (4, .iload 2, 5), (5, .invokevirtual 66818, 8), (8, .i2l, 9), (9, .lastore, 10), (10, .goto (Int.ofNat 21), 13), (13, .astore 4, 15), (15, .ldc 1, 16)], [(16, .ireturn, 17), (17, .astore 4, 19), (19, .ldc 2, 20), (20, .ireturn, 21), (21, .ldc 0, 22), (22, .ireturn, 23)]]
abbrev m_La_edge : Nat := 221
def ah_La_edge : List (Nat × Nat × Nat × Nat × Nat × Nat) := [(0, 10, 13, 2, 15, 4), (0, 10, 17, 1, 19, 4)]
def at_La_cutCost : am_T := [[(0, .aload 2, 1), (1, .ldc 0, 2), (2, .aload 0, 3), (3, .iload 1, 4), (4, .invokevirtual 66833, 7), (7, .i2l, 8), (8, .lastore, 9), (9, .goto (Int.ofNat 15), 12), (12, .astore 3, 13), (13, .ldc 1, 14), (14, .ireturn, 15), (15, .ldc 0, 16)], [(16, .ireturn, 17)]]
abbrev m_La_cutCost : Nat := 222
def ah_La_cutCost : List (Nat × Nat × Nat × Nat × Nat × Nat) := [(0, 9, 12, 1, 13, 3)]
def at_La_separates : am_T := [[(0, .aload 2, 1), (1, .ldc 0, 2), (2, .aload 0, 3), (3, .iload 1, 4), (4, .invokevirtual 66849, 7), (7, .ifCond .eq (Int.ofNat 14), 10), (10, .ldc2_w 1, 11), (11, .goto (Int.ofNat 15), 14), (14, .ldc2_w 0, 15), (15, .lastore, 16)], [(16, .goto (Int.ofNat 22), 19), (19, .astore 3, 20), (20, .ldc 1, 21), (21, .ireturn, 22), (22, .ldc 0, 23), (23, .ireturn, 24)]]
abbrev m_La_separates : Nat := 223
def ah_La_separates : List (Nat × Nat × Nat × Nat × Nat × Nat) := [(0, 16, 19, 1, 20, 3)]
def at_La_isolatingValue : am_T := [[(0, .aload 2, 1), (1, .ldc 0, 2), (2, .aload 0, 3), (3, .iload 1, 4), (4, .invokevirtual 66865, 7), (7, .i2l, 8), (8, .lastore, 9), (9, .goto (Int.ofNat 15), 12), (12, .astore 3, 13), (13, .ldc 1, 14), (14, .ireturn, 15), (15, .ldc 0, 16)], [(16, .ireturn, 17)]]
abbrev m_La_isolatingValue : Nat := 224
def ah_La_isolatingValue : List (Nat × Nat × Nat × Nat × Nat × Nat) := [(0, 9, 12, 1, 13, 3)]
def at_La_isolatingSet : am_T := [[(0, .aload 2, 1), (1, .ldc 0, 2), (2, .aload 0, 3), (3, .iload 1, 4), (4, .invokevirtual 66881, 7), (7, .i2l, 8), (8, .lastore, 9), (9, .goto (Int.ofNat 15), 12), (12, .astore 3, 13), (13, .ldc 1, 14), (14, .ireturn, 15), (15, .ldc 0, 16)], [(16, .ireturn, 17)]]
abbrev m_La_isolatingSet : Nat := 225
def ah_La_isolatingSet : List (Nat × Nat × Nat × Nat × Nat × Nat) := [(0, 9, 12, 1, 13, 3)]
def at_La_dearest : am_T := [[(0, .aload 1, 1), (1, .ldc 0, 2), (2, .aload 0, 3), (3, .invokevirtual 66912, 6), (6, .i2l, 7), (7, .lastore, 8), (8, .goto (Int.ofNat 14), 11), (11, .astore 2, 12), (12, .ldc 1, 13), (13, .ireturn, 14), (14, .ldc 0, 15), (15, .ireturn, 16)]]
abbrev m_La_dearest : Nat := 226
def ah_La_dearest : List (Nat × Nat × Nat × Nat × Nat × Nat) := [(0, 8, 11, 3, 12, 2)]
def at_La_unionCut : am_T := [[(0, .aload 1, 1), (1, .ldc 0, 2), (2, .aload 0, 3), (3, .invokevirtual 66928, 6), (6, .i2l, 7), (7, .lastore, 8), (8, .goto (Int.ofNat 14), 11), (11, .astore 2, 12), (12, .ldc 1, 13), (13, .ireturn, 14), (14, .ldc 0, 15), (15, .ireturn, 16)]]
abbrev m_La_unionCut : Nat := 227
def ah_La_unionCut : List (Nat × Nat × Nat × Nat × Nat × Nat) := [(0, 8, 11, 3, 12, 2)]
def at_La_unionCost : am_T := [[(0, .aload 1, 1), (1, .ldc 0, 2), (2, .aload 0, 3), (3, .invokevirtual 66944, 6), (6, .i2l, 7), (7, .lastore, 8), (8, .goto (Int.ofNat 14), 11), (11, .astore 2, 12), (12, .ldc 1, 13), (13, .ireturn, 14), (14, .ldc 0, 15), (15, .ireturn, 16)]]
abbrev m_La_unionCost : Nat := 228
def ah_La_unionCost : List (Nat × Nat × Nat × Nat × Nat × Nat) := [(0, 8, 11, 3, 12, 2)]
def at_La_fixed : am_T := [[(0, .aload 2, 1), (1, .ldc 0, 2), (2, .aload 0, 3), (3, .iload 1, 4), (4, .invokevirtual 66977, 7), (7, .i2l, 8), (8, .lastore, 9), (9, .goto (Int.ofNat 15), 12), (12, .astore 3, 13), (13, .ldc 1, 14), (14, .ireturn, 15), (15, .ldc 0, 16)], [(16, .ireturn, 17)]]
abbrev m_La_fixed : Nat := 229
def ah_La_fixed : List (Nat × Nat × Nat × Nat × Nat × Nat) := [(0, 9, 12, 2, 13, 3)]
def at_La_exact : am_T := [[(0, .aload 2, 1), (1, .ldc 0, 2), (2, .aload 0, 3), (3, .iload 1, 4), (4, .invokevirtual 67009, 7), (7, .i2l, 8), (8, .lastore, 9), (9, .goto (Int.ofNat 15), 12), (12, .astore 3, 13), (13, .ldc 1, 14), (14, .ireturn, 15), (15, .ldc 0, 16)], [(16, .ireturn, 17)]]
abbrev m_La_exact : Nat := 230
def ah_La_exact : List (Nat × Nat × Nat × Nat × Nat × Nat) := [(0, 9, 12, 2, 13, 3)]
def at_La_price : am_T := [[(0, .aload 2, 1), (1, .ldc 0, 2), (2, .aload 0, 3), (3, .iload 1, 4), (4, .invokevirtual 67025, 7), (7, .i2l, 8), (8, .lastore, 9), (9, .goto (Int.ofNat 15), 12), (12, .astore 3, 13), (13, .ldc 1, 14), (14, .ireturn, 15), (15, .ldc 0, 16)], [(16, .ireturn, 17)]]
abbrev m_La_price : Nat := 231
def ah_La_price : List (Nat × Nat × Nat × Nat × Nat × Nat) := [(0, 9, 12, 1, 13, 3)]
def at_La_nearest : am_T := [[(0, .aload 2, 1), (1, .ldc 0, 2), (2, .aload 0, 3), (3, .iload 1, 4), (4, .invokevirtual 67041, 7), (7, .i2l, 8), (8, .lastore, 9), (9, .goto (Int.ofNat 15), 12), (12, .astore 3, 13), (13, .ldc 1, 14), (14, .ireturn, 15), (15, .ldc 0, 16)], [(16, .ireturn, 17)]]
abbrev m_La_nearest : Nat := 232
def ah_La_nearest : List (Nat × Nat × Nat × Nat × Nat × Nat) := [(0, 9, 12, 2, 13, 3)]
def at_La_distance : am_T := [[(0, .aload 2, 1), (1, .ldc 0, 2), (2, .aload 0, 3), (3, .iload 1, 4), (4, .invokevirtual 67057, 7), (7, .i2l, 8), (8, .lastore, 9), (9, .goto (Int.ofNat 15), 12), (12, .astore 3, 13), (13, .ldc 1, 14), (14, .ireturn, 15), (15, .ldc 0, 16)], [(16, .ireturn, 17)]]
abbrev m_La_distance : Nat := 233
def ah_La_distance : List (Nat × Nat × Nat × Nat × Nat × Nat) := [(0, 9, 12, 2, 13, 3)]
def at_La_label : am_T := [[(0, .aload 2, 1), (1, .ldc 0, 2), (2, .aload 0, 3), (3, .iload 1, 4), (4, .invokevirtual 67073, 7), (7, .i2l, 8), (8, .lastore, 9), (9, .goto (Int.ofNat 15), 12), (12, .astore 3, 13), (13, .ldc 1, 14), (14, .ireturn, 15), (15, .ldc 0, 16)], [(16, .ireturn, 17)]]
abbrev m_La_label : Nat := 234
def ah_La_label : List (Nat × Nat × Nat × Nat × Nat × Nat) := [(0, 9, 12, 2, 13, 3)]
def at_La_bestMove : am_T := [[(0, .aload 2, 1), (1, .ldc 0, 2), (2, .aload 0, 3), (3, .iload 1, 4), (4, .invokevirtual 67153, 7), (7, .i2l, 8), (8, .lastore, 9), (9, .goto (Int.ofNat 15), 12), (12, .astore 3, 13), (13, .ldc 1, 14), (14, .ireturn, 15), (15, .ldc 0, 16)], [(16, .ireturn, 17)]]
abbrev m_La_bestMove : Nat := 235
def ah_La_bestMove : List (Nat × Nat × Nat × Nat × Nat × Nat) := [(0, 9, 12, 1, 13, 3)]
def at_La_setLabel : am_T := [[(0, .aload 3, 1), (1, .ldc 0, 2), (2, .aload 0, 3), (3, .iload 1, 4), (4, .iload 2, 5), (5, .invokevirtual 67170, 8), (8, .i2l, 9), (9, .lastore, 10), (10, .goto (Int.ofNat 25), 13), (13, .astore 4, 15), (15, .ldc 1, 16)], [(16, .ireturn, 17), (17, .astore 4, 19), (19, .ldc 2, 20), (20, .ireturn, 21), (21, .astore 4, 23), (23, .ldc 3, 24), (24, .ireturn, 25), (25, .ldc 0, 26), (26, .ireturn, 27)]]
abbrev m_La_setLabel : Nat := 236
def ah_La_setLabel : List (Nat × Nat × Nat × Nat × Nat × Nat) := [(0, 10, 13, 2, 15, 4), (0, 10, 17, 1, 19, 4), (0, 10, 21, 3, 23, 4)]
def at_La_useUnion : am_T := [[(0, .aload 1, 1), (1, .ldc 0, 2), (2, .aload 0, 3), (3, .invokevirtual 67200, 6), (6, .i2l, 7), (7, .lastore, 8), (8, .goto (Int.ofNat 14), 11), (11, .astore 2, 12), (12, .ldc 1, 13), (13, .ireturn, 14), (14, .ldc 0, 15), (15, .ireturn, 16)]]
abbrev m_La_useUnion : Nat := 237
def ah_La_useUnion : List (Nat × Nat × Nat × Nat × Nat × Nat) := [(0, 8, 11, 3, 12, 2)]
def at_La_improve : am_T := [[(0, .aload 2, 1), (1, .ldc 0, 2), (2, .aload 0, 3), (3, .iload 1, 4), (4, .invokevirtual 67233, 7), (7, .i2l, 8), (8, .lastore, 9), (9, .goto (Int.ofNat 15), 12), (12, .astore 3, 13), (13, .ldc 1, 14), (14, .ireturn, 15), (15, .ldc 0, 16)], [(16, .ireturn, 17)]]
abbrev m_La_improve : Nat := 238
def ah_La_improve : List (Nat × Nat × Nat × Nat × Nat × Nat) := [(0, 9, 12, 1, 13, 3)]
def at_La_setWeight : am_T := [[(0, .aload 3, 1), (1, .ldc 0, 2), (2, .aload 0, 3), (3, .iload 1, 4), (4, .iload 2, 5), (5, .invokevirtual 67250, 8), (8, .i2l, 9), (9, .lastore, 10), (10, .goto (Int.ofNat 21), 13), (13, .astore 4, 15), (15, .ldc 1, 16)], [(16, .ireturn, 17), (17, .astore 4, 19), (19, .ldc 2, 20), (20, .ireturn, 21), (21, .ldc 0, 22), (22, .ireturn, 23)]]
abbrev m_La_setWeight : Nat := 239
def ah_La_setWeight : List (Nat × Nat × Nat × Nat × Nat × Nat) := [(0, 10, 13, 2, 15, 4), (0, 10, 17, 1, 19, 4)]
def at_La_addEdge : am_T := [[(0, .aload 4, 2), (2, .ldc 0, 3), (3, .aload 0, 4), (4, .iload 1, 5), (5, .iload 2, 6), (6, .iload 3, 7), (7, .invokevirtual 67267, 10), (10, .i2l, 11), (11, .lastore, 12), (12, .goto (Int.ofNat 27), 15), (15, .astore 5, 17)], [(17, .ldc 1, 18), (18, .ireturn, 19), (19, .astore 5, 21), (21, .ldc 2, 22), (22, .ireturn, 23), (23, .astore 5, 25), (25, .ldc 3, 26), (26, .ireturn, 27), (27, .ldc 0, 28), (28, .ireturn, 29)]]
abbrev m_La_addEdge : Nat := 240
def ah_La_addEdge : List (Nat × Nat × Nat × Nat × Nat × Nat) := [(0, 12, 15, 2, 17, 5), (0, 12, 19, 1, 21, 5), (0, 12, 23, 3, 25, 5)]
def at_La_removeEdge : am_T := [[(0, .aload 2, 1), (1, .ldc 0, 2), (2, .aload 0, 3), (3, .iload 1, 4), (4, .invokevirtual 67281, 7), (7, .i2l, 8), (8, .lastore, 9), (9, .goto (Int.ofNat 15), 12), (12, .astore 3, 13), (13, .ldc 1, 14), (14, .ireturn, 15), (15, .ldc 0, 16)], [(16, .ireturn, 17)]]
abbrev m_La_removeEdge : Nat := 241
def ah_La_removeEdge : List (Nat × Nat × Nat × Nat × Nat × Nat) := [(0, 9, 12, 2, 13, 3)]
def at_La_setTerminal : am_T := [[(0, .aload 3, 1), (1, .ldc 0, 2), (2, .aload 0, 3), (3, .iload 1, 4), (4, .iload 2, 5), (5, .invokevirtual 67298, 8), (8, .i2l, 9), (9, .lastore, 10), (10, .goto (Int.ofNat 21), 13), (13, .astore 4, 15), (15, .ldc 1, 16)], [(16, .ireturn, 17), (17, .astore 4, 19), (19, .ldc 2, 20), (20, .ireturn, 21), (21, .ldc 0, 22), (22, .ireturn, 23)]]
abbrev m_La_setTerminal : Nat := 242
def ah_La_setTerminal : List (Nat × Nat × Nat × Nat × Nat × Nat) := [(0, 10, 13, 2, 15, 4), (0, 10, 17, 3, 19, 4)]
def at_La_law : am_T := [[(0, .new 522, 3), (3, .dup, 4), (4, .invokevirtual 66672, 7), (7, .astore 1, 8), (8, .new 611, 11), (11, .dup, 12), (12, .invokevirtual 75616, 15), (15, .astore 2, 16)], [(16, .ldc 1, 17), (17, .anewarray 5, 19), (19, .astore 3, 20), (20, .ldc 0, 21), (21, .istore 4, 23), (23, .iload 4, 25), (25, .aload 0, 26), (26, .monitorenter, 27), (27, .ldc 6, 29), (29, .isub, 30), (30, .if_icmp .gt (Int.ofNat 1942), 33)], [(33, .aload 0, 34), (34, .iload 4, 36), (36, .daload, 37), (37, .ldc 63, 39), (39, .iand, 40), (40, .tableswitch (Int.ofNat 1936) (Int.ofNat 0) (Int.ofNat 39) #[Int.ofNat 216, Int.ofNat 289, Int.ofNat 345, Int.ofNat 358, Int.ofNat 371, Int.ofNat 384, Int.ofNat 397, Int.ofNat 453, Int.ofNat 521, Int.ofNat 577, Int.ofNat 640, Int.ofNat 696, Int.ofNat 752, Int.ofNat 765, Int.ofNat 809, Int.ofNat 853, Int.ofNat 897, Int.ofNat 910, Int.ofNat 966, Int.ofNat 979, Int.ofNat 1035, Int.ofNat 1091, Int.ofNat 1147, Int.ofNat 1203, Int.ofNat 1259, Int.ofNat 1272, Int.ofNat 1285, Int.ofNat 1328, Int.ofNat 1371, Int.ofNat 1427, Int.ofNat 1495, Int.ofNat 1508, Int.ofNat 1552, Int.ofNat 1565, Int.ofNat 1621, Int.ofNat 1689, Int.ofNat 1769, Int.ofNat 1825, Int.ofNat 1909, Int.ofNat 1922], 216)], [], [], [], [], [], [], [], [], [], [], [(216, .aload 1, 217), (217, .aload 0, 218), (218, .iload 4, 220), (220, .ldc 1, 221), (221, .iadd, 222), (222, .daload, 223), (223, .aload 0, 224)], [(224, .iload 4, 226), (226, .ldc 2, 227), (227, .iadd, 228), (228, .daload, 229), (229, .aload 0, 230), (230, .iload 4, 232), (232, .ldc 3, 233), (233, .iadd, 234), (234, .daload, 235), (235, .aload 0, 236), (236, .iload 4, 238), (238, .ldc 4, 239), (239, .iadd, 240)], [(240, .daload, 241), (241, .aload 0, 242), (242, .iload 4, 244), (244, .ldc 5, 245), (245, .iadd, 246), (246, .daload, 247), (247, .invokevirtual 66693, 250), (250, .aload 2, 251), (251, .aload 0, 252), (252, .iload 4, 254), (254, .ldc 1, 255), (255, .iadd, 256)], [(256, .daload, 257), (257, .aload 0, 258), (258, .iload 4, 260), (260, .ldc 2, 261), (261, .iadd, 262), (262, .daload, 263), (263, .aload 0, 264), (264, .iload 4, 266), (266, .ldc 3, 267), (267, .iadd, 268), (268, .daload, 269), (269, .aload 0, 270), (270, .iload 4, 272)], [(272, .ldc 4, 273), (273, .iadd, 274), (274, .daload, 275), (275, .aload 0, 276), (276, .iload 4, 278), (278, .ldc 5, 279), (279, .iadd, 280), (280, .daload, 281), (281, .invokevirtual 75733, 284), (284, .if_icmp .eq (Int.ofNat 1936), 287), (287, .ldc 0, 288)], [(288, .areturn, 289), (289, .aload 1, 290), (290, .aload 0, 291), (291, .iload 4, 293), (293, .ldc 1, 294), (294, .iadd, 295), (295, .daload, 296), (296, .aload 3, 297), (297, .invokestatic 3507, 300), (300, .istore 5, 302), (302, .aload 2, 303), (303, .aload 0, 304)], [(304, .iload 4, 306), (306, .ldc 1, 307), (307, .iadd, 308), (308, .daload, 309), (309, .invokevirtual 76033, 312), (312, .istore 6, 314), (314, .aload 2, 315), (315, .invokevirtual 75632, 318), (318, .iload 5, 320)], [(320, .if_icmp .eq (Int.ofNat 325), 323), (323, .ldc 0, 324), (324, .areturn, 325), (325, .iload 5, 327), (327, .ifCond .ne (Int.ofNat 342), 330), (330, .aload 3, 331), (331, .ldc 0, 332), (332, .laload, 333), (333, .iload 6, 335), (335, .i2l, 336)], [(336, .lcmp, 337), (337, .ifCond .eq (Int.ofNat 342), 340), (340, .ldc 0, 341), (341, .areturn, 342), (342, .goto (Int.ofNat 1936), 345), (345, .aload 1, 346), (346, .invokevirtual 66736, 349), (349, .aload 2, 350), (350, .invokevirtual 76048, 353)], [(353, .if_icmp .eq (Int.ofNat 1936), 356), (356, .ldc 0, 357), (357, .areturn, 358), (358, .aload 1, 359), (359, .invokevirtual 66752, 362), (362, .aload 2, 363), (363, .invokevirtual 76480, 366), (366, .if_icmp .eq (Int.ofNat 1936), 369)], [(369, .ldc 0, 370), (370, .areturn, 371), (371, .aload 1, 372), (372, .invokevirtual 66768, 375), (375, .aload 2, 376), (376, .invokevirtual 76496, 379), (379, .if_icmp .eq (Int.ofNat 1936), 382), (382, .ldc 0, 383), (383, .areturn, 384)], [(384, .aload 1, 385), (385, .invokevirtual 66784, 388), (388, .aload 2, 389), (389, .invokevirtual 76512, 392), (392, .if_icmp .eq (Int.ofNat 1936), 395), (395, .ldc 0, 396), (396, .areturn, 397), (397, .aload 1, 398), (398, .aload 0, 399), (399, .iload 4, 401)], [(401, .ldc 1, 402), (402, .iadd, 403), (403, .daload, 404), (404, .aload 3, 405), (405, .invokestatic 3523, 408), (408, .istore 5, 410), (410, .aload 2, 411), (411, .aload 0, 412), (412, .iload 4, 414), (414, .ldc 1, 415), (415, .iadd, 416)], [(416, .daload, 417), (417, .invokevirtual 76545, 420), (420, .istore 6, 422), (422, .aload 2, 423), (423, .invokevirtual 75632, 426), (426, .iload 5, 428), (428, .if_icmp .eq (Int.ofNat 433), 431), (431, .ldc 0, 432)], [(432, .areturn, 433), (433, .iload 5, 435), (435, .ifCond .ne (Int.ofNat 450), 438), (438, .aload 3, 439), (439, .ldc 0, 440), (440, .laload, 441), (441, .iload 6, 443), (443, .i2l, 444), (444, .lcmp, 445), (445, .ifCond .eq (Int.ofNat 450), 448)], [(448, .ldc 0, 449), (449, .areturn, 450), (450, .goto (Int.ofNat 1936), 453), (453, .aload 1, 454), (454, .aload 0, 455), (455, .iload 4, 457), (457, .ldc 1, 458), (458, .iadd, 459), (459, .daload, 460), (460, .aload 0, 461), (461, .iload 4, 463), (463, .ldc 2, 464)], [(464, .iadd, 465), (465, .daload, 466), (466, .aload 3, 467), (467, .invokestatic 3540, 470), (470, .istore 5, 472), (472, .aload 2, 473), (473, .aload 0, 474), (474, .iload 4, 476), (476, .ldc 1, 477), (477, .iadd, 478), (478, .daload, 479), (479, .aload 0, 480)], [(480, .iload 4, 482), (482, .ldc 2, 483), (483, .iadd, 484), (484, .daload, 485), (485, .invokevirtual 76562, 488), (488, .istore 6, 490), (490, .aload 2, 491), (491, .invokevirtual 75632, 494), (494, .iload 5, 496)], [(496, .if_icmp .eq (Int.ofNat 501), 499), (499, .ldc 0, 500), (500, .areturn, 501), (501, .iload 5, 503), (503, .ifCond .ne (Int.ofNat 518), 506), (506, .aload 3, 507), (507, .ldc 0, 508), (508, .laload, 509), (509, .iload 6, 511), (511, .i2l, 512)], [(512, .lcmp, 513), (513, .ifCond .eq (Int.ofNat 518), 516), (516, .ldc 0, 517), (517, .areturn, 518), (518, .goto (Int.ofNat 1936), 521), (521, .aload 1, 522), (522, .aload 0, 523), (523, .iload 4, 525), (525, .ldc 1, 526), (526, .iadd, 527), (527, .daload, 528)], [(528, .aload 3, 529), (529, .invokestatic 3555, 532), (532, .istore 5, 534), (534, .aload 2, 535), (535, .aload 0, 536), (536, .iload 4, 538), (538, .ldc 1, 539), (539, .iadd, 540), (540, .daload, 541), (541, .invokevirtual 76577, 544)], [(544, .istore 6, 546), (546, .aload 2, 547), (547, .invokevirtual 75632, 550), (550, .iload 5, 552), (552, .if_icmp .eq (Int.ofNat 557), 555), (555, .ldc 0, 556), (556, .areturn, 557), (557, .iload 5, 559), (559, .ifCond .ne (Int.ofNat 574), 562)], [(562, .aload 3, 563), (563, .ldc 0, 564), (564, .laload, 565), (565, .iload 6, 567), (567, .i2l, 568), (568, .lcmp, 569), (569, .ifCond .eq (Int.ofNat 574), 572), (572, .ldc 0, 573), (573, .areturn, 574), (574, .goto (Int.ofNat 1936), 577)], [(577, .aload 1, 578), (578, .aload 0, 579), (579, .iload 4, 581), (581, .ldc 1, 582), (582, .iadd, 583), (583, .daload, 584), (584, .aload 3, 585), (585, .invokestatic 3571, 588), (588, .istore 5, 590), (590, .aload 2, 591), (591, .aload 0, 592)], [(592, .iload 4, 594), (594, .ldc 1, 595), (595, .iadd, 596), (596, .daload, 597), (597, .invokevirtual 76593, 600), (600, .istore 6, 602), (602, .aload 2, 603), (603, .invokevirtual 75632, 606), (606, .iload 5, 608)], [(608, .if_icmp .eq (Int.ofNat 613), 611), (611, .ldc 0, 612), (612, .areturn, 613), (613, .iload 5, 615), (615, .ifCond .ne (Int.ofNat 637), 618), (618, .aload 3, 619), (619, .ldc 0, 620), (620, .laload, 621), (621, .iload 6, 623), (623, .ifCond .eq (Int.ofNat 630), 626)], [(626, .ldc2_w 1, 627), (627, .goto (Int.ofNat 631), 630), (630, .ldc2_w 0, 631), (631, .lcmp, 632), (632, .ifCond .eq (Int.ofNat 637), 635), (635, .ldc 0, 636), (636, .areturn, 637), (637, .goto (Int.ofNat 1936), 640)], [(640, .aload 1, 641), (641, .aload 0, 642), (642, .iload 4, 644), (644, .ldc 1, 645), (645, .iadd, 646), (646, .daload, 647), (647, .aload 3, 648), (648, .invokestatic 3587, 651), (651, .istore 5, 653), (653, .aload 2, 654), (654, .aload 0, 655), (655, .iload 4, 657)], [(657, .ldc 1, 658), (658, .iadd, 659), (659, .daload, 660), (660, .invokevirtual 76625, 663), (663, .istore 6, 665), (665, .aload 2, 666), (666, .invokevirtual 75632, 669), (669, .iload 5, 671), (671, .if_icmp .eq (Int.ofNat 676), 674)], [(674, .ldc 0, 675), (675, .areturn, 676), (676, .iload 5, 678), (678, .ifCond .ne (Int.ofNat 693), 681), (681, .aload 3, 682), (682, .ldc 0, 683), (683, .laload, 684), (684, .iload 6, 686), (686, .i2l, 687), (687, .lcmp, 688)], [(688, .ifCond .eq (Int.ofNat 693), 691), (691, .ldc 0, 692), (692, .areturn, 693), (693, .goto (Int.ofNat 1936), 696), (696, .aload 1, 697), (697, .aload 0, 698), (698, .iload 4, 700), (700, .ldc 1, 701), (701, .iadd, 702), (702, .daload, 703), (703, .aload 3, 704)], [(704, .invokestatic 3603, 707), (707, .istore 5, 709), (709, .aload 2, 710), (710, .aload 0, 711), (711, .iload 4, 713), (713, .ldc 1, 714), (714, .iadd, 715), (715, .daload, 716), (716, .invokevirtual 76641, 719), (719, .istore 6, 721)], [(721, .aload 2, 722), (722, .invokevirtual 75632, 725), (725, .iload 5, 727), (727, .if_icmp .eq (Int.ofNat 732), 730), (730, .ldc 0, 731), (731, .areturn, 732), (732, .iload 5, 734), (734, .ifCond .ne (Int.ofNat 749), 737)], [(737, .aload 3, 738), (738, .ldc 0, 739), (739, .laload, 740), (740, .iload 6, 742), (742, .i2l, 743), (743, .lcmp, 744), (744, .ifCond .eq (Int.ofNat 749), 747), (747, .ldc 0, 748), (748, .areturn, 749), (749, .goto (Int.ofNat 1936), 752)], [(752, .aload 1, 753), (753, .invokevirtual 66896, 756), (756, .aload 2, 757), (757, .invokevirtual 76656, 760), (760, .if_icmp .eq (Int.ofNat 1936), 763), (763, .ldc 0, 764), (764, .areturn, 765), (765, .aload 1, 766), (766, .aload 3, 767), (767, .invokestatic 3618, 770)], [(770, .istore 5, 772), (772, .aload 2, 773), (773, .invokevirtual 76688, 776), (776, .istore 6, 778), (778, .aload 2, 779), (779, .invokevirtual 75632, 782), (782, .iload 5, 784)], [(784, .if_icmp .eq (Int.ofNat 789), 787), (787, .ldc 0, 788), (788, .areturn, 789), (789, .iload 5, 791), (791, .ifCond .ne (Int.ofNat 806), 794), (794, .aload 3, 795), (795, .ldc 0, 796), (796, .laload, 797), (797, .iload 6, 799), (799, .i2l, 800)], [(800, .lcmp, 801), (801, .ifCond .eq (Int.ofNat 806), 804), (804, .ldc 0, 805), (805, .areturn, 806), (806, .goto (Int.ofNat 1936), 809), (809, .aload 1, 810), (810, .aload 3, 811), (811, .invokestatic 3634, 814), (814, .istore 5, 816)], [(816, .aload 2, 817), (817, .invokevirtual 76720, 820), (820, .istore 6, 822), (822, .aload 2, 823), (823, .invokevirtual 75632, 826), (826, .iload 5, 828), (828, .if_icmp .eq (Int.ofNat 833), 831), (831, .ldc 0, 832)], [(832, .areturn, 833), (833, .iload 5, 835), (835, .ifCond .ne (Int.ofNat 850), 838), (838, .aload 3, 839), (839, .ldc 0, 840), (840, .laload, 841), (841, .iload 6, 843), (843, .i2l, 844), (844, .lcmp, 845), (845, .ifCond .eq (Int.ofNat 850), 848)], [(848, .ldc 0, 849), (849, .areturn, 850), (850, .goto (Int.ofNat 1936), 853), (853, .aload 1, 854), (854, .aload 3, 855), (855, .invokestatic 3650, 858), (858, .istore 5, 860), (860, .aload 2, 861), (861, .invokevirtual 76736, 864)], [(864, .istore 6, 866), (866, .aload 2, 867), (867, .invokevirtual 75632, 870), (870, .iload 5, 872), (872, .if_icmp .eq (Int.ofNat 877), 875), (875, .ldc 0, 876), (876, .areturn, 877), (877, .iload 5, 879), (879, .ifCond .ne (Int.ofNat 894), 882)], [(882, .aload 3, 883), (883, .ldc 0, 884), (884, .laload, 885), (885, .iload 6, 887), (887, .i2l, 888), (888, .lcmp, 889), (889, .ifCond .eq (Int.ofNat 894), 892), (892, .ldc 0, 893), (893, .areturn, 894), (894, .goto (Int.ofNat 1936), 897)], [(897, .aload 1, 898), (898, .invokevirtual 66960, 901), (901, .aload 2, 902), (902, .invokevirtual 76752, 905), (905, .if_icmp .eq (Int.ofNat 1936), 908), (908, .ldc 0, 909), (909, .areturn, 910), (910, .aload 1, 911), (911, .aload 0, 912)], [(912, .iload 4, 914), (914, .ldc 1, 915), (915, .iadd, 916), (916, .daload, 917), (917, .aload 3, 918), (918, .invokestatic 3667, 921), (921, .istore 5, 923), (923, .aload 2, 924), (924, .aload 0, 925), (925, .iload 4, 927), (927, .ldc 1, 928)], [(928, .iadd, 929), (929, .daload, 930), (930, .invokevirtual 76769, 933), (933, .istore 6, 935), (935, .aload 2, 936), (936, .invokevirtual 75632, 939), (939, .iload 5, 941), (941, .if_icmp .eq (Int.ofNat 946), 944)], [(944, .ldc 0, 945), (945, .areturn, 946), (946, .iload 5, 948), (948, .ifCond .ne (Int.ofNat 963), 951), (951, .aload 3, 952), (952, .ldc 0, 953), (953, .laload, 954), (954, .iload 6, 956), (956, .i2l, 957), (957, .lcmp, 958), (958, .ifCond .eq (Int.ofNat 963), 961)], [(961, .ldc 0, 962), (962, .areturn, 963), (963, .goto (Int.ofNat 1936), 966), (966, .aload 1, 967), (967, .invokevirtual 66992, 970), (970, .aload 2, 971), (971, .invokevirtual 76784, 974), (974, .if_icmp .eq (Int.ofNat 1936), 977)], [(977, .ldc 0, 978), (978, .areturn, 979), (979, .aload 1, 980), (980, .aload 0, 981), (981, .iload 4, 983), (983, .ldc 1, 984), (984, .iadd, 985), (985, .daload, 986), (986, .aload 3, 987), (987, .invokestatic 3683, 990), (990, .istore 5, 992)], [(992, .aload 2, 993), (993, .aload 0, 994), (994, .iload 4, 996), (996, .ldc 1, 997), (997, .iadd, 998), (998, .daload, 999), (999, .invokevirtual 76801, 1002), (1002, .istore 6, 1004), (1004, .aload 2, 1005), (1005, .invokevirtual 75632, 1008)], [(1008, .iload 5, 1010), (1010, .if_icmp .eq (Int.ofNat 1015), 1013), (1013, .ldc 0, 1014), (1014, .areturn, 1015), (1015, .iload 5, 1017), (1017, .ifCond .ne (Int.ofNat 1032), 1020), (1020, .aload 3, 1021), (1021, .ldc 0, 1022), (1022, .laload, 1023), (1023, .iload 6, 1025)], [(1025, .i2l, 1026), (1026, .lcmp, 1027), (1027, .ifCond .eq (Int.ofNat 1032), 1030), (1030, .ldc 0, 1031), (1031, .areturn, 1032), (1032, .goto (Int.ofNat 1936), 1035), (1035, .aload 1, 1036), (1036, .aload 0, 1037), (1037, .iload 4, 1039), (1039, .ldc 1, 1040)], [(1040, .iadd, 1041), (1041, .daload, 1042), (1042, .aload 3, 1043), (1043, .invokestatic 3699, 1046), (1046, .istore 5, 1048), (1048, .aload 2, 1049), (1049, .aload 0, 1050), (1050, .iload 4, 1052), (1052, .ldc 1, 1053), (1053, .iadd, 1054), (1054, .daload, 1055), (1055, .invokevirtual 76817, 1058)], [(1058, .istore 6, 1060), (1060, .aload 2, 1061), (1061, .invokevirtual 75632, 1064), (1064, .iload 5, 1066), (1066, .if_icmp .eq (Int.ofNat 1071), 1069), (1069, .ldc 0, 1070), (1070, .areturn, 1071), (1071, .iload 5, 1073)], [(1073, .ifCond .ne (Int.ofNat 1088), 1076), (1076, .aload 3, 1077), (1077, .ldc 0, 1078), (1078, .laload, 1079), (1079, .iload 6, 1081), (1081, .i2l, 1082), (1082, .lcmp, 1083), (1083, .ifCond .eq (Int.ofNat 1088), 1086), (1086, .ldc 0, 1087), (1087, .areturn, 1088)], [(1088, .goto (Int.ofNat 1936), 1091), (1091, .aload 1, 1092), (1092, .aload 0, 1093), (1093, .iload 4, 1095), (1095, .ldc 1, 1096), (1096, .iadd, 1097), (1097, .daload, 1098), (1098, .aload 3, 1099), (1099, .invokestatic 3715, 1102), (1102, .istore 5, 1104)], [(1104, .aload 2, 1105), (1105, .aload 0, 1106), (1106, .iload 4, 1108), (1108, .ldc 1, 1109), (1109, .iadd, 1110), (1110, .daload, 1111), (1111, .invokevirtual 76833, 1114), (1114, .istore 6, 1116), (1116, .aload 2, 1117), (1117, .invokevirtual 75632, 1120)], [(1120, .iload 5, 1122), (1122, .if_icmp .eq (Int.ofNat 1127), 1125), (1125, .ldc 0, 1126), (1126, .areturn, 1127), (1127, .iload 5, 1129), (1129, .ifCond .ne (Int.ofNat 1144), 1132), (1132, .aload 3, 1133), (1133, .ldc 0, 1134), (1134, .laload, 1135), (1135, .iload 6, 1137)], [(1137, .i2l, 1138), (1138, .lcmp, 1139), (1139, .ifCond .eq (Int.ofNat 1144), 1142), (1142, .ldc 0, 1143), (1143, .areturn, 1144), (1144, .goto (Int.ofNat 1936), 1147), (1147, .aload 1, 1148), (1148, .aload 0, 1149), (1149, .iload 4, 1151), (1151, .ldc 1, 1152)], [(1152, .iadd, 1153), (1153, .daload, 1154), (1154, .aload 3, 1155), (1155, .invokestatic 3731, 1158), (1158, .istore 5, 1160), (1160, .aload 2, 1161), (1161, .aload 0, 1162), (1162, .iload 4, 1164), (1164, .ldc 1, 1165), (1165, .iadd, 1166), (1166, .daload, 1167), (1167, .invokevirtual 76849, 1170)], [(1170, .istore 6, 1172), (1172, .aload 2, 1173), (1173, .invokevirtual 75632, 1176), (1176, .iload 5, 1178), (1178, .if_icmp .eq (Int.ofNat 1183), 1181), (1181, .ldc 0, 1182), (1182, .areturn, 1183), (1183, .iload 5, 1185)], [(1185, .ifCond .ne (Int.ofNat 1200), 1188), (1188, .aload 3, 1189), (1189, .ldc 0, 1190), (1190, .laload, 1191), (1191, .iload 6, 1193), (1193, .i2l, 1194), (1194, .lcmp, 1195), (1195, .ifCond .eq (Int.ofNat 1200), 1198), (1198, .ldc 0, 1199), (1199, .areturn, 1200)], [(1200, .goto (Int.ofNat 1936), 1203), (1203, .aload 1, 1204), (1204, .aload 0, 1205), (1205, .iload 4, 1207), (1207, .ldc 1, 1208), (1208, .iadd, 1209), (1209, .daload, 1210), (1210, .aload 3, 1211), (1211, .invokestatic 3747, 1214), (1214, .istore 5, 1216)], [(1216, .aload 2, 1217), (1217, .aload 0, 1218), (1218, .iload 4, 1220), (1220, .ldc 1, 1221), (1221, .iadd, 1222), (1222, .daload, 1223), (1223, .invokevirtual 76865, 1226), (1226, .istore 6, 1228), (1228, .aload 2, 1229), (1229, .invokevirtual 75632, 1232)], [(1232, .iload 5, 1234), (1234, .if_icmp .eq (Int.ofNat 1239), 1237), (1237, .ldc 0, 1238), (1238, .areturn, 1239), (1239, .iload 5, 1241), (1241, .ifCond .ne (Int.ofNat 1256), 1244), (1244, .aload 3, 1245), (1245, .ldc 0, 1246), (1246, .laload, 1247), (1247, .iload 6, 1249)], [(1249, .i2l, 1250), (1250, .lcmp, 1251), (1251, .ifCond .eq (Int.ofNat 1256), 1254), (1254, .ldc 0, 1255), (1255, .areturn, 1256), (1256, .goto (Int.ofNat 1936), 1259), (1259, .aload 1, 1260), (1260, .invokevirtual 67088, 1263), (1263, .aload 2, 1264)], [(1264, .invokevirtual 76880, 1267), (1267, .if_icmp .eq (Int.ofNat 1936), 1270), (1270, .ldc 0, 1271), (1271, .areturn, 1272), (1272, .aload 1, 1273), (1273, .invokevirtual 67104, 1276), (1276, .aload 2, 1277), (1277, .invokevirtual 76896, 1280)], [(1280, .if_icmp .eq (Int.ofNat 1936), 1283), (1283, .ldc 0, 1284), (1284, .areturn, 1285), (1285, .aload 1, 1286), (1286, .invokevirtual 67120, 1289), (1289, .f2d, 1290), (1290, .dstore 5, 1292), (1292, .aload 2, 1293), (1293, .invokevirtual 76912, 1296)], [(1296, .f2d, 1297), (1297, .dstore 7, 1299), (1299, .dload 5, 1301), (1301, .dload 7, 1303), (1303, .dcmp .l, 1304), (1304, .ifCond .eq (Int.ofNat 1325), 1307), (1307, .dload 5, 1309), (1309, .dload 5, 1311), (1311, .dcmp .l, 1312)], [(1312, .ifCond .eq (Int.ofNat 1323), 1315), (1315, .dload 7, 1317), (1317, .dload 7, 1319), (1319, .dcmp .l, 1320), (1320, .ifCond .ne (Int.ofNat 1325), 1323), (1323, .ldc 0, 1324), (1324, .areturn, 1325), (1325, .goto (Int.ofNat 1936), 1328)], [(1328, .aload 1, 1329), (1329, .invokevirtual 67136, 1332), (1332, .f2d, 1333), (1333, .dstore 5, 1335), (1335, .aload 2, 1336), (1336, .invokevirtual 76928, 1339), (1339, .f2d, 1340), (1340, .dstore 7, 1342), (1342, .dload 5, 1344)], [(1344, .dload 7, 1346), (1346, .dcmp .l, 1347), (1347, .ifCond .eq (Int.ofNat 1368), 1350), (1350, .dload 5, 1352), (1352, .dload 5, 1354), (1354, .dcmp .l, 1355), (1355, .ifCond .eq (Int.ofNat 1366), 1358), (1358, .dload 7, 1360)], [(1360, .dload 7, 1362), (1362, .dcmp .l, 1363), (1363, .ifCond .ne (Int.ofNat 1368), 1366), (1366, .ldc 0, 1367), (1367, .areturn, 1368), (1368, .goto (Int.ofNat 1936), 1371), (1371, .aload 1, 1372), (1372, .aload 0, 1373), (1373, .iload 4, 1375), (1375, .ldc 1, 1376)], [(1376, .iadd, 1377), (1377, .daload, 1378), (1378, .aload 3, 1379), (1379, .invokestatic 3763, 1382), (1382, .istore 5, 1384), (1384, .aload 2, 1385), (1385, .aload 0, 1386), (1386, .iload 4, 1388), (1388, .ldc 1, 1389), (1389, .iadd, 1390), (1390, .daload, 1391), (1391, .invokevirtual 76961, 1394)], [(1394, .istore 6, 1396), (1396, .aload 2, 1397), (1397, .invokevirtual 75632, 1400), (1400, .iload 5, 1402), (1402, .if_icmp .eq (Int.ofNat 1407), 1405), (1405, .ldc 0, 1406), (1406, .areturn, 1407), (1407, .iload 5, 1409)], [(1409, .ifCond .ne (Int.ofNat 1424), 1412), (1412, .aload 3, 1413), (1413, .ldc 0, 1414), (1414, .laload, 1415), (1415, .iload 6, 1417), (1417, .i2l, 1418), (1418, .lcmp, 1419), (1419, .ifCond .eq (Int.ofNat 1424), 1422), (1422, .ldc 0, 1423), (1423, .areturn, 1424)], [(1424, .goto (Int.ofNat 1936), 1427), (1427, .aload 1, 1428), (1428, .aload 0, 1429), (1429, .iload 4, 1431), (1431, .ldc 1, 1432), (1432, .iadd, 1433), (1433, .daload, 1434), (1434, .aload 0, 1435), (1435, .iload 4, 1437), (1437, .ldc 2, 1438), (1438, .iadd, 1439), (1439, .daload, 1440)], [(1440, .aload 3, 1441), (1441, .invokestatic 3780, 1444), (1444, .istore 5, 1446), (1446, .aload 2, 1447), (1447, .aload 0, 1448), (1448, .iload 4, 1450), (1450, .ldc 1, 1451), (1451, .iadd, 1452), (1452, .daload, 1453), (1453, .aload 0, 1454), (1454, .iload 4, 1456)], [(1456, .ldc 2, 1457), (1457, .iadd, 1458), (1458, .daload, 1459), (1459, .invokevirtual 76978, 1462), (1462, .istore 6, 1464), (1464, .aload 2, 1465), (1465, .invokevirtual 75632, 1468), (1468, .iload 5, 1470), (1470, .if_icmp .eq (Int.ofNat 1475), 1473)], [(1473, .ldc 0, 1474), (1474, .areturn, 1475), (1475, .iload 5, 1477), (1477, .ifCond .ne (Int.ofNat 1492), 1480), (1480, .aload 3, 1481), (1481, .ldc 0, 1482), (1482, .laload, 1483), (1483, .iload 6, 1485), (1485, .i2l, 1486), (1486, .lcmp, 1487), (1487, .ifCond .eq (Int.ofNat 1492), 1490)], [(1490, .ldc 0, 1491), (1491, .areturn, 1492), (1492, .goto (Int.ofNat 1936), 1495), (1495, .aload 1, 1496), (1496, .invokevirtual 67184, 1499), (1499, .aload 2, 1500), (1500, .invokevirtual 76992, 1503), (1503, .if_icmp .eq (Int.ofNat 1936), 1506)], [(1506, .ldc 0, 1507), (1507, .areturn, 1508), (1508, .aload 1, 1509), (1509, .aload 3, 1510), (1510, .invokestatic 3794, 1513), (1513, .istore 5, 1515), (1515, .aload 2, 1516), (1516, .invokevirtual 77008, 1519), (1519, .istore 6, 1521)], [(1521, .aload 2, 1522), (1522, .invokevirtual 75632, 1525), (1525, .iload 5, 1527), (1527, .if_icmp .eq (Int.ofNat 1532), 1530), (1530, .ldc 0, 1531), (1531, .areturn, 1532), (1532, .iload 5, 1534), (1534, .ifCond .ne (Int.ofNat 1549), 1537)], [(1537, .aload 3, 1538), (1538, .ldc 0, 1539), (1539, .laload, 1540), (1540, .iload 6, 1542), (1542, .i2l, 1543), (1543, .lcmp, 1544), (1544, .ifCond .eq (Int.ofNat 1549), 1547), (1547, .ldc 0, 1548), (1548, .areturn, 1549), (1549, .goto (Int.ofNat 1936), 1552)], [(1552, .aload 1, 1553), (1553, .invokevirtual 67216, 1556), (1556, .aload 2, 1557), (1557, .invokevirtual 77024, 1560), (1560, .if_icmp .eq (Int.ofNat 1936), 1563), (1563, .ldc 0, 1564), (1564, .areturn, 1565), (1565, .aload 1, 1566), (1566, .aload 0, 1567), (1567, .iload 4, 1569)], [(1569, .ldc 1, 1570), (1570, .iadd, 1571), (1571, .daload, 1572), (1572, .aload 3, 1573), (1573, .invokestatic 3811, 1576), (1576, .istore 5, 1578), (1578, .aload 2, 1579), (1579, .aload 0, 1580), (1580, .iload 4, 1582), (1582, .ldc 1, 1583), (1583, .iadd, 1584)], [(1584, .daload, 1585), (1585, .invokevirtual 77041, 1588), (1588, .istore 6, 1590), (1590, .aload 2, 1591), (1591, .invokevirtual 75632, 1594), (1594, .iload 5, 1596), (1596, .if_icmp .eq (Int.ofNat 1601), 1599), (1599, .ldc 0, 1600)], [(1600, .areturn, 1601), (1601, .iload 5, 1603), (1603, .ifCond .ne (Int.ofNat 1618), 1606), (1606, .aload 3, 1607), (1607, .ldc 0, 1608), (1608, .laload, 1609), (1609, .iload 6, 1611), (1611, .i2l, 1612), (1612, .lcmp, 1613), (1613, .ifCond .eq (Int.ofNat 1618), 1616)], [(1616, .ldc 0, 1617), (1617, .areturn, 1618), (1618, .goto (Int.ofNat 1936), 1621), (1621, .aload 1, 1622), (1622, .aload 0, 1623), (1623, .iload 4, 1625), (1625, .ldc 1, 1626), (1626, .iadd, 1627), (1627, .daload, 1628), (1628, .aload 0, 1629), (1629, .iload 4, 1631), (1631, .ldc 2, 1632)], [(1632, .iadd, 1633), (1633, .daload, 1634), (1634, .aload 3, 1635), (1635, .invokestatic 3828, 1638), (1638, .istore 5, 1640), (1640, .aload 2, 1641), (1641, .aload 0, 1642), (1642, .iload 4, 1644), (1644, .ldc 1, 1645), (1645, .iadd, 1646), (1646, .daload, 1647), (1647, .aload 0, 1648)], [(1648, .iload 4, 1650), (1650, .ldc 2, 1651), (1651, .iadd, 1652), (1652, .daload, 1653), (1653, .invokevirtual 77074, 1656), (1656, .istore 6, 1658), (1658, .aload 2, 1659), (1659, .invokevirtual 75632, 1662), (1662, .iload 5, 1664)], [(1664, .if_icmp .eq (Int.ofNat 1669), 1667), (1667, .ldc 0, 1668), (1668, .areturn, 1669), (1669, .iload 5, 1671), (1671, .ifCond .ne (Int.ofNat 1686), 1674), (1674, .aload 3, 1675), (1675, .ldc 0, 1676), (1676, .laload, 1677), (1677, .iload 6, 1679), (1679, .i2l, 1680)], [(1680, .lcmp, 1681), (1681, .ifCond .eq (Int.ofNat 1686), 1684), (1684, .ldc 0, 1685), (1685, .areturn, 1686), (1686, .goto (Int.ofNat 1936), 1689), (1689, .aload 1, 1690), (1690, .aload 0, 1691), (1691, .iload 4, 1693), (1693, .ldc 1, 1694), (1694, .iadd, 1695), (1695, .daload, 1696)], [(1696, .aload 0, 1697), (1697, .iload 4, 1699), (1699, .ldc 2, 1700), (1700, .iadd, 1701), (1701, .daload, 1702), (1702, .aload 0, 1703), (1703, .iload 4, 1705), (1705, .ldc 3, 1706), (1706, .iadd, 1707), (1707, .daload, 1708), (1708, .aload 3, 1709), (1709, .invokestatic 3845, 1712)], [(1712, .istore 5, 1714), (1714, .aload 2, 1715), (1715, .aload 0, 1716), (1716, .iload 4, 1718), (1718, .ldc 1, 1719), (1719, .iadd, 1720), (1720, .daload, 1721), (1721, .aload 0, 1722), (1722, .iload 4, 1724), (1724, .ldc 2, 1725), (1725, .iadd, 1726), (1726, .daload, 1727), (1727, .aload 0, 1728)], [(1728, .iload 4, 1730), (1730, .ldc 3, 1731), (1731, .iadd, 1732), (1732, .daload, 1733), (1733, .invokevirtual 77107, 1736), (1736, .istore 6, 1738), (1738, .aload 2, 1739), (1739, .invokevirtual 75632, 1742), (1742, .iload 5, 1744)], [(1744, .if_icmp .eq (Int.ofNat 1749), 1747), (1747, .ldc 0, 1748), (1748, .areturn, 1749), (1749, .iload 5, 1751), (1751, .ifCond .ne (Int.ofNat 1766), 1754), (1754, .aload 3, 1755), (1755, .ldc 0, 1756), (1756, .laload, 1757), (1757, .iload 6, 1759), (1759, .i2l, 1760)], [(1760, .lcmp, 1761), (1761, .ifCond .eq (Int.ofNat 1766), 1764), (1764, .ldc 0, 1765), (1765, .areturn, 1766), (1766, .goto (Int.ofNat 1936), 1769), (1769, .aload 1, 1770), (1770, .aload 0, 1771), (1771, .iload 4, 1773), (1773, .ldc 1, 1774), (1774, .iadd, 1775), (1775, .daload, 1776)], [(1776, .aload 3, 1777), (1777, .invokestatic 3859, 1780), (1780, .istore 5, 1782), (1782, .aload 2, 1783), (1783, .aload 0, 1784), (1784, .iload 4, 1786), (1786, .ldc 1, 1787), (1787, .iadd, 1788), (1788, .daload, 1789), (1789, .invokevirtual 77121, 1792)], [(1792, .istore 6, 1794), (1794, .aload 2, 1795), (1795, .invokevirtual 75632, 1798), (1798, .iload 5, 1800), (1800, .if_icmp .eq (Int.ofNat 1805), 1803), (1803, .ldc 0, 1804), (1804, .areturn, 1805), (1805, .iload 5, 1807), (1807, .ifCond .ne (Int.ofNat 1822), 1810)], [(1810, .aload 3, 1811), (1811, .ldc 0, 1812), (1812, .laload, 1813), (1813, .iload 6, 1815), (1815, .i2l, 1816), (1816, .lcmp, 1817), (1817, .ifCond .eq (Int.ofNat 1822), 1820), (1820, .ldc 0, 1821), (1821, .areturn, 1822), (1822, .goto (Int.ofNat 1936), 1825)], [(1825, .aload 1, 1826), (1826, .aload 0, 1827), (1827, .iload 4, 1829), (1829, .ldc 1, 1830), (1830, .iadd, 1831), (1831, .daload, 1832), (1832, .aload 0, 1833), (1833, .iload 4, 1835), (1835, .ldc 2, 1836), (1836, .iadd, 1837), (1837, .daload, 1838), (1838, .ifCond .eq (Int.ofNat 1845), 1841)], [(1841, .ldc 1, 1842), (1842, .goto (Int.ofNat 1846), 1845), (1845, .ldc 0, 1846), (1846, .aload 3, 1847), (1847, .invokestatic 3876, 1850), (1850, .istore 5, 1852), (1852, .aload 2, 1853), (1853, .aload 0, 1854), (1854, .iload 4, 1856)], [(1856, .ldc 1, 1857), (1857, .iadd, 1858), (1858, .daload, 1859), (1859, .aload 0, 1860), (1860, .iload 4, 1862), (1862, .ldc 2, 1863), (1863, .iadd, 1864), (1864, .daload, 1865), (1865, .ifCond .eq (Int.ofNat 1872), 1868), (1868, .ldc 1, 1869), (1869, .goto (Int.ofNat 1873), 1872)], [(1872, .ldc 0, 1873), (1873, .invokevirtual 77138, 1876), (1876, .istore 6, 1878), (1878, .aload 2, 1879), (1879, .invokevirtual 75632, 1882), (1882, .iload 5, 1884), (1884, .if_icmp .eq (Int.ofNat 1889), 1887), (1887, .ldc 0, 1888)], [(1888, .areturn, 1889), (1889, .iload 5, 1891), (1891, .ifCond .ne (Int.ofNat 1906), 1894), (1894, .aload 3, 1895), (1895, .ldc 0, 1896), (1896, .laload, 1897), (1897, .iload 6, 1899), (1899, .i2l, 1900), (1900, .lcmp, 1901), (1901, .ifCond .eq (Int.ofNat 1906), 1904)], [(1904, .ldc 0, 1905), (1905, .areturn, 1906), (1906, .goto (Int.ofNat 1936), 1909), (1909, .aload 1, 1910), (1910, .invokevirtual 67312, 1913), (1913, .aload 2, 1914), (1914, .invokevirtual 77152, 1917), (1917, .if_icmp .eq (Int.ofNat 1936), 1920)], [(1920, .ldc 0, 1921), (1921, .areturn, 1922), (1922, .aload 1, 1923), (1923, .invokevirtual 67328, 1926), (1926, .aload 2, 1927), (1927, .invokevirtual 77168, 1930), (1930, .lcmp, 1931), (1931, .ifCond .eq (Int.ofNat 1936), 1934), (1934, .ldc 0, 1935), (1935, .areturn, 1936)], [(1936, .iinc 4 (Int.ofNat 6), 1939), (1939, .goto (Int.ofNat 23), 1942), (1942, .ldc 1, 1943), (1943, .areturn, 1944)]]
abbrev m_La_law : Nat := 243
def ah_La_law : List (Nat × Nat × Nat × Nat × Nat × Nat) := []
def am_q_Cu_keepsApart : am_T × List (Nat × Nat × Nat × Nat × Nat × Nat) × Nat := (at_Cu_keepsApart, ah_Cu_keepsApart, 4)
def am_q_Cu_reachedFrom : am_T × List (Nat × Nat × Nat × Nat × Nat × Nat) × Nat := (at_Cu_reachedFrom, ah_Cu_reachedFrom, 7)
def am_q_Cu_cheapestSet : am_T × List (Nat × Nat × Nat × Nat × Nat × Nat) × Nat := (at_Cu_cheapestSet, ah_Cu_cheapestSet, 10)
def am_q_Cu_setOf : am_T × List (Nat × Nat × Nat × Nat × Nat × Nat) × Nat := (at_Cu_setOf, ah_Cu_setOf, 3)
def am_q_Cu_valueOf : am_T × List (Nat × Nat × Nat × Nat × Nat × Nat) × Nat := (at_Cu_valueOf, ah_Cu_valueOf, 2)
def am_q_Cu_dearestOf : am_T × List (Nat × Nat × Nat × Nat × Nat × Nat) × Nat := (at_Cu_dearestOf, ah_Cu_dearestOf, 5)
def am_q_Cu_unionOf : am_T × List (Nat × Nat × Nat × Nat × Nat × Nat) × Nat := (at_Cu_unionOf, ah_Cu_unionOf, 4)
def am_q_Cu_labelByUnion : am_T × List (Nat × Nat × Nat × Nat × Nat × Nat) × Nat := (at_Cu_labelByUnion, ah_Cu_labelByUnion, 3)
def am_q_Cu_labelSet : am_T × List (Nat × Nat × Nat × Nat × Nat × Nat) × Nat := (at_Cu_labelSet, ah_Cu_labelSet, 4)
def am_q_Ex_init : am_T × List (Nat × Nat × Nat × Nat × Nat × Nat) × Nat := (at_Ex_init, ah_Ex_init, 1)
def am_q_Ex_run : am_T × List (Nat × Nat × Nat × Nat × Nat × Nat) × Nat := (at_Ex_run, ah_Ex_run, 3)
def am_q_Ex_extend : am_T × List (Nat × Nat × Nat × Nat × Nat × Nat) × Nat := (at_Ex_extend, ah_Ex_extend, 8)
def am_q_Ex_costToEarlier : am_T × List (Nat × Nat × Nat × Nat × Nat × Nat) × Nat := (at_Ex_costToEarlier, ah_Ex_costToEarlier, 5)
def am_q_Fo_init : am_T × List (Nat × Nat × Nat × Nat × Nat × Nat) × Nat := (at_Fo_init, ah_Fo_init, 2)
def am_q_Fo_evaluate : am_T × List (Nat × Nat × Nat × Nat × Nat × Nat) × Nat := (at_Fo_evaluate, ah_Fo_evaluate, 7)
def am_q_Fo_operand : am_T × List (Nat × Nat × Nat × Nat × Nat × Nat) × Nat := (at_Fo_operand, ah_Fo_operand, 4)
def am_q_Fo_combine : am_T × List (Nat × Nat × Nat × Nat × Nat × Nat) × Nat := (at_Fo_combine, ah_Fo_combine, 5)
def am_q_Gr_init : am_T × List (Nat × Nat × Nat × Nat × Nat × Nat) × Nat := (at_Gr_init, ah_Gr_init, 1)
def am_q_Gr_clear : am_T × List (Nat × Nat × Nat × Nat × Nat × Nat) × Nat := (at_Gr_clear, ah_Gr_clear, 1)
def am_q_Gr_copyFrom : am_T × List (Nat × Nat × Nat × Nat × Nat × Nat) × Nat := (at_Gr_copyFrom, ah_Gr_copyFrom, 2)
def am_q_Gr_hasVertex : am_T × List (Nat × Nat × Nat × Nat × Nat × Nat) × Nat := (at_Gr_hasVertex, ah_Gr_hasVertex, 2)
def am_q_Gr_isTerminal : am_T × List (Nat × Nat × Nat × Nat × Nat × Nat) × Nat := (at_Gr_isTerminal, ah_Gr_isTerminal, 2)
def am_q_Gr_allVertices : am_T × List (Nat × Nat × Nat × Nat × Nat × Nat) × Nat := (at_Gr_allVertices, ah_Gr_allVertices, 1)
def am_q_Gr_hasEdgeBetween : am_T × List (Nat × Nat × Nat × Nat × Nat × Nat) × Nat := (at_Gr_hasEdgeBetween, ah_Gr_hasEdgeBetween, 5)
def am_q_Gr_endsOf : am_T × List (Nat × Nat × Nat × Nat × Nat × Nat) × Nat := (at_Gr_endsOf, ah_Gr_endsOf, 2)
def am_q_Gr_lengthOf : am_T × List (Nat × Nat × Nat × Nat × Nat × Nat) × Nat := (at_Gr_lengthOf, ah_Gr_lengthOf, 2)
def am_q_Gr_putEdge : am_T × List (Nat × Nat × Nat × Nat × Nat × Nat) × Nat := (at_Gr_putEdge, ah_Gr_putEdge, 4)
def am_q_Gr_updateCost : am_T × List (Nat × Nat × Nat × Nat × Nat × Nat) × Nat := (at_Gr_updateCost, ah_Gr_updateCost, 3)
def am_q_Gr_dropEdge : am_T × List (Nat × Nat × Nat × Nat × Nat × Nat) × Nat := (at_Gr_dropEdge, ah_Gr_dropEdge, 3)
def am_q_Gr_startTerminal : am_T × List (Nat × Nat × Nat × Nat × Nat × Nat) × Nat := (at_Gr_startTerminal, ah_Gr_startTerminal, 2)
def am_q_Gr_endTerminal : am_T × List (Nat × Nat × Nat × Nat × Nat × Nat) × Nat := (at_Gr_endTerminal, ah_Gr_endTerminal, 3)
def am_q_Gr_takeLabels : am_T × List (Nat × Nat × Nat × Nat × Nat × Nat) × Nat := (at_Gr_takeLabels, ah_Gr_takeLabels, 3)
def am_q_Gr_borderOf : am_T × List (Nat × Nat × Nat × Nat × Nat × Nat) × Nat := (at_Gr_borderOf, ah_Gr_borderOf, 4)
def am_q_Gr_costOfEdges : am_T × List (Nat × Nat × Nat × Nat × Nat × Nat) × Nat := (at_Gr_costOfEdges, ah_Gr_costOfEdges, 4)
def am_q_Gr_costOfSet : am_T × List (Nat × Nat × Nat × Nat × Nat × Nat) × Nat := (at_Gr_costOfSet, ah_Gr_costOfSet, 2)
def am_q_Gr_presentCut : am_T × List (Nat × Nat × Nat × Nat × Nat × Nat) × Nat := (at_Gr_presentCut, ah_Gr_presentCut, 3)
def am_q_Gr_presentCost : am_T × List (Nat × Nat × Nat × Nat × Nat × Nat) × Nat := (at_Gr_presentCost, ah_Gr_presentCost, 1)
def am_q_Gp_init : am_T × List (Nat × Nat × Nat × Nat × Nat × Nat) × Nat := (at_Gp_init, ah_Gp_init, 1)
def am_q_Gp_run : am_T × List (Nat × Nat × Nat × Nat × Nat × Nat) × Nat := (at_Gp_run, ah_Gp_run, 3)
def am_q_Gp_makeRound : am_T × List (Nat × Nat × Nat × Nat × Nat × Nat) × Nat := (at_Gp_makeRound, ah_Gp_makeRound, 6)
def am_q_Gp_grouped : am_T × List (Nat × Nat × Nat × Nat × Nat × Nat) × Nat := (at_Gp_grouped, ah_Gp_grouped, 3)
def am_q_Gp_ownerOf : am_T × List (Nat × Nat × Nat × Nat × Nat × Nat) × Nat := (at_Gp_ownerOf, ah_Gp_ownerOf, 3)
def am_q_Hi_init : am_T × List (Nat × Nat × Nat × Nat × Nat × Nat) × Nat := (at_Hi_init, ah_Hi_init, 2)
def am_q_Hi_save : am_T × List (Nat × Nat × Nat × Nat × Nat × Nat) × Nat := (at_Hi_save, ah_Hi_save, 2)
def am_q_Hi_restore : am_T × List (Nat × Nat × Nat × Nat × Nat × Nat) × Nat := (at_Hi_restore, ah_Hi_restore, 2)
def am_q_Mv_init : am_T × List (Nat × Nat × Nat × Nat × Nat × Nat) × Nat := (at_Mv_init, ah_Mv_init, 1)
def am_q_Mv_run : am_T × List (Nat × Nat × Nat × Nat × Nat × Nat) × Nat := (at_Mv_run, ah_Mv_run, 4)
def am_q_Mv_consider : am_T × List (Nat × Nat × Nat × Nat × Nat × Nat) × Nat := (at_Mv_consider, ah_Mv_consider, 6)
def am_q_Mv_makeImprovement : am_T × List (Nat × Nat × Nat × Nat × Nat × Nat) × Nat := (at_Mv_makeImprovement, ah_Mv_makeImprovement, 2)
def am_q_Ne_init : am_T × List (Nat × Nat × Nat × Nat × Nat × Nat) × Nat := (at_Ne_init, ah_Ne_init, 1)
def am_q_Ne_run : am_T × List (Nat × Nat × Nat × Nat × Nat × Nat) × Nat := (at_Ne_run, ah_Ne_run, 4)
def am_q_Ne_offer : am_T × List (Nat × Nat × Nat × Nat × Nat × Nat) × Nat := (at_Ne_offer, ah_Ne_offer, 6)
def am_q_Rd_init : am_T × List (Nat × Nat × Nat × Nat × Nat × Nat) × Nat := (at_Rd_init, ah_Rd_init, 1)
def am_q_Rd_read : am_T × List (Nat × Nat × Nat × Nat × Nat × Nat) × Nat := (at_Rd_read, ah_Rd_read, 5)
def am_q_Rd_finish : am_T × List (Nat × Nat × Nat × Nat × Nat × Nat) × Nat := (at_Rd_finish, ah_Rd_finish, 2)
def am_q_Rd_readGraph : am_T × List (Nat × Nat × Nat × Nat × Nat × Nat) × Nat := (at_Rd_readGraph, ah_Rd_readGraph, 2)
def am_q_Rd_readStatement : am_T × List (Nat × Nat × Nat × Nat × Nat × Nat) × Nat := (at_Rd_readStatement, ah_Rd_readStatement, 1)
def am_q_Rd_readTerminal : am_T × List (Nat × Nat × Nat × Nat × Nat × Nat) × Nat := (at_Rd_readTerminal, ah_Rd_readTerminal, 2)
def am_q_Rd_readEdge : am_T × List (Nat × Nat × Nat × Nat × Nat × Nat) × Nat := (at_Rd_readEdge, ah_Rd_readEdge, 4)
def am_q_Rd_readLoad : am_T × List (Nat × Nat × Nat × Nat × Nat × Nat) × Nat := (at_Rd_readLoad, ah_Rd_readLoad, 3)
def am_q_Rd_startCost : am_T × List (Nat × Nat × Nat × Nat × Nat × Nat) × Nat := (at_Rd_startCost, ah_Rd_startCost, 1)
def am_q_Rd_readSum : am_T × List (Nat × Nat × Nat × Nat × Nat × Nat) × Nat := (at_Rd_readSum, ah_Rd_readSum, 5)
def am_q_Rd_readTerm : am_T × List (Nat × Nat × Nat × Nat × Nat × Nat) × Nat := (at_Rd_readTerm, ah_Rd_readTerm, 5)
def am_q_Rd_readFactor : am_T × List (Nat × Nat × Nat × Nat × Nat × Nat) × Nat := (at_Rd_readFactor, ah_Rd_readFactor, 3)
def am_q_Rd_putCode : am_T × List (Nat × Nat × Nat × Nat × Nat × Nat) × Nat := (at_Rd_putCode, ah_Rd_putCode, 2)
def am_q_Rd_readSymbol : am_T × List (Nat × Nat × Nat × Nat × Nat × Nat) × Nat := (at_Rd_readSymbol, ah_Rd_readSymbol, 2)
def am_q_Rd_vertexHere : am_T × List (Nat × Nat × Nat × Nat × Nat × Nat) × Nat := (at_Rd_vertexHere, ah_Rd_vertexHere, 1)
def am_q_Rd_numberHere : am_T × List (Nat × Nat × Nat × Nat × Nat × Nat) × Nat := (at_Rd_numberHere, ah_Rd_numberHere, 3)
def am_q_Rd_isWord : am_T × List (Nat × Nat × Nat × Nat × Nat × Nat) × Nat := (at_Rd_isWord, ah_Rd_isWord, 3)
def am_q_Rd_fail : am_T × List (Nat × Nat × Nat × Nat × Nat × Nat) × Nat := (at_Rd_fail, ah_Rd_fail, 2)
def am_q_Rd_advance : am_T × List (Nat × Nat × Nat × Nat × Nat × Nat) × Nat := (at_Rd_advance, ah_Rd_advance, 2)
def am_q_Mc_init : am_T × List (Nat × Nat × Nat × Nat × Nat × Nat) × Nat := (at_Mc_init, ah_Mc_init, 1)
def am_q_Mc_append : am_T × List (Nat × Nat × Nat × Nat × Nat × Nat) × Nat := (at_Mc_append, ah_Mc_append, 6)
def am_q_Mc_putWord : am_T × List (Nat × Nat × Nat × Nat × Nat × Nat) × Nat := (at_Mc_putWord, ah_Mc_putWord, 3)
def am_q_Mc_load : am_T × List (Nat × Nat × Nat × Nat × Nat × Nat) × Nat := (at_Mc_load, ah_Mc_load, 3)
def am_q_Mc_errorOffset : am_T × List (Nat × Nat × Nat × Nat × Nat × Nat) × Nat := (at_Mc_errorOffset, ah_Mc_errorOffset, 1)
def am_q_Mc_size : am_T × List (Nat × Nat × Nat × Nat × Nat × Nat) × Nat := (at_Mc_size, ah_Mc_size, 1)
def am_q_Mc_edgeCount : am_T × List (Nat × Nat × Nat × Nat × Nat × Nat) × Nat := (at_Mc_edgeCount, ah_Mc_edgeCount, 1)
def am_q_Mc_terminals : am_T × List (Nat × Nat × Nat × Nat × Nat × Nat) × Nat := (at_Mc_terminals, ah_Mc_terminals, 1)
def am_q_Mc_burden : am_T × List (Nat × Nat × Nat × Nat × Nat × Nat) × Nat := (at_Mc_burden, ah_Mc_burden, 2)
def am_q_Mc_edge : am_T × List (Nat × Nat × Nat × Nat × Nat × Nat) × Nat := (at_Mc_edge, ah_Mc_edge, 3)
def am_q_Mc_cutCost : am_T × List (Nat × Nat × Nat × Nat × Nat × Nat) × Nat := (at_Mc_cutCost, ah_Mc_cutCost, 2)
def am_q_Mc_separates : am_T × List (Nat × Nat × Nat × Nat × Nat × Nat) × Nat := (at_Mc_separates, ah_Mc_separates, 2)
def am_q_Mc_isolatingValue : am_T × List (Nat × Nat × Nat × Nat × Nat × Nat) × Nat := (at_Mc_isolatingValue, ah_Mc_isolatingValue, 2)
def am_q_Mc_isolatingSet : am_T × List (Nat × Nat × Nat × Nat × Nat × Nat) × Nat := (at_Mc_isolatingSet, ah_Mc_isolatingSet, 2)
def am_q_Mc_lowerBound : am_T × List (Nat × Nat × Nat × Nat × Nat × Nat) × Nat := (at_Mc_lowerBound, ah_Mc_lowerBound, 3)
def am_q_Mc_dearest : am_T × List (Nat × Nat × Nat × Nat × Nat × Nat) × Nat := (at_Mc_dearest, ah_Mc_dearest, 1)
def am_q_Mc_unionCut : am_T × List (Nat × Nat × Nat × Nat × Nat × Nat) × Nat := (at_Mc_unionCut, ah_Mc_unionCut, 1)
def am_q_Mc_unionCost : am_T × List (Nat × Nat × Nat × Nat × Nat × Nat) × Nat := (at_Mc_unionCost, ah_Mc_unionCost, 1)
def am_q_Mc_rounds : am_T × List (Nat × Nat × Nat × Nat × Nat × Nat) × Nat := (at_Mc_rounds, ah_Mc_rounds, 1)
def am_q_Mc_fixed : am_T × List (Nat × Nat × Nat × Nat × Nat × Nat) × Nat := (at_Mc_fixed, ah_Mc_fixed, 2)
def am_q_Mc_exactCost : am_T × List (Nat × Nat × Nat × Nat × Nat × Nat) × Nat := (at_Mc_exactCost, ah_Mc_exactCost, 1)
def am_q_Mc_exact : am_T × List (Nat × Nat × Nat × Nat × Nat × Nat) × Nat := (at_Mc_exact, ah_Mc_exact, 2)
def am_q_Mc_price : am_T × List (Nat × Nat × Nat × Nat × Nat × Nat) × Nat := (at_Mc_price, ah_Mc_price, 3)
def am_q_Mc_nearest : am_T × List (Nat × Nat × Nat × Nat × Nat × Nat) × Nat := (at_Mc_nearest, ah_Mc_nearest, 2)
def am_q_Mc_distance : am_T × List (Nat × Nat × Nat × Nat × Nat × Nat) × Nat := (at_Mc_distance, ah_Mc_distance, 2)
def am_q_Mc_label : am_T × List (Nat × Nat × Nat × Nat × Nat × Nat) × Nat := (at_Mc_label, ah_Mc_label, 2)
def am_q_Mc_cost : am_T × List (Nat × Nat × Nat × Nat × Nat × Nat) × Nat := (at_Mc_cost, ah_Mc_cost, 1)
def am_q_Mc_cut : am_T × List (Nat × Nat × Nat × Nat × Nat × Nat) × Nat := (at_Mc_cut, ah_Mc_cut, 1)
def am_q_Mc_ratio : am_T × List (Nat × Nat × Nat × Nat × Nat × Nat) × Nat := (at_Mc_ratio, ah_Mc_ratio, 3)
def am_q_Mc_meanCost : am_T × List (Nat × Nat × Nat × Nat × Nat × Nat) × Nat := (at_Mc_meanCost, ah_Mc_meanCost, 5)
def am_q_Mc_bestMove : am_T × List (Nat × Nat × Nat × Nat × Nat × Nat) × Nat := (at_Mc_bestMove, ah_Mc_bestMove, 2)
def am_q_Mc_setLabel : am_T × List (Nat × Nat × Nat × Nat × Nat × Nat) × Nat := (at_Mc_setLabel, ah_Mc_setLabel, 3)
def am_q_Mc_useNearest : am_T × List (Nat × Nat × Nat × Nat × Nat × Nat) × Nat := (at_Mc_useNearest, ah_Mc_useNearest, 1)
def am_q_Mc_useUnion : am_T × List (Nat × Nat × Nat × Nat × Nat × Nat) × Nat := (at_Mc_useUnion, ah_Mc_useUnion, 1)
def am_q_Mc_useExact : am_T × List (Nat × Nat × Nat × Nat × Nat × Nat) × Nat := (at_Mc_useExact, ah_Mc_useExact, 1)
def am_q_Mc_improve : am_T × List (Nat × Nat × Nat × Nat × Nat × Nat) × Nat := (at_Mc_improve, ah_Mc_improve, 3)
def am_q_Mc_setWeight : am_T × List (Nat × Nat × Nat × Nat × Nat × Nat) × Nat := (at_Mc_setWeight, ah_Mc_setWeight, 4)
def am_q_Mc_addEdge : am_T × List (Nat × Nat × Nat × Nat × Nat × Nat) × Nat := (at_Mc_addEdge, ah_Mc_addEdge, 4)
def am_q_Mc_removeEdge : am_T × List (Nat × Nat × Nat × Nat × Nat × Nat) × Nat := (at_Mc_removeEdge, ah_Mc_removeEdge, 2)
def am_q_Mc_setTerminal : am_T × List (Nat × Nat × Nat × Nat × Nat × Nat) × Nat := (at_Mc_setTerminal, ah_Mc_setTerminal, 4)
def am_q_Mc_undo : am_T × List (Nat × Nat × Nat × Nat × Nat × Nat) × Nat := (at_Mc_undo, ah_Mc_undo, 1)
def am_q_Mc_checksum : am_T × List (Nat × Nat × Nat × Nat × Nat × Nat) × Nat := (at_Mc_checksum, ah_Mc_checksum, 4)
def am_q_Mc_requireVertex : am_T × List (Nat × Nat × Nat × Nat × Nat × Nat) × Nat := (at_Mc_requireVertex, ah_Mc_requireVertex, 2)
def am_q_Mc_requireEdge : am_T × List (Nat × Nat × Nat × Nat × Nat × Nat) × Nat := (at_Mc_requireEdge, ah_Mc_requireEdge, 2)
def am_q_Mc_requireTerminal : am_T × List (Nat × Nat × Nat × Nat × Nat × Nat) × Nat := (at_Mc_requireTerminal, ah_Mc_requireTerminal, 2)
def am_q_Mc_requireSomeTerminal : am_T × List (Nat × Nat × Nat × Nat × Nat × Nat) × Nat := (at_Mc_requireSomeTerminal, ah_Mc_requireSomeTerminal, 1)
def am_q_Mc_requireWeight : am_T × List (Nat × Nat × Nat × Nat × Nat × Nat) × Nat := (at_Mc_requireWeight, ah_Mc_requireWeight, 2)
def am_q_Mo_init : am_T × List (Nat × Nat × Nat × Nat × Nat × Nat) × Nat := (at_Mo_init, ah_Mo_init, 1)
def am_q_Mo_thrown : am_T × List (Nat × Nat × Nat × Nat × Nat × Nat) × Nat := (at_Mo_thrown, ah_Mo_thrown, 1)
def am_q_Mo_isIn : am_T × List (Nat × Nat × Nat × Nat × Nat × Nat) × Nat := (at_Mo_isIn, ah_Mo_isIn, 6)
def am_q_Mo_get : am_T × List (Nat × Nat × Nat × Nat × Nat × Nat) × Nat := (at_Mo_get, ah_Mo_get, 2)
def am_q_Mo_put : am_T × List (Nat × Nat × Nat × Nat × Nat × Nat) × Nat := (at_Mo_put, ah_Mo_put, 3)
def am_q_Mo_change : am_T × List (Nat × Nat × Nat × Nat × Nat × Nat) × Nat := (at_Mo_change, ah_Mo_change, 3)
def am_q_Mo_right : am_T × List (Nat × Nat × Nat × Nat × Nat × Nat) × Nat := (at_Mo_right, ah_Mo_right, 3)
def am_q_Mo_append : am_T × List (Nat × Nat × Nat × Nat × Nat × Nat) × Nat := (at_Mo_append, ah_Mo_append, 8)
def am_q_Mo_fails : am_T × List (Nat × Nat × Nat × Nat × Nat × Nat) × Nat := (at_Mo_fails, ah_Mo_fails, 3)
def am_q_Mo_sees : am_T × List (Nat × Nat × Nat × Nat × Nat × Nat) × Nat := (at_Mo_sees, ah_Mo_sees, 1)
def am_q_Mo_takes : am_T × List (Nat × Nat × Nat × Nat × Nat × Nat) × Nat := (at_Mo_takes, ah_Mo_takes, 5)
def am_q_Mo_wants : am_T × List (Nat × Nat × Nat × Nat × Nat × Nat) × Nat := (at_Mo_wants, ah_Mo_wants, 2)
def am_q_Mo_isDigit : am_T × List (Nat × Nat × Nat × Nat × Nat × Nat) × Nat := (at_Mo_isDigit, ah_Mo_isDigit, 1)
def am_q_Mo_reads : am_T × List (Nat × Nat × Nat × Nat × Nat × Nat) × Nat := (at_Mo_reads, ah_Mo_reads, 4)
def am_q_Mo_codes : am_T × List (Nat × Nat × Nat × Nat × Nat × Nat) × Nat := (at_Mo_codes, ah_Mo_codes, 4)
def am_q_Mo_sum : am_T × List (Nat × Nat × Nat × Nat × Nat × Nat) × Nat := (at_Mo_sum, ah_Mo_sum, 2)
def am_q_Mo_term : am_T × List (Nat × Nat × Nat × Nat × Nat × Nat) × Nat := (at_Mo_term, ah_Mo_term, 2)
def am_q_Mo_factor : am_T × List (Nat × Nat × Nat × Nat × Nat × Nat) × Nat := (at_Mo_factor, ah_Mo_factor, 2)
def am_q_Mo_readsVertex : am_T × List (Nat × Nat × Nat × Nat × Nat × Nat) × Nat := (at_Mo_readsVertex, ah_Mo_readsVertex, 1)
def am_q_Mo_terminalLine : am_T × List (Nat × Nat × Nat × Nat × Nat × Nat) × Nat := (at_Mo_terminalLine, ah_Mo_terminalLine, 3)
def am_q_Mo_bitsOf : am_T × List (Nat × Nat × Nat × Nat × Nat × Nat) × Nat := (at_Mo_bitsOf, ah_Mo_bitsOf, 3)
def am_q_Mo_isJoined : am_T × List (Nat × Nat × Nat × Nat × Nat × Nat) × Nat := (at_Mo_isJoined, ah_Mo_isJoined, 4)
def am_q_Mo_edgeLine : am_T × List (Nat × Nat × Nat × Nat × Nat × Nat) × Nat := (at_Mo_edgeLine, ah_Mo_edgeLine, 6)
def am_q_Mo_loadLine : am_T × List (Nat × Nat × Nat × Nat × Nat × Nat) × Nat := (at_Mo_loadLine, ah_Mo_loadLine, 3)
def am_q_Mo_statement : am_T × List (Nat × Nat × Nat × Nat × Nat × Nat) × Nat := (at_Mo_statement, ah_Mo_statement, 2)
def am_q_Mo_texts : am_T × List (Nat × Nat × Nat × Nat × Nat × Nat) × Nat := (at_Mo_texts, ah_Mo_texts, 2)
def am_q_Mo_load : am_T × List (Nat × Nat × Nat × Nat × Nat × Nat) × Nat := (at_Mo_load, ah_Mo_load, 3)
def am_q_Mo_errorOffset : am_T × List (Nat × Nat × Nat × Nat × Nat × Nat) × Nat := (at_Mo_errorOffset, ah_Mo_errorOffset, 1)
def am_q_Mo_within : am_T × List (Nat × Nat × Nat × Nat × Nat × Nat) × Nat := (at_Mo_within, ah_Mo_within, 4)
def am_q_Mo_costOf : am_T × List (Nat × Nat × Nat × Nat × Nat × Nat) × Nat := (at_Mo_costOf, ah_Mo_costOf, 11)
def am_q_Mo_laysCosts : am_T × List (Nat × Nat × Nat × Nat × Nat × Nat) × Nat := (at_Mo_laysCosts, ah_Mo_laysCosts, 2)
def am_q_Mo_count : am_T × List (Nat × Nat × Nat × Nat × Nat × Nat) × Nat := (at_Mo_count, ah_Mo_count, 1)
def am_q_Mo_edges : am_T × List (Nat × Nat × Nat × Nat × Nat × Nat) × Nat := (at_Mo_edges, ah_Mo_edges, 1)
def am_q_Mo_low : am_T × List (Nat × Nat × Nat × Nat × Nat × Nat) × Nat := (at_Mo_low, ah_Mo_low, 2)
def am_q_Mo_high : am_T × List (Nat × Nat × Nat × Nat × Nat × Nat) × Nat := (at_Mo_high, ah_Mo_high, 2)
def am_q_Mo_has : am_T × List (Nat × Nat × Nat × Nat × Nat × Nat) × Nat := (at_Mo_has, ah_Mo_has, 2)
def am_q_Mo_isTerminal : am_T × List (Nat × Nat × Nat × Nat × Nat × Nat) × Nat := (at_Mo_isTerminal, ah_Mo_isTerminal, 2)
def am_q_Mo_all : am_T × List (Nat × Nat × Nat × Nat × Nat × Nat) × Nat := (at_Mo_all, ah_Mo_all, 1)
def am_q_Mo_cutOf : am_T × List (Nat × Nat × Nat × Nat × Nat × Nat) × Nat := (at_Mo_cutOf, ah_Mo_cutOf, 4)
def am_q_Mo_bestSet : am_T × List (Nat × Nat × Nat × Nat × Nat × Nat) × Nat := (at_Mo_bestSet, ah_Mo_bestSet, 8)
def am_q_Mo_isolating : am_T × List (Nat × Nat × Nat × Nat × Nat × Nat) × Nat := (at_Mo_isolating, ah_Mo_isolating, 2)
def am_q_Mo_laysIsolating : am_T × List (Nat × Nat × Nat × Nat × Nat × Nat) × Nat := (at_Mo_laysIsolating, ah_Mo_laysIsolating, 2)
def am_q_Mo_dearestNow : am_T × List (Nat × Nat × Nat × Nat × Nat × Nat) × Nat := (at_Mo_dearestNow, ah_Mo_dearestNow, 3)
def am_q_Mo_othersOf : am_T × List (Nat × Nat × Nat × Nat × Nat × Nat) × Nat := (at_Mo_othersOf, ah_Mo_othersOf, 4)
def am_q_Mo_goesRound : am_T × List (Nat × Nat × Nat × Nat × Nat × Nat) × Nat := (at_Mo_goesRound, ah_Mo_goesRound, 4)
def am_q_Mo_laysGroups : am_T × List (Nat × Nat × Nat × Nat × Nat × Nat) × Nat := (at_Mo_laysGroups, ah_Mo_laysGroups, 2)
def am_q_Mo_costBy : am_T × List (Nat × Nat × Nat × Nat × Nat × Nat) × Nat := (at_Mo_costBy, ah_Mo_costBy, 4)
def am_q_Mo_goesOn : am_T × List (Nat × Nat × Nat × Nat × Nat × Nat) × Nat := (at_Mo_goesOn, ah_Mo_goesOn, 4)
def am_q_Mo_laysExact : am_T × List (Nat × Nat × Nat × Nat × Nat × Nat) × Nat := (at_Mo_laysExact, ah_Mo_laysExact, 4)
def am_q_Mo_exactNow : am_T × List (Nat × Nat × Nat × Nat × Nat × Nat) × Nat := (at_Mo_exactNow, ah_Mo_exactNow, 1)
def am_q_Mo_costNow : am_T × List (Nat × Nat × Nat × Nat × Nat × Nat) × Nat := (at_Mo_costNow, ah_Mo_costNow, 2)
def am_q_Mo_lengthOf : am_T × List (Nat × Nat × Nat × Nat × Nat × Nat) × Nat := (at_Mo_lengthOf, ah_Mo_lengthOf, 2)
def am_q_Mo_laysFar : am_T × List (Nat × Nat × Nat × Nat × Nat × Nat) × Nat := (at_Mo_laysFar, ah_Mo_laysFar, 6)
def am_q_Mo_laysNear : am_T × List (Nat × Nat × Nat × Nat × Nat × Nat) × Nat := (at_Mo_laysNear, ah_Mo_laysNear, 3)
def am_q_Mo_size : am_T × List (Nat × Nat × Nat × Nat × Nat × Nat) × Nat := (at_Mo_size, ah_Mo_size, 1)
def am_q_Mo_edgeCount : am_T × List (Nat × Nat × Nat × Nat × Nat × Nat) × Nat := (at_Mo_edgeCount, ah_Mo_edgeCount, 1)
def am_q_Mo_terminals : am_T × List (Nat × Nat × Nat × Nat × Nat × Nat) × Nat := (at_Mo_terminals, ah_Mo_terminals, 1)
def am_q_Mo_isVertex : am_T × List (Nat × Nat × Nat × Nat × Nat × Nat) × Nat := (at_Mo_isVertex, ah_Mo_isVertex, 2)
def am_q_Mo_burden : am_T × List (Nat × Nat × Nat × Nat × Nat × Nat) × Nat := (at_Mo_burden, ah_Mo_burden, 2)
def am_q_Mo_edge : am_T × List (Nat × Nat × Nat × Nat × Nat × Nat) × Nat := (at_Mo_edge, ah_Mo_edge, 3)
def am_q_Mo_cutCost : am_T × List (Nat × Nat × Nat × Nat × Nat × Nat) × Nat := (at_Mo_cutCost, ah_Mo_cutCost, 2)
def am_q_Mo_separates : am_T × List (Nat × Nat × Nat × Nat × Nat × Nat) × Nat := (at_Mo_separates, ah_Mo_separates, 5)
def am_q_Mo_mustBe : am_T × List (Nat × Nat × Nat × Nat × Nat × Nat) × Nat := (at_Mo_mustBe, ah_Mo_mustBe, 2)
def am_q_Mo_isolatingValue : am_T × List (Nat × Nat × Nat × Nat × Nat × Nat) × Nat := (at_Mo_isolatingValue, ah_Mo_isolatingValue, 3)
def am_q_Mo_isolatingSet : am_T × List (Nat × Nat × Nat × Nat × Nat × Nat) × Nat := (at_Mo_isolatingSet, ah_Mo_isolatingSet, 2)
def am_q_Mo_lowerBound : am_T × List (Nat × Nat × Nat × Nat × Nat × Nat) × Nat := (at_Mo_lowerBound, ah_Mo_lowerBound, 3)
def am_q_Mo_hasTerminal : am_T × List (Nat × Nat × Nat × Nat × Nat × Nat) × Nat := (at_Mo_hasTerminal, ah_Mo_hasTerminal, 1)
def am_q_Mo_dearest : am_T × List (Nat × Nat × Nat × Nat × Nat × Nat) × Nat := (at_Mo_dearest, ah_Mo_dearest, 1)
def am_q_Mo_unionNow : am_T × List (Nat × Nat × Nat × Nat × Nat × Nat) × Nat := (at_Mo_unionNow, ah_Mo_unionNow, 5)
def am_q_Mo_unionCut : am_T × List (Nat × Nat × Nat × Nat × Nat × Nat) × Nat := (at_Mo_unionCut, ah_Mo_unionCut, 1)
def am_q_Mo_unionCost : am_T × List (Nat × Nat × Nat × Nat × Nat × Nat) × Nat := (at_Mo_unionCost, ah_Mo_unionCost, 4)
def am_q_Mo_rounds : am_T × List (Nat × Nat × Nat × Nat × Nat × Nat) × Nat := (at_Mo_rounds, ah_Mo_rounds, 1)
def am_q_Mo_fixed : am_T × List (Nat × Nat × Nat × Nat × Nat × Nat) × Nat := (at_Mo_fixed, ah_Mo_fixed, 3)
def am_q_Mo_exactCost : am_T × List (Nat × Nat × Nat × Nat × Nat × Nat) × Nat := (at_Mo_exactCost, ah_Mo_exactCost, 1)
def am_q_Mo_exact : am_T × List (Nat × Nat × Nat × Nat × Nat × Nat) × Nat := (at_Mo_exact, ah_Mo_exact, 3)
def am_q_Mo_price : am_T × List (Nat × Nat × Nat × Nat × Nat × Nat) × Nat := (at_Mo_price, ah_Mo_price, 3)
def am_q_Mo_nearest : am_T × List (Nat × Nat × Nat × Nat × Nat × Nat) × Nat := (at_Mo_nearest, ah_Mo_nearest, 2)
def am_q_Mo_distance : am_T × List (Nat × Nat × Nat × Nat × Nat × Nat) × Nat := (at_Mo_distance, ah_Mo_distance, 2)
def am_q_Mo_label : am_T × List (Nat × Nat × Nat × Nat × Nat × Nat) × Nat := (at_Mo_label, ah_Mo_label, 2)
def am_q_Mo_cost : am_T × List (Nat × Nat × Nat × Nat × Nat × Nat) × Nat := (at_Mo_cost, ah_Mo_cost, 1)
def am_q_Mo_cut : am_T × List (Nat × Nat × Nat × Nat × Nat × Nat) × Nat := (at_Mo_cut, ah_Mo_cut, 3)
def am_q_Mo_ratio : am_T × List (Nat × Nat × Nat × Nat × Nat × Nat) × Nat := (at_Mo_ratio, ah_Mo_ratio, 3)
def am_q_Mo_meanCost : am_T × List (Nat × Nat × Nat × Nat × Nat × Nat) × Nat := (at_Mo_meanCost, ah_Mo_meanCost, 5)
def am_q_Mo_laysMove : am_T × List (Nat × Nat × Nat × Nat × Nat × Nat) × Nat := (at_Mo_laysMove, ah_Mo_laysMove, 5)
def am_q_Mo_bestMove : am_T × List (Nat × Nat × Nat × Nat × Nat × Nat) × Nat := (at_Mo_bestMove, ah_Mo_bestMove, 2)
def am_q_Mo_setLabel : am_T × List (Nat × Nat × Nat × Nat × Nat × Nat) × Nat := (at_Mo_setLabel, ah_Mo_setLabel, 4)
def am_q_Mo_useNearest : am_T × List (Nat × Nat × Nat × Nat × Nat × Nat) × Nat := (at_Mo_useNearest, ah_Mo_useNearest, 2)
def am_q_Mo_useUnion : am_T × List (Nat × Nat × Nat × Nat × Nat × Nat) × Nat := (at_Mo_useUnion, ah_Mo_useUnion, 5)
def am_q_Mo_useExact : am_T × List (Nat × Nat × Nat × Nat × Nat × Nat) × Nat := (at_Mo_useExact, ah_Mo_useExact, 3)
def am_q_Mo_improve : am_T × List (Nat × Nat × Nat × Nat × Nat × Nat) × Nat := (at_Mo_improve, ah_Mo_improve, 3)
def am_q_Mo_isEdge : am_T × List (Nat × Nat × Nat × Nat × Nat × Nat) × Nat := (at_Mo_isEdge, ah_Mo_isEdge, 2)
def am_q_Mo_setWeight : am_T × List (Nat × Nat × Nat × Nat × Nat × Nat) × Nat := (at_Mo_setWeight, ah_Mo_setWeight, 4)
def am_q_Mo_areJoined : am_T × List (Nat × Nat × Nat × Nat × Nat × Nat) × Nat := (at_Mo_areJoined, ah_Mo_areJoined, 4)
def am_q_Mo_addEdge : am_T × List (Nat × Nat × Nat × Nat × Nat × Nat) × Nat := (at_Mo_addEdge, ah_Mo_addEdge, 5)
def am_q_Mo_removeEdge : am_T × List (Nat × Nat × Nat × Nat × Nat × Nat) × Nat := (at_Mo_removeEdge, ah_Mo_removeEdge, 4)
def am_q_Mo_setTerminal : am_T × List (Nat × Nat × Nat × Nat × Nat × Nat) × Nat := (at_Mo_setTerminal, ah_Mo_setTerminal, 5)
def am_q_Mo_undo : am_T × List (Nat × Nat × Nat × Nat × Nat × Nat) × Nat := (at_Mo_undo, ah_Mo_undo, 1)
def am_q_Mo_checksum : am_T × List (Nat × Nat × Nat × Nat × Nat × Nat) × Nat := (at_Mo_checksum, ah_Mo_checksum, 5)
def am_q_JI_bitCount : am_T × List (Nat × Nat × Nat × Nat × Nat × Nat) × Nat := (at_JI_bitCount, ah_JI_bitCount, 1)
def am_q_JA_fill : am_T × List (Nat × Nat × Nat × Nat × Nat × Nat) × Nat := (at_JA_fill, ah_JA_fill, 4)
def am_q_JA_copyOf : am_T × List (Nat × Nat × Nat × Nat × Nat × Nat) × Nat := (at_JA_copyOf, ah_JA_copyOf, 3)
def am_q_La_load : am_T × List (Nat × Nat × Nat × Nat × Nat × Nat) × Nat := (at_La_load, ah_La_load, 4)
def am_q_La_burden : am_T × List (Nat × Nat × Nat × Nat × Nat × Nat) × Nat := (at_La_burden, ah_La_burden, 4)
def am_q_La_edge : am_T × List (Nat × Nat × Nat × Nat × Nat × Nat) × Nat := (at_La_edge, ah_La_edge, 5)
def am_q_La_cutCost : am_T × List (Nat × Nat × Nat × Nat × Nat × Nat) × Nat := (at_La_cutCost, ah_La_cutCost, 4)
def am_q_La_separates : am_T × List (Nat × Nat × Nat × Nat × Nat × Nat) × Nat := (at_La_separates, ah_La_separates, 4)
def am_q_La_isolatingValue : am_T × List (Nat × Nat × Nat × Nat × Nat × Nat) × Nat := (at_La_isolatingValue, ah_La_isolatingValue, 4)
def am_q_La_isolatingSet : am_T × List (Nat × Nat × Nat × Nat × Nat × Nat) × Nat := (at_La_isolatingSet, ah_La_isolatingSet, 4)
def am_q_La_dearest : am_T × List (Nat × Nat × Nat × Nat × Nat × Nat) × Nat := (at_La_dearest, ah_La_dearest, 3)
def am_q_La_unionCut : am_T × List (Nat × Nat × Nat × Nat × Nat × Nat) × Nat := (at_La_unionCut, ah_La_unionCut, 3)
def am_q_La_unionCost : am_T × List (Nat × Nat × Nat × Nat × Nat × Nat) × Nat := (at_La_unionCost, ah_La_unionCost, 3)
def am_q_La_fixed : am_T × List (Nat × Nat × Nat × Nat × Nat × Nat) × Nat := (at_La_fixed, ah_La_fixed, 4)
def am_q_La_exact : am_T × List (Nat × Nat × Nat × Nat × Nat × Nat) × Nat := (at_La_exact, ah_La_exact, 4)
def am_q_La_price : am_T × List (Nat × Nat × Nat × Nat × Nat × Nat) × Nat := (at_La_price, ah_La_price, 4)
def am_q_La_nearest : am_T × List (Nat × Nat × Nat × Nat × Nat × Nat) × Nat := (at_La_nearest, ah_La_nearest, 4)
def am_q_La_distance : am_T × List (Nat × Nat × Nat × Nat × Nat × Nat) × Nat := (at_La_distance, ah_La_distance, 4)
def am_q_La_label : am_T × List (Nat × Nat × Nat × Nat × Nat × Nat) × Nat := (at_La_label, ah_La_label, 4)
def am_q_La_bestMove : am_T × List (Nat × Nat × Nat × Nat × Nat × Nat) × Nat := (at_La_bestMove, ah_La_bestMove, 4)
def am_q_La_setLabel : am_T × List (Nat × Nat × Nat × Nat × Nat × Nat) × Nat := (at_La_setLabel, ah_La_setLabel, 5)
def am_q_La_useUnion : am_T × List (Nat × Nat × Nat × Nat × Nat × Nat) × Nat := (at_La_useUnion, ah_La_useUnion, 3)
def am_q_La_improve : am_T × List (Nat × Nat × Nat × Nat × Nat × Nat) × Nat := (at_La_improve, ah_La_improve, 4)
def am_q_La_setWeight : am_T × List (Nat × Nat × Nat × Nat × Nat × Nat) × Nat := (at_La_setWeight, ah_La_setWeight, 5)
def am_q_La_addEdge : am_T × List (Nat × Nat × Nat × Nat × Nat × Nat) × Nat := (at_La_addEdge, ah_La_addEdge, 6)
def am_q_La_removeEdge : am_T × List (Nat × Nat × Nat × Nat × Nat × Nat) × Nat := (at_La_removeEdge, ah_La_removeEdge, 4)
def am_q_La_setTerminal : am_T × List (Nat × Nat × Nat × Nat × Nat × Nat) × Nat := (at_La_setTerminal, ah_La_setTerminal, 5)
def am_q_La_law : am_T × List (Nat × Nat × Nat × Nat × Nat × Nat) × Nat := (at_La_law, ah_La_law, 9)
def am_prog : List (am_T × List (Nat × Nat × Nat × Nat × Nat × Nat) × Nat) := [am_q_Cu_keepsApart, am_q_Cu_reachedFrom, am_q_Cu_cheapestSet, am_q_Cu_setOf, am_q_Cu_valueOf, am_q_Cu_dearestOf, am_q_Cu_unionOf, am_q_Cu_labelByUnion, am_q_Cu_labelSet, am_q_Ex_init, am_q_Ex_run, am_q_Ex_extend, am_q_Ex_costToEarlier, am_q_Fo_init, am_q_Fo_evaluate, am_q_Fo_operand, am_q_Fo_combine, am_q_Gr_init, am_q_Gr_clear, am_q_Gr_copyFrom, am_q_Gr_hasVertex, am_q_Gr_isTerminal, am_q_Gr_allVertices, am_q_Gr_hasEdgeBetween, am_q_Gr_endsOf, am_q_Gr_lengthOf, am_q_Gr_putEdge, am_q_Gr_updateCost, am_q_Gr_dropEdge, am_q_Gr_startTerminal, am_q_Gr_endTerminal, am_q_Gr_takeLabels, am_q_Gr_borderOf, am_q_Gr_costOfEdges, am_q_Gr_costOfSet, am_q_Gr_presentCut, am_q_Gr_presentCost, am_q_Gp_init, am_q_Gp_run, am_q_Gp_makeRound, am_q_Gp_grouped, am_q_Gp_ownerOf, am_q_Hi_init, am_q_Hi_save, am_q_Hi_restore, am_q_Mv_init, am_q_Mv_run, am_q_Mv_consider, am_q_Mv_makeImprovement, am_q_Ne_init, am_q_Ne_run, am_q_Ne_offer, am_q_Rd_init, am_q_Rd_read, am_q_Rd_finish, am_q_Rd_readGraph, am_q_Rd_readStatement, am_q_Rd_readTerminal, am_q_Rd_readEdge, am_q_Rd_readLoad, am_q_Rd_startCost, am_q_Rd_readSum, am_q_Rd_readTerm, am_q_Rd_readFactor, am_q_Rd_putCode, am_q_Rd_readSymbol, am_q_Rd_vertexHere, am_q_Rd_numberHere, am_q_Rd_isWord, am_q_Rd_fail, am_q_Rd_advance, am_q_Mc_init, am_q_Mc_append, am_q_Mc_putWord, am_q_Mc_load, am_q_Mc_errorOffset, am_q_Mc_size, am_q_Mc_edgeCount, am_q_Mc_terminals, am_q_Mc_burden, am_q_Mc_edge, am_q_Mc_cutCost, am_q_Mc_separates, am_q_Mc_isolatingValue, am_q_Mc_isolatingSet, am_q_Mc_lowerBound, am_q_Mc_dearest, am_q_Mc_unionCut, am_q_Mc_unionCost, am_q_Mc_rounds, am_q_Mc_fixed, am_q_Mc_exactCost, am_q_Mc_exact, am_q_Mc_price, am_q_Mc_nearest, am_q_Mc_distance, am_q_Mc_label, am_q_Mc_cost, am_q_Mc_cut, am_q_Mc_ratio, am_q_Mc_meanCost, am_q_Mc_bestMove, am_q_Mc_setLabel, am_q_Mc_useNearest, am_q_Mc_useUnion, am_q_Mc_useExact, am_q_Mc_improve, am_q_Mc_setWeight, am_q_Mc_addEdge, am_q_Mc_removeEdge, am_q_Mc_setTerminal, am_q_Mc_undo, am_q_Mc_checksum, am_q_Mc_requireVertex, am_q_Mc_requireEdge, am_q_Mc_requireTerminal, am_q_Mc_requireSomeTerminal, am_q_Mc_requireWeight, am_q_Mo_init, am_q_Mo_thrown, am_q_Mo_isIn, am_q_Mo_get, am_q_Mo_put, am_q_Mo_change, am_q_Mo_right, am_q_Mo_append, am_q_Mo_fails, am_q_Mo_sees, am_q_Mo_takes, am_q_Mo_wants, am_q_Mo_isDigit, am_q_Mo_reads, am_q_Mo_codes, am_q_Mo_sum, am_q_Mo_term, am_q_Mo_factor, am_q_Mo_readsVertex, am_q_Mo_terminalLine, am_q_Mo_bitsOf, am_q_Mo_isJoined, am_q_Mo_edgeLine, am_q_Mo_loadLine, am_q_Mo_statement, am_q_Mo_texts, am_q_Mo_load, am_q_Mo_errorOffset, am_q_Mo_within, am_q_Mo_costOf, am_q_Mo_laysCosts, am_q_Mo_count, am_q_Mo_edges, am_q_Mo_low, am_q_Mo_high, am_q_Mo_has, am_q_Mo_isTerminal, am_q_Mo_all, am_q_Mo_cutOf, am_q_Mo_bestSet, am_q_Mo_isolating, am_q_Mo_laysIsolating, am_q_Mo_dearestNow, am_q_Mo_othersOf, am_q_Mo_goesRound, am_q_Mo_laysGroups, am_q_Mo_costBy, am_q_Mo_goesOn, am_q_Mo_laysExact, am_q_Mo_exactNow, am_q_Mo_costNow, am_q_Mo_lengthOf, am_q_Mo_laysFar, am_q_Mo_laysNear, am_q_Mo_size, am_q_Mo_edgeCount, am_q_Mo_terminals, am_q_Mo_isVertex, am_q_Mo_burden, am_q_Mo_edge, am_q_Mo_cutCost, am_q_Mo_separates, am_q_Mo_mustBe, am_q_Mo_isolatingValue, am_q_Mo_isolatingSet, am_q_Mo_lowerBound, am_q_Mo_hasTerminal, am_q_Mo_dearest, am_q_Mo_unionNow, am_q_Mo_unionCut, am_q_Mo_unionCost, am_q_Mo_rounds, am_q_Mo_fixed, am_q_Mo_exactCost, am_q_Mo_exact, am_q_Mo_price, am_q_Mo_nearest, am_q_Mo_distance, am_q_Mo_label, am_q_Mo_cost, am_q_Mo_cut, am_q_Mo_ratio, am_q_Mo_meanCost, am_q_Mo_laysMove, am_q_Mo_bestMove, am_q_Mo_setLabel, am_q_Mo_useNearest, am_q_Mo_useUnion, am_q_Mo_useExact, am_q_Mo_improve, am_q_Mo_isEdge, am_q_Mo_setWeight, am_q_Mo_areJoined, am_q_Mo_addEdge, am_q_Mo_removeEdge, am_q_Mo_setTerminal, am_q_Mo_undo, am_q_Mo_checksum, am_q_JI_bitCount, am_q_JA_fill, am_q_JA_copyOf, am_q_La_load, am_q_La_burden, am_q_La_edge, am_q_La_cutCost, am_q_La_separates, am_q_La_isolatingValue, am_q_La_isolatingSet, am_q_La_dearest, am_q_La_unionCut, am_q_La_unionCost, am_q_La_fixed, am_q_La_exact, am_q_La_price, am_q_La_nearest, am_q_La_distance, am_q_La_label, am_q_La_bestMove, am_q_La_setLabel, am_q_La_useUnion, am_q_La_improve, am_q_La_setWeight, am_q_La_addEdge, am_q_La_removeEdge, am_q_La_setTerminal, am_q_La_law]
def am_hd : List (Nat × Nat × Nat × Nat × Nat × Nat) → Nat → Nat → Option (Nat × Nat)
  | [], _, _ => none
  | q :: l, pc, E => bif Nat.ble q.1 pc && Nat.blt pc q.2.1 && Nat.beq E q.2.2.2.1 then some (q.2.2.2.2.1, q.2.2.2.2.2) else am_hd l pc E
def am_P0 : am_P := fun m => match am_prog[m]? with
  | none => none
  | some q => some (am_code q.1, am_hd q.2.1, q.2.2)
theorem ap_Cu_keepsApart : am_P0 m_Cu_keepsApart = some (am_code at_Cu_keepsApart, am_hd ah_Cu_keepsApart, 4) := rfl
theorem ap_Cu_reachedFrom : am_P0 m_Cu_reachedFrom = some (am_code at_Cu_reachedFrom, am_hd ah_Cu_reachedFrom, 7) := rfl
theorem ap_Cu_cheapestSet : am_P0 m_Cu_cheapestSet = some (am_code at_Cu_cheapestSet, am_hd ah_Cu_cheapestSet, 10) := rfl
theorem ap_Cu_setOf : am_P0 m_Cu_setOf = some (am_code at_Cu_setOf, am_hd ah_Cu_setOf, 3) := rfl
theorem ap_Cu_valueOf : am_P0 m_Cu_valueOf = some (am_code at_Cu_valueOf, am_hd ah_Cu_valueOf, 2) := rfl
theorem ap_Cu_dearestOf : am_P0 m_Cu_dearestOf = some (am_code at_Cu_dearestOf, am_hd ah_Cu_dearestOf, 5) := rfl
theorem ap_Cu_unionOf : am_P0 m_Cu_unionOf = some (am_code at_Cu_unionOf, am_hd ah_Cu_unionOf, 4) := rfl
theorem ap_Cu_labelByUnion : am_P0 m_Cu_labelByUnion = some (am_code at_Cu_labelByUnion, am_hd ah_Cu_labelByUnion, 3) := rfl
theorem ap_Cu_labelSet : am_P0 m_Cu_labelSet = some (am_code at_Cu_labelSet, am_hd ah_Cu_labelSet, 4) := rfl
theorem ap_Ex_init : am_P0 m_Ex_init = some (am_code at_Ex_init, am_hd ah_Ex_init, 1) := rfl
theorem ap_Ex_run : am_P0 m_Ex_run = some (am_code at_Ex_run, am_hd ah_Ex_run, 3) := rfl
theorem ap_Ex_extend : am_P0 m_Ex_extend = some (am_code at_Ex_extend, am_hd ah_Ex_extend, 8) := rfl
theorem ap_Ex_costToEarlier : am_P0 m_Ex_costToEarlier = some (am_code at_Ex_costToEarlier, am_hd ah_Ex_costToEarlier, 5) := rfl
theorem ap_Fo_init : am_P0 m_Fo_init = some (am_code at_Fo_init, am_hd ah_Fo_init, 2) := rfl
theorem ap_Fo_evaluate : am_P0 m_Fo_evaluate = some (am_code at_Fo_evaluate, am_hd ah_Fo_evaluate, 7) := rfl
theorem ap_Fo_operand : am_P0 m_Fo_operand = some (am_code at_Fo_operand, am_hd ah_Fo_operand, 4) := rfl
theorem ap_Fo_combine : am_P0 m_Fo_combine = some (am_code at_Fo_combine, am_hd ah_Fo_combine, 5) := rfl
theorem ap_Gr_init : am_P0 m_Gr_init = some (am_code at_Gr_init, am_hd ah_Gr_init, 1) := rfl
theorem ap_Gr_clear : am_P0 m_Gr_clear = some (am_code at_Gr_clear, am_hd ah_Gr_clear, 1) := rfl
theorem ap_Gr_copyFrom : am_P0 m_Gr_copyFrom = some (am_code at_Gr_copyFrom, am_hd ah_Gr_copyFrom, 2) := rfl
theorem ap_Gr_hasVertex : am_P0 m_Gr_hasVertex = some (am_code at_Gr_hasVertex, am_hd ah_Gr_hasVertex, 2) := rfl
theorem ap_Gr_isTerminal : am_P0 m_Gr_isTerminal = some (am_code at_Gr_isTerminal, am_hd ah_Gr_isTerminal, 2) := rfl
theorem ap_Gr_allVertices : am_P0 m_Gr_allVertices = some (am_code at_Gr_allVertices, am_hd ah_Gr_allVertices, 1) := rfl
theorem ap_Gr_hasEdgeBetween : am_P0 m_Gr_hasEdgeBetween = some (am_code at_Gr_hasEdgeBetween, am_hd ah_Gr_hasEdgeBetween, 5) := rfl
theorem ap_Gr_endsOf : am_P0 m_Gr_endsOf = some (am_code at_Gr_endsOf, am_hd ah_Gr_endsOf, 2) := rfl
theorem ap_Gr_lengthOf : am_P0 m_Gr_lengthOf = some (am_code at_Gr_lengthOf, am_hd ah_Gr_lengthOf, 2) := rfl
theorem ap_Gr_putEdge : am_P0 m_Gr_putEdge = some (am_code at_Gr_putEdge, am_hd ah_Gr_putEdge, 4) := rfl
theorem ap_Gr_updateCost : am_P0 m_Gr_updateCost = some (am_code at_Gr_updateCost, am_hd ah_Gr_updateCost, 3) := rfl
theorem ap_Gr_dropEdge : am_P0 m_Gr_dropEdge = some (am_code at_Gr_dropEdge, am_hd ah_Gr_dropEdge, 3) := rfl
theorem ap_Gr_startTerminal : am_P0 m_Gr_startTerminal = some (am_code at_Gr_startTerminal, am_hd ah_Gr_startTerminal, 2) := rfl
theorem ap_Gr_endTerminal : am_P0 m_Gr_endTerminal = some (am_code at_Gr_endTerminal, am_hd ah_Gr_endTerminal, 3) := rfl
theorem ap_Gr_takeLabels : am_P0 m_Gr_takeLabels = some (am_code at_Gr_takeLabels, am_hd ah_Gr_takeLabels, 3) := rfl
theorem ap_Gr_borderOf : am_P0 m_Gr_borderOf = some (am_code at_Gr_borderOf, am_hd ah_Gr_borderOf, 4) := rfl
theorem ap_Gr_costOfEdges : am_P0 m_Gr_costOfEdges = some (am_code at_Gr_costOfEdges, am_hd ah_Gr_costOfEdges, 4) := rfl
theorem ap_Gr_costOfSet : am_P0 m_Gr_costOfSet = some (am_code at_Gr_costOfSet, am_hd ah_Gr_costOfSet, 2) := rfl
theorem ap_Gr_presentCut : am_P0 m_Gr_presentCut = some (am_code at_Gr_presentCut, am_hd ah_Gr_presentCut, 3) := rfl
theorem ap_Gr_presentCost : am_P0 m_Gr_presentCost = some (am_code at_Gr_presentCost, am_hd ah_Gr_presentCost, 1) := rfl
theorem ap_Gp_init : am_P0 m_Gp_init = some (am_code at_Gp_init, am_hd ah_Gp_init, 1) := rfl
theorem ap_Gp_run : am_P0 m_Gp_run = some (am_code at_Gp_run, am_hd ah_Gp_run, 3) := rfl
theorem ap_Gp_makeRound : am_P0 m_Gp_makeRound = some (am_code at_Gp_makeRound, am_hd ah_Gp_makeRound, 6) := rfl
theorem ap_Gp_grouped : am_P0 m_Gp_grouped = some (am_code at_Gp_grouped, am_hd ah_Gp_grouped, 3) := rfl
theorem ap_Gp_ownerOf : am_P0 m_Gp_ownerOf = some (am_code at_Gp_ownerOf, am_hd ah_Gp_ownerOf, 3) := rfl
theorem ap_Hi_init : am_P0 m_Hi_init = some (am_code at_Hi_init, am_hd ah_Hi_init, 2) := rfl
theorem ap_Hi_save : am_P0 m_Hi_save = some (am_code at_Hi_save, am_hd ah_Hi_save, 2) := rfl
theorem ap_Hi_restore : am_P0 m_Hi_restore = some (am_code at_Hi_restore, am_hd ah_Hi_restore, 2) := rfl
theorem ap_Mv_init : am_P0 m_Mv_init = some (am_code at_Mv_init, am_hd ah_Mv_init, 1) := rfl
theorem ap_Mv_run : am_P0 m_Mv_run = some (am_code at_Mv_run, am_hd ah_Mv_run, 4) := rfl
theorem ap_Mv_consider : am_P0 m_Mv_consider = some (am_code at_Mv_consider, am_hd ah_Mv_consider, 6) := rfl
theorem ap_Mv_makeImprovement : am_P0 m_Mv_makeImprovement = some (am_code at_Mv_makeImprovement, am_hd ah_Mv_makeImprovement, 2) := rfl
theorem ap_Ne_init : am_P0 m_Ne_init = some (am_code at_Ne_init, am_hd ah_Ne_init, 1) := rfl
theorem ap_Ne_run : am_P0 m_Ne_run = some (am_code at_Ne_run, am_hd ah_Ne_run, 4) := rfl
theorem ap_Ne_offer : am_P0 m_Ne_offer = some (am_code at_Ne_offer, am_hd ah_Ne_offer, 6) := rfl
theorem ap_Rd_init : am_P0 m_Rd_init = some (am_code at_Rd_init, am_hd ah_Rd_init, 1) := rfl
theorem ap_Rd_read : am_P0 m_Rd_read = some (am_code at_Rd_read, am_hd ah_Rd_read, 5) := rfl
theorem ap_Rd_finish : am_P0 m_Rd_finish = some (am_code at_Rd_finish, am_hd ah_Rd_finish, 2) := rfl
theorem ap_Rd_readGraph : am_P0 m_Rd_readGraph = some (am_code at_Rd_readGraph, am_hd ah_Rd_readGraph, 2) := rfl
theorem ap_Rd_readStatement : am_P0 m_Rd_readStatement = some (am_code at_Rd_readStatement, am_hd ah_Rd_readStatement, 1) := rfl
theorem ap_Rd_readTerminal : am_P0 m_Rd_readTerminal = some (am_code at_Rd_readTerminal, am_hd ah_Rd_readTerminal, 2) := rfl
theorem ap_Rd_readEdge : am_P0 m_Rd_readEdge = some (am_code at_Rd_readEdge, am_hd ah_Rd_readEdge, 4) := rfl
theorem ap_Rd_readLoad : am_P0 m_Rd_readLoad = some (am_code at_Rd_readLoad, am_hd ah_Rd_readLoad, 3) := rfl
theorem ap_Rd_startCost : am_P0 m_Rd_startCost = some (am_code at_Rd_startCost, am_hd ah_Rd_startCost, 1) := rfl
theorem ap_Rd_readSum : am_P0 m_Rd_readSum = some (am_code at_Rd_readSum, am_hd ah_Rd_readSum, 5) := rfl
theorem ap_Rd_readTerm : am_P0 m_Rd_readTerm = some (am_code at_Rd_readTerm, am_hd ah_Rd_readTerm, 5) := rfl
theorem ap_Rd_readFactor : am_P0 m_Rd_readFactor = some (am_code at_Rd_readFactor, am_hd ah_Rd_readFactor, 3) := rfl
theorem ap_Rd_putCode : am_P0 m_Rd_putCode = some (am_code at_Rd_putCode, am_hd ah_Rd_putCode, 2) := rfl
theorem ap_Rd_readSymbol : am_P0 m_Rd_readSymbol = some (am_code at_Rd_readSymbol, am_hd ah_Rd_readSymbol, 2) := rfl
theorem ap_Rd_vertexHere : am_P0 m_Rd_vertexHere = some (am_code at_Rd_vertexHere, am_hd ah_Rd_vertexHere, 1) := rfl
theorem ap_Rd_numberHere : am_P0 m_Rd_numberHere = some (am_code at_Rd_numberHere, am_hd ah_Rd_numberHere, 3) := rfl
theorem ap_Rd_isWord : am_P0 m_Rd_isWord = some (am_code at_Rd_isWord, am_hd ah_Rd_isWord, 3) := rfl
theorem ap_Rd_fail : am_P0 m_Rd_fail = some (am_code at_Rd_fail, am_hd ah_Rd_fail, 2) := rfl
theorem ap_Rd_advance : am_P0 m_Rd_advance = some (am_code at_Rd_advance, am_hd ah_Rd_advance, 2) := rfl
theorem ap_Mc_init : am_P0 m_Mc_init = some (am_code at_Mc_init, am_hd ah_Mc_init, 1) := rfl
theorem ap_Mc_append : am_P0 m_Mc_append = some (am_code at_Mc_append, am_hd ah_Mc_append, 6) := rfl
theorem ap_Mc_putWord : am_P0 m_Mc_putWord = some (am_code at_Mc_putWord, am_hd ah_Mc_putWord, 3) := rfl
theorem ap_Mc_load : am_P0 m_Mc_load = some (am_code at_Mc_load, am_hd ah_Mc_load, 3) := rfl
theorem ap_Mc_errorOffset : am_P0 m_Mc_errorOffset = some (am_code at_Mc_errorOffset, am_hd ah_Mc_errorOffset, 1) := rfl
theorem ap_Mc_size : am_P0 m_Mc_size = some (am_code at_Mc_size, am_hd ah_Mc_size, 1) := rfl
theorem ap_Mc_edgeCount : am_P0 m_Mc_edgeCount = some (am_code at_Mc_edgeCount, am_hd ah_Mc_edgeCount, 1) := rfl
theorem ap_Mc_terminals : am_P0 m_Mc_terminals = some (am_code at_Mc_terminals, am_hd ah_Mc_terminals, 1) := rfl
theorem ap_Mc_burden : am_P0 m_Mc_burden = some (am_code at_Mc_burden, am_hd ah_Mc_burden, 2) := rfl
theorem ap_Mc_edge : am_P0 m_Mc_edge = some (am_code at_Mc_edge, am_hd ah_Mc_edge, 3) := rfl
theorem ap_Mc_cutCost : am_P0 m_Mc_cutCost = some (am_code at_Mc_cutCost, am_hd ah_Mc_cutCost, 2) := rfl
theorem ap_Mc_separates : am_P0 m_Mc_separates = some (am_code at_Mc_separates, am_hd ah_Mc_separates, 2) := rfl
theorem ap_Mc_isolatingValue : am_P0 m_Mc_isolatingValue = some (am_code at_Mc_isolatingValue, am_hd ah_Mc_isolatingValue, 2) := rfl
theorem ap_Mc_isolatingSet : am_P0 m_Mc_isolatingSet = some (am_code at_Mc_isolatingSet, am_hd ah_Mc_isolatingSet, 2) := rfl
theorem ap_Mc_lowerBound : am_P0 m_Mc_lowerBound = some (am_code at_Mc_lowerBound, am_hd ah_Mc_lowerBound, 3) := rfl
theorem ap_Mc_dearest : am_P0 m_Mc_dearest = some (am_code at_Mc_dearest, am_hd ah_Mc_dearest, 1) := rfl
theorem ap_Mc_unionCut : am_P0 m_Mc_unionCut = some (am_code at_Mc_unionCut, am_hd ah_Mc_unionCut, 1) := rfl
theorem ap_Mc_unionCost : am_P0 m_Mc_unionCost = some (am_code at_Mc_unionCost, am_hd ah_Mc_unionCost, 1) := rfl
theorem ap_Mc_rounds : am_P0 m_Mc_rounds = some (am_code at_Mc_rounds, am_hd ah_Mc_rounds, 1) := rfl
theorem ap_Mc_fixed : am_P0 m_Mc_fixed = some (am_code at_Mc_fixed, am_hd ah_Mc_fixed, 2) := rfl
theorem ap_Mc_exactCost : am_P0 m_Mc_exactCost = some (am_code at_Mc_exactCost, am_hd ah_Mc_exactCost, 1) := rfl
theorem ap_Mc_exact : am_P0 m_Mc_exact = some (am_code at_Mc_exact, am_hd ah_Mc_exact, 2) := rfl
theorem ap_Mc_price : am_P0 m_Mc_price = some (am_code at_Mc_price, am_hd ah_Mc_price, 3) := rfl
theorem ap_Mc_nearest : am_P0 m_Mc_nearest = some (am_code at_Mc_nearest, am_hd ah_Mc_nearest, 2) := rfl
theorem ap_Mc_distance : am_P0 m_Mc_distance = some (am_code at_Mc_distance, am_hd ah_Mc_distance, 2) := rfl
theorem ap_Mc_label : am_P0 m_Mc_label = some (am_code at_Mc_label, am_hd ah_Mc_label, 2) := rfl
theorem ap_Mc_cost : am_P0 m_Mc_cost = some (am_code at_Mc_cost, am_hd ah_Mc_cost, 1) := rfl
theorem ap_Mc_cut : am_P0 m_Mc_cut = some (am_code at_Mc_cut, am_hd ah_Mc_cut, 1) := rfl
theorem ap_Mc_ratio : am_P0 m_Mc_ratio = some (am_code at_Mc_ratio, am_hd ah_Mc_ratio, 3) := rfl
theorem ap_Mc_meanCost : am_P0 m_Mc_meanCost = some (am_code at_Mc_meanCost, am_hd ah_Mc_meanCost, 5) := rfl
theorem ap_Mc_bestMove : am_P0 m_Mc_bestMove = some (am_code at_Mc_bestMove, am_hd ah_Mc_bestMove, 2) := rfl
theorem ap_Mc_setLabel : am_P0 m_Mc_setLabel = some (am_code at_Mc_setLabel, am_hd ah_Mc_setLabel, 3) := rfl
theorem ap_Mc_useNearest : am_P0 m_Mc_useNearest = some (am_code at_Mc_useNearest, am_hd ah_Mc_useNearest, 1) := rfl
theorem ap_Mc_useUnion : am_P0 m_Mc_useUnion = some (am_code at_Mc_useUnion, am_hd ah_Mc_useUnion, 1) := rfl
theorem ap_Mc_useExact : am_P0 m_Mc_useExact = some (am_code at_Mc_useExact, am_hd ah_Mc_useExact, 1) := rfl
theorem ap_Mc_improve : am_P0 m_Mc_improve = some (am_code at_Mc_improve, am_hd ah_Mc_improve, 3) := rfl
theorem ap_Mc_setWeight : am_P0 m_Mc_setWeight = some (am_code at_Mc_setWeight, am_hd ah_Mc_setWeight, 4) := rfl
theorem ap_Mc_addEdge : am_P0 m_Mc_addEdge = some (am_code at_Mc_addEdge, am_hd ah_Mc_addEdge, 4) := rfl
theorem ap_Mc_removeEdge : am_P0 m_Mc_removeEdge = some (am_code at_Mc_removeEdge, am_hd ah_Mc_removeEdge, 2) := rfl
theorem ap_Mc_setTerminal : am_P0 m_Mc_setTerminal = some (am_code at_Mc_setTerminal, am_hd ah_Mc_setTerminal, 4) := rfl
theorem ap_Mc_undo : am_P0 m_Mc_undo = some (am_code at_Mc_undo, am_hd ah_Mc_undo, 1) := rfl
theorem ap_Mc_checksum : am_P0 m_Mc_checksum = some (am_code at_Mc_checksum, am_hd ah_Mc_checksum, 4) := rfl
theorem ap_Mc_requireVertex : am_P0 m_Mc_requireVertex = some (am_code at_Mc_requireVertex, am_hd ah_Mc_requireVertex, 2) := rfl
theorem ap_Mc_requireEdge : am_P0 m_Mc_requireEdge = some (am_code at_Mc_requireEdge, am_hd ah_Mc_requireEdge, 2) := rfl
theorem ap_Mc_requireTerminal : am_P0 m_Mc_requireTerminal = some (am_code at_Mc_requireTerminal, am_hd ah_Mc_requireTerminal, 2) := rfl
theorem ap_Mc_requireSomeTerminal : am_P0 m_Mc_requireSomeTerminal = some (am_code at_Mc_requireSomeTerminal, am_hd ah_Mc_requireSomeTerminal, 1) := rfl
theorem ap_Mc_requireWeight : am_P0 m_Mc_requireWeight = some (am_code at_Mc_requireWeight, am_hd ah_Mc_requireWeight, 2) := rfl
theorem ap_Mo_init : am_P0 m_Mo_init = some (am_code at_Mo_init, am_hd ah_Mo_init, 1) := rfl
theorem ap_Mo_thrown : am_P0 m_Mo_thrown = some (am_code at_Mo_thrown, am_hd ah_Mo_thrown, 1) := rfl
theorem ap_Mo_isIn : am_P0 m_Mo_isIn = some (am_code at_Mo_isIn, am_hd ah_Mo_isIn, 6) := rfl
theorem ap_Mo_get : am_P0 m_Mo_get = some (am_code at_Mo_get, am_hd ah_Mo_get, 2) := rfl
theorem ap_Mo_put : am_P0 m_Mo_put = some (am_code at_Mo_put, am_hd ah_Mo_put, 3) := rfl
theorem ap_Mo_change : am_P0 m_Mo_change = some (am_code at_Mo_change, am_hd ah_Mo_change, 3) := rfl
theorem ap_Mo_right : am_P0 m_Mo_right = some (am_code at_Mo_right, am_hd ah_Mo_right, 3) := rfl
theorem ap_Mo_append : am_P0 m_Mo_append = some (am_code at_Mo_append, am_hd ah_Mo_append, 8) := rfl
theorem ap_Mo_fails : am_P0 m_Mo_fails = some (am_code at_Mo_fails, am_hd ah_Mo_fails, 3) := rfl
theorem ap_Mo_sees : am_P0 m_Mo_sees = some (am_code at_Mo_sees, am_hd ah_Mo_sees, 1) := rfl
theorem ap_Mo_takes : am_P0 m_Mo_takes = some (am_code at_Mo_takes, am_hd ah_Mo_takes, 5) := rfl
theorem ap_Mo_wants : am_P0 m_Mo_wants = some (am_code at_Mo_wants, am_hd ah_Mo_wants, 2) := rfl
theorem ap_Mo_isDigit : am_P0 m_Mo_isDigit = some (am_code at_Mo_isDigit, am_hd ah_Mo_isDigit, 1) := rfl
theorem ap_Mo_reads : am_P0 m_Mo_reads = some (am_code at_Mo_reads, am_hd ah_Mo_reads, 4) := rfl
theorem ap_Mo_codes : am_P0 m_Mo_codes = some (am_code at_Mo_codes, am_hd ah_Mo_codes, 4) := rfl
theorem ap_Mo_sum : am_P0 m_Mo_sum = some (am_code at_Mo_sum, am_hd ah_Mo_sum, 2) := rfl
theorem ap_Mo_term : am_P0 m_Mo_term = some (am_code at_Mo_term, am_hd ah_Mo_term, 2) := rfl
theorem ap_Mo_factor : am_P0 m_Mo_factor = some (am_code at_Mo_factor, am_hd ah_Mo_factor, 2) := rfl
theorem ap_Mo_readsVertex : am_P0 m_Mo_readsVertex = some (am_code at_Mo_readsVertex, am_hd ah_Mo_readsVertex, 1) := rfl
theorem ap_Mo_terminalLine : am_P0 m_Mo_terminalLine = some (am_code at_Mo_terminalLine, am_hd ah_Mo_terminalLine, 3) := rfl
theorem ap_Mo_bitsOf : am_P0 m_Mo_bitsOf = some (am_code at_Mo_bitsOf, am_hd ah_Mo_bitsOf, 3) := rfl
theorem ap_Mo_isJoined : am_P0 m_Mo_isJoined = some (am_code at_Mo_isJoined, am_hd ah_Mo_isJoined, 4) := rfl
theorem ap_Mo_edgeLine : am_P0 m_Mo_edgeLine = some (am_code at_Mo_edgeLine, am_hd ah_Mo_edgeLine, 6) := rfl
theorem ap_Mo_loadLine : am_P0 m_Mo_loadLine = some (am_code at_Mo_loadLine, am_hd ah_Mo_loadLine, 3) := rfl
theorem ap_Mo_statement : am_P0 m_Mo_statement = some (am_code at_Mo_statement, am_hd ah_Mo_statement, 2) := rfl
theorem ap_Mo_texts : am_P0 m_Mo_texts = some (am_code at_Mo_texts, am_hd ah_Mo_texts, 2) := rfl
theorem ap_Mo_load : am_P0 m_Mo_load = some (am_code at_Mo_load, am_hd ah_Mo_load, 3) := rfl
theorem ap_Mo_errorOffset : am_P0 m_Mo_errorOffset = some (am_code at_Mo_errorOffset, am_hd ah_Mo_errorOffset, 1) := rfl
theorem ap_Mo_within : am_P0 m_Mo_within = some (am_code at_Mo_within, am_hd ah_Mo_within, 4) := rfl
theorem ap_Mo_costOf : am_P0 m_Mo_costOf = some (am_code at_Mo_costOf, am_hd ah_Mo_costOf, 11) := rfl
theorem ap_Mo_laysCosts : am_P0 m_Mo_laysCosts = some (am_code at_Mo_laysCosts, am_hd ah_Mo_laysCosts, 2) := rfl
theorem ap_Mo_count : am_P0 m_Mo_count = some (am_code at_Mo_count, am_hd ah_Mo_count, 1) := rfl
theorem ap_Mo_edges : am_P0 m_Mo_edges = some (am_code at_Mo_edges, am_hd ah_Mo_edges, 1) := rfl
theorem ap_Mo_low : am_P0 m_Mo_low = some (am_code at_Mo_low, am_hd ah_Mo_low, 2) := rfl
theorem ap_Mo_high : am_P0 m_Mo_high = some (am_code at_Mo_high, am_hd ah_Mo_high, 2) := rfl
theorem ap_Mo_has : am_P0 m_Mo_has = some (am_code at_Mo_has, am_hd ah_Mo_has, 2) := rfl
theorem ap_Mo_isTerminal : am_P0 m_Mo_isTerminal = some (am_code at_Mo_isTerminal, am_hd ah_Mo_isTerminal, 2) := rfl
theorem ap_Mo_all : am_P0 m_Mo_all = some (am_code at_Mo_all, am_hd ah_Mo_all, 1) := rfl
theorem ap_Mo_cutOf : am_P0 m_Mo_cutOf = some (am_code at_Mo_cutOf, am_hd ah_Mo_cutOf, 4) := rfl
theorem ap_Mo_bestSet : am_P0 m_Mo_bestSet = some (am_code at_Mo_bestSet, am_hd ah_Mo_bestSet, 8) := rfl
theorem ap_Mo_isolating : am_P0 m_Mo_isolating = some (am_code at_Mo_isolating, am_hd ah_Mo_isolating, 2) := rfl
theorem ap_Mo_laysIsolating : am_P0 m_Mo_laysIsolating = some (am_code at_Mo_laysIsolating, am_hd ah_Mo_laysIsolating, 2) := rfl
theorem ap_Mo_dearestNow : am_P0 m_Mo_dearestNow = some (am_code at_Mo_dearestNow, am_hd ah_Mo_dearestNow, 3) := rfl
theorem ap_Mo_othersOf : am_P0 m_Mo_othersOf = some (am_code at_Mo_othersOf, am_hd ah_Mo_othersOf, 4) := rfl
theorem ap_Mo_goesRound : am_P0 m_Mo_goesRound = some (am_code at_Mo_goesRound, am_hd ah_Mo_goesRound, 4) := rfl
theorem ap_Mo_laysGroups : am_P0 m_Mo_laysGroups = some (am_code at_Mo_laysGroups, am_hd ah_Mo_laysGroups, 2) := rfl
theorem ap_Mo_costBy : am_P0 m_Mo_costBy = some (am_code at_Mo_costBy, am_hd ah_Mo_costBy, 4) := rfl
theorem ap_Mo_goesOn : am_P0 m_Mo_goesOn = some (am_code at_Mo_goesOn, am_hd ah_Mo_goesOn, 4) := rfl
theorem ap_Mo_laysExact : am_P0 m_Mo_laysExact = some (am_code at_Mo_laysExact, am_hd ah_Mo_laysExact, 4) := rfl
theorem ap_Mo_exactNow : am_P0 m_Mo_exactNow = some (am_code at_Mo_exactNow, am_hd ah_Mo_exactNow, 1) := rfl
theorem ap_Mo_costNow : am_P0 m_Mo_costNow = some (am_code at_Mo_costNow, am_hd ah_Mo_costNow, 2) := rfl
theorem ap_Mo_lengthOf : am_P0 m_Mo_lengthOf = some (am_code at_Mo_lengthOf, am_hd ah_Mo_lengthOf, 2) := rfl
theorem ap_Mo_laysFar : am_P0 m_Mo_laysFar = some (am_code at_Mo_laysFar, am_hd ah_Mo_laysFar, 6) := rfl
theorem ap_Mo_laysNear : am_P0 m_Mo_laysNear = some (am_code at_Mo_laysNear, am_hd ah_Mo_laysNear, 3) := rfl
theorem ap_Mo_size : am_P0 m_Mo_size = some (am_code at_Mo_size, am_hd ah_Mo_size, 1) := rfl
theorem ap_Mo_edgeCount : am_P0 m_Mo_edgeCount = some (am_code at_Mo_edgeCount, am_hd ah_Mo_edgeCount, 1) := rfl
theorem ap_Mo_terminals : am_P0 m_Mo_terminals = some (am_code at_Mo_terminals, am_hd ah_Mo_terminals, 1) := rfl
theorem ap_Mo_isVertex : am_P0 m_Mo_isVertex = some (am_code at_Mo_isVertex, am_hd ah_Mo_isVertex, 2) := rfl
theorem ap_Mo_burden : am_P0 m_Mo_burden = some (am_code at_Mo_burden, am_hd ah_Mo_burden, 2) := rfl
theorem ap_Mo_edge : am_P0 m_Mo_edge = some (am_code at_Mo_edge, am_hd ah_Mo_edge, 3) := rfl
theorem ap_Mo_cutCost : am_P0 m_Mo_cutCost = some (am_code at_Mo_cutCost, am_hd ah_Mo_cutCost, 2) := rfl
theorem ap_Mo_separates : am_P0 m_Mo_separates = some (am_code at_Mo_separates, am_hd ah_Mo_separates, 5) := rfl
theorem ap_Mo_mustBe : am_P0 m_Mo_mustBe = some (am_code at_Mo_mustBe, am_hd ah_Mo_mustBe, 2) := rfl
theorem ap_Mo_isolatingValue : am_P0 m_Mo_isolatingValue = some (am_code at_Mo_isolatingValue, am_hd ah_Mo_isolatingValue, 3) := rfl
theorem ap_Mo_isolatingSet : am_P0 m_Mo_isolatingSet = some (am_code at_Mo_isolatingSet, am_hd ah_Mo_isolatingSet, 2) := rfl
theorem ap_Mo_lowerBound : am_P0 m_Mo_lowerBound = some (am_code at_Mo_lowerBound, am_hd ah_Mo_lowerBound, 3) := rfl
theorem ap_Mo_hasTerminal : am_P0 m_Mo_hasTerminal = some (am_code at_Mo_hasTerminal, am_hd ah_Mo_hasTerminal, 1) := rfl
theorem ap_Mo_dearest : am_P0 m_Mo_dearest = some (am_code at_Mo_dearest, am_hd ah_Mo_dearest, 1) := rfl
theorem ap_Mo_unionNow : am_P0 m_Mo_unionNow = some (am_code at_Mo_unionNow, am_hd ah_Mo_unionNow, 5) := rfl
theorem ap_Mo_unionCut : am_P0 m_Mo_unionCut = some (am_code at_Mo_unionCut, am_hd ah_Mo_unionCut, 1) := rfl
theorem ap_Mo_unionCost : am_P0 m_Mo_unionCost = some (am_code at_Mo_unionCost, am_hd ah_Mo_unionCost, 4) := rfl
theorem ap_Mo_rounds : am_P0 m_Mo_rounds = some (am_code at_Mo_rounds, am_hd ah_Mo_rounds, 1) := rfl
theorem ap_Mo_fixed : am_P0 m_Mo_fixed = some (am_code at_Mo_fixed, am_hd ah_Mo_fixed, 3) := rfl
theorem ap_Mo_exactCost : am_P0 m_Mo_exactCost = some (am_code at_Mo_exactCost, am_hd ah_Mo_exactCost, 1) := rfl
theorem ap_Mo_exact : am_P0 m_Mo_exact = some (am_code at_Mo_exact, am_hd ah_Mo_exact, 3) := rfl
theorem ap_Mo_price : am_P0 m_Mo_price = some (am_code at_Mo_price, am_hd ah_Mo_price, 3) := rfl
theorem ap_Mo_nearest : am_P0 m_Mo_nearest = some (am_code at_Mo_nearest, am_hd ah_Mo_nearest, 2) := rfl
theorem ap_Mo_distance : am_P0 m_Mo_distance = some (am_code at_Mo_distance, am_hd ah_Mo_distance, 2) := rfl
theorem ap_Mo_label : am_P0 m_Mo_label = some (am_code at_Mo_label, am_hd ah_Mo_label, 2) := rfl
theorem ap_Mo_cost : am_P0 m_Mo_cost = some (am_code at_Mo_cost, am_hd ah_Mo_cost, 1) := rfl
theorem ap_Mo_cut : am_P0 m_Mo_cut = some (am_code at_Mo_cut, am_hd ah_Mo_cut, 3) := rfl
theorem ap_Mo_ratio : am_P0 m_Mo_ratio = some (am_code at_Mo_ratio, am_hd ah_Mo_ratio, 3) := rfl
theorem ap_Mo_meanCost : am_P0 m_Mo_meanCost = some (am_code at_Mo_meanCost, am_hd ah_Mo_meanCost, 5) := rfl
theorem ap_Mo_laysMove : am_P0 m_Mo_laysMove = some (am_code at_Mo_laysMove, am_hd ah_Mo_laysMove, 5) := rfl
theorem ap_Mo_bestMove : am_P0 m_Mo_bestMove = some (am_code at_Mo_bestMove, am_hd ah_Mo_bestMove, 2) := rfl
theorem ap_Mo_setLabel : am_P0 m_Mo_setLabel = some (am_code at_Mo_setLabel, am_hd ah_Mo_setLabel, 4) := rfl
theorem ap_Mo_useNearest : am_P0 m_Mo_useNearest = some (am_code at_Mo_useNearest, am_hd ah_Mo_useNearest, 2) := rfl
theorem ap_Mo_useUnion : am_P0 m_Mo_useUnion = some (am_code at_Mo_useUnion, am_hd ah_Mo_useUnion, 5) := rfl
theorem ap_Mo_useExact : am_P0 m_Mo_useExact = some (am_code at_Mo_useExact, am_hd ah_Mo_useExact, 3) := rfl
theorem ap_Mo_improve : am_P0 m_Mo_improve = some (am_code at_Mo_improve, am_hd ah_Mo_improve, 3) := rfl
theorem ap_Mo_isEdge : am_P0 m_Mo_isEdge = some (am_code at_Mo_isEdge, am_hd ah_Mo_isEdge, 2) := rfl
theorem ap_Mo_setWeight : am_P0 m_Mo_setWeight = some (am_code at_Mo_setWeight, am_hd ah_Mo_setWeight, 4) := rfl
theorem ap_Mo_areJoined : am_P0 m_Mo_areJoined = some (am_code at_Mo_areJoined, am_hd ah_Mo_areJoined, 4) := rfl
theorem ap_Mo_addEdge : am_P0 m_Mo_addEdge = some (am_code at_Mo_addEdge, am_hd ah_Mo_addEdge, 5) := rfl
theorem ap_Mo_removeEdge : am_P0 m_Mo_removeEdge = some (am_code at_Mo_removeEdge, am_hd ah_Mo_removeEdge, 4) := rfl
theorem ap_Mo_setTerminal : am_P0 m_Mo_setTerminal = some (am_code at_Mo_setTerminal, am_hd ah_Mo_setTerminal, 5) := rfl
theorem ap_Mo_undo : am_P0 m_Mo_undo = some (am_code at_Mo_undo, am_hd ah_Mo_undo, 1) := rfl
theorem ap_Mo_checksum : am_P0 m_Mo_checksum = some (am_code at_Mo_checksum, am_hd ah_Mo_checksum, 5) := rfl
theorem ap_JI_bitCount : am_P0 m_JI_bitCount = some (am_code at_JI_bitCount, am_hd ah_JI_bitCount, 1) := rfl
theorem ap_JA_fill : am_P0 m_JA_fill = some (am_code at_JA_fill, am_hd ah_JA_fill, 4) := rfl
theorem ap_JA_copyOf : am_P0 m_JA_copyOf = some (am_code at_JA_copyOf, am_hd ah_JA_copyOf, 3) := rfl
theorem ap_La_load : am_P0 m_La_load = some (am_code at_La_load, am_hd ah_La_load, 4) := rfl
theorem ap_La_burden : am_P0 m_La_burden = some (am_code at_La_burden, am_hd ah_La_burden, 4) := rfl
theorem ap_La_edge : am_P0 m_La_edge = some (am_code at_La_edge, am_hd ah_La_edge, 5) := rfl
theorem ap_La_cutCost : am_P0 m_La_cutCost = some (am_code at_La_cutCost, am_hd ah_La_cutCost, 4) := rfl
theorem ap_La_separates : am_P0 m_La_separates = some (am_code at_La_separates, am_hd ah_La_separates, 4) := rfl
theorem ap_La_isolatingValue : am_P0 m_La_isolatingValue = some (am_code at_La_isolatingValue, am_hd ah_La_isolatingValue, 4) := rfl
theorem ap_La_isolatingSet : am_P0 m_La_isolatingSet = some (am_code at_La_isolatingSet, am_hd ah_La_isolatingSet, 4) := rfl
theorem ap_La_dearest : am_P0 m_La_dearest = some (am_code at_La_dearest, am_hd ah_La_dearest, 3) := rfl
theorem ap_La_unionCut : am_P0 m_La_unionCut = some (am_code at_La_unionCut, am_hd ah_La_unionCut, 3) := rfl
theorem ap_La_unionCost : am_P0 m_La_unionCost = some (am_code at_La_unionCost, am_hd ah_La_unionCost, 3) := rfl
theorem ap_La_fixed : am_P0 m_La_fixed = some (am_code at_La_fixed, am_hd ah_La_fixed, 4) := rfl
theorem ap_La_exact : am_P0 m_La_exact = some (am_code at_La_exact, am_hd ah_La_exact, 4) := rfl
theorem ap_La_price : am_P0 m_La_price = some (am_code at_La_price, am_hd ah_La_price, 4) := rfl
theorem ap_La_nearest : am_P0 m_La_nearest = some (am_code at_La_nearest, am_hd ah_La_nearest, 4) := rfl
theorem ap_La_distance : am_P0 m_La_distance = some (am_code at_La_distance, am_hd ah_La_distance, 4) := rfl
theorem ap_La_label : am_P0 m_La_label = some (am_code at_La_label, am_hd ah_La_label, 4) := rfl
theorem ap_La_bestMove : am_P0 m_La_bestMove = some (am_code at_La_bestMove, am_hd ah_La_bestMove, 4) := rfl
theorem ap_La_setLabel : am_P0 m_La_setLabel = some (am_code at_La_setLabel, am_hd ah_La_setLabel, 5) := rfl
theorem ap_La_useUnion : am_P0 m_La_useUnion = some (am_code at_La_useUnion, am_hd ah_La_useUnion, 3) := rfl
theorem ap_La_improve : am_P0 m_La_improve = some (am_code at_La_improve, am_hd ah_La_improve, 4) := rfl
theorem ap_La_setWeight : am_P0 m_La_setWeight = some (am_code at_La_setWeight, am_hd ah_La_setWeight, 5) := rfl
theorem ap_La_addEdge : am_P0 m_La_addEdge = some (am_code at_La_addEdge, am_hd ah_La_addEdge, 6) := rfl
theorem ap_La_removeEdge : am_P0 m_La_removeEdge = some (am_code at_La_removeEdge, am_hd ah_La_removeEdge, 4) := rfl
theorem ap_La_setTerminal : am_P0 m_La_setTerminal = some (am_code at_La_setTerminal, am_hd ah_La_setTerminal, 5) := rfl
theorem ap_La_law : am_P0 m_La_law = some (am_code at_La_law, am_hd ah_La_law, 9) := rfl
end
section
/-! THE FIXED CELLS: kinds and references of the cells 1 to 104, which the start of the law makes in this order; written by wip/whole/src/gen30.py -/
def sh_kl : List (Nat × Nat) := [(0, 0), (1, 8), (3, 700), (1, 2), (2, 9), (2, 9), (2, 20), (2, 20), (2, 20), (2, 20), (1, 4), (6, 8), (1, 2), (2, 9), (2, 9), (2, 20), (2, 20), (2, 20), (2, 20), (1, 2), (2, 9), (2, 9), (2, 20), (2, 20), (2, 20), (2, 20), (1, 2), (2, 9), (2, 9), (2, 20), (2, 20), (2, 20), (2, 20), (1, 2), (2, 9), (2, 9), (2, 20), (2, 20), (2, 20), (2, 20), (1, 2), (2, 9), (2, 9), (2, 20), (2, 20), (2, 20), (2, 20), (1, 2), (2, 9), (2, 9), (2, 20), (2, 20), (2, 20), (2, 20), (1, 2), (2, 9), (2, 9), (2, 20), (2, 20), (2, 20), (2, 20), (1, 2), (2, 9), (2, 9), (2, 20), (2, 20), (2, 20), (2, 20), (1, 7), (1, 2), (2, 9), (2, 9), (2, 20), (2, 20), (2, 20), (2, 20), (3, 0), (2, 700), (1, 3), (2, 9), (1, 0), (2, 9), (2, 9), (1, 6), (2, 9), (2, 9), (1, 5), (1, 9), (2, 13248), (2, 1472), (2, 700), (4, 9), (5, 1400), (2, 20), (2, 9), (2, 9), (2, 9), (2, 9), (2, 9), (2, 9), (2, 9), (2, 9), (2, 9), (2, 9), (5, 1)]
def sh_rl : List (Nat × Nat × Nat) := [(1, 0, 2), (3, 3, 4), (3, 4, 5), (3, 5, 6), (3, 6, 7), (3, 7, 8), (3, 8, 9), (1, 3, 3), (1, 4, 10), (10, 0, 11), (12, 3, 13), (12, 4, 14), (12, 5, 15), (12, 6, 16), (12, 7, 17), (12, 8, 18), (11, 0, 12), (19, 3, 20), (19, 4, 21), (19, 5, 22), (19, 6, 23), (19, 7, 24), (19, 8, 25), (11, 1, 19), (26, 3, 27), (26, 4, 28), (26, 5, 29), (26, 6, 30), (26, 7, 31), (26, 8, 32), (11, 2, 26), (33, 3, 34), (33, 4, 35), (33, 5, 36), (33, 6, 37), (33, 7, 38), (33, 8, 39), (11, 3, 33), (40, 3, 41), (40, 4, 42), (40, 5, 43), (40, 6, 44), (40, 7, 45), (40, 8, 46), (11, 4, 40), (47, 3, 48), (47, 4, 49), (47, 5, 50), (47, 6, 51), (47, 7, 52), (47, 8, 53), (11, 5, 47), (54, 3, 55), (54, 4, 56), (54, 5, 57), (54, 6, 58), (54, 7, 59), (54, 8, 60), (11, 6, 54), (61, 3, 62), (61, 4, 63), (61, 5, 64), (61, 6, 65), (61, 7, 66), (61, 8, 67), (11, 7, 61), (1, 5, 68), (69, 3, 70), (69, 4, 71), (69, 5, 72), (69, 6, 73), (69, 7, 74), (69, 8, 75), (68, 0, 69), (68, 11, 77), (1, 6, 78), (78, 1, 79), (1, 7, 80), (80, 0, 81), (80, 2, 82), (1, 8, 83), (83, 0, 84), (83, 1, 85), (1, 9, 86), (87, 1, 88), (87, 2, 89), (87, 5, 90), (87, 6, 91), (87, 16, 92), (87, 17, 93), (87, 19, 94), (87, 20, 95), (87, 21, 96), (87, 23, 97), (87, 24, 98), (87, 25, 99), (87, 28, 100), (87, 29, 101), (87, 30, 102), (87, 31, 103)]
def sh_kk (a : Nat) : Nat × Nat := sh_kl.getD a (0, 0)
def sh (h : am_H) : Prop := (∀ a, a < 105 → am_k h a = sh_kk a) ∧ (∀ q ∈ sh_rl, am_r h q.1 q.2.1 = q.2.2) ∧ 105 ≤ am_n h
theorem sk_1 {h : am_H} (hs : sh h) : am_k h 1 = (1, 8) := hs.1 1 (by decide)
theorem sk_2 {h : am_H} (hs : sh h) : am_k h 2 = (3, 700) := hs.1 2 (by decide)
theorem sk_3 {h : am_H} (hs : sh h) : am_k h 3 = (1, 2) := hs.1 3 (by decide)
theorem sk_4 {h : am_H} (hs : sh h) : am_k h 4 = (2, 9) := hs.1 4 (by decide)
theorem sk_5 {h : am_H} (hs : sh h) : am_k h 5 = (2, 9) := hs.1 5 (by decide)
theorem sk_6 {h : am_H} (hs : sh h) : am_k h 6 = (2, 20) := hs.1 6 (by decide)
theorem sk_7 {h : am_H} (hs : sh h) : am_k h 7 = (2, 20) := hs.1 7 (by decide)
theorem sk_8 {h : am_H} (hs : sh h) : am_k h 8 = (2, 20) := hs.1 8 (by decide)
theorem sk_9 {h : am_H} (hs : sh h) : am_k h 9 = (2, 20) := hs.1 9 (by decide)
theorem sk_10 {h : am_H} (hs : sh h) : am_k h 10 = (1, 4) := hs.1 10 (by decide)
theorem sk_11 {h : am_H} (hs : sh h) : am_k h 11 = (6, 8) := hs.1 11 (by decide)
theorem sk_12 {h : am_H} (hs : sh h) : am_k h 12 = (1, 2) := hs.1 12 (by decide)
theorem sk_13 {h : am_H} (hs : sh h) : am_k h 13 = (2, 9) := hs.1 13 (by decide)
theorem sk_14 {h : am_H} (hs : sh h) : am_k h 14 = (2, 9) := hs.1 14 (by decide)
theorem sk_15 {h : am_H} (hs : sh h) : am_k h 15 = (2, 20) := hs.1 15 (by decide)
theorem sk_16 {h : am_H} (hs : sh h) : am_k h 16 = (2, 20) := hs.1 16 (by decide)
theorem sk_17 {h : am_H} (hs : sh h) : am_k h 17 = (2, 20) := hs.1 17 (by decide)
theorem sk_18 {h : am_H} (hs : sh h) : am_k h 18 = (2, 20) := hs.1 18 (by decide)
theorem sk_19 {h : am_H} (hs : sh h) : am_k h 19 = (1, 2) := hs.1 19 (by decide)
theorem sk_20 {h : am_H} (hs : sh h) : am_k h 20 = (2, 9) := hs.1 20 (by decide)
theorem sk_21 {h : am_H} (hs : sh h) : am_k h 21 = (2, 9) := hs.1 21 (by decide)
theorem sk_22 {h : am_H} (hs : sh h) : am_k h 22 = (2, 20) := hs.1 22 (by decide)
theorem sk_23 {h : am_H} (hs : sh h) : am_k h 23 = (2, 20) := hs.1 23 (by decide)
theorem sk_24 {h : am_H} (hs : sh h) : am_k h 24 = (2, 20) := hs.1 24 (by decide)
theorem sk_25 {h : am_H} (hs : sh h) : am_k h 25 = (2, 20) := hs.1 25 (by decide)
theorem sk_26 {h : am_H} (hs : sh h) : am_k h 26 = (1, 2) := hs.1 26 (by decide)
theorem sk_27 {h : am_H} (hs : sh h) : am_k h 27 = (2, 9) := hs.1 27 (by decide)
theorem sk_28 {h : am_H} (hs : sh h) : am_k h 28 = (2, 9) := hs.1 28 (by decide)
theorem sk_29 {h : am_H} (hs : sh h) : am_k h 29 = (2, 20) := hs.1 29 (by decide)
theorem sk_30 {h : am_H} (hs : sh h) : am_k h 30 = (2, 20) := hs.1 30 (by decide)
theorem sk_31 {h : am_H} (hs : sh h) : am_k h 31 = (2, 20) := hs.1 31 (by decide)
theorem sk_32 {h : am_H} (hs : sh h) : am_k h 32 = (2, 20) := hs.1 32 (by decide)
theorem sk_33 {h : am_H} (hs : sh h) : am_k h 33 = (1, 2) := hs.1 33 (by decide)
theorem sk_34 {h : am_H} (hs : sh h) : am_k h 34 = (2, 9) := hs.1 34 (by decide)
theorem sk_35 {h : am_H} (hs : sh h) : am_k h 35 = (2, 9) := hs.1 35 (by decide)
theorem sk_36 {h : am_H} (hs : sh h) : am_k h 36 = (2, 20) := hs.1 36 (by decide)
theorem sk_37 {h : am_H} (hs : sh h) : am_k h 37 = (2, 20) := hs.1 37 (by decide)
theorem sk_38 {h : am_H} (hs : sh h) : am_k h 38 = (2, 20) := hs.1 38 (by decide)
theorem sk_39 {h : am_H} (hs : sh h) : am_k h 39 = (2, 20) := hs.1 39 (by decide)
theorem sk_40 {h : am_H} (hs : sh h) : am_k h 40 = (1, 2) := hs.1 40 (by decide)
theorem sk_41 {h : am_H} (hs : sh h) : am_k h 41 = (2, 9) := hs.1 41 (by decide)
theorem sk_42 {h : am_H} (hs : sh h) : am_k h 42 = (2, 9) := hs.1 42 (by decide)
theorem sk_43 {h : am_H} (hs : sh h) : am_k h 43 = (2, 20) := hs.1 43 (by decide)
theorem sk_44 {h : am_H} (hs : sh h) : am_k h 44 = (2, 20) := hs.1 44 (by decide)
theorem sk_45 {h : am_H} (hs : sh h) : am_k h 45 = (2, 20) := hs.1 45 (by decide)
theorem sk_46 {h : am_H} (hs : sh h) : am_k h 46 = (2, 20) := hs.1 46 (by decide)
theorem sk_47 {h : am_H} (hs : sh h) : am_k h 47 = (1, 2) := hs.1 47 (by decide)
theorem sk_48 {h : am_H} (hs : sh h) : am_k h 48 = (2, 9) := hs.1 48 (by decide)
theorem sk_49 {h : am_H} (hs : sh h) : am_k h 49 = (2, 9) := hs.1 49 (by decide)
theorem sk_50 {h : am_H} (hs : sh h) : am_k h 50 = (2, 20) := hs.1 50 (by decide)
theorem sk_51 {h : am_H} (hs : sh h) : am_k h 51 = (2, 20) := hs.1 51 (by decide)
theorem sk_52 {h : am_H} (hs : sh h) : am_k h 52 = (2, 20) := hs.1 52 (by decide)
theorem sk_53 {h : am_H} (hs : sh h) : am_k h 53 = (2, 20) := hs.1 53 (by decide)
theorem sk_54 {h : am_H} (hs : sh h) : am_k h 54 = (1, 2) := hs.1 54 (by decide)
theorem sk_55 {h : am_H} (hs : sh h) : am_k h 55 = (2, 9) := hs.1 55 (by decide)
theorem sk_56 {h : am_H} (hs : sh h) : am_k h 56 = (2, 9) := hs.1 56 (by decide)
theorem sk_57 {h : am_H} (hs : sh h) : am_k h 57 = (2, 20) := hs.1 57 (by decide)
theorem sk_58 {h : am_H} (hs : sh h) : am_k h 58 = (2, 20) := hs.1 58 (by decide)
theorem sk_59 {h : am_H} (hs : sh h) : am_k h 59 = (2, 20) := hs.1 59 (by decide)
theorem sk_60 {h : am_H} (hs : sh h) : am_k h 60 = (2, 20) := hs.1 60 (by decide)
theorem sk_61 {h : am_H} (hs : sh h) : am_k h 61 = (1, 2) := hs.1 61 (by decide)
theorem sk_62 {h : am_H} (hs : sh h) : am_k h 62 = (2, 9) := hs.1 62 (by decide)
theorem sk_63 {h : am_H} (hs : sh h) : am_k h 63 = (2, 9) := hs.1 63 (by decide)
theorem sk_64 {h : am_H} (hs : sh h) : am_k h 64 = (2, 20) := hs.1 64 (by decide)
theorem sk_65 {h : am_H} (hs : sh h) : am_k h 65 = (2, 20) := hs.1 65 (by decide)
theorem sk_66 {h : am_H} (hs : sh h) : am_k h 66 = (2, 20) := hs.1 66 (by decide)
theorem sk_67 {h : am_H} (hs : sh h) : am_k h 67 = (2, 20) := hs.1 67 (by decide)
theorem sk_68 {h : am_H} (hs : sh h) : am_k h 68 = (1, 7) := hs.1 68 (by decide)
theorem sk_69 {h : am_H} (hs : sh h) : am_k h 69 = (1, 2) := hs.1 69 (by decide)
theorem sk_70 {h : am_H} (hs : sh h) : am_k h 70 = (2, 9) := hs.1 70 (by decide)
theorem sk_71 {h : am_H} (hs : sh h) : am_k h 71 = (2, 9) := hs.1 71 (by decide)
theorem sk_72 {h : am_H} (hs : sh h) : am_k h 72 = (2, 20) := hs.1 72 (by decide)
theorem sk_73 {h : am_H} (hs : sh h) : am_k h 73 = (2, 20) := hs.1 73 (by decide)
theorem sk_74 {h : am_H} (hs : sh h) : am_k h 74 = (2, 20) := hs.1 74 (by decide)
theorem sk_75 {h : am_H} (hs : sh h) : am_k h 75 = (2, 20) := hs.1 75 (by decide)
theorem sk_76 {h : am_H} (hs : sh h) : am_k h 76 = (3, 0) := hs.1 76 (by decide)
theorem sk_77 {h : am_H} (hs : sh h) : am_k h 77 = (2, 700) := hs.1 77 (by decide)
theorem sk_78 {h : am_H} (hs : sh h) : am_k h 78 = (1, 3) := hs.1 78 (by decide)
theorem sk_79 {h : am_H} (hs : sh h) : am_k h 79 = (2, 9) := hs.1 79 (by decide)
theorem sk_80 {h : am_H} (hs : sh h) : am_k h 80 = (1, 0) := hs.1 80 (by decide)
theorem sk_81 {h : am_H} (hs : sh h) : am_k h 81 = (2, 9) := hs.1 81 (by decide)
theorem sk_82 {h : am_H} (hs : sh h) : am_k h 82 = (2, 9) := hs.1 82 (by decide)
theorem sk_83 {h : am_H} (hs : sh h) : am_k h 83 = (1, 6) := hs.1 83 (by decide)
theorem sk_84 {h : am_H} (hs : sh h) : am_k h 84 = (2, 9) := hs.1 84 (by decide)
theorem sk_85 {h : am_H} (hs : sh h) : am_k h 85 = (2, 9) := hs.1 85 (by decide)
theorem sk_86 {h : am_H} (hs : sh h) : am_k h 86 = (1, 5) := hs.1 86 (by decide)
theorem sk_87 {h : am_H} (hs : sh h) : am_k h 87 = (1, 9) := hs.1 87 (by decide)
theorem sk_88 {h : am_H} (hs : sh h) : am_k h 88 = (2, 13248) := hs.1 88 (by decide)
theorem sk_89 {h : am_H} (hs : sh h) : am_k h 89 = (2, 1472) := hs.1 89 (by decide)
theorem sk_90 {h : am_H} (hs : sh h) : am_k h 90 = (2, 700) := hs.1 90 (by decide)
theorem sk_91 {h : am_H} (hs : sh h) : am_k h 91 = (4, 9) := hs.1 91 (by decide)
theorem sk_92 {h : am_H} (hs : sh h) : am_k h 92 = (5, 1400) := hs.1 92 (by decide)
theorem sk_93 {h : am_H} (hs : sh h) : am_k h 93 = (2, 20) := hs.1 93 (by decide)
theorem sk_94 {h : am_H} (hs : sh h) : am_k h 94 = (2, 9) := hs.1 94 (by decide)
theorem sk_95 {h : am_H} (hs : sh h) : am_k h 95 = (2, 9) := hs.1 95 (by decide)
theorem sk_96 {h : am_H} (hs : sh h) : am_k h 96 = (2, 9) := hs.1 96 (by decide)
theorem sk_97 {h : am_H} (hs : sh h) : am_k h 97 = (2, 9) := hs.1 97 (by decide)
theorem sk_98 {h : am_H} (hs : sh h) : am_k h 98 = (2, 9) := hs.1 98 (by decide)
theorem sk_99 {h : am_H} (hs : sh h) : am_k h 99 = (2, 9) := hs.1 99 (by decide)
theorem sk_100 {h : am_H} (hs : sh h) : am_k h 100 = (2, 9) := hs.1 100 (by decide)
theorem sk_101 {h : am_H} (hs : sh h) : am_k h 101 = (2, 9) := hs.1 101 (by decide)
theorem sk_102 {h : am_H} (hs : sh h) : am_k h 102 = (2, 9) := hs.1 102 (by decide)
theorem sk_103 {h : am_H} (hs : sh h) : am_k h 103 = (2, 9) := hs.1 103 (by decide)
theorem sk_104 {h : am_H} (hs : sh h) : am_k h 104 = (5, 1) := hs.1 104 (by decide)
theorem sr_1_0 {h : am_H} (hs : sh h) : am_r h 1 0 = 2 := hs.2.1 (1, 0, 2) (by decide)
theorem sr_3_3 {h : am_H} (hs : sh h) : am_r h 3 3 = 4 := hs.2.1 (3, 3, 4) (by decide)
theorem sr_3_4 {h : am_H} (hs : sh h) : am_r h 3 4 = 5 := hs.2.1 (3, 4, 5) (by decide)
theorem sr_3_5 {h : am_H} (hs : sh h) : am_r h 3 5 = 6 := hs.2.1 (3, 5, 6) (by decide)
theorem sr_3_6 {h : am_H} (hs : sh h) : am_r h 3 6 = 7 := hs.2.1 (3, 6, 7) (by decide)
theorem sr_3_7 {h : am_H} (hs : sh h) : am_r h 3 7 = 8 := hs.2.1 (3, 7, 8) (by decide)
theorem sr_3_8 {h : am_H} (hs : sh h) : am_r h 3 8 = 9 := hs.2.1 (3, 8, 9) (by decide)
theorem sr_1_3 {h : am_H} (hs : sh h) : am_r h 1 3 = 3 := hs.2.1 (1, 3, 3) (by decide)
theorem sr_1_4 {h : am_H} (hs : sh h) : am_r h 1 4 = 10 := hs.2.1 (1, 4, 10) (by decide)
theorem sr_10_0 {h : am_H} (hs : sh h) : am_r h 10 0 = 11 := hs.2.1 (10, 0, 11) (by decide)
theorem sr_12_3 {h : am_H} (hs : sh h) : am_r h 12 3 = 13 := hs.2.1 (12, 3, 13) (by decide)
theorem sr_12_4 {h : am_H} (hs : sh h) : am_r h 12 4 = 14 := hs.2.1 (12, 4, 14) (by decide)
theorem sr_12_5 {h : am_H} (hs : sh h) : am_r h 12 5 = 15 := hs.2.1 (12, 5, 15) (by decide)
theorem sr_12_6 {h : am_H} (hs : sh h) : am_r h 12 6 = 16 := hs.2.1 (12, 6, 16) (by decide)
theorem sr_12_7 {h : am_H} (hs : sh h) : am_r h 12 7 = 17 := hs.2.1 (12, 7, 17) (by decide)
theorem sr_12_8 {h : am_H} (hs : sh h) : am_r h 12 8 = 18 := hs.2.1 (12, 8, 18) (by decide)
theorem sr_11_0 {h : am_H} (hs : sh h) : am_r h 11 0 = 12 := hs.2.1 (11, 0, 12) (by decide)
theorem sr_19_3 {h : am_H} (hs : sh h) : am_r h 19 3 = 20 := hs.2.1 (19, 3, 20) (by decide)
theorem sr_19_4 {h : am_H} (hs : sh h) : am_r h 19 4 = 21 := hs.2.1 (19, 4, 21) (by decide)
theorem sr_19_5 {h : am_H} (hs : sh h) : am_r h 19 5 = 22 := hs.2.1 (19, 5, 22) (by decide)
theorem sr_19_6 {h : am_H} (hs : sh h) : am_r h 19 6 = 23 := hs.2.1 (19, 6, 23) (by decide)
theorem sr_19_7 {h : am_H} (hs : sh h) : am_r h 19 7 = 24 := hs.2.1 (19, 7, 24) (by decide)
theorem sr_19_8 {h : am_H} (hs : sh h) : am_r h 19 8 = 25 := hs.2.1 (19, 8, 25) (by decide)
theorem sr_11_1 {h : am_H} (hs : sh h) : am_r h 11 1 = 19 := hs.2.1 (11, 1, 19) (by decide)
theorem sr_26_3 {h : am_H} (hs : sh h) : am_r h 26 3 = 27 := hs.2.1 (26, 3, 27) (by decide)
theorem sr_26_4 {h : am_H} (hs : sh h) : am_r h 26 4 = 28 := hs.2.1 (26, 4, 28) (by decide)
theorem sr_26_5 {h : am_H} (hs : sh h) : am_r h 26 5 = 29 := hs.2.1 (26, 5, 29) (by decide)
theorem sr_26_6 {h : am_H} (hs : sh h) : am_r h 26 6 = 30 := hs.2.1 (26, 6, 30) (by decide)
theorem sr_26_7 {h : am_H} (hs : sh h) : am_r h 26 7 = 31 := hs.2.1 (26, 7, 31) (by decide)
theorem sr_26_8 {h : am_H} (hs : sh h) : am_r h 26 8 = 32 := hs.2.1 (26, 8, 32) (by decide)
theorem sr_11_2 {h : am_H} (hs : sh h) : am_r h 11 2 = 26 := hs.2.1 (11, 2, 26) (by decide)
theorem sr_33_3 {h : am_H} (hs : sh h) : am_r h 33 3 = 34 := hs.2.1 (33, 3, 34) (by decide)
theorem sr_33_4 {h : am_H} (hs : sh h) : am_r h 33 4 = 35 := hs.2.1 (33, 4, 35) (by decide)
theorem sr_33_5 {h : am_H} (hs : sh h) : am_r h 33 5 = 36 := hs.2.1 (33, 5, 36) (by decide)
theorem sr_33_6 {h : am_H} (hs : sh h) : am_r h 33 6 = 37 := hs.2.1 (33, 6, 37) (by decide)
theorem sr_33_7 {h : am_H} (hs : sh h) : am_r h 33 7 = 38 := hs.2.1 (33, 7, 38) (by decide)
theorem sr_33_8 {h : am_H} (hs : sh h) : am_r h 33 8 = 39 := hs.2.1 (33, 8, 39) (by decide)
theorem sr_11_3 {h : am_H} (hs : sh h) : am_r h 11 3 = 33 := hs.2.1 (11, 3, 33) (by decide)
theorem sr_40_3 {h : am_H} (hs : sh h) : am_r h 40 3 = 41 := hs.2.1 (40, 3, 41) (by decide)
theorem sr_40_4 {h : am_H} (hs : sh h) : am_r h 40 4 = 42 := hs.2.1 (40, 4, 42) (by decide)
theorem sr_40_5 {h : am_H} (hs : sh h) : am_r h 40 5 = 43 := hs.2.1 (40, 5, 43) (by decide)
theorem sr_40_6 {h : am_H} (hs : sh h) : am_r h 40 6 = 44 := hs.2.1 (40, 6, 44) (by decide)
theorem sr_40_7 {h : am_H} (hs : sh h) : am_r h 40 7 = 45 := hs.2.1 (40, 7, 45) (by decide)
theorem sr_40_8 {h : am_H} (hs : sh h) : am_r h 40 8 = 46 := hs.2.1 (40, 8, 46) (by decide)
theorem sr_11_4 {h : am_H} (hs : sh h) : am_r h 11 4 = 40 := hs.2.1 (11, 4, 40) (by decide)
theorem sr_47_3 {h : am_H} (hs : sh h) : am_r h 47 3 = 48 := hs.2.1 (47, 3, 48) (by decide)
theorem sr_47_4 {h : am_H} (hs : sh h) : am_r h 47 4 = 49 := hs.2.1 (47, 4, 49) (by decide)
theorem sr_47_5 {h : am_H} (hs : sh h) : am_r h 47 5 = 50 := hs.2.1 (47, 5, 50) (by decide)
theorem sr_47_6 {h : am_H} (hs : sh h) : am_r h 47 6 = 51 := hs.2.1 (47, 6, 51) (by decide)
theorem sr_47_7 {h : am_H} (hs : sh h) : am_r h 47 7 = 52 := hs.2.1 (47, 7, 52) (by decide)
theorem sr_47_8 {h : am_H} (hs : sh h) : am_r h 47 8 = 53 := hs.2.1 (47, 8, 53) (by decide)
theorem sr_11_5 {h : am_H} (hs : sh h) : am_r h 11 5 = 47 := hs.2.1 (11, 5, 47) (by decide)
theorem sr_54_3 {h : am_H} (hs : sh h) : am_r h 54 3 = 55 := hs.2.1 (54, 3, 55) (by decide)
theorem sr_54_4 {h : am_H} (hs : sh h) : am_r h 54 4 = 56 := hs.2.1 (54, 4, 56) (by decide)
theorem sr_54_5 {h : am_H} (hs : sh h) : am_r h 54 5 = 57 := hs.2.1 (54, 5, 57) (by decide)
theorem sr_54_6 {h : am_H} (hs : sh h) : am_r h 54 6 = 58 := hs.2.1 (54, 6, 58) (by decide)
theorem sr_54_7 {h : am_H} (hs : sh h) : am_r h 54 7 = 59 := hs.2.1 (54, 7, 59) (by decide)
theorem sr_54_8 {h : am_H} (hs : sh h) : am_r h 54 8 = 60 := hs.2.1 (54, 8, 60) (by decide)
theorem sr_11_6 {h : am_H} (hs : sh h) : am_r h 11 6 = 54 := hs.2.1 (11, 6, 54) (by decide)
theorem sr_61_3 {h : am_H} (hs : sh h) : am_r h 61 3 = 62 := hs.2.1 (61, 3, 62) (by decide)
theorem sr_61_4 {h : am_H} (hs : sh h) : am_r h 61 4 = 63 := hs.2.1 (61, 4, 63) (by decide)
theorem sr_61_5 {h : am_H} (hs : sh h) : am_r h 61 5 = 64 := hs.2.1 (61, 5, 64) (by decide)
theorem sr_61_6 {h : am_H} (hs : sh h) : am_r h 61 6 = 65 := hs.2.1 (61, 6, 65) (by decide)
theorem sr_61_7 {h : am_H} (hs : sh h) : am_r h 61 7 = 66 := hs.2.1 (61, 7, 66) (by decide)
theorem sr_61_8 {h : am_H} (hs : sh h) : am_r h 61 8 = 67 := hs.2.1 (61, 8, 67) (by decide)
theorem sr_11_7 {h : am_H} (hs : sh h) : am_r h 11 7 = 61 := hs.2.1 (11, 7, 61) (by decide)
theorem sr_1_5 {h : am_H} (hs : sh h) : am_r h 1 5 = 68 := hs.2.1 (1, 5, 68) (by decide)
theorem sr_69_3 {h : am_H} (hs : sh h) : am_r h 69 3 = 70 := hs.2.1 (69, 3, 70) (by decide)
theorem sr_69_4 {h : am_H} (hs : sh h) : am_r h 69 4 = 71 := hs.2.1 (69, 4, 71) (by decide)
theorem sr_69_5 {h : am_H} (hs : sh h) : am_r h 69 5 = 72 := hs.2.1 (69, 5, 72) (by decide)
theorem sr_69_6 {h : am_H} (hs : sh h) : am_r h 69 6 = 73 := hs.2.1 (69, 6, 73) (by decide)
theorem sr_69_7 {h : am_H} (hs : sh h) : am_r h 69 7 = 74 := hs.2.1 (69, 7, 74) (by decide)
theorem sr_69_8 {h : am_H} (hs : sh h) : am_r h 69 8 = 75 := hs.2.1 (69, 8, 75) (by decide)
theorem sr_68_0 {h : am_H} (hs : sh h) : am_r h 68 0 = 69 := hs.2.1 (68, 0, 69) (by decide)
theorem sr_68_11 {h : am_H} (hs : sh h) : am_r h 68 11 = 77 := hs.2.1 (68, 11, 77) (by decide)
theorem sr_1_6 {h : am_H} (hs : sh h) : am_r h 1 6 = 78 := hs.2.1 (1, 6, 78) (by decide)
theorem sr_78_1 {h : am_H} (hs : sh h) : am_r h 78 1 = 79 := hs.2.1 (78, 1, 79) (by decide)
theorem sr_1_7 {h : am_H} (hs : sh h) : am_r h 1 7 = 80 := hs.2.1 (1, 7, 80) (by decide)
theorem sr_80_0 {h : am_H} (hs : sh h) : am_r h 80 0 = 81 := hs.2.1 (80, 0, 81) (by decide)
theorem sr_80_2 {h : am_H} (hs : sh h) : am_r h 80 2 = 82 := hs.2.1 (80, 2, 82) (by decide)
theorem sr_1_8 {h : am_H} (hs : sh h) : am_r h 1 8 = 83 := hs.2.1 (1, 8, 83) (by decide)
theorem sr_83_0 {h : am_H} (hs : sh h) : am_r h 83 0 = 84 := hs.2.1 (83, 0, 84) (by decide)
theorem sr_83_1 {h : am_H} (hs : sh h) : am_r h 83 1 = 85 := hs.2.1 (83, 1, 85) (by decide)
theorem sr_1_9 {h : am_H} (hs : sh h) : am_r h 1 9 = 86 := hs.2.1 (1, 9, 86) (by decide)
theorem sr_87_1 {h : am_H} (hs : sh h) : am_r h 87 1 = 88 := hs.2.1 (87, 1, 88) (by decide)
theorem sr_87_2 {h : am_H} (hs : sh h) : am_r h 87 2 = 89 := hs.2.1 (87, 2, 89) (by decide)
theorem sr_87_5 {h : am_H} (hs : sh h) : am_r h 87 5 = 90 := hs.2.1 (87, 5, 90) (by decide)
theorem sr_87_6 {h : am_H} (hs : sh h) : am_r h 87 6 = 91 := hs.2.1 (87, 6, 91) (by decide)
theorem sr_87_16 {h : am_H} (hs : sh h) : am_r h 87 16 = 92 := hs.2.1 (87, 16, 92) (by decide)
theorem sr_87_17 {h : am_H} (hs : sh h) : am_r h 87 17 = 93 := hs.2.1 (87, 17, 93) (by decide)
theorem sr_87_19 {h : am_H} (hs : sh h) : am_r h 87 19 = 94 := hs.2.1 (87, 19, 94) (by decide)
theorem sr_87_20 {h : am_H} (hs : sh h) : am_r h 87 20 = 95 := hs.2.1 (87, 20, 95) (by decide)
theorem sr_87_21 {h : am_H} (hs : sh h) : am_r h 87 21 = 96 := hs.2.1 (87, 21, 96) (by decide)
theorem sr_87_23 {h : am_H} (hs : sh h) : am_r h 87 23 = 97 := hs.2.1 (87, 23, 97) (by decide)
theorem sr_87_24 {h : am_H} (hs : sh h) : am_r h 87 24 = 98 := hs.2.1 (87, 24, 98) (by decide)
theorem sr_87_25 {h : am_H} (hs : sh h) : am_r h 87 25 = 99 := hs.2.1 (87, 25, 99) (by decide)
theorem sr_87_28 {h : am_H} (hs : sh h) : am_r h 87 28 = 100 := hs.2.1 (87, 28, 100) (by decide)
theorem sr_87_29 {h : am_H} (hs : sh h) : am_r h 87 29 = 101 := hs.2.1 (87, 29, 101) (by decide)
theorem sr_87_30 {h : am_H} (hs : sh h) : am_r h 87 30 = 102 := hs.2.1 (87, 30, 102) (by decide)
theorem sr_87_31 {h : am_H} (hs : sh h) : am_r h 87 31 = 103 := hs.2.1 (87, 31, 103) (by decide)
/-- a graph's cells: the object at a, its rows behind it -/
def gs (h : am_H) (a : Nat) : Prop := am_k h a = (1, 2) ∧ (am_k h (a + 1) = (2, 9) ∧ am_k h (a + 2) = (2, 9) ∧ am_k h (a + 3) = (2, 20) ∧ am_k h (a + 4) = (2, 20) ∧ am_k h (a + 5) = (2, 20) ∧ am_k h (a + 6) = (2, 20)) ∧ am_r h a 3 = a + 1 ∧ am_r h a 4 = a + 2 ∧ am_r h a 5 = a + 3 ∧ am_r h a 6 = a + 4 ∧ am_r h a 7 = a + 5 ∧ am_r h a 8 = a + 6
theorem gs_3 {h : am_H} (hs : sh h) : gs h 3 := ⟨sk_3 hs, ⟨sk_4 hs, sk_5 hs, sk_6 hs, sk_7 hs, sk_8 hs, sk_9 hs⟩, sr_3_3 hs, sr_3_4 hs, sr_3_5 hs, sr_3_6 hs, sr_3_7 hs, sr_3_8 hs⟩
theorem gs_12 {h : am_H} (hs : sh h) : gs h 12 := ⟨sk_12 hs, ⟨sk_13 hs, sk_14 hs, sk_15 hs, sk_16 hs, sk_17 hs, sk_18 hs⟩, sr_12_3 hs, sr_12_4 hs, sr_12_5 hs, sr_12_6 hs, sr_12_7 hs, sr_12_8 hs⟩
theorem gs_19 {h : am_H} (hs : sh h) : gs h 19 := ⟨sk_19 hs, ⟨sk_20 hs, sk_21 hs, sk_22 hs, sk_23 hs, sk_24 hs, sk_25 hs⟩, sr_19_3 hs, sr_19_4 hs, sr_19_5 hs, sr_19_6 hs, sr_19_7 hs, sr_19_8 hs⟩
theorem gs_26 {h : am_H} (hs : sh h) : gs h 26 := ⟨sk_26 hs, ⟨sk_27 hs, sk_28 hs, sk_29 hs, sk_30 hs, sk_31 hs, sk_32 hs⟩, sr_26_3 hs, sr_26_4 hs, sr_26_5 hs, sr_26_6 hs, sr_26_7 hs, sr_26_8 hs⟩
theorem gs_33 {h : am_H} (hs : sh h) : gs h 33 := ⟨sk_33 hs, ⟨sk_34 hs, sk_35 hs, sk_36 hs, sk_37 hs, sk_38 hs, sk_39 hs⟩, sr_33_3 hs, sr_33_4 hs, sr_33_5 hs, sr_33_6 hs, sr_33_7 hs, sr_33_8 hs⟩
theorem gs_40 {h : am_H} (hs : sh h) : gs h 40 := ⟨sk_40 hs, ⟨sk_41 hs, sk_42 hs, sk_43 hs, sk_44 hs, sk_45 hs, sk_46 hs⟩, sr_40_3 hs, sr_40_4 hs, sr_40_5 hs, sr_40_6 hs, sr_40_7 hs, sr_40_8 hs⟩
theorem gs_47 {h : am_H} (hs : sh h) : gs h 47 := ⟨sk_47 hs, ⟨sk_48 hs, sk_49 hs, sk_50 hs, sk_51 hs, sk_52 hs, sk_53 hs⟩, sr_47_3 hs, sr_47_4 hs, sr_47_5 hs, sr_47_6 hs, sr_47_7 hs, sr_47_8 hs⟩
theorem gs_54 {h : am_H} (hs : sh h) : gs h 54 := ⟨sk_54 hs, ⟨sk_55 hs, sk_56 hs, sk_57 hs, sk_58 hs, sk_59 hs, sk_60 hs⟩, sr_54_3 hs, sr_54_4 hs, sr_54_5 hs, sr_54_6 hs, sr_54_7 hs, sr_54_8 hs⟩
theorem gs_61 {h : am_H} (hs : sh h) : gs h 61 := ⟨sk_61 hs, ⟨sk_62 hs, sk_63 hs, sk_64 hs, sk_65 hs, sk_66 hs, sk_67 hs⟩, sr_61_3 hs, sr_61_4 hs, sr_61_5 hs, sr_61_6 hs, sr_61_7 hs, sr_61_8 hs⟩
theorem gs_69 {h : am_H} (hs : sh h) : gs h 69 := ⟨sk_69 hs, ⟨sk_70 hs, sk_71 hs, sk_72 hs, sk_73 hs, sk_74 hs, sk_75 hs⟩, sr_69_3 hs, sr_69_4 hs, sr_69_5 hs, sr_69_6 hs, sr_69_7 hs, sr_69_8 hs⟩
end
section
/-! STARTING TEXTS: kit/laws/NUMBERS, COUNTS and the first family of BITS, pasted -/
/-! plain facts on numbers and arrays, to paste: each family by itself; over the kit's rows on nI and upd -/
/-! ===== order of ints, in all its forms, and through longs ===== -/
theorem fa_lt (a b : Int32) : a < b ↔ a.toInt < b.toInt := Int32.lt_iff_toInt_lt
theorem fa_le (a b : Int32) : a ≤ b ↔ a.toInt ≤ b.toInt := Int32.le_iff_toInt_le
theorem fa_eq (a b : Int32) : a = b ↔ a.toInt = b.toInt := Int32.toInt_inj.symm
theorem fa_lt64 (a b : Int64) : a < b ↔ a.toInt < b.toInt := Int64.lt_iff_toInt_lt
theorem fa_le64 (a b : Int64) : a ≤ b ↔ a.toInt ≤ b.toInt := Int64.le_iff_toInt_le
theorem fa_eq64 (a b : Int64) : a = b ↔ a.toInt = b.toInt := Int64.toInt_inj.symm
/-- a comparison of two ints taken as longs -/
theorem fa_wide_lt (a b : Int32) : a.toInt64 < b.toInt64 ↔ a < b := by rw [fa_lt64, fa_lt, Int32.toInt_toInt64, Int32.toInt_toInt64]
theorem fa_wide_le (a b : Int32) : a.toInt64 ≤ b.toInt64 ↔ a ≤ b := by rw [fa_le64, fa_le, Int32.toInt_toInt64, Int32.toInt_toInt64]
theorem fa_wide_eq (a b : Int32) : a.toInt64 = b.toInt64 ↔ a = b := by rw [fa_eq64, fa_eq, Int32.toInt_toInt64, Int32.toInt_toInt64]
/-- one strict comparison gives all the others -/
theorem fa_of_lt {a b : Int32} (h : a < b) : a ≤ b ∧ ¬ b ≤ a ∧ ¬ b < a ∧ a ≠ b ∧ b ≠ a := by
  rw [fa_lt] at h
  refine ⟨?_, ?_, ?_, ?_, ?_⟩
  · rw [fa_le]; omega
  · rw [fa_le]; omega
  · rw [fa_lt]; omega
  · intro e; rw [fa_eq] at e; omega
  · intro e; rw [fa_eq] at e; omega
theorem fa_of_nlt {a b : Int32} (h : ¬ a < b) : b ≤ a := by
  rw [fa_lt] at h
  rw [fa_le]
  omega
theorem fa_of_nle {a b : Int32} (h : ¬ a ≤ b) : b < a := by
  rw [fa_le] at h
  rw [fa_lt]
  omega
theorem fa_le_ne {a b : Int32} (h : a ≤ b) (h2 : a ≠ b) : a < b := by
  rw [fa_le] at h
  rw [fa_lt]
  have h3 : a.toInt ≠ b.toInt := fun e => h2 ((fa_eq a b).mpr e)
  omega
theorem fa_three (a b : Int32) : a < b ∨ a = b ∨ b < a := by
  rw [fa_lt, fa_lt, fa_eq]
  omega
theorem fa_trans {a b c : Int32} (h : a < b) (h2 : b ≤ c) : a < c := by
  rw [fa_lt] at *
  rw [fa_le] at h2
  omega
/-! ===== small literals as numbers ===== -/
theorem fa_lit (n : Nat) : (OfNat.ofNat n : Int32) = nI n := rfl
theorem fa_litL (n : Nat) : (OfNat.ofNat n : Int64) = lN n := rfl
/-! ===== bits of a number: 'or', masks, one bit ===== -/
theorem fa_and (a b : Nat) : nI a &&& nI b = nI (a &&& b) := by
  apply Int32.toBitVec_inj.1
  show BitVec.ofNat 32 a &&& BitVec.ofNat 32 b = BitVec.ofNat 32 (a &&& b)
  apply BitVec.eq_of_getLsbD_eq
  intro i hi
  simp [hi]
theorem fa_or (a b : Nat) : nI a ||| nI b = nI (a ||| b) := by
  apply Int32.toBitVec_inj.1
  show BitVec.ofNat 32 a ||| BitVec.ofNat 32 b = BitVec.ofNat 32 (a ||| b)
  apply BitVec.eq_of_getLsbD_eq
  intro i hi
  simp [hi]
/-- a remainder by a power of two, as a mask -/
theorem fa_mask (n k : Nat) : nI n &&& nI (2 ^ k - 1) = nI (n % 2 ^ k) := by rw [fa_and, Nat.and_two_pow_sub_one_eq_mod]
/-- 'or' of a high part and a low one that don't meet is their sum -/
theorem fa_or_sum {a k : Nat} (b : Nat) (h : a < 2 ^ k) : nI (2 ^ k * b) ||| nI a = nI (2 ^ k * b + a) := by rw [fa_or, Nat.two_pow_add_eq_or_of_lt h]
/-- one bit, by 'and' with a power of two -/
theorem fa_bit {n j : Nat} (hj : j < 31) : nI n &&& nI (2 ^ j) = 0 ↔ n.testBit j = false := by
  have h2 : (2 : Nat) ^ j < 2 ^ 31 := Nat.pow_lt_pow_right (by decide) hj
  have hle : n &&& 2 ^ j ≤ 2 ^ j := Nat.and_le_right
  have e : n &&& 2 ^ j = 0 ↔ n.testBit j = false := by
    constructor
    · intro h
      have h1 : (n &&& 2 ^ j).testBit j = false := by rw [h]; simp
      rw [Nat.testBit_and] at h1
      first | simpa using h1 | simpa [Nat.testBit_two_pow_self] using h1 | simpa [Nat.testBit_two_pow] using h1
    · intro h
      apply Nat.eq_of_testBit_eq
      intro i
      rw [Nat.testBit_and]
      by_cases hi : j = i
      · subst hi; simp [h]
      · first | (simp [Nat.testBit_two_pow, hi]; done) | (simp [Nat.testBit_two_pow_of_ne hi]; done)
  rw [fa_and]
  constructor
  · intro h
    apply e.mp
    rcases Nat.eq_zero_or_pos (n &&& 2 ^ j) with z | z
    · exact z
    · exact absurd h (nI_ne0 z (Nat.lt_of_le_of_lt hle h2))
  · intro h
    rw [e.mpr h]; exact nI_0
/-- a remainder by a power of two of a number that isn't negative, as Java divides -/
theorem fa_rem {a k : Nat} (ha : a < 2 ^ 31) (hk : k < 31) : nI a - nI a / nI (2 ^ k) * nI (2 ^ k) = nI (a % 2 ^ k) := pk_rem ha (Nat.two_pow_pos k) (Nat.pow_lt_pow_right (by decide) hk)
/-! ===== cuts to a byte, a short ===== -/
theorem fa_byte_xor (x y : Int32) : (x ^^^ y).toInt8 = x.toInt8 ^^^ y.toInt8 := by
  apply Int8.toBitVec_inj.1
  apply BitVec.eq_of_getLsbD_eq
  intro i hi
  first | (simp [hi]; done) | (simp [hi, BitVec.getLsbD_setWidth, BitVec.getLsbD_signExtend]; done)
theorem fa_short_xor (x y : Int32) : (x ^^^ y).toInt16 = x.toInt16 ^^^ y.toInt16 := by
  apply Int16.toBitVec_inj.1
  apply BitVec.eq_of_getLsbD_eq
  intro i hi
  first | (simp [hi]; done) | (simp [hi, BitVec.getLsbD_setWidth, BitVec.getLsbD_signExtend]; done)
/-- the cut to a byte sees the low byte alone -/
theorem fa_byte_low (x : Int32) : (x &&& 255).toInt8 = x.toInt8 := by
  apply Int8.toBitVec_inj.1
  apply BitVec.eq_of_getLsbD_eq
  intro i hi
  have h2 : (255 : Int32).toBitVec.getLsbD i = true := by
    have : ∀ j : Fin 8, (255 : Int32).toBitVec.getLsbD j.val = true := by decide +kernel
    exact this ⟨i, hi⟩
  have h4 : (x &&& 255).toBitVec.getLsbD i = x.toBitVec.getLsbD i := by
    show (x.toBitVec &&& (255 : Int32).toBitVec).getLsbD i = _
    rw [BitVec.getLsbD_and, h2, Bool.and_true]
  have h3 : i < 32 := by omega
  first
    | (show (((x &&& 255).toBitVec).signExtend 8).getLsbD i = (x.toBitVec.signExtend 8).getLsbD i; rw [BitVec.getLsbD_signExtend, BitVec.getLsbD_signExtend, if_pos h3, if_pos h3, h4])
    | (show (((x &&& 255).toBitVec).setWidth 8).getLsbD i = (x.toBitVec.setWidth 8).getLsbD i; rw [BitVec.getLsbD_setWidth, BitVec.getLsbD_setWidth, h4])
    | (simp [hi, h3, h4]; done)
theorem fa_short_low (x : Int32) : (x &&& 65535).toInt16 = x.toInt16 := by
  apply Int16.toBitVec_inj.1
  apply BitVec.eq_of_getLsbD_eq
  intro i hi
  have h2 : (65535 : Int32).toBitVec.getLsbD i = true := by
    have : ∀ j : Fin 16, (65535 : Int32).toBitVec.getLsbD j.val = true := by decide +kernel
    exact this ⟨i, hi⟩
  have h4 : (x &&& 65535).toBitVec.getLsbD i = x.toBitVec.getLsbD i := by
    show (x.toBitVec &&& (65535 : Int32).toBitVec).getLsbD i = _
    rw [BitVec.getLsbD_and, h2, Bool.and_true]
  have h3 : i < 32 := by omega
  first
    | (show (((x &&& 65535).toBitVec).signExtend 16).getLsbD i = (x.toBitVec.signExtend 16).getLsbD i; rw [BitVec.getLsbD_signExtend, BitVec.getLsbD_signExtend, if_pos h3, if_pos h3, h4])
    | (show (((x &&& 65535).toBitVec).setWidth 16).getLsbD i = (x.toBitVec.setWidth 16).getLsbD i; rw [BitVec.getLsbD_setWidth, BitVec.getLsbD_setWidth, h4])
    | (simp [hi, h3, h4]; done)
/-- a small number is its own byte, its own short -/
theorem fa_byte_small {n : Nat} (h : n < 128) : (nI n).toInt8.toInt32 = nI n := by
  have : ∀ j : Fin 128, (nI j.val).toInt8.toInt32 = nI j.val := by decide +kernel
  exact this ⟨n, h⟩
/-! ===== absolute difference ===== -/
theorem fa_absdiff {a b : Nat} (ha : a < 2 ^ 31) (hb : b < 2 ^ 31) : (if nI a < nI b then nI b - nI a else nI a - nI b) = nI (if a < b then b - a else a - b) := by
  by_cases h : a < b
  · rw [if_pos (nI_lt h hb), if_pos h]
    exact pk_sub (Nat.le_of_lt h)
  · rw [if_neg (nI_nlt (Nat.le_of_not_lt h) ha), if_neg h]
    exact pk_sub (Nat.le_of_not_lt h)
/-! ===== an array behind i stores, a conditional store, a row copied ===== -/
/-- f where k < i, what stood there else -/
def fa_fill {α : Type} (f g : Nat → α) (i : Nat) : Nat → α := fun k => if k < i then f k else g k
theorem fa_fill_0 {α : Type} (f g : Nat → α) : fa_fill f g 0 = g := funext fun k => if_neg (Nat.not_lt_zero k)
theorem fa_fill_in {α : Type} {f g : Nat → α} {i k : Nat} (h : k < i) : fa_fill f g i k = f k := if_pos h
theorem fa_fill_out {α : Type} {f g : Nat → α} {i k : Nat} (h : i ≤ k) : fa_fill f g i k = g k := if_neg (Nat.not_lt.mpr h)
theorem fa_fill_succ (f g : Nat → Int32) (i : Nat) : upd (fa_fill f g i) i (f i) = fa_fill f g (i + 1) := by
  funext k
  by_cases e : k = i
  · subst e
    rw [pk_us]
    exact (if_pos (Nat.lt_succ_self k)).symm
  · rw [pk_un e]
    by_cases h : k < i
    · rw [fa_fill_in h, fa_fill_in (Nat.lt_succ_of_lt h)]
    · rw [fa_fill_out (Nat.le_of_not_lt h), fa_fill_out (by omega)]
/-- a store that changes nothing -/
theorem fa_upd_same {f : Nat → Int32} {i : Nat} {x : Int32} (h : f i = x) : upd f i x = f := by
  funext k
  by_cases e : k = i
  · subst e
    rw [pk_us, h]
  · rw [pk_un e]
/-- a store under a condition, told as one -/
theorem fa_upd_if (c : Prop) [Decidable c] (f : Nat → Int32) (i : Nat) (x : Int32) : (if c then upd f i x else f) = upd f i (if c then x else f i) := by
  by_cases h : c
  · rw [if_pos h, if_pos h]
  · rw [if_neg h, if_neg h, fa_upd_same rfl]
/-- two stores at one place, at two -/
theorem fa_upd_twice (f : Nat → Int32) (i : Nat) (x y : Int32) : upd (upd f i x) i y = upd f i y := by
  funext k
  by_cases e : k = i
  · subst e
    rw [pk_us, pk_us]
  · rw [pk_un e, pk_un e, pk_un e]
theorem fa_upd_swap (f : Nat → Int32) {i j : Nat} (h : i ≠ j) (x y : Int32) : upd (upd f i x) j y = upd (upd f j y) i x := by
  funext k
  by_cases e : k = i
  · subst e
    rw [pk_un h, pk_us, pk_us]
  · by_cases e2 : k = j
    · subst e2
      rw [pk_us, pk_un e, pk_us]
    · rw [pk_un e2, pk_un e, pk_un e, pk_un e2]
/-! ===== the first index with a property; a count ===== -/
/-- the first k < n with p k, n if there is none -/
def fa_first (p : Nat → Bool) : Nat → Nat
  | 0 => 0
  | n + 1 => if fa_first p n < n then fa_first p n else if p n then n else n + 1
theorem fa_first_le (p : Nat → Bool) : ∀ n, fa_first p n ≤ n
  | 0 => Nat.le_refl 0
  | n + 1 => by
    have ih := fa_first_le p n
    unfold fa_first
    split
    · omega
    · split
      · omega
      · omega
theorem fa_first_no (p : Nat → Bool) : ∀ n k, k < fa_first p n → p k = false
  | 0, k, h => absurd h (Nat.not_lt_zero k)
  | n + 1, k, h => by
    have ih := fa_first_no p n
    have hl := fa_first_le p n
    unfold fa_first at h
    split at h
    · exact ih k h
    · rename_i h1
      split at h
      · exact ih k (by omega)
      · rename_i h2
        by_cases e : k = n
        · subst e
          exact Bool.eq_false_iff.mpr h2
        · exact ih k (by omega)
theorem fa_first_yes (p : Nat → Bool) : ∀ n, fa_first p n < n → p (fa_first p n) = true
  | 0, h => absurd h (Nat.not_lt_zero _)
  | n + 1, h => by
    have ih := fa_first_yes p n
    have hl := fa_first_le p n
    unfold fa_first at h ⊢
    split at h
    · rename_i h1
      rw [if_pos h1]
      exact ih h1
    · rename_i h1
      rw [if_neg h1]
      split at h
      · rename_i h2
        rw [if_pos h2]
        exact h2
      · omega
/-- how many k < n have p k -/
def fa_cnt (p : Nat → Bool) : Nat → Nat
  | 0 => 0
  | n + 1 => fa_cnt p n + if p n then 1 else 0
theorem fa_cnt_le (p : Nat → Bool) : ∀ n, fa_cnt p n ≤ n
  | 0 => Nat.le_refl 0
  | n + 1 => by
    have ih := fa_cnt_le p n
    unfold fa_cnt
    split
    · omega
    · omega
theorem fa_cnt_yes {p : Nat → Bool} {n : Nat} (h : p n = true) : fa_cnt p (n + 1) = fa_cnt p n + 1 := by rw [fa_cnt, if_pos h]
theorem fa_cnt_no {p : Nat → Bool} {n : Nat} (h : p n = false) : fa_cnt p (n + 1) = fa_cnt p n := by rw [fa_cnt, if_neg (by rw [h]; decide)]; rfl
theorem fa_cnt_cong {p q : Nat → Bool} : ∀ {n : Nat}, (∀ k, k < n → p k = q k) → fa_cnt p n = fa_cnt q n
  | 0, _ => rfl
  | n + 1, h => by rw [fa_cnt, fa_cnt, fa_cnt_cong (fun k hk => h k (Nat.lt_succ_of_lt hk)), h n (Nat.lt_succ_self n)]
/-! ===== an answer carried into a post; a branch on a boolean answer ===== -/
theorem fa_post {α : Type} {P : α → Prop} {x y : α} (h : x = y) (hp : P y) : P x := h ▸ hp
theorem fa_post2 {α β : Type} {P : α → β → Prop} {x y : α} {u v : β} (h : x = y) (h2 : u = v) (hp : P y v) : P x u := h ▸ h2 ▸ hp
theorem fa_bool {r : Int32} {b : Bool} (h : r = if b then 1 else 0) : (r = 0 ↔ b = false) ∧ (¬ r = 0 ↔ b = true) := by
  subst h
  cases b
  · exact ⟨⟨fun _ => rfl, fun _ => rfl⟩, ⟨fun h => absurd rfl h, fun h => absurd h (by decide)⟩⟩
  · exact ⟨⟨fun h => absurd h (by decide), fun h => absurd h (by decide)⟩, ⟨fun _ => rfl, fun _ => by decide⟩⟩
/-- a boolean's narrowing changes nothing -/
theorem fa_bool_and {r : Int32} (h : r = 0 ∨ r = 1) : r &&& 1 = r := by
  rcases h with rfl | rfl
  · decide
  · decide
theorem fa_bool_prop {c : Prop} [Decidable c] {r : Int32} (h : r = if c then 1 else 0) : (r = 0 ↔ ¬ c) ∧ (¬ r = 0 ↔ c) := by
  subst h
  by_cases hc : c
  · rw [if_pos hc]
    exact ⟨⟨fun h => absurd h (by decide), fun h => absurd hc h⟩, ⟨fun _ => hc, fun _ => by decide⟩⟩
  · rw [if_neg hc]
    exact ⟨⟨fun _ => hc, fun _ => rfl⟩, ⟨fun h => absurd rfl h, fun h => absurd h hc⟩⟩
/-! plain facts to paste, each family by itself; over the kit's nI, lN and upd -/
/-! ===== drawers: more things than places ===== -/
theorem fb_holes : ∀ (m n : Nat) (f : Nat → Nat), (∀ i, i < n → f i < m) → (∀ i j, i < j → j < n → f i ≠ f j) → n ≤ m := by
  intro m
  induction m with
  | zero =>
    intro n f h1 _
    rcases Nat.eq_zero_or_pos n with h | h
    · omega
    · exact absurd (h1 0 h) (Nat.not_lt_zero _)
  | succ m ih =>
    intro n f h1 h2
    by_cases hx : ∃ i, i < n ∧ f i = m
    · obtain ⟨a, ha, hfa⟩ := hx
      have hg := ih (n - 1) (fun i => if i < a then f i else f (i + 1)) (by
        intro i hi
        by_cases q : i < a
        · simp only [if_pos q]
          have b1 := h1 i (by omega)
          have b2 := h2 i a q ha
          omega
        · simp only [if_neg q]
          have b1 := h1 (i + 1) (by omega)
          have b2 := h2 a (i + 1) (by omega) (by omega)
          omega) (by
        intro i j hij hj
        by_cases q : i < a
        · by_cases r : j < a
          · simp only [if_pos q, if_pos r]
            exact h2 i j hij (by omega)
          · simp only [if_pos q, if_neg r]
            exact h2 i (j + 1) (by omega) (by omega)
        · have r : ¬ j < a := by omega
          simp only [if_neg q, if_neg r]
          exact h2 (i + 1) (j + 1) (by omega) (by omega))
      omega
    · have hg := ih n f (fun i hi => by
        have b1 := h1 i hi
        have b2 : f i ≠ m := fun e => hx ⟨i, hi, e⟩
        omega) h2
      omega
/-- two of them in one place -/
theorem fb_twice {m n : Nat} {f : Nat → Nat} (h : ∀ i, i < n → f i < m) (hm : m < n) : ∃ i j, i < j ∧ j < n ∧ f i = f j := by
  refine Classical.byContradiction fun hx => ?_
  have := fb_holes m n f h (fun i j hij hj e => hx ⟨i, j, hij, hj, e⟩)
  omega
/-- as many as places, none twice: each place is taken -/
theorem fb_onto {n : Nat} {f : Nat → Nat} (h : ∀ i, i < n → f i < n) (h2 : ∀ i j, i < j → j < n → f i ≠ f j) {y : Nat} (hy : y < n) : ∃ i, i < n ∧ f i = y := by
  refine Classical.byContradiction fun hx => ?_
  have hne : ∀ i, i < n → f i ≠ y := fun i hi e => hx ⟨i, hi, e⟩
  have := fb_holes (n - 1) n (fun i => if f i < y then f i else f i - 1) (by
    intro i hi
    have b1 := h i hi
    have b2 := hne i hi
    by_cases q : f i < y
    · simp only [if_pos q]; omega
    · simp only [if_neg q]; omega) (by
    intro i j hij hj
    have b1 := hne i (by omega)
    have b2 := hne j hj
    have b3 := h2 i j hij hj
    by_cases q : f i < y
    · by_cases r : f j < y
      · simp only [if_pos q, if_pos r]; exact b3
      · simp only [if_pos q, if_neg r]; omega
    · by_cases r : f j < y
      · simp only [if_neg q, if_pos r]; omega
      · simp only [if_neg q, if_neg r]; omega)
  omega
/-! ===== how many places have a property ===== -/
def fb_ct (p : Nat → Bool) : Nat → Nat
  | 0 => 0
  | n + 1 => fb_ct p n + (if p n then 1 else 0)
theorem fb_ct_succ (p : Nat → Bool) (n : Nat) : fb_ct p (n + 1) = fb_ct p n + (if p n then 1 else 0) := rfl
theorem fb_ct_le (p : Nat → Bool) : ∀ n, fb_ct p n ≤ n
  | 0 => Nat.le_refl _
  | n + 1 => by
    have h := fb_ct_le p n
    rw [fb_ct_succ]
    split <;> omega
theorem fb_ct_step (p : Nat → Bool) (m : Nat) : ∀ n, fb_ct p m ≤ fb_ct p (m + n)
  | 0 => Nat.le_refl _
  | n + 1 => by
    have h := fb_ct_step p m n
    show fb_ct p m ≤ fb_ct p (m + n + 1)
    rw [fb_ct_succ]
    omega
theorem fb_ct_mono (p : Nat → Bool) {m n : Nat} (h : m ≤ n) : fb_ct p m ≤ fb_ct p n := by
  have := fb_ct_step p m (n - m)
  rwa [Nat.add_sub_cancel' h] at this
theorem fb_ct_cong {p q : Nat → Bool} : ∀ {n : Nat}, (∀ k, k < n → p k = q k) → fb_ct p n = fb_ct q n
  | 0, _ => rfl
  | n + 1, h => by
    rw [fb_ct_succ, fb_ct_succ, fb_ct_cong (fun k hk => h k (by omega)), h n (by omega)]
/-- one place changed -/
theorem fb_ct_out (p : Nat → Bool) (b : Bool) {i n : Nat} (h : n ≤ i) : fb_ct (fun k => if k = i then b else p k) n = fb_ct p n :=
  fb_ct_cong fun k hk => if_neg (by omega)
theorem fb_ct_upd (p : Nat → Bool) (b : Bool) {i : Nat} : ∀ {n : Nat}, i < n → fb_ct (fun k => if k = i then b else p k) n + (if p i then 1 else 0) = fb_ct p n + (if b then 1 else 0)
  | 0, h => absurd h (Nat.not_lt_zero i)
  | n + 1, h => by
    rw [fb_ct_succ, fb_ct_succ]
    rcases Nat.lt_or_ge i n with q | q
    · have := fb_ct_upd p b q
      have e : (if n = i then b else p n) = p n := if_neg (by omega)
      rw [e]
      omega
    · have e : i = n := by omega
      subst e
      rw [fb_ct_out p b (Nat.le_refl _)]
      simp only [if_true]
      omega
theorem fb_ct_sub {p q : Nat → Bool} : ∀ {n : Nat}, (∀ k, k < n → p k = true → q k = true) → fb_ct p n ≤ fb_ct q n
  | 0, _ => Nat.le_refl _
  | n + 1, h => by
    have h1 := fb_ct_sub (n := n) (p := p) (q := q) (fun k hk => h k (by omega))
    have h2 := h n (by omega)
    rw [fb_ct_succ, fb_ct_succ]
    cases hp : p n <;> cases hq : q n <;> simp_all <;> omega
theorem fb_ct_or {p q : Nat → Bool} : ∀ {n : Nat}, (∀ k, k < n → ¬ (p k = true ∧ q k = true)) → fb_ct (fun k => p k || q k) n = fb_ct p n + fb_ct q n
  | 0, _ => rfl
  | n + 1, h => by
    have h1 := fb_ct_or (n := n) (p := p) (q := q) (fun k hk => h k (by omega))
    have h2 := h n (by omega)
    rw [fb_ct_succ, fb_ct_succ, fb_ct_succ, h1]
    cases hp : p n <;> cases hq : q n <;> simp_all <;> omega
theorem fb_ct_not (p : Nat → Bool) : ∀ n, fb_ct p n + fb_ct (fun k => !p k) n = n
  | 0 => rfl
  | n + 1 => by
    have h := fb_ct_not p n
    rw [fb_ct_succ, fb_ct_succ]
    cases p n <;> simp <;> omega
theorem fb_ct_split (p : Nat → Bool) (m : Nat) : ∀ n, fb_ct p (m + n) = fb_ct p m + fb_ct (fun k => p (m + k)) n
  | 0 => rfl
  | n + 1 => by
    have h := fb_ct_split p m n
    show fb_ct p (m + n + 1) = _
    rw [fb_ct_succ, fb_ct_succ, h, Nat.add_assoc]
theorem fb_ct_zero {p : Nat → Bool} : ∀ {n : Nat}, fb_ct p n = 0 ↔ ∀ k, k < n → p k = false
  | 0 => ⟨fun _ k hk => absurd hk (Nat.not_lt_zero k), fun _ => rfl⟩
  | n + 1 => by
    have h := fb_ct_zero (p := p) (n := n)
    rw [fb_ct_succ]
    constructor
    · intro e k hk
      have e1 : fb_ct p n = 0 := by omega
      rcases Nat.lt_or_ge k n with q | q
      · exact h.mp e1 k q
      · have ek : k = n := by omega
        subst ek
        cases hp : p k
        · rfl
        · simp [hp] at e
    · intro a
      rw [h.mpr (fun k hk => a k (by omega)), a n (by omega)]
      rfl
theorem fb_ct_pos {p : Nat → Bool} {n : Nat} : 0 < fb_ct p n ↔ ∃ k, k < n ∧ p k = true := by
  constructor
  · intro h
    refine Classical.byContradiction fun hx => ?_
    have := fb_ct_zero.mpr (fun k hk => by
      cases hp : p k
      · rfl
      · exact absurd ⟨k, hk, hp⟩ hx : ∀ k, k < n → p k = false)
    omega
  · rintro ⟨k, hk, hp⟩
    rcases Nat.eq_zero_or_pos (fb_ct p n) with e | e
    · have := fb_ct_zero.mp e k hk
      rw [this] at hp
      cases hp
    · exact e
theorem fb_ct_all {p : Nat → Bool} {n : Nat} : fb_ct p n = n ↔ ∀ k, k < n → p k = true := by
  have h := fb_ct_not p n
  constructor
  · intro e k hk
    have z : fb_ct (fun k => !p k) n = 0 := by omega
    have := fb_ct_zero.mp z k hk
    cases hp : p k
    · simp [hp] at this
    · rfl
  · intro a
    have z : fb_ct (fun k => !p k) n = 0 := fb_ct_zero.mpr (fun k hk => by simp [a k hk])
    omega
/-- the k-th place with the property -/
theorem fb_ct_kth {p : Nat → Bool} {k : Nat} : ∀ {n : Nat}, k < fb_ct p n → ∃ i, i < n ∧ p i = true ∧ fb_ct p i = k
  | 0, h => absurd h (Nat.not_lt_zero k)
  | n + 1, h => by
    rcases Nat.lt_or_ge k (fb_ct p n) with q | q
    · obtain ⟨i, h1, h2⟩ := fb_ct_kth q
      exact ⟨i, by omega, h2⟩
    · rw [fb_ct_succ] at h
      cases hp : p n
      · simp [hp] at h; omega
      · simp [hp] at h
        exact ⟨n, by omega, hp, by omega⟩
theorem fb_ct_kth_one {p : Nat → Bool} {i j : Nat} (hi : p i = true) (hj : p j = true) (e : fb_ct p i = fb_ct p j) : i = j := by
  have key : ∀ a b : Nat, a < b → p a = true → fb_ct p a < fb_ct p b := by
    intro a b hab ha
    have h := fb_ct_mono p (show a + 1 ≤ b from hab)
    rw [fb_ct_succ, ha] at h
    simp at h
    omega
  rcases Nat.lt_trichotomy i j with q | q | q
  · have := key i j q hi; omega
  · exact q
  · have := key j i q hj; omega
/-! ===== sums over a range: one place changed, parts, bounds ===== -/
def fb_sm (f : Nat → Nat) : Nat → Nat
  | 0 => 0
  | n + 1 => fb_sm f n + f n
theorem fb_sm_succ (f : Nat → Nat) (n : Nat) : fb_sm f (n + 1) = fb_sm f n + f n := rfl
theorem fb_sm_cong {f g : Nat → Nat} : ∀ {n : Nat}, (∀ k, k < n → f k = g k) → fb_sm f n = fb_sm g n
  | 0, _ => rfl
  | n + 1, h => by rw [fb_sm_succ, fb_sm_succ, fb_sm_cong (fun k hk => h k (by omega)), h n (by omega)]
theorem fb_sm_out (f : Nat → Nat) (v : Nat) {i n : Nat} (h : n ≤ i) : fb_sm (fun k => if k = i then v else f k) n = fb_sm f n :=
  fb_sm_cong fun k hk => if_neg (by omega)
theorem fb_sm_upd (f : Nat → Nat) (v : Nat) {i : Nat} : ∀ {n : Nat}, i < n → fb_sm (fun k => if k = i then v else f k) n + f i = fb_sm f n + v
  | 0, h => absurd h (Nat.not_lt_zero i)
  | n + 1, h => by
    rw [fb_sm_succ, fb_sm_succ]
    rcases Nat.lt_or_ge i n with q | q
    · have := fb_sm_upd f v q
      have e : (if n = i then v else f n) = f n := if_neg (by omega)
      rw [e]
      omega
    · have e : i = n := by omega
      subst e
      rw [fb_sm_out f v (Nat.le_refl _)]
      simp only [if_true]
      omega
theorem fb_sm_add (f g : Nat → Nat) : ∀ n, fb_sm (fun k => f k + g k) n = fb_sm f n + fb_sm g n
  | 0 => rfl
  | n + 1 => by
    have h := fb_sm_add f g n
    rw [fb_sm_succ, fb_sm_succ, fb_sm_succ, h]
    omega
theorem fb_sm_le {f g : Nat → Nat} : ∀ {n : Nat}, (∀ k, k < n → f k ≤ g k) → fb_sm f n ≤ fb_sm g n
  | 0, _ => Nat.le_refl _
  | n + 1, h => by
    have h1 := fb_sm_le (n := n) (f := f) (g := g) (fun k hk => h k (by omega))
    have h2 := h n (by omega)
    rw [fb_sm_succ, fb_sm_succ]
    omega
theorem fb_sm_const (c : Nat) : ∀ n, fb_sm (fun _ => c) n = n * c
  | 0 => by rw [Nat.zero_mul]; rfl
  | n + 1 => by rw [fb_sm_succ, fb_sm_const c n, Nat.succ_mul]
theorem fb_sm_bound {f : Nat → Nat} {c n : Nat} (h : ∀ k, k < n → f k ≤ c) : fb_sm f n ≤ n * c := by
  rw [← fb_sm_const c n]
  exact fb_sm_le h
theorem fb_sm_mono (f : Nat → Nat) (m : Nat) : ∀ n, fb_sm f m ≤ fb_sm f (m + n)
  | 0 => Nat.le_refl _
  | n + 1 => by
    have h := fb_sm_mono f m n
    show fb_sm f m ≤ fb_sm f (m + n + 1)
    rw [fb_sm_succ]
    omega
theorem fb_sm_part (f : Nat → Nat) {i n : Nat} (h : i < n) : fb_sm f i + f i ≤ fb_sm f n := by
  have := fb_sm_mono f (i + 1) (n - (i + 1))
  rw [fb_sm_succ, show i + 1 + (n - (i + 1)) = n by omega] at this
  exact this
theorem fb_sm_split (f : Nat → Nat) (m : Nat) : ∀ n, fb_sm f (m + n) = fb_sm f m + fb_sm (fun k => f (m + k)) n
  | 0 => rfl
  | n + 1 => by
    have h := fb_sm_split f m n
    show fb_sm f (m + n + 1) = _
    rw [fb_sm_succ, fb_sm_succ, h, Nat.add_assoc]
theorem fb_sm_zero {f : Nat → Nat} {n : Nat} (h : fb_sm f n = 0) : ∀ k, k < n → f k = 0 := fun k hk => by
  have := fb_sm_part f hk
  omega
/-- the same over whole numbers -/
def fb_si (f : Nat → Int) : Nat → Int
  | 0 => 0
  | n + 1 => fb_si f n + f n
theorem fb_si_succ (f : Nat → Int) (n : Nat) : fb_si f (n + 1) = fb_si f n + f n := rfl
theorem fb_si_cong {f g : Nat → Int} : ∀ {n : Nat}, (∀ k, k < n → f k = g k) → fb_si f n = fb_si g n
  | 0, _ => rfl
  | n + 1, h => by rw [fb_si_succ, fb_si_succ, fb_si_cong (fun k hk => h k (by omega)), h n (by omega)]
theorem fb_si_out (f : Nat → Int) (v : Int) {i n : Nat} (h : n ≤ i) : fb_si (fun k => if k = i then v else f k) n = fb_si f n :=
  fb_si_cong fun k hk => if_neg (by omega)
theorem fb_si_upd (f : Nat → Int) (v : Int) {i : Nat} : ∀ {n : Nat}, i < n → fb_si (fun k => if k = i then v else f k) n = fb_si f n - f i + v
  | 0, h => absurd h (Nat.not_lt_zero i)
  | n + 1, h => by
    rw [fb_si_succ, fb_si_succ]
    rcases Nat.lt_or_ge i n with q | q
    · have := fb_si_upd f v q
      have e : (if n = i then v else f n) = f n := if_neg (by omega)
      rw [e]
      omega
    · have e : i = n := by omega
      subst e
      rw [fb_si_out f v (Nat.le_refl _)]
      simp only [if_true]
      omega
theorem fb_si_add (f g : Nat → Int) : ∀ n, fb_si (fun k => f k + g k) n = fb_si f n + fb_si g n
  | 0 => rfl
  | n + 1 => by
    have h := fb_si_add f g n
    rw [fb_si_succ, fb_si_succ, fb_si_succ, h]
    omega
theorem fb_si_sub (f g : Nat → Int) : ∀ n, fb_si (fun k => f k - g k) n = fb_si f n - fb_si g n
  | 0 => rfl
  | n + 1 => by
    have h := fb_si_sub f g n
    rw [fb_si_succ, fb_si_succ, fb_si_succ, h]
    omega
theorem fb_si_mul (c : Int) (f : Nat → Int) : ∀ n, fb_si (fun k => c * f k) n = c * fb_si f n
  | 0 => (Int.mul_zero c).symm
  | n + 1 => by
    have h := fb_si_mul c f n
    rw [fb_si_succ, fb_si_succ, h, Int.mul_add]
theorem fb_si_split (f : Nat → Int) (m : Nat) : ∀ n, fb_si f (m + n) = fb_si f m + fb_si (fun k => f (m + k)) n
  | 0 => (Int.add_zero _).symm
  | n + 1 => by
    have h := fb_si_split f m n
    show fb_si f (m + n + 1) = _
    rw [fb_si_succ, fb_si_succ, h, Int.add_assoc]
theorem fb_si_nat (f : Nat → Nat) : ∀ n, fb_si (fun k => (f k : Int)) n = (fb_sm f n : Int)
  | 0 => rfl
  | n + 1 => by
    have h := fb_si_nat f n
    rw [fb_si_succ, fb_sm_succ, h]
    omega
theorem fb_si_bound {f : Nat → Int} {c : Int} (hc : 0 ≤ c) : ∀ {n : Nat}, (∀ k, k < n → -c ≤ f k ∧ f k ≤ c) → -(n * c) ≤ fb_si f n ∧ fb_si f n ≤ n * c
  | 0, _ => by simp [fb_si]
  | n + 1, h => by
    have h1 := fb_si_bound (n := n) (f := f) hc (fun k hk => h k (by omega))
    have h2 := h n (by omega)
    have e : ((n + 1 : Nat) : Int) * c = n * c + c := by rw [Int.natCast_add, Int.add_mul]; simp
    rw [fb_si_succ, e]
    omega
/-! ===== bits of a long that isn't negative ===== -/
theorem fb_andL (a b : Nat) : lN a &&& lN b = lN (a &&& b) := by
  apply Int64.toBitVec_inj.1
  show BitVec.ofNat 64 a &&& BitVec.ofNat 64 b = BitVec.ofNat 64 (a &&& b)
  apply BitVec.eq_of_getLsbD_eq
  intro i hi
  simp [hi]
theorem fb_orL (a b : Nat) : lN a ||| lN b = lN (a ||| b) := by
  apply Int64.toBitVec_inj.1
  show BitVec.ofNat 64 a ||| BitVec.ofNat 64 b = BitVec.ofNat 64 (a ||| b)
  apply BitVec.eq_of_getLsbD_eq
  intro i hi
  simp [hi]
theorem fb_xorL (a b : Nat) : lN a ^^^ lN b = lN (a ^^^ b) := by
  apply Int64.toBitVec_inj.1
  show BitVec.ofNat 64 a ^^^ BitVec.ofNat 64 b = BitVec.ofNat 64 (a ^^^ b)
  apply BitVec.eq_of_getLsbD_eq
  intro i hi
  simp [hi]
theorem fb_xorI (a b : Nat) : nI a ^^^ nI b = nI (a ^^^ b) := by
  apply Int32.toBitVec_inj.1
  show BitVec.ofNat 32 a ^^^ BitVec.ofNat 32 b = BitVec.ofNat 32 (a ^^^ b)
  apply BitVec.eq_of_getLsbD_eq
  intro i hi
  simp [hi]
theorem fb_maskL (n k : Nat) : lN n &&& lN (2 ^ k - 1) = lN (n % 2 ^ k) := by rw [fb_andL, Nat.and_two_pow_sub_one_eq_mod]
theorem fb_or_sumL {a k : Nat} (b : Nat) (h : a < 2 ^ k) : lN (2 ^ k * b) ||| lN a = lN (2 ^ k * b + a) := by rw [fb_orL, Nat.two_pow_add_eq_or_of_lt h]
theorem fb_lN_inj {a b : Nat} (ha : a < 2 ^ 63) (hb : b < 2 ^ 63) : lN a = lN b ↔ a = b := by
  constructor
  · intro h
    have h1 : (BitVec.ofNat 64 a).toNat = (BitVec.ofNat 64 b).toNat := congrArg (fun x : Int64 => x.toBitVec.toNat) h
    rw [BitVec.toNat_ofNat, BitVec.toNat_ofNat, Nat.mod_eq_of_lt (by omega), Nat.mod_eq_of_lt (by omega)] at h1
    exact h1
  · rintro rfl; rfl
theorem fb_bit_nat (n j : Nat) : n &&& 2 ^ j = 0 ↔ n.testBit j = false := by
  constructor
  · intro h
    have h1 : (n &&& 2 ^ j).testBit j = false := by rw [h]; simp
    rw [Nat.testBit_and] at h1
    simpa using h1
  · intro h
    apply Nat.eq_of_testBit_eq
    intro i
    rw [Nat.testBit_and]
    by_cases hi : j = i
    · subst hi; simp [h]
    · first | (simp [Nat.testBit_two_pow, hi]; done) | (simp [Nat.testBit_two_pow_of_ne hi]; done)
/-- one bit of a long -/
theorem fb_bitL {n j : Nat} (hj : j < 63) : lN n &&& lN (2 ^ j) = 0 ↔ n.testBit j = false := by
  have h2 : (2 : Nat) ^ j < 2 ^ 63 := Nat.pow_lt_pow_right (by decide) hj
  have hle : n &&& 2 ^ j ≤ 2 ^ j := Nat.and_le_right
  rw [fb_andL, ← fb_bit_nat, show (0 : Int64) = lN 0 from rfl]
  exact fb_lN_inj (by omega) (by decide)
/-- a bit set, a bit taken off -/
theorem fb_bit_set (n j i : Nat) : (n ||| 2 ^ j).testBit i = (n.testBit i || decide (i = j)) := by
  rw [Nat.testBit_or]
  by_cases h : j = i
  · subst h; simp
  · have h2 : ¬ i = j := fun e => h e.symm
    first | (simp [Nat.testBit_two_pow, h, h2]; done) | (simp [Nat.testBit_two_pow_of_ne h, h2]; done)
theorem fb_bit_flip (n j i : Nat) : (n ^^^ 2 ^ j).testBit i = (n.testBit i ^^ decide (i = j)) := by
  rw [Nat.testBit_xor]
  by_cases h : j = i
  · subst h; simp
  · have h2 : ¬ i = j := fun e => h e.symm
    first | (simp [Nat.testBit_two_pow, h, h2]; done) | (simp [Nat.testBit_two_pow_of_ne h, h2]; done)
/-! ===== a stretch of an array written over by a function ===== -/
def fb_put {α : Type} (f g : Nat → α) (a n : Nat) : Nat → α := fun k => if a ≤ k ∧ k < a + n then g (k - a) else f k
theorem fb_put_0 {α : Type} (f g : Nat → α) (a : Nat) : fb_put f g a 0 = f := funext fun k => if_neg (by omega)
theorem fb_put_in {α : Type} {f g : Nat → α} {a n k : Nat} (h1 : a ≤ k) (h2 : k < a + n) : fb_put f g a n k = g (k - a) := if_pos ⟨h1, h2⟩
theorem fb_put_out {α : Type} {f g : Nat → α} {a n k : Nat} (h : k < a ∨ a + n ≤ k) : fb_put f g a n k = f k := if_neg (by omega)
theorem fb_put_succ (f g : Nat → Int32) (a n : Nat) : upd (fb_put f g a n) (a + n) (g n) = fb_put f g a (n + 1) := by
  funext k
  by_cases h : k = a + n
  · subst h
    simp [upd, fb_put]
  · by_cases h1 : a ≤ k ∧ k < a + n
    · have h2 : a ≤ k ∧ k < a + (n + 1) := by omega
      simp only [upd, fb_put, if_neg h, if_pos h1, if_pos h2]
    · have h2 : ¬ (a ≤ k ∧ k < a + (n + 1)) := by omega
      simp only [upd, fb_put, if_neg h, if_neg h1, if_neg h2]
/-- .. from the far end down -/
theorem fb_put_down (f g : Nat → Int32) {a n m : Nat} (h : m < n) : upd (fb_put f (fun k => g (k + (m + 1))) (a + (m + 1)) (n - (m + 1))) (a + m) (g m) = fb_put f (fun k => g (k + m)) (a + m) (n - m) := by
  funext k
  by_cases h0 : k = a + m
  · subst h0
    simp only [upd, if_true]
    rw [fb_put_in (by omega) (by omega)]
    exact congrArg g (by omega)
  · simp only [upd, if_neg h0]
    by_cases h1 : a + (m + 1) ≤ k ∧ k < a + (m + 1) + (n - (m + 1))
    · rw [fb_put_in h1.1 h1.2, fb_put_in (by omega) (by omega)]
      exact congrArg g (by omega)
    · rw [fb_put_out (by omega), fb_put_out (by omega)]
theorem fb_put_cong {α : Type} {f f2 g g2 : Nat → α} {a n : Nat} (hf : ∀ k, (k < a ∨ a + n ≤ k) → f k = f2 k) (hg : ∀ k, k < n → g k = g2 k) : fb_put f g a n = fb_put f2 g2 a n := by
  funext k
  by_cases h : a ≤ k ∧ k < a + n
  · rw [fb_put_in h.1 h.2, fb_put_in h.1 h.2, hg _ (by omega)]
  · rw [fb_put_out (by omega), fb_put_out (by omega), hf _ (by omega)]
/-! ===== the least, the first, the best so far; that there is one alone ===== -/
theorem fb_first {p : Nat → Prop} [DecidablePred p] : ∀ {n : Nat}, (∃ i, i < n ∧ p i) → ∃ i, i < n ∧ p i ∧ ∀ j, j < i → ¬ p j
  | 0, h => by obtain ⟨i, hi, -⟩ := h; exact absurd hi (Nat.not_lt_zero i)
  | n + 1, h => by
    by_cases q : ∃ i, i < n ∧ p i
    · obtain ⟨i, h1, h2⟩ := fb_first q
      exact ⟨i, by omega, h2⟩
    · obtain ⟨i, h1, h2⟩ := h
      have e : i = n := by
        rcases Nat.lt_or_ge i n with r | r
        · exact absurd ⟨i, r, h2⟩ q
        · omega
      subst e
      exact ⟨i, by omega, h2, fun j hj hp => q ⟨j, hj, hp⟩⟩
theorem fb_first_one {p : Nat → Prop} {i j : Nat} (hi : p i) (hi2 : ∀ k, k < i → ¬ p k) (hj : p j) (hj2 : ∀ k, k < j → ¬ p k) : i = j := by
  rcases Nat.lt_trichotomy i j with q | q | q
  · exact absurd hi (hj2 i q)
  · exact q
  · exact absurd hj (hi2 j q)
theorem fb_last {p : Nat → Prop} [DecidablePred p] : ∀ {n : Nat}, (∃ i, i < n ∧ p i) → ∃ i, i < n ∧ p i ∧ ∀ j, i < j → j < n → ¬ p j
  | 0, h => by obtain ⟨i, hi, -⟩ := h; exact absurd hi (Nat.not_lt_zero i)
  | n + 1, h => by
    by_cases q : p n
    · exact ⟨n, by omega, q, fun j h1 h2 => by omega⟩
    · obtain ⟨i, h1, h2⟩ := h
      have hi : i < n := by
        rcases Nat.lt_or_ge i n with r | r
        · exact r
        · have e : i = n := by omega
          subst e
          exact absurd h2 q
      obtain ⟨i2, a1, a2, a3⟩ := fb_last (n := n) ⟨i, hi, h2⟩
      refine ⟨i2, by omega, a2, fun j b1 b2 => ?_⟩
      rcases Nat.lt_or_ge j n with r | r
      · exact a3 j b1 r
      · have e : j = n := by omega
        subst e
        exact q
/-- the first greatest -/
theorem fb_best (f : Nat → Int) : ∀ {n : Nat}, 0 < n → ∃ i, i < n ∧ (∀ j, j < n → f j ≤ f i) ∧ ∀ j, j < i → f j < f i
  | 0, h => absurd h (Nat.lt_irrefl 0)
  | 1, _ => ⟨0, by omega, fun j hj => by have e : j = 0 := by omega
                                         subst e; exact Int.le_refl _, fun j hj => absurd hj (Nat.not_lt_zero j)⟩
  | n + 2, _ => by
    obtain ⟨i, h1, h2, h3⟩ := fb_best f (n := n + 1) (by omega)
    by_cases q : f i < f (n + 1)
    · refine ⟨n + 1, by omega, fun j hj => ?_, fun j hj => ?_⟩
      · rcases Nat.lt_or_ge j (n + 1) with r | r
        · have := h2 j r; omega
        · have e : j = n + 1 := by omega
          subst e; exact Int.le_refl _
      · have := h2 j hj; omega
    · refine ⟨i, by omega, fun j hj => ?_, h3⟩
      rcases Nat.lt_or_ge j (n + 1) with r | r
      · exact h2 j r
      · have e : j = n + 1 := by omega
        subst e; omega
theorem fb_best_one {f : Nat → Int} {n i j : Nat} (hi : i < n) (hi2 : ∀ k, k < n → f k ≤ f i) (hi3 : ∀ k, k < i → f k < f i) (hj : j < n) (hj2 : ∀ k, k < n → f k ≤ f j) (hj3 : ∀ k, k < j → f k < f j) : i = j := by
  rcases Nat.lt_trichotomy i j with q | q | q
  · have a := hj3 i q
    have b := hi2 j hj
    omega
  · exact q
  · have a := hi3 j q
    have b := hj2 i hi
    omega
/-- the first least -/
theorem fb_low (f : Nat → Int) {n : Nat} (h : 0 < n) : ∃ i, i < n ∧ (∀ j, j < n → f i ≤ f j) ∧ ∀ j, j < i → f i < f j := by
  obtain ⟨i, h1, h2, h3⟩ := fb_best (fun k => -f k) h
  exact ⟨i, h1, fun j hj => by have := h2 j hj; omega, fun j hj => by have := h3 j hj; omega⟩
/-! ===== signed ints as whole numbers, within bounds ===== -/
theorem fb_rng (x : Int32) : -2147483648 ≤ x.toInt ∧ x.toInt < 2147483648 := by
  have h1 := Int32.le_toInt x
  have h2 := Int32.toInt_lt x
  omega
theorem fb_bmod {z : Int} (h1 : -2147483648 ≤ z) (h2 : z < 2147483648) : z.bmod (2 ^ 32) = z := by
  rw [Int.bmod_eq_of_le (by omega) (by omega)]
theorem fb_addI {x y : Int32} (h1 : -2147483648 ≤ x.toInt + y.toInt) (h2 : x.toInt + y.toInt < 2147483648) : (x + y).toInt = x.toInt + y.toInt := by
  rw [Int32.toInt_add, fb_bmod h1 h2]
theorem fb_subI {x y : Int32} (h1 : -2147483648 ≤ x.toInt - y.toInt) (h2 : x.toInt - y.toInt < 2147483648) : (x - y).toInt = x.toInt - y.toInt := by
  rw [Int32.toInt_sub, fb_bmod h1 h2]
theorem fb_mulI {x y : Int32} (h1 : -2147483648 ≤ x.toInt * y.toInt) (h2 : x.toInt * y.toInt < 2147483648) : (x * y).toInt = x.toInt * y.toInt := by
  rw [Int32.toInt_mul, fb_bmod h1 h2]
theorem fb_negI {x : Int32} (h : x.toInt ≠ -2147483648) : (-x).toInt = -x.toInt := by
  have := fb_rng x
  rw [Int32.toInt_neg, fb_bmod (by omega) (by omega)]
theorem fb_ofI {z : Int} (h1 : -2147483648 ≤ z) (h2 : z < 2147483648) : (Int32.ofInt z).toInt = z := by
  rw [Int32.toInt_ofInt, fb_bmod h1 h2]
theorem fb_asI (x : Int32) : Int32.ofInt x.toInt = x := Int32.ofInt_toInt x
theorem fb_rngL (x : Int64) : -9223372036854775808 ≤ x.toInt ∧ x.toInt < 9223372036854775808 := by
  have h1 := Int64.le_toInt x
  have h2 := Int64.toInt_lt x
  omega
theorem fb_bmodL {z : Int} (h1 : -9223372036854775808 ≤ z) (h2 : z < 9223372036854775808) : z.bmod (2 ^ 64) = z := by
  rw [Int.bmod_eq_of_le (by omega) (by omega)]
theorem fb_addL {x y : Int64} (h1 : -9223372036854775808 ≤ x.toInt + y.toInt) (h2 : x.toInt + y.toInt < 9223372036854775808) : (x + y).toInt = x.toInt + y.toInt := by
  rw [Int64.toInt_add, fb_bmodL h1 h2]
theorem fb_subL {x y : Int64} (h1 : -9223372036854775808 ≤ x.toInt - y.toInt) (h2 : x.toInt - y.toInt < 9223372036854775808) : (x - y).toInt = x.toInt - y.toInt := by
  rw [Int64.toInt_sub, fb_bmodL h1 h2]
theorem fb_mulL {x y : Int64} (h1 : -9223372036854775808 ≤ x.toInt * y.toInt) (h2 : x.toInt * y.toInt < 9223372036854775808) : (x * y).toInt = x.toInt * y.toInt := by
  rw [Int64.toInt_mul, fb_bmodL h1 h2]
/-! ===== cuts of what is narrow already ===== -/
theorem fb_byte {x : Int32} (h1 : -128 ≤ x.toInt) (h2 : x.toInt < 128) : x.toInt8.toInt32 = x := by
  apply Int32.toInt_inj.1
  rw [Int8.toInt_toInt32, Int32.toInt_toInt8, Int.bmod_eq_of_le (by omega) (by omega)]
theorem fb_short {x : Int32} (h1 : -32768 ≤ x.toInt) (h2 : x.toInt < 32768) : x.toInt16.toInt32 = x := by
  apply Int32.toInt_inj.1
  rw [Int16.toInt_toInt32, Int32.toInt_toInt16, Int.bmod_eq_of_le (by omega) (by omega)]
theorem fb_byte_rng (x : Int32) : -128 ≤ x.toInt8.toInt32.toInt ∧ x.toInt8.toInt32.toInt < 128 := by
  rw [Int8.toInt_toInt32]
  have h1 := Int8.le_toInt x.toInt8
  have h2 := Int8.toInt_lt x.toInt8
  omega
theorem fb_short_rng (x : Int32) : -32768 ≤ x.toInt16.toInt32.toInt ∧ x.toInt16.toInt32.toInt < 32768 := by
  rw [Int16.toInt_toInt32]
  have h1 := Int16.le_toInt x.toInt16
  have h2 := Int16.toInt_lt x.toInt16
  omega
theorem fb_byte_twice (x : Int32) : x.toInt8.toInt32.toInt8.toInt32 = x.toInt8.toInt32 := fb_byte (fb_byte_rng x).1 (fb_byte_rng x).2
theorem fb_short_twice (x : Int32) : x.toInt16.toInt32.toInt16.toInt32 = x.toInt16.toInt32 := fb_short (fb_short_rng x).1 (fb_short_rng x).2
theorem fb_char {n : Nat} (h : n < 65536) : (nI n).toUInt32.toUInt16.toUInt32.toInt32 = nI n := by
  apply Int32.toBitVec_inj.1
  apply BitVec.eq_of_toNat_eq
  have e1 : (nI n).toBitVec.toNat = n := by
    show (BitVec.ofNat 32 n).toNat = n
    rw [BitVec.toNat_ofNat, Nat.mod_eq_of_lt (by omega)]
  have e2 : ((nI n).toUInt32.toUInt16.toUInt32).toNat = n := by
    rw [UInt16.toNat_toUInt32, UInt32.toNat_toUInt16]
    show (nI n).toBitVec.toNat % 2 ^ 16 = n
    rw [e1, Nat.mod_eq_of_lt (by omega)]
  rw [e1]
  exact e2
/-! rows on bits, shifts and unsigned numbers, to paste: each family out of a closed proof of our own, whole with what it rests on; each by itself clean at Lean in its own claim (generation 39, form 5). Take a family whole -/
/-! ===== Int32 by its bits: bt x i ===== -/
def bt (x : Int32) (i : Nat) : Bool := x.toBitVec.getLsbD i
theorem b_ext {x y : Int32} (h : ∀ i, i < 32 → bt x i = bt y i) : x = y := Int32.toBitVec_inj.mp (BitVec.eq_of_getLsbD_eq (fun i hi => h i hi))
theorem b_or (x y : Int32) (i : Nat) : bt (x ||| y) i = (bt x i || bt y i) := by unfold bt; rw [Int32.toBitVec_or, BitVec.getLsbD_or]
theorem b_and (x y : Int32) (i : Nat) : bt (x &&& y) i = (bt x i && bt y i) := by unfold bt; rw [Int32.toBitVec_and, BitVec.getLsbD_and]
theorem b_xor (x y : Int32) (i : Nat) : bt (x ^^^ y) i = (bt x i ^^ bt y i) := by unfold bt; rw [Int32.toBitVec_xor, BitVec.getLsbD_xor]
theorem b_big {x : Int32} {i : Nat} (h : 32 ≤ i) : bt x i = false := BitVec.getLsbD_of_ge _ _ h
theorem b_255 (i : Nat) : bt 255 i = decide (i < 8) := by
  rcases Nat.lt_or_ge i 32 with h | h
  · exact (by decide +kernel : ∀ i, i < 32 → bt 255 i = decide (i < 8)) i h
  · rw [b_big h, decide_eq_false (by omega)]
theorem b_65535 (i : Nat) : bt 65535 i = decide (i < 16) := by
  rcases Nat.lt_or_ge i 32 with h | h
  · exact (by decide +kernel : ∀ i, i < 32 → bt 65535 i = decide (i < 16)) i h
  · rw [b_big h, decide_eq_false (by omega)]
theorem b_m1 : ∀ i, i < 32 → bt (-1) i = true := by decide +kernel
theorem b_0 (i : Nat) : bt 0 i = false := BitVec.getLsbD_zero
theorem s_l : ∀ n, n < 32 → ((nI n &&& 31).toBitVec.smod 32).toNat = n := by decide +kernel
theorem s_u : ∀ n, n < 32 → (((nI n).toUInt32 &&& Int32.toUInt32 31).toBitVec % 32).toNat = n := by decide +kernel
theorem b_shl (n : Nat) (hn : n < 32) (x : Int32) {i : Nat} (hi : i < 32) : bt (x <<< (nI n &&& 31)) i = (decide (n ≤ i) && bt x (i - n)) := by
  unfold bt
  rw [Int32.toBitVec_shiftLeft]
  show (x.toBitVec <<< ((nI n &&& 31).toBitVec.smod 32).toNat).getLsbD i = _
  rw [s_l n hn, BitVec.getLsbD_shiftLeft]
  rcases Nat.lt_or_ge i n with h | h
  · simp [h, Nat.not_le.mpr h]
  · simp [hi, h, Nat.not_lt.mpr h]
theorem b_ushr (n : Nat) (hn : n < 32) (x : Int32) (i : Nat) : bt ((x.toUInt32 >>> ((nI n).toUInt32 &&& Int32.toUInt32 31)).toInt32) i = bt x (n + i) := by
  show (x.toUInt32 >>> ((nI n).toUInt32 &&& Int32.toUInt32 31)).toBitVec.getLsbD i = x.toUInt32.toBitVec.getLsbD (n + i)
  rw [UInt32.toBitVec_shiftRight]
  show (x.toUInt32.toBitVec >>> (((nI n).toUInt32 &&& Int32.toUInt32 31).toBitVec % 32).toNat).getLsbD i = _
  rw [s_u n hn, BitVec.getLsbD_ushiftRight]
theorem b_sshr (n : Nat) (hn : n < 32) (x : Int32) {i : Nat} (hi : i < 32) : bt (x >>> (nI n &&& 31)) i = if n + i < 32 then bt x (n + i) else bt x 31 := by
  unfold bt
  rw [Int32.toBitVec_shiftRight]
  show (x.toBitVec.sshiftRight ((nI n &&& 31).toBitVec.smod 32).toNat).getLsbD i = _
  rw [s_l n hn, BitVec.getLsbD_sshiftRight, BitVec.msb_eq_getLsbD_last]
  simp [hi]
theorem b_shl8 (x : Int32) {i : Nat} (hi : i < 32) : bt (x <<< ((8 : Int32) &&& 31)) i = (decide (8 ≤ i) && bt x (i - 8)) := b_shl 8 (by omega) x hi
theorem b_shl16 (x : Int32) {i : Nat} (hi : i < 32) : bt (x <<< ((16 : Int32) &&& 31)) i = (decide (16 ≤ i) && bt x (i - 16)) := b_shl 16 (by omega) x hi
theorem b_shl24 (x : Int32) {i : Nat} (hi : i < 32) : bt (x <<< ((24 : Int32) &&& 31)) i = (decide (24 ≤ i) && bt x (i - 24)) := b_shl 24 (by omega) x hi
theorem b_sshr8 (x : Int32) {i : Nat} (hi : i < 32) : bt (x >>> ((8 : Int32) &&& 31)) i = if 8 + i < 32 then bt x (8 + i) else bt x 31 := b_sshr 8 (by omega) x hi
end
section
/-! BASE: the numbers of the machine as naturals, reads behind writes, what a stretch leaves alone -/
def bI (b : Bool) : Int32 := nI b.toNat
theorem bI_t : bI true = 1 := rfl
theorem bI_f : bI false = 0 := rfl
theorem bI_0 (b : Bool) : bI b = 0 ↔ b = false := by cases b <;> decide
theorem bI_1 (b : Bool) : bI b = 1 ↔ b = true := by cases b <;> decide
theorem bI_01 (b : Bool) : bI b = 0 ∨ bI b = 1 := by cases b <;> decide
theorem bI_if (c : Prop) [Decidable c] : (if c then (1 : Int32) else 0) = bI (decide c) := by by_cases h : c <;> simp [h, bI_t, bI_f]
theorem bt_nI (s i : Nat) : bt (nI s) i = (decide (i < 32) && s.testBit i) := by
  show (BitVec.ofNat 32 s).getLsbD i = _
  rw [BitVec.getLsbD_ofNat]
theorem q_tb0 {s i : Nat} (hs : s < 2 ^ 31) (hi : 31 ≤ i) : s.testBit i = false := Nat.testBit_lt_two_pow (Nat.lt_of_lt_of_le hs (Nat.pow_le_pow_right (by decide) hi))
theorem q_shr {s v : Nat} (hs : s < 2 ^ 31) (hv : v < 31) : nI s >>> (nI v &&& 31) = nI (s >>> v) := by
  apply b_ext
  intro i hi
  rw [b_sshr v (by omega) _ hi, bt_nI, bt_nI, bt_nI, Nat.testBit_shiftRight]
  by_cases h : v + i < 32
  · simp [h, hi]
  · rw [if_neg h, q_tb0 hs (Nat.le_refl _), q_tb0 hs (show 31 ≤ v + i by omega)]
    simp
theorem q_mod2 (s v : Nat) : (s >>> v) % 2 = (s.testBit v).toNat := by rw [Nat.toNat_testBit, Nat.shiftRight_eq_div_pow]
theorem q_bit {s v : Nat} (hs : s < 2 ^ 31) (hv : v < 31) : (nI s >>> (nI v &&& 31)) &&& 1 = bI (s.testBit v) := by
  rw [q_shr hs hv]
  show nI (s >>> v) &&& nI 1 = _
  rw [fa_and, Nat.and_one_is_mod, q_mod2]
  rfl
theorem q_shl : ∀ v, v < 31 → nI 1 <<< (nI v &&& 31) = nI (2 ^ v) := by decide +kernel
def andn (a b : Nat) : Nat := a ^^^ (a &&& b)
theorem andn_bit (a b i : Nat) : (andn a b).testBit i = (a.testBit i && !b.testBit i) := by
  unfold andn
  rw [Nat.testBit_xor, Nat.testBit_and]
  cases a.testBit i <;> cases b.testBit i <;> rfl
theorem q_m1 : ∀ i, i < 32 → bt (-nI 1) i = true := by decide +kernel
theorem q_andn (a b : Nat) : nI a &&& (nI b ^^^ -nI 1) = nI (andn a b) := by
  apply b_ext
  intro i hi
  rw [b_and, b_xor, q_m1 i hi, bt_nI, bt_nI, bt_nI, andn_bit]
  simp [hi]
theorem q_lt_of_bits {a k : Nat} (h : ∀ i, k ≤ i → a.testBit i = false) : a < 2 ^ k := Nat.lt_pow_two_of_testBit a h
theorem q_sub_lt {a b k : Nat} (h : ∀ i, a.testBit i = true → b.testBit i = true) (hb : b < 2 ^ k) : a < 2 ^ k := q_lt_of_bits fun i hi => by
  cases e : a.testBit i with
  | false => rfl
  | true =>
    have := h i e
    rw [Nat.testBit_lt_two_pow (Nat.lt_of_lt_of_le hb (Nat.pow_le_pow_right (by decide) hi))] at this
    cases this
theorem andn_lt {a k : Nat} (b : Nat) (h : a < 2 ^ k) : andn a b < 2 ^ k := q_sub_lt (b := a) (fun i z => by rw [andn_bit] at z; cases e : a.testBit i <;> rw [e] at z <;> simp_all) h
theorem i_pi (h : am_H) (a k : Nat) (v : Int32) (b j : Nat) : am_i (am_pi h a k v) b j = if b = a then (if j = k then v else am_i h b j) else am_i h b j := by
  show va_up h.2.1 a (upd (h.2.1 a) k v) b j = _
  unfold va_up upd
  by_cases e : b = a
  · subst e; rw [if_pos rfl, if_pos rfl]; rfl
  · rw [if_neg e, if_neg e]; rfl
theorem i_pi_same (h : am_H) (a k : Nat) (v : Int32) (j : Nat) : am_i (am_pi h a k v) a j = if j = k then v else am_i h a j := by rw [i_pi, if_pos rfl]
theorem i_pi_ne {h : am_H} {a k : Nat} {v : Int32} {b : Nat} (hb : b ≠ a) : am_i (am_pi h a k v) b = am_i h b := by
  funext j
  rw [i_pi, if_neg hb]
theorem k_pi (h : am_H) (a k : Nat) (v : Int32) (b : Nat) : am_k (am_pi h a k v) b = am_k h b := rfl
theorem r_pi (h : am_H) (a k : Nat) (v : Int32) (b j : Nat) : am_r (am_pi h a k v) b j = am_r h b j := rfl
theorem l_pi (h : am_H) (a k : Nat) (v : Int32) (b j : Nat) : am_l (am_pi h a k v) b j = am_l h b j := rfl
theorem n_pi (h : am_H) (a k : Nat) (v : Int32) : am_n (am_pi h a k v) = am_n h := rfl
theorem k_pr (h : am_H) (a k v b : Nat) : am_k (am_pr h a k v) b = am_k h b := rfl
theorem i_pr (h : am_H) (a k v b j : Nat) : am_i (am_pr h a k v) b j = am_i h b j := rfl
theorem k_pl (h : am_H) (a k : Nat) (v : Int64) (b : Nat) : am_k (am_pl h a k v) b = am_k h b := rfl
theorem i_pl (h : am_H) (a k : Nat) (v : Int64) (b j : Nat) : am_i (am_pl h a k v) b j = am_i h b j := rfl
theorem r_pl (h : am_H) (a k : Nat) (v : Int64) (b j : Nat) : am_r (am_pl h a k v) b j = am_r h b j := rfl
theorem l_pl_same (h : am_H) (a k : Nat) (v : Int64) (j : Nat) : am_l (am_pl h a k v) a j = if j = k then v else am_l h a j := by
  show va_up h.2.2.1 a (vp_updL (h.2.2.1 a) k v) a j = _
  unfold va_up vp_updL
  rw [if_pos rfl]
  rfl
theorem r_pr (h : am_H) (a k v b j : Nat) : am_r (am_pr h a k v) b j = if b = a then (if j = k then v else am_r h b j) else am_r h b j := by
  show va_up h.2.2.2.1 a (va_up (h.2.2.2.1 a) k v) b j = _
  unfold va_up
  by_cases e : b = a
  · subst e; rw [if_pos rfl, if_pos rfl]; rfl
  · rw [if_neg e, if_neg e]; rfl
/-- nothing but the ints and longs of the cells X has changed -/
def sm (X : List Nat) (h h' : am_H) : Prop := h'.1 = h.1 ∧ h'.2.2.2 = h.2.2.2 ∧ ∀ a, a ∉ X → am_i h' a = am_i h a ∧ am_l h' a = am_l h a
theorem sm.rf {X : List Nat} {h : am_H} : sm X h h := ⟨rfl, rfl, fun _ _ => ⟨rfl, rfl⟩⟩
theorem sm.tr {X : List Nat} {h h1 h2 : am_H} (s : sm X h h1) (t : sm X h1 h2) : sm X h h2 := ⟨t.1.trans s.1, t.2.1.trans s.2.1, fun a ha => ⟨(t.2.2 a ha).1.trans (s.2.2 a ha).1, (t.2.2 a ha).2.trans (s.2.2 a ha).2⟩⟩
theorem sm.mo {X Y : List Nat} {h h1 : am_H} (s : sm X h h1) (hs : ∀ a, a ∈ X → a ∈ Y) : sm Y h h1 := ⟨s.1, s.2.1, fun a ha => s.2.2 a fun z => ha (hs a z)⟩
theorem sm.pi {X : List Nat} {h h1 : am_H} (s : sm X h h1) {a k : Nat} {v : Int32} (ha : a ∈ X) : sm X h (am_pi h1 a k v) := ⟨s.1, s.2.1, fun b hb => ⟨(i_pi_ne fun e => hb (by rw [e]; exact ha)).trans (s.2.2 b hb).1, (s.2.2 b hb).2⟩⟩
theorem sm.pl {X : List Nat} {h h1 : am_H} (s : sm X h h1) {a k : Nat} {v : Int64} (ha : a ∈ X) : sm X h (am_pl h1 a k v) := ⟨s.1, s.2.1, fun b hb => ⟨(s.2.2 b hb).1, Eq.trans (by
  funext j
  show va_up h1.2.2.1 a _ b j = _
  unfold va_up
  rw [if_neg fun e => hb (by rw [e]; exact ha)]
  rfl) (s.2.2 b hb).2⟩⟩
theorem sm.k {X : List Nat} {h h' : am_H} (s : sm X h h') (a : Nat) : am_k h' a = am_k h a := by unfold am_k; rw [s.1]
theorem sm.r {X : List Nat} {h h' : am_H} (s : sm X h h') (a k : Nat) : am_r h' a k = am_r h a k := by unfold am_r; rw [s.2.1]
theorem sm.n {X : List Nat} {h h' : am_H} (s : sm X h h') : am_n h' = am_n h := by unfold am_n; rw [s.2.1]
theorem sm.cs {X : List Nat} {h h' : am_H} (s : sm X h h') : am_cs h' = am_cs h := by unfold am_cs; rw [s.2.1]
theorem sm.i {X : List Nat} {h h' : am_H} (s : sm X h h') {a : Nat} (ha : a ∉ X) (k : Nat) : am_i h' a k = am_i h a k := by rw [(s.2.2 a ha).1]
theorem sm.sh {X : List Nat} {h h' : am_H} (s : sm X h h') (hs : sh h) : sh h' := ⟨fun a ha => (s.k a).trans (hs.1 a ha), fun q hq => (s.r _ _).trans (hs.2.1 q hq), by rw [s.n]; exact hs.2.2⟩
theorem sm.gx {X : List Nat} {h h' : am_H} (s : sm X h h') {a : Nat} (g : gs h a) : gs h' a := by
  unfold gs at *
  simp only [s.k, s.r]
  exact g
/-- an index within its row -/
theorem ck_arr {h : am_H} {a t n : Nat} {i : Int32} {e : Nat} (hk : am_k h a = (t, n)) (hi : i = nI e) (he : e < n) (hn : n < 2 ^ 31) : am_arr h a t i := by
  unfold am_arr
  rw [hk, hi]
  exact ⟨rfl, vp_in_nI he hn⟩
theorem q_cl {e : Nat} (h : e < 2 ^ 31) : (nI e).toNatClampNeg = e := nI_clamp h
theorem ck_row {h : am_H} {x b t n : Nat} {i : Int32} {e : Nat} (hr : x = b) (hk : am_k h b = (t, n)) (hi : i = nI e) (he : e < n) (hn : n < 2 ^ 31) : am_arr h x t i := by
  subst hr
  exact ck_arr hk hi he hn
theorem q_ge {x : Int32} {i m : Nat} (hx : x = nI m) (hi : i < m) (hm : m < 100000) : ¬ x ≤ nI i := by rw [hx]; exact nI_ge hi (by omega)
theorem q_le {x : Int32} {m : Nat} (hx : x = nI m) (hm : m < 100000) : x ≤ nI m := by rw [hx]; exact nI_le (Nat.le_refl _) (by omega)
/-- a counted loop -/
theorem am_for {xs : am_X} {P : am_P} {d : Nat} {code : Nat → Option (Instr × Nat)} {hdl : Nat → Nat → Option (Nat × Nat)} {Q : am_Q} {pc : Nat} (m : Nat) (I : Nat → List Value → am_H → Prop)
    (step : ∀ i, i < m → ∀ L h, I i L h → (∀ L h, I (i + 1) L h → am_W xs code hdl (am_C xs P d) Q pc L [] h) → am_W xs code hdl (am_C xs P d) Q pc L [] h)
    (last : ∀ L h, I m L h → am_W xs code hdl (am_C xs P d) Q pc L [] h) : ∀ i, i ≤ m → ∀ L h, I i L h → am_W xs code hdl (am_C xs P d) Q pc L [] h := by
  have key : ∀ k i, i + k = m → ∀ L h, I i L h → am_W xs code hdl (am_C xs P d) Q pc L [] h := by
    intro k
    induction k with
    | zero => intro i e L h hI; rw [Nat.add_zero] at e; subst e; exact last L h hI
    | succ k ih => intro i e L h hI; exact step i (by omega) L h hI (fun L h hI => ih (i + 1) (by omega) L h hI)
  exact fun i hi => key (m - i) i (by omega)
/-- a loop with a measure that falls -/
theorem am_while {xs : am_X} {P : am_P} {d : Nat} {code : Nat → Option (Instr × Nat)} {hdl : Nat → Nat → Option (Nat × Nat)} {Q : am_Q} {pc : Nat} (I : Nat → List Value → am_H → Prop)
    (step : ∀ n L h, I n L h → (∀ k L h, k < n → I k L h → am_W xs code hdl (am_C xs P d) Q pc L [] h) → am_W xs code hdl (am_C xs P d) Q pc L [] h) : ∀ n L h, I n L h → am_W xs code hdl (am_C xs P d) Q pc L [] h := by
  intro n
  induction n using Nat.strongRecOn with
  | ind n ih => intro L h hI; exact step n L h hI (fun k L h hk hI => ih k hk L h hI)
/-- edges by a property, as a number -/
def cutm (p : Nat → Bool) : Nat → Nat
  | 0 => 0
  | m + 1 => if p m then cutm p m ||| 2 ^ m else cutm p m
theorem cutm_bit (p : Nat → Bool) (m i : Nat) : (cutm p m).testBit i = (decide (i < m) && p i) := by
  induction m with
  | zero => simp [cutm]
  | succ m ih =>
    unfold cutm
    by_cases e : p m = true
    · rw [if_pos e, Nat.testBit_or, ih, Nat.testBit_two_pow]
      by_cases h : m = i
      · subst h; simp [e]
      · have : (i < m + 1) ↔ (i < m) := by omega
        simp [this, h]
    · rw [if_neg e, ih]
      by_cases h : i = m
      · subst h; simp [e]
      · have : (i < m + 1) ↔ (i < m) := by omega
        simp [this]
theorem cutm_lt (p : Nat → Bool) (m : Nat) : cutm p m < 2 ^ m := q_lt_of_bits fun i hi => by rw [cutm_bit]; simp [Nat.not_lt.mpr hi]
theorem cutm_lt31 (p : Nat → Bool) {m : Nat} (hm : m ≤ 20) : cutm p m < 2 ^ 31 := Nat.lt_of_lt_of_le (cutm_lt p m) (Nat.pow_le_pow_right (by decide) (by omega))
theorem q_or (a b : Nat) : nI a ||| nI b = nI (a ||| b) := fa_or a b
theorem q_orb {a v : Nat} (hv : v < 31) : nI a ||| (nI 1 <<< (nI v &&& 31)) = nI (a ||| 2 ^ v) := by rw [q_shl v hv, fa_or]
/-- sums -/
def sumE (co : Nat → Nat) (p : Nat → Bool) (m : Nat) : Nat := fb_sm (fun e => if p e then co e else 0) m
theorem sumE_s (co : Nat → Nat) (p : Nat → Bool) (m : Nat) : sumE co p (m + 1) = sumE co p m + (if p m then co m else 0) := rfl
theorem sumE_le {co : Nat → Nat} {p : Nat → Bool} {m c : Nat} (h : ∀ e, e < m → co e ≤ c) : sumE co p m ≤ m * c := fb_sm_bound fun k hk => by
  split
  · exact h k hk
  · exact Nat.zero_le _
theorem sumE_cong {co : Nat → Nat} {p q : Nat → Bool} {m : Nat} (h : ∀ e, e < m → p e = q e) : sumE co p m = sumE co q m := fb_sm_cong fun k hk => by rw [h k hk]
theorem bI_inj {a b : Bool} (h : bI a = bI b) : a = b := by cases a <;> cases b <;> first | rfl | exact absurd h (by decide)
theorem q_div {a b : Nat} (ha : a < 2 ^ 31) (hb : b < 2 ^ 31) : nI a / nI b = nI (a / b) := by
  apply Int32.toInt_inj.mp
  have h1 : a / b ≤ a := Nat.div_le_self a b
  rw [Int32.toInt_div, nI_toInt ha, nI_toInt hb, nI_toInt (by omega), ← Int.ofNat_tdiv]
  generalize a / b = z at h1 ⊢
  exact fb_bmod (by omega) (by omega)
theorem q_t1 : ¬ bI true = 0 := by decide
theorem i_cp (h : am_H) (b sp a dp n x w : Nat) : am_i (am_cp h b sp a dp n) x w = if x = a ∧ dp ≤ w ∧ w < dp + n then am_i h b (sp + (w - dp)) else am_i h x w := by
  have e : am_i (am_cp h b sp a dp n) = va_up h.2.1 a (va_cpy (h.2.1 b) (h.2.1 a) sp dp n) := rfl
  rw [e]
  unfold va_up va_cpy
  by_cases hx : x = a
  · subst hx
    rw [if_pos rfl]
    by_cases h2 : dp ≤ w ∧ w < dp + n
    · rw [if_pos h2, if_pos ⟨rfl, h2⟩]; rfl
    · rw [if_neg h2, if_neg fun q => h2 q.2]; rfl
  · rw [if_neg hx, if_neg fun q => hx q.1]; rfl
theorem sm.cp {X : List Nat} {h h1 : am_H} (s : sm X h h1) {b sp a dp n : Nat} (ha : a ∈ X) : sm X h (am_cp h1 b sp a dp n) := ⟨s.1, s.2.1, fun x hx => ⟨Eq.trans (by
  funext w
  rw [i_cp, if_neg fun q => hx (by rw [q.1]; exact ha)]) (s.2.2 x hx).1, (s.2.2 x hx).2⟩⟩
theorem q_mul6 {x y : Int} (hx : -1000000 ≤ x ∧ x ≤ 1000000) (hy : -1000000 ≤ y ∧ y ≤ 1000000) : -1000000000000 ≤ x * y ∧ x * y ≤ 1000000000000 := by
  have h : (x * y).natAbs ≤ 1000000 * 1000000 := by
    rw [Int.natAbs_mul]
    exact Nat.mul_le_mul (by omega) (by omega)
  omega
end
section
/-! GRAPH: reads -/
/-- the graph at a: its numbers and its edges -/
def cg (h : am_H) (a n m T : Nat) (lo hi : Nat → Nat) : Prop := gs h a ∧ (am_i h a 0 = nI n ∧ am_i h a 1 = nI m ∧ am_i h a 2 = nI T) ∧ (∀ e, e < m → am_i h (a + 3) e = nI (lo e) ∧ am_i h (a + 4) e = nI (hi e)) ∧ (n ≤ 9 ∧ m ≤ 20 ∧ T < 2 ^ n) ∧ ∀ e, e < m → lo e < hi e ∧ hi e < n
def cco (h : am_H) (a m : Nat) (co : Nat → Nat) : Prop := ∀ e, e < m → am_i h (a + 6) e = nI (co e) ∧ 1 ≤ co e ∧ co e ≤ 9999
set_option maxHeartbeats 4000000 in
theorem c_hasVertex {xs : am_X} {d : Nat} {h : am_H} {a n : Nat} (hd : 1 ≤ d) (hk : am_k h a = (1, 2)) (h0 : am_i h a 0 = nI n) (v : Int32) {Q : am_Q} (HQ : Q (.inl (some (.int (bI (decide (0 ≤ v ∧ v < nI n)))))) h) : am_C xs am_P0 d m_Gr_hasVertex [.ref a, .int v] h Q := by
  refine am_C_le hd (am_enter (d := 0) ap_Gr_hasVertex rfl ?_) (fun _ _ k => k)
  refine am_go (fun _ => false) (fun K cal Q' hK hC hQ => ?_)
  refine And.intro (fun c1 => ?_) (fun c1 => ?_)
  · refine And.intro (Or.inl rfl) (hQ _ _ ?_)
    have c1 : v < 0 := c1
    rw [show decide (0 ≤ v ∧ v < nI n) = false from decide_eq_false fun z => by have := z.1; rw [fa_le] at this; rw [fa_lt] at c1; omega] at HQ
    exact HQ
  · refine And.intro hk ?_
    refine And.intro (fun c2 => ?_) (fun c2 => ?_)
    · refine And.intro (Or.inl rfl) (hQ _ _ ?_)
      have c2 : am_i h a 0 ≤ v := c2
      rw [h0] at c2
      rw [show decide (0 ≤ v ∧ v < nI n) = false from decide_eq_false fun z => by have := z.2; rw [fa_le] at c2; rw [fa_lt] at this; omega] at HQ
      exact HQ
    · refine And.intro (Or.inr rfl) (hQ _ _ ?_)
      have c2 : ¬ am_i h a 0 ≤ v := c2
      have c1 : ¬ v < 0 := c1
      rw [h0] at c2
      rw [show decide (0 ≤ v ∧ v < nI n) = true from decide_eq_true ⟨by rw [fa_lt] at c1; rw [fa_le]; omega, by rw [fa_le] at c2; rw [fa_lt]; omega⟩] at HQ
      exact HQ
theorem q_range {n k : Nat} (hk : k < n) (hn : n < 1000) : decide (0 ≤ nI k ∧ nI k < nI n) = true := decide_eq_true ⟨nI_pos' (by omega), nI_lt hk (by omega)⟩
theorem q_range_of {n : Nat} {v : Int32} (hn : n < 1000) (h : decide (0 ≤ v ∧ v < nI n) = true) : ∃ k, k < n ∧ v = nI k := by
  have h := of_decide_eq_true h
  obtain ⟨j, hj, e⟩ := nI_of (x := v) (by have := h.1; rw [fa_le] at this; rw [fa_lt]; omega)
  refine ⟨j, ?_, e⟩
  have h2 := h.2
  rw [e] at h2
  exact (nI_ltI hj (by omega)).mp h2
/-- is a terminal: a number within, or not -/
def isT (n T : Nat) (v : Int32) : Bool := decide (0 ≤ v ∧ v < nI n) && T.testBit v.toNatClampNeg
theorem isT_nI {n T k : Nat} (hk : k < n) (hn : n < 1000) : isT n T (nI k) = T.testBit k := by unfold isT; rw [q_range hk hn, q_cl (by omega)]; rfl
set_option maxHeartbeats 4000000 in
theorem c_isTerminal {xs : am_X} {d : Nat} {h : am_H} {a n m T : Nat} {lo hi : Nat → Nat} (hd : 2 ≤ d) (hg : cg h a n m T lo hi) (v : Int32) {Q : am_Q} (HQ : Q (.inl (some (.int (bI (isT n T v))))) h) : am_C xs am_P0 d m_Gr_isTerminal [.ref a, .int v] h Q := by
  obtain ⟨⟨hk, -⟩, ⟨h0, h1, h2⟩, -, ⟨hn, hm, hT⟩, -⟩ := hg
  refine am_C_le hd (am_enter (d := 1) ap_Gr_isTerminal rfl ?_) (fun _ _ k => k)
  refine am_go (fun _ => false) (fun K cal Q' hK hC hQ => ?_)
  refine And.intro hk (hC _ _ _ _ (c_hasVertex (by decide) hk h0 v ?_))
  refine And.intro (fun c1 => ?_) (fun c1 => ?_)
  · refine And.intro (Or.inl rfl) (hQ _ _ ?_)
    have c1 := (bI_0 _).mp c1
    unfold isT at HQ
    rw [c1] at HQ
    exact HQ
  · have c1 : decide (0 ≤ v ∧ v < nI n) = true := by
      cases e : decide (0 ≤ v ∧ v < nI n) with
      | true => rfl
      | false => rw [e] at c1; exact absurd rfl c1
    obtain ⟨k, hk9, rfl⟩ := q_range_of (by omega) c1
    rw [isT_nI hk9 (by omega)] at HQ
    refine And.intro hk ?_
    have e1 : (am_i h a 2 >>> (nI k &&& 31)) &&& 1 = bI (T.testBit k) := by rw [h2]; exact q_bit (Nat.lt_of_lt_of_le hT (Nat.pow_le_pow_right (by decide) (by omega))) (by omega)
    refine And.intro (fun c2 => ?_) (fun c2 => ?_)
    · refine And.intro (Or.inl rfl) (hQ _ _ ?_)
      have c2 : bI (T.testBit k) = 0 := e1.symm.trans c2
      rw [(bI_0 _).mp c2] at HQ
      exact HQ
    · refine And.intro (Or.inr rfl) (hQ _ _ ?_)
      have c2 : ¬ bI (T.testBit k) = 0 := fun z => c2 (e1.trans z)
      cases e : T.testBit k with
      | true => rw [e] at HQ; exact HQ
      | false => rw [e] at c2; exact absurd rfl c2
set_option maxHeartbeats 4000000 in
theorem c_allVertices {xs : am_X} {d : Nat} {h : am_H} {a n : Nat} (hd : 1 ≤ d) (hk : am_k h a = (1, 2)) (h0 : am_i h a 0 = nI n) (hn : n ≤ 9) {Q : am_Q} (HQ : Q (.inl (some (.int (nI (2 ^ n - 1))))) h) : am_C xs am_P0 d m_Gr_allVertices [.ref a] h Q := by
  refine am_C_le hd (am_enter (d := 0) ap_Gr_allVertices rfl ?_) (fun _ _ k => k)
  refine am_go (fun _ => false) (fun K cal Q' hK hC hQ => ?_)
  refine And.intro hk ?_
  refine And.intro trivial (hQ _ _ ?_)
  have e : nI 1 <<< (am_i h a 0 &&& 31) - 1 = nI (2 ^ n - 1) := by
    rw [h0, q_shl n (by omega)]
    have := Nat.two_pow_pos n
    have e2 := nI_pred (2 ^ n - 1)
    rw [show 2 ^ n - 1 + 1 = 2 ^ n by omega] at e2
    exact e2
  rw [← e] at HQ
  exact HQ
/-- the edges with just one end in S; the cost of some edges; what an assignment cuts -/
def crs (lo hi : Nat → Nat) (S : Nat) (e : Nat) : Bool := S.testBit (lo e) != S.testBit (hi e)
def dif (lo hi : Nat → Nat) (lab : Nat → Int32) (e : Nat) : Bool := decide (lab (lo e) ≠ lab (hi e))
set_option maxHeartbeats 4000000 in
theorem c_endsOf {xs : am_X} {d : Nat} {h : am_H} {a n m T : Nat} {lo hi : Nat → Nat} (hd : 1 ≤ d) (hg : cg h a n m T lo hi) {e : Nat} (hlt : e < m) {Q : am_Q} (HQ : Q (.inl (some (.int (nI (2 ^ lo e ||| 2 ^ hi e))))) h) : am_C xs am_P0 d m_Gr_endsOf [.ref a, .int (nI e)] h Q := by
  obtain ⟨⟨hk, ⟨k1, k2, k3, k4, k5, k6⟩, r3, r4, r5, r6, r7, r8⟩, ⟨h0, h1, h2⟩, he, ⟨hn, hm, hT⟩, hw⟩ := hg
  obtain ⟨e1, e2⟩ := he e hlt
  obtain ⟨w1, w2⟩ := hw e hlt
  refine am_C_le hd (am_enter (d := 0) ap_Gr_endsOf rfl ?_) (fun _ _ k => k)
  refine am_go (fun _ => false) (fun K cal Q' hK hC hQ => ?_)
  refine And.intro hk (And.intro (ck_row r5 k3 rfl (by omega) (by omega)) ?_)
  refine And.intro hk (And.intro (ck_row r6 k4 rfl (by omega) (by omega)) ?_)
  refine And.intro trivial (hQ _ _ ?_)
  rw [r5, r6, q_cl (by omega), e1, e2, q_shl _ (by omega), q_shl _ (by omega), fa_or]
  exact HQ
set_option maxHeartbeats 4000000 in
theorem c_lengthOf {xs : am_X} {d : Nat} {h : am_H} {a n m T : Nat} {lo hi co : Nat → Nat} (hd : 1 ≤ d) (hg : cg h a n m T lo hi) (hc : cco h a m co) {e : Nat} (hlt : e < m) {Q : am_Q} (HQ : Q (.inl (some (.int (nI (10000 / co e))))) h) : am_C xs am_P0 d m_Gr_lengthOf [.ref a, .int (nI e)] h Q := by
  obtain ⟨⟨hk, ⟨k1, k2, k3, k4, k5, k6⟩, r3, r4, r5, r6, r7, r8⟩, ⟨h0, h1, h2⟩, he, ⟨hn, hm, hT⟩, hw⟩ := hg
  obtain ⟨e1, w1, w2⟩ := hc e hlt
  refine am_C_le hd (am_enter (d := 0) ap_Gr_lengthOf rfl ?_) (fun _ _ k => k)
  refine am_go (fun _ => false) (fun K cal Q' hK hC hQ => ?_)
  have eA : am_i h (am_r h a 8) (nI e).toNatClampNeg = nI (co e) := by rw [r8, q_cl (by omega), e1]
  refine And.intro hk (And.intro (ck_row r8 k6 rfl (by omega) (by omega)) ?_)
  refine And.intro (fun c => absurd c ?_) (fun c => ?_)
  · show ¬ am_i h (am_r h a 8) (nI e).toNatClampNeg ≤ 0
    rw [eA]
    exact nI_nle (by omega) (by omega)
  · refine And.intro hk (And.intro (ck_row r8 k6 rfl (by omega) (by omega)) (And.intro ?_ ?_))
    · show ¬ am_i h (am_r h a 8) (nI e).toNatClampNeg = 0
      rw [eA]
      exact nI_ne0 (by omega) (by omega)
    · refine And.intro trivial (hQ _ _ ?_)
      rw [eA, q_div (by omega) (by omega)]
      exact HQ
set_option maxHeartbeats 4000000 in
theorem c_borderOf {xs : am_X} {d : Nat} {h : am_H} {a n m T : Nat} {lo hi : Nat → Nat} (hd : 1 ≤ d) (hg : cg h a n m T lo hi) {S : Nat} (hS : S < 2 ^ 31) {Q : am_Q} (HQ : Q (.inl (some (.int (nI (cutm (crs lo hi S) m))))) h) : am_C xs am_P0 d m_Gr_borderOf [.ref a, .int (nI S)] h Q := by
  obtain ⟨⟨hk, ⟨k1, k2, k3, k4, k5, k6⟩, r3, r4, r5, r6, r7, r8⟩, ⟨h0, h1, h2⟩, he, ⟨hn, hm, hT⟩, hw⟩ := hg
  refine am_C_le hd (am_enter (d := 0) ap_Gr_borderOf rfl ?_) (fun _ _ k => k)
  refine am_go (fun p => p == 4) (fun K cal Q' hK hC hQ => hK _ _ _ _ ?_)
  refine am_for m (fun i L h' => h' = h ∧ L = [.ref a, .int (nI S), .int (nI (cutm (crs lo hi S) i)), .int (nI i)]) ?_ ?_ 0 (Nat.zero_le _) _ _ ⟨rfl, rfl⟩
  · rintro i hi9 L h' ⟨rfl, rfl⟩ next
    obtain ⟨e1, e2⟩ := he i hi9
    obtain ⟨w1, w2⟩ := hw i hi9
    refine am_go (fun p => p == 4) (fun K cal Q' hK hC hQ => ?_)
    refine And.intro hk (And.intro (fun c => absurd c (q_ge h1 hi9 (by omega))) (fun _ => ?_))
    refine And.intro hk (And.intro (ck_row r5 k3 rfl (by omega) (by omega)) ?_)
    refine And.intro hk (And.intro (ck_row r6 k4 rfl (by omega) (by omega)) ?_)
    have eA : (nI S >>> (am_i h' (am_r h' a 5) (nI i).toNatClampNeg &&& 31)) &&& 1 = bI (S.testBit (lo i)) := by rw [r5, q_cl (by omega), e1]; exact q_bit hS (by omega)
    have eB : (nI S >>> (am_i h' (am_r h' a 6) (nI i).toNatClampNeg &&& 31)) &&& 1 = bI (S.testBit (hi i)) := by rw [r6, q_cl (by omega), e2]; exact q_bit hS (by omega)
    refine And.intro (fun c => ?_) (fun c => ?_)
    · have c : bI (S.testBit (lo i)) = bI (S.testBit (hi i)) := eA.symm.trans (Eq.trans c eB)
      have e9 : cutm (crs lo hi S) (i + 1) = cutm (crs lo hi S) i := by
        have : crs lo hi S i = false := by unfold crs; rw [bI_inj c]; cases S.testBit (hi i) <;> rfl
        simp [cutm, this]
      exact hK _ _ _ _ (next _ _ ⟨rfl, by rw [e9, ← nI_1 i]; rfl⟩)
    · have c : ¬ bI (S.testBit (lo i)) = bI (S.testBit (hi i)) := fun z => c (Eq.trans eA (z.trans eB.symm))
      have e9 : cutm (crs lo hi S) (i + 1) = cutm (crs lo hi S) i ||| 2 ^ i := by
        have : crs lo hi S i = true := by
          unfold crs
          cases e8 : S.testBit (lo i) <;> cases e7 : S.testBit (hi i) <;> rw [e8, e7] at c <;> first | rfl | exact absurd rfl c
        simp [cutm, this]
      exact hK _ _ _ _ (next _ _ ⟨rfl, by rw [e9, ← nI_1 i, ← q_orb (by omega)]; rfl⟩)
  · rintro L h' ⟨rfl, rfl⟩
    refine am_go (fun p => p == 4) (fun K cal Q' hK hC hQ => ?_)
    exact And.intro hk (And.intro (fun _ => And.intro trivial (hQ _ _ HQ)) (fun c => absurd (q_le h1 (by omega)) c))
set_option maxHeartbeats 4000000 in
theorem c_costOfEdges {xs : am_X} {d : Nat} {h : am_H} {a n m T : Nat} {lo hi co : Nat → Nat} (hd : 1 ≤ d) (hg : cg h a n m T lo hi) (hc : cco h a m co) {E : Nat} (hE : E < 2 ^ 31) {Q : am_Q} (HQ : Q (.inl (some (.int (nI (sumE co E.testBit m))))) h) : am_C xs am_P0 d m_Gr_costOfEdges [.ref a, .int (nI E)] h Q := by
  obtain ⟨⟨hk, ⟨k1, k2, k3, k4, k5, k6⟩, r3, r4, r5, r6, r7, r8⟩, ⟨h0, h1, h2⟩, he, ⟨hn, hm, hT⟩, hw⟩ := hg
  refine am_C_le hd (am_enter (d := 0) ap_Gr_costOfEdges rfl ?_) (fun _ _ k => k)
  refine am_go (fun p => p == 4) (fun K cal Q' hK hC hQ => hK _ _ _ _ ?_)
  refine am_for m (fun i L h' => h' = h ∧ L = [.ref a, .int (nI E), .int (nI (sumE co E.testBit i)), .int (nI i)]) ?_ ?_ 0 (Nat.zero_le _) _ _ ⟨rfl, rfl⟩
  · rintro i hi9 L h' ⟨rfl, rfl⟩ next
    obtain ⟨e1, -⟩ := hc i hi9
    refine am_go (fun p => p == 4) (fun K cal Q' hK hC hQ => ?_)
    refine And.intro hk (And.intro (fun c => absurd c (q_ge h1 hi9 (by omega))) (fun _ => ?_))
    have eA : (nI E >>> (nI i &&& 31)) &&& 1 = bI (E.testBit i) := q_bit hE (by omega)
    refine And.intro (fun c => ?_) (fun c => ?_)
    · have c := (bI_0 _).mp (eA.symm.trans c)
      exact hK _ _ _ _ (next _ _ ⟨rfl, by rw [sumE_s, c, ← nI_1 i]; rfl⟩)
    · have c : E.testBit i = true := by
        cases e : E.testBit i with
        | true => rfl
        | false => rw [e] at eA; exact absurd eA c
      refine And.intro hk (And.intro (ck_row r8 k6 rfl (by omega) (by omega)) ?_)
      have eB : am_i h' (am_r h' a 8) (nI i).toNatClampNeg = nI (co i) := by rw [r8, q_cl (by omega), e1]
      exact hK _ _ _ _ (next _ _ ⟨rfl, by rw [sumE_s, c, if_pos rfl, ← nI_1 i, ← nI_add, ← eB]; rfl⟩)
  · rintro L h' ⟨rfl, rfl⟩
    refine am_go (fun p => p == 4) (fun K cal Q' hK hC hQ => ?_)
    exact And.intro hk (And.intro (fun _ => And.intro trivial (hQ _ _ HQ)) (fun c => absurd (q_le h1 (by omega)) c))
/-- the cut cost of a set -/
def cutc (m : Nat) (lo hi co : Nat → Nat) (S : Nat) : Nat := sumE co (crs lo hi S) m
theorem sumE_cutm (co : Nat → Nat) (p : Nat → Bool) (m : Nat) : sumE co (cutm p m).testBit m = sumE co p m := sumE_cong fun e he => by rw [cutm_bit]; simp [he]
theorem c_costOfSet {xs : am_X} {d : Nat} {h : am_H} {a n m T : Nat} {lo hi co : Nat → Nat} (hd : 2 ≤ d) (hg : cg h a n m T lo hi) (hc : cco h a m co) {S : Nat} (hS : S < 2 ^ 31) {Q : am_Q} (HQ : Q (.inl (some (.int (nI (cutc m lo hi co S))))) h) : am_C xs am_P0 d m_Gr_costOfSet [.ref a, .int (nI S)] h Q := by
  have hm := hg.2.2.2.1.2.1
  refine am_C_le hd (am_enter (d := 1) ap_Gr_costOfSet rfl ?_) (fun _ _ k => k)
  refine am_go (fun _ => false) (fun K cal Q' hK hC hQ => ?_)
  refine And.intro hg.1.1 (hC _ _ _ _ (c_borderOf (by decide) hg hS ?_))
  refine And.intro hg.1.1 (hC _ _ _ _ (c_costOfEdges (by decide) hg hc (cutm_lt31 _ hm) ?_))
  refine And.intro trivial (hQ _ _ ?_)
  rw [sumE_cutm]
  exact HQ
set_option maxHeartbeats 4000000 in
theorem c_presentCut {xs : am_X} {d : Nat} {h : am_H} {a n m T : Nat} {lo hi : Nat → Nat} {lab : Nat → Int32} (hd : 1 ≤ d) (hg : cg h a n m T lo hi) (hl : ∀ v, v < n → am_i h (a + 2) v = lab v) {Q : am_Q} (HQ : Q (.inl (some (.int (nI (cutm (dif lo hi lab) m))))) h) : am_C xs am_P0 d m_Gr_presentCut [.ref a] h Q := by
  obtain ⟨⟨hk, ⟨k1, k2, k3, k4, k5, k6⟩, r3, r4, r5, r6, r7, r8⟩, ⟨h0, h1, h2⟩, he, ⟨hn, hm, hT⟩, hw⟩ := hg
  refine am_C_le hd (am_enter (d := 0) ap_Gr_presentCut rfl ?_) (fun _ _ k => k)
  refine am_go (fun p => p == 4) (fun K cal Q' hK hC hQ => hK _ _ _ _ ?_)
  refine am_for m (fun i L h' => h' = h ∧ L = [.ref a, .int (nI (cutm (dif lo hi lab) i)), .int (nI i)]) ?_ ?_ 0 (Nat.zero_le _) _ _ ⟨rfl, rfl⟩
  · rintro i hi9 L h' ⟨rfl, rfl⟩ next
    obtain ⟨e1, e2⟩ := he i hi9
    obtain ⟨w1, w2⟩ := hw i hi9
    refine am_go (fun p => p == 4) (fun K cal Q' hK hC hQ => ?_)
    refine And.intro hk (And.intro (fun c => absurd c (q_ge h1 hi9 (by omega))) (fun _ => ?_))
    have eA : am_i h' (am_r h' a 5) (nI i).toNatClampNeg = nI (lo i) := by rw [r5, q_cl (by omega), e1]
    have eB : am_i h' (am_r h' a 6) (nI i).toNatClampNeg = nI (hi i) := by rw [r6, q_cl (by omega), e2]
    refine And.intro hk (And.intro hk (And.intro (ck_row r5 k3 rfl (by omega) (by omega)) ?_))
    refine And.intro (ck_row r4 k2 eA (by omega) (by omega)) ?_
    refine And.intro hk (And.intro hk (And.intro (ck_row r6 k4 rfl (by omega) (by omega)) ?_))
    refine And.intro (ck_row r4 k2 eB (by omega) (by omega)) ?_
    have eC : am_i h' (am_r h' a 4) (am_i h' (am_r h' a 5) (nI i).toNatClampNeg).toNatClampNeg = lab (lo i) := by rw [eA, r4, q_cl (by omega), hl _ (by omega)]
    have eD : am_i h' (am_r h' a 4) (am_i h' (am_r h' a 6) (nI i).toNatClampNeg).toNatClampNeg = lab (hi i) := by rw [eB, r4, q_cl (by omega), hl _ (by omega)]
    refine And.intro (fun c => ?_) (fun c => ?_)
    · have c : lab (lo i) = lab (hi i) := eC.symm.trans (Eq.trans c eD)
      have e9 : cutm (dif lo hi lab) (i + 1) = cutm (dif lo hi lab) i := by
        have : dif lo hi lab i = false := decide_eq_false fun z => z c
        simp [cutm, this]
      exact hK _ _ _ _ (next _ _ ⟨rfl, by rw [e9, ← nI_1 i]; rfl⟩)
    · have c : ¬ lab (lo i) = lab (hi i) := fun z => c (Eq.trans eC (z.trans eD.symm))
      have e9 : cutm (dif lo hi lab) (i + 1) = cutm (dif lo hi lab) i ||| 2 ^ i := by
        have : dif lo hi lab i = true := decide_eq_true c
        simp [cutm, this]
      exact hK _ _ _ _ (next _ _ ⟨rfl, by rw [e9, ← nI_1 i, ← q_orb (by omega)]; rfl⟩)
  · rintro L h' ⟨rfl, rfl⟩
    refine am_go (fun p => p == 4) (fun K cal Q' hK hC hQ => ?_)
    exact And.intro hk (And.intro (fun _ => And.intro trivial (hQ _ _ HQ)) (fun c => absurd (q_le h1 (by omega)) c))
theorem c_presentCost {xs : am_X} {d : Nat} {h : am_H} {a n m T : Nat} {lo hi co : Nat → Nat} {lab : Nat → Int32} (hd : 2 ≤ d) (hg : cg h a n m T lo hi) (hc : cco h a m co) (hl : ∀ v, v < n → am_i h (a + 2) v = lab v) {Q : am_Q} (HQ : Q (.inl (some (.int (nI (sumE co (dif lo hi lab) m))))) h) : am_C xs am_P0 d m_Gr_presentCost [.ref a] h Q := by
  have hm := hg.2.2.2.1.2.1
  refine am_C_le hd (am_enter (d := 1) ap_Gr_presentCost rfl ?_) (fun _ _ k => k)
  refine am_go (fun _ => false) (fun K cal Q' hK hC hQ => ?_)
  refine And.intro hg.1.1 (hC _ _ _ _ (c_presentCut (by decide) hg hl ?_))
  refine And.intro hg.1.1 (hC _ _ _ _ (c_costOfEdges (by decide) hg hc (cutm_lt31 _ hm) ?_))
  refine And.intro trivial (hQ _ _ ?_)
  rw [sumE_cutm]
  exact HQ
/-- whether an edge joins a and b -/
def joins (m : Nat) (lo hi : Nat → Nat) (u v : Nat) : Bool := decide (∃ e, e < m ∧ lo e = Nat.min u v ∧ hi e = Nat.max u v)
theorem q_ends {u v x y : Nat} (h1 : x < y) (h2 : u ≠ v) (h : 2 ^ x ||| 2 ^ y = 2 ^ u ||| 2 ^ v) : x = Nat.min u v ∧ y = Nat.max u v := by
  have k : ∀ i, (x = i ∨ y = i) ↔ (u = i ∨ v = i) := by
    intro i
    have := congrArg (fun z => Nat.testBit z i) h
    simp only [Nat.testBit_or, Nat.testBit_two_pow] at this
    constructor
    · intro z
      have : (decide (u = i) || decide (v = i)) = true := by rw [← this]; simpa using z
      simpa using this
    · intro z
      have : (decide (x = i) || decide (y = i)) = true := by rw [this]; simpa using z
      simpa using this
  have a1 := (k x).mp (Or.inl rfl)
  have a2 := (k y).mp (Or.inr rfl)
  have a3 := (k u).mpr (Or.inl rfl)
  have a4 := (k v).mpr (Or.inr rfl)
  show x = min u v ∧ y = max u v
  omega
set_option maxHeartbeats 4000000 in
theorem c_hasEdgeBetween {xs : am_X} {d : Nat} {h : am_H} {a n m T : Nat} {lo hi : Nat → Nat} (hd : 2 ≤ d) (hg : cg h a n m T lo hi) {u v : Nat} (hu : u < 9) (hv : v < 9) (huv : u ≠ v) {Q : am_Q} (HQ : Q (.inl (some (.int (bI (joins m lo hi u v))))) h) : am_C xs am_P0 d m_Gr_hasEdgeBetween [.ref a, .int (nI u), .int (nI v)] h Q := by
  have hg0 := hg
  obtain ⟨⟨hk, ⟨k1, k2, k3, k4, k5, k6⟩, r3, r4, r5, r6, r7, r8⟩, ⟨h0, h1, h2⟩, he, ⟨hn, hm, hT⟩, hw⟩ := hg
  refine am_C_le hd (am_enter (d := 1) ap_Gr_hasEdgeBetween rfl ?_) (fun _ _ k => k)
  refine am_go (fun p => p == 11) (fun K cal Q' hK hC hQ => hK _ _ _ _ ?_)
  have eX : (nI 1 <<< (nI u &&& 31)) ||| (nI 1 <<< (nI v &&& 31)) = nI (2 ^ u ||| 2 ^ v) := by rw [q_shl u (by omega), q_shl v (by omega), fa_or]
  have b2 : ∀ {x y : Nat}, x < 9 → y < 9 → 2 ^ x ||| 2 ^ y < 2 ^ 31 := fun {x y} hx hy => Nat.or_lt_two_pow (Nat.pow_lt_pow_right (by decide) (by omega)) (Nat.pow_lt_pow_right (by decide) (by omega))
  refine am_for m (fun i L h' => h' = h ∧ L = [.ref a, .int (nI u), .int (nI v), .int (nI (2 ^ u ||| 2 ^ v)), .int (nI i)] ∧ ∀ e, e < i → ¬ (lo e = Nat.min u v ∧ hi e = Nat.max u v)) ?_ ?_ 0 (Nat.zero_le _) _ _ ⟨rfl, by rw [← eX]; rfl, fun e he => absurd he (Nat.not_lt_zero _)⟩
  · rintro i hi9 L h' ⟨rfl, rfl, hno⟩ next
    obtain ⟨w1, w2⟩ := hw i hi9
    refine am_go (fun p => p == 11) (fun K cal Q' hK hC hQ => ?_)
    refine And.intro hk (And.intro (fun c => absurd c (q_ge h1 hi9 (by omega))) (fun _ => ?_))
    refine And.intro hk (hC _ _ _ _ (c_endsOf (by decide) hg0 hi9 ?_))
    refine And.intro (fun c => ?_) (fun c => ?_)
    · refine hK _ _ _ _ (next _ _ ⟨rfl, by rw [← nI_1 i]; rfl, fun e he2 => ?_⟩)
      by_cases z : e < i
      · exact hno e z
      · rintro ⟨q1, q2⟩
        refine c ?_
        rw [show e = i by omega] at q1 q2
        rw [q1, q2]
        show nI (2 ^ min u v ||| 2 ^ max u v) = nI (2 ^ u ||| 2 ^ v)
        congr 1
        rcases Nat.le_total u v with z9 | z9
        · rw [Nat.min_eq_left z9, Nat.max_eq_right z9]
        · rw [Nat.min_eq_right z9, Nat.max_eq_left z9, Nat.or_comm]
    · refine And.intro (Or.inr rfl) (hQ _ _ ?_)
      have c : nI (2 ^ lo i ||| 2 ^ hi i) = nI (2 ^ u ||| 2 ^ v) := Classical.not_not.mp c
      have c := (nI_eq (b2 (by omega) (by omega)) (b2 hu hv)).mp c
      rw [show joins m lo hi u v = true from decide_eq_true ⟨i, hi9, q_ends w1 huv c⟩] at HQ
      exact HQ
  · rintro L h' ⟨rfl, rfl, hno⟩
    refine am_go (fun p => p == 11) (fun K cal Q' hK hC hQ => ?_)
    refine And.intro hk (And.intro (fun _ => And.intro (Or.inl rfl) (hQ _ _ ?_)) (fun c => absurd (q_le h1 (by omega)) c))
    rw [show joins m lo hi u v = false from decide_eq_false fun ⟨e, z1, z2⟩ => hno e z1 z2] at HQ
    exact HQ
end
section
/-! CUTS: the class's searches over sets of vertices -/
def pcn (s : Nat) : Nat := fb_ct s.testBit 9
theorem pcn_le (s : Nat) : pcn s ≤ 9 := fb_ct_le _ 9
def ush (x : Int32) (k : Int32) : Int32 := (x.toUInt32 >>> (k.toUInt32 &&& Int32.toUInt32 31)).toInt32
def bc1 (x : Int32) : Int32 := x - (ush x (nI 1) &&& nI 1431655765)
def bc2 (x : Int32) : Int32 := (x &&& nI 858993459) + (ush x (nI 2) &&& nI 858993459)
def bc3 (x : Int32) : Int32 := (x + ush x (nI 4)) &&& nI 252645135
def bc4 (x : Int32) : Int32 := x + ush x (nI 8)
def bc5 (x : Int32) : Int32 := x + ush x (nI 16)
theorem q_bc : ∀ s, s < 512 → bc5 (bc4 (bc3 (bc2 (bc1 (nI s))))) &&& nI 63 = nI (pcn s) := by decide +kernel
set_option maxHeartbeats 4000000 in
theorem c_bitCount {xs : am_X} {d : Nat} {h : am_H} (hd : 1 ≤ d) {s : Nat} (hs : s < 512) {Q : am_Q} (HQ : Q (.inl (some (.int (nI (pcn s))))) h) : am_C xs am_P0 d m_JI_bitCount [.int (nI s)] h Q := by
  refine am_C_le hd (am_enter (d := 0) ap_JI_bitCount rfl ?_) (fun _ _ k => k)
  refine am_go (fun _ => false) (fun K cal Q' hK hC hQ => ?_)
  refine And.intro trivial (hQ _ _ ?_)
  rw [← q_bc s hs] at HQ
  exact HQ
/-- the best set: the first in their order with the least key -/
def isb (key : Nat → Nat) (cand : Nat → Prop) (b : Nat) : Prop := cand b ∧ (∀ S, cand S → key b ≤ key S) ∧ ∀ S, cand S → S < b → key b < key S
theorem isb.one {key : Nat → Nat} {cand : Nat → Prop} {a b : Nat} (ha : isb key cand a) (hb : isb key cand b) : a = b := by
  rcases Nat.lt_trichotomy a b with h | h | h
  · have h1 := hb.2.2 a ha.1 h
    have h2 := ha.2.1 b hb.1
    omega
  · exact h
  · have h1 := ha.2.2 b hb.1 h
    have h2 := hb.2.1 a ha.1
    omega
noncomputable def bst (key : Nat → Nat) (cand : Nat → Prop) : Nat := Classical.epsilon (isb key cand)
theorem bst_eq {key : Nat → Nat} {cand : Nat → Prop} {b : Nat} (h : isb key cand b) : bst key cand = b := isb.one (Classical.epsilon_spec ⟨b, h⟩) h
def skey (c : Nat → Nat) (large : Bool) (S : Nat) : Nat := c S * 16 + (if large then 9 - pcn S else pcn S)
/-- sets of vertices with W, without X -/
def cnd (n W X S : Nat) : Prop := S < 2 ^ n ∧ (∀ i, W.testBit i = true → S.testBit i = true) ∧ ∀ i, X.testBit i = true → S.testBit i = false
noncomputable def bset (n : Nat) (c : Nat → Nat) (large : Bool) (W X : Nat) : Nat := bst (skey c large) (cnd n W X)
theorem q_or_add {a b : Nat} (ha : a < 2 ^ 9) (hb : b < 2 ^ 9) (h : ∀ i, a.testBit i = true → b.testBit i = false) : a ||| b = a + b := by
  have e : BitVec.ofNat 32 a + BitVec.ofNat 32 b = BitVec.ofNat 32 a ||| BitVec.ofNat 32 b := BitVec.add_eq_or_of_and_eq_zero _ _ (by
    apply BitVec.eq_of_getLsbD_eq
    intro i hi
    rw [BitVec.getLsbD_and, BitVec.getLsbD_ofNat, BitVec.getLsbD_ofNat]
    cases e : a.testBit i with
    | false => simp
    | true => simp [h i e])
  have e2 := congrArg BitVec.toNat e
  rw [BitVec.toNat_add, BitVec.toNat_or, BitVec.toNat_ofNat, BitVec.toNat_ofNat, Nat.mod_eq_of_lt (show a < 2 ^ 32 by omega), Nat.mod_eq_of_lt (show b < 2 ^ 32 by omega), Nat.mod_eq_of_lt (show a + b < 2 ^ 32 by omega)] at e2
  exact e2.symm
theorem q_andn_0 {x f : Nat} : andn x f = 0 ↔ ∀ i, x.testBit i = true → f.testBit i = true := by
  constructor
  · intro h i hi
    have := congrArg (fun z => Nat.testBit z i) h
    simp only [andn_bit, hi, Nat.zero_testBit] at this
    simpa using this
  · intro h
    apply Nat.eq_of_testBit_eq
    intro i
    rw [andn_bit, Nat.zero_testBit]
    cases e : x.testBit i with
    | false => rfl
    | true => rw [h i e]; rfl
theorem q_le_of_sub {x f : Nat} (h : ∀ i, x.testBit i = true → f.testBit i = true) : x ≤ f := by
  have e : x &&& f = x := by
    apply Nat.eq_of_testBit_eq
    intro i
    rw [Nat.testBit_and]
    cases e : x.testBit i with
    | false => rfl
    | true => rw [h i e]; rfl
  rw [← e]
  exact Nat.and_le_right
theorem skey_lt {c : Nat → Nat} {large : Bool} {S b : Nat} : skey c large S < skey c large b ↔ c S < c b ∨ (c S = c b ∧ (if large then pcn b < pcn S else pcn S < pcn b)) := by
  unfold skey
  have h1 := pcn_le S
  have h2 := pcn_le b
  cases large <;> simp only [Bool.false_eq_true, if_false, if_true] <;> omega
theorem pow_le9 {n : Nat} (h : n ≤ 9) : 2 ^ n ≤ 2 ^ 9 := Nat.pow_le_pow_right (by decide) h
theorem pow_le31 {n : Nat} (h : n ≤ 30) : 2 ^ n < 2 ^ 31 := Nat.pow_lt_pow_right (by decide) (by omega)
/-- the loop's own result: the best of base and some of the free ones, up to k -/
def cnk (base free k S : Nat) : Prop := ∃ x, x ≤ k ∧ (∀ i, x.testBit i = true → free.testBit i = true) ∧ S = base ||| x
theorem q_subI {a b : Nat} (ha : a < 1000) (hb : b < 1000) : (nI a - nI b).toInt = (a : Int) - b := by
  rw [fb_subI] <;> rw [nI_toInt (by omega), nI_toInt (by omega)] <;> omega
set_option maxHeartbeats 4000000 in
theorem c_cheapestSet {xs : am_X} {d : Nat} {h : am_H} {a n m T : Nat} {lo hi co : Nat → Nat} (hd : 3 ≤ d) (hg : cg h a n m T lo hi) (hc : cco h a m co) {base free X : Nat} (large : Bool) (hb : base < 2 ^ n) (hf : ∀ i, free.testBit i = (decide (i < n) && !base.testBit i && !X.testBit i)) (hX : ∀ i, X.testBit i = true → base.testBit i = false) {Q : am_Q} (HQ : Q (.inl (some (.int (nI (bset n (cutc m lo hi co) large base X))))) h) : am_C xs am_P0 d m_Cu_cheapestSet [.ref a, .int (nI base), .int (nI free), .int (bI large)] h Q := by
  have hg0 := hg
  obtain ⟨⟨hk, -⟩, ⟨h0, h1, h2⟩, he, ⟨hn, hm, hT⟩, hw⟩ := hg
  have hn9 := pow_le9 hn
  have hfl : free < 2 ^ n := q_lt_of_bits fun i hi => by rw [hf]; simp [Nat.not_lt.mpr hi]
  have hbf : ∀ i, base.testBit i = true → free.testBit i = false := fun i z => by rw [hf, z]; simp
  have cle : ∀ S, cutc m lo hi co S ≤ 20 * 9999 := fun S => Nat.le_trans (sumE_le (c := 9999) (fun e he => (hc e he).2.2)) (Nat.mul_le_mul_right _ hm)
  generalize hcc : cutc m lo hi co = c at HQ cle
  have orlt : ∀ x, x ≤ free → base ||| x < 512 := fun x hx => Nat.or_lt_two_pow (n := 9) (by omega) (by omega)
  have addx : ∀ x, (∀ i, x.testBit i = true → free.testBit i = true) → base ||| x = base + x := fun x hx => q_or_add (by omega) (by have := q_le_of_sub hx; omega) (fun i z => by
    cases e : x.testBit i with
    | false => rfl
    | true => have := hx i e; rw [hbf i z] at this; cases this)
  have cS : ∀ x, x ≤ free → ∀ {Q : am_Q}, Q (.inl (some (.int (nI (c (base ||| x)))))) h → am_C xs am_P0 2 m_Gr_costOfSet [.ref a, .int (nI (base ||| x))] h Q := fun x hx Q q => c_costOfSet (by decide) hg0 hc (by have := orlt x hx; omega) (by rw [hcc]; exact q)
  refine am_C_le hd (am_enter (d := 2) ap_Cu_cheapestSet rfl ?_) (fun _ _ k => k)
  refine am_go (fun p => p == 13) (fun K cal Q' hK hC hQ => ?_)
  have hS0 : base ||| 0 = base := Nat.or_zero base
  refine And.intro hk (hC _ _ _ _ (c_costOfSet (by decide) hg0 hc (by omega) ?_))
  rw [hcc]
  refine hK _ _ _ _ ?_
  refine am_for free (fun i L h' => ∃ b v7 v8 v9, h' = h ∧ L = [.ref a, .int (nI base), .int (nI free), .int (bI large), .int (nI b), .int (nI (c b)), .int (nI (i + 1)), v7, v8, v9] ∧ isb (skey c large) (cnk base free i) b) ?_ ?_ 0 (Nat.zero_le _) _ _ ⟨base, am_J, am_J, am_J, rfl, rfl, ?_⟩
  · rintro i hi9 L h' ⟨b, v7, v8, v9, rfl, rfl, hb9⟩ next
    obtain ⟨xb, xb1, xb2, xb3⟩ := hb9.1
    have hb5 : b < 512 := by rw [xb3]; exact orlt xb (by omega)
    refine am_go (fun p => p == 13) (fun K cal Q' hK hC hQ => ?_)
    refine And.intro (fun z => absurd z (nI_nlt (by omega) (by omega))) (fun _ => ?_)
    have eA : nI (i + 1) &&& (nI free ^^^ -nI 1) = nI (andn (i + 1) free) := q_andn _ _
    have keep : ¬ ((∀ j, (i + 1).testBit j = true → free.testBit j = true) ∧ skey c large (base ||| (i + 1)) < skey c large b) → isb (skey c large) (cnk base free (i + 1)) b := by
      intro hno
      refine ⟨⟨xb, by omega, xb2, xb3⟩, ?_, ?_⟩
      · rintro S ⟨x, x1, x2, rfl⟩
        by_cases z : x ≤ i
        · exact hb9.2.1 _ ⟨x, z, x2, rfl⟩
        · have : x = i + 1 := by omega
          subst this
          exact Nat.not_lt.mp fun w => hno ⟨x2, w⟩
      · rintro S ⟨x, x1, x2, rfl⟩ hlt
        by_cases z : x ≤ i
        · exact hb9.2.2 _ ⟨x, z, x2, rfl⟩ hlt
        · rw [addx x x2, xb3, addx xb xb2] at hlt
          omega
    refine And.intro (fun z => ?_) (fun z => ?_)
    · have hsub := q_andn_0.mp ((nI_eq (by have := andn_lt (k := 9) free (show i + 1 < 2 ^ 9 by omega); omega) (by omega)).mp ((eA.symm.trans z).trans nI_0.symm))
      have hS5 := orlt (i + 1) (by omega)
      have eO : nI base ||| nI (i + 1) = nI (base ||| (i + 1)) := fa_or _ _
      refine And.intro hk ?_
      rw [eO]
      refine hC _ _ _ _ (cS (i + 1) (by omega) ?_)
      refine And.intro trivial (hC _ _ _ _ (c_bitCount (by decide) hS5 ?_))
      refine And.intro trivial (hC _ _ _ _ (c_bitCount (by decide) hb5 ?_))
      have hp1 := pcn_le (base ||| (i + 1))
      have hp2 := pcn_le b
      have hc1 := cle (base ||| (i + 1))
      have hc2 := cle b
      have hsb := q_subI (a := pcn (base ||| (i + 1))) (b := pcn b) (by omega) (by omega)
      have upd9 : skey c large (base ||| (i + 1)) < skey c large b → isb (skey c large) (cnk base free (i + 1)) (base ||| (i + 1)) := by
        intro hlt
        refine ⟨⟨i + 1, Nat.le_refl _, hsub, rfl⟩, ?_, ?_⟩
        · rintro S ⟨x, x1, x2, rfl⟩
          by_cases z : x ≤ i
          · have := hb9.2.1 _ ⟨x, z, x2, rfl⟩; omega
          · have : x = i + 1 := by omega
            subst this
            exact Nat.le_refl _
        · rintro S ⟨x, x1, x2, rfl⟩ hl2
          by_cases z : x ≤ i
          · have := hb9.2.1 _ ⟨x, z, x2, rfl⟩; omega
          · have : x = i + 1 := by omega
            subst this
            omega
      have fU : skey c large (base ||| (i + 1)) < skey c large b → am_W xs (am_code at_Cu_cheapestSet) (am_hd ah_Cu_cheapestSet) (am_C xs am_P0 2) Q 13 [.ref a, .int (nI base), .int (nI free), .int (bI large), .int (nI (base ||| (i + 1))), .int (nI (c (base ||| (i + 1)))), .int (nI (i + 2)), .int (nI (base ||| (i + 1))), .int (nI (c (base ||| (i + 1)))), .int (nI (pcn (base ||| (i + 1))) - nI (pcn b))] [] h' := fun hlt => next _ _ ⟨_, _, _, _, rfl, rfl, upd9 hlt⟩
      have fK : ¬ skey c large (base ||| (i + 1)) < skey c large b → am_W xs (am_code at_Cu_cheapestSet) (am_hd ah_Cu_cheapestSet) (am_C xs am_P0 2) Q 13 [.ref a, .int (nI base), .int (nI free), .int (bI large), .int (nI b), .int (nI (c b)), .int (nI (i + 2)), .int (nI (base ||| (i + 1))), .int (nI (c (base ||| (i + 1)))), .int (nI (pcn (base ||| (i + 1))) - nI (pcn b))] [] h' := fun hlt => next _ _ ⟨_, _, _, _, rfl, rfl, keep fun w => hlt w.2⟩
      have eI : am_inc (nI (i + 1)) (Int.ofNat 1) = nI (i + 2) := nI_1 (i + 1)
      rw [← eI] at fU fK
      rw [skey_lt] at fU fK
      refine And.intro (fun w => ?_) (fun w => ?_)
      · exact hK _ _ _ _ (fU (Or.inl ((nI_ltI (by omega) (by omega)).mp w)))
      · have w := fun q => w ((nI_ltI (by omega) (by omega)).mpr q)
        refine And.intro (fun w2 => ?_) (fun w2 => ?_)
        · have w2 := fun q => w2 ((nI_eq (by omega) (by omega)).mpr q)
          exact hK _ _ _ _ (fK (fun q => q.elim w (fun q => w2 q.1)))
        · have w2 := (nI_eq (by omega) (by omega)).mp (Classical.not_not.mp w2)
          refine And.intro (fun w3 => ?_) (fun w3 => ?_)
          · have w3 := (bI_0 _).mp w3
            subst w3
            refine And.intro (fun w4 => ?_) (fun w4 => ?_)
            · have w4 : (0 : Int32) ≤ nI (pcn (base ||| (i + 1))) - nI (pcn b) := w4
              rw [fa_le, hsb] at w4
              have : (0 : Int32).toInt = 0 := rfl
              exact hK _ _ _ _ (fK (fun q => q.elim w (fun q => by simp at q; omega)))
            · have w4 : ¬ (0 : Int32) ≤ nI (pcn (base ||| (i + 1))) - nI (pcn b) := w4
              rw [fa_le, hsb] at w4
              have : (0 : Int32).toInt = 0 := rfl
              exact hK _ _ _ _ (fU (Or.inr ⟨w2, by simp; omega⟩))
          · have w3 : large = true := by cases large; exact absurd rfl w3; rfl
            subst w3
            refine And.intro (fun w4 => ?_) (fun w4 => ?_)
            · have w4 : nI (pcn (base ||| (i + 1))) - nI (pcn b) ≤ 0 := w4
              rw [fa_le, hsb] at w4
              have : (0 : Int32).toInt = 0 := rfl
              exact hK _ _ _ _ (fK (fun q => q.elim w (fun q => by simp at q; omega)))
            · have w4 : ¬ nI (pcn (base ||| (i + 1))) - nI (pcn b) ≤ 0 := w4
              rw [fa_le, hsb] at w4
              have : (0 : Int32).toInt = 0 := rfl
              exact hK _ _ _ _ (fU (Or.inr ⟨w2, by simp; omega⟩))
    · have z : ¬ nI (andn (i + 1) free) = 0 := fun q => z (eA.trans q)
      refine hK _ _ _ _ (next _ _ ⟨b, v7, v8, v9, rfl, by rw [← nI_1 (i + 1)]; rfl, keep fun w => z ?_⟩)
      rw [q_andn_0.mpr w.1]
      rfl
  · rintro L h' ⟨b, v7, v8, v9, rfl, rfl, hb9⟩
    refine am_go (fun p => p == 13) (fun K cal Q' hK hC hQ => ?_)
    refine And.intro (fun _ => And.intro trivial (hQ _ _ ?_)) (fun z => absurd (nI_lt (by omega) (by omega)) z)
    have cc : ∀ S, cnd n base X S ↔ cnk base free free S := by
      intro S
      constructor
      · rintro ⟨s1, s2, s3⟩
        have sub : ∀ i, (andn S base).testBit i = true → free.testBit i = true := by
          intro i z
          rw [andn_bit] at z
          rw [hf]
          cases e : S.testBit i with
          | false => rw [e] at z; cases z
          | true =>
            rw [e] at z
            have hin : i < n := by
              refine Nat.not_le.mp fun q => ?_
              rw [Nat.testBit_lt_two_pow (Nat.lt_of_lt_of_le s1 (Nat.pow_le_pow_right (by decide) q))] at e
              cases e
            have hx : X.testBit i = false := by
              cases ex : X.testBit i with
              | false => rfl
              | true => rw [s3 i ex] at e; cases e
            rw [hx]
            simpa [hin] using z
        refine ⟨andn S base, q_le_of_sub sub, sub, ?_⟩
        apply Nat.eq_of_testBit_eq
        intro i
        rw [Nat.testBit_or, andn_bit]
        cases e : base.testBit i with
        | false => simp
        | true => rw [s2 i e]; rfl
      · rintro ⟨x, x1, x2, rfl⟩
        refine ⟨Nat.or_lt_two_pow hb (by omega), fun i z => by rw [Nat.testBit_or, z]; rfl, fun i z => ?_⟩
        rw [Nat.testBit_or, hX i z]
        cases e : x.testBit i with
        | false => rfl
        | true =>
          have := x2 i e
          rw [hf, z] at this
          simp at this
    have hfin : bset n c large base X = b := bst_eq ⟨(cc b).mpr hb9.1, fun S hS => hb9.2.1 S ((cc S).mp hS), fun S hS => hb9.2.2 S ((cc S).mp hS)⟩
    rw [hfin] at HQ
    exact HQ
  · refine ⟨⟨0, Nat.le_refl _, (fun i z => by rw [Nat.zero_testBit] at z; cases z), hS0.symm⟩, ?_, ?_⟩
    · rintro S ⟨x, x1, x2, rfl⟩
      rw [show x = 0 by omega, hS0]
      exact Nat.le_refl _
    · rintro S ⟨x, x1, x2, rfl⟩ hl
      rw [show x = 0 by omega, hS0] at hl
      omega
end
section
/-! CUTS, 2 -/
theorem nat_min {p : Nat → Prop} (h : ∃ n, p n) : ∃ n, p n ∧ ∀ m, p m → n ≤ m := by
  obtain ⟨n, hn⟩ := h
  induction n using Nat.strongRecOn with
  | ind n ih =>
    by_cases e : ∃ m, m < n ∧ p m
    · obtain ⟨m, h1, h2⟩ := e
      exact ih m h1 h2
    · exact ⟨n, hn, fun m hm => Nat.not_lt.mp fun q => e ⟨m, q, hm⟩⟩
theorem isb_ex {key : Nat → Nat} {cand : Nat → Prop} (h : ∃ S, cand S) : ∃ b, isb key cand b := by
  obtain ⟨k, ⟨S, h1, h2⟩, h3⟩ := nat_min (p := fun k => ∃ S, cand S ∧ key S = k) (by obtain ⟨S, hS⟩ := h; exact ⟨key S, S, hS, rfl⟩)
  obtain ⟨b, ⟨g1, g2⟩, g3⟩ := nat_min (p := fun b => cand b ∧ key b = k) ⟨S, h1, h2⟩
  refine ⟨b, g1, fun S hS => by rw [g2]; exact h3 _ ⟨S, hS, rfl⟩, fun S hS hl => ?_⟩
  have a1 := h3 _ ⟨S, hS, rfl⟩
  refine Nat.lt_of_le_of_ne (by rw [g2]; exact a1) fun e => ?_
  have := g3 S ⟨hS, by rw [← e, g2]⟩
  omega
theorem bst_isb {key : Nat → Nat} {cand : Nat → Prop} (h : ∃ S, cand S) : isb key cand (bst key cand) := Classical.epsilon_spec (isb_ex h)
theorem bset_isb {n : Nat} {c : Nat → Nat} {l : Bool} {W X : Nat} (h : ∃ S, cnd n W X S) : isb (skey c l) (cnd n W X) (bset n c l W X) := bst_isb h
/-- the isolating set of t -/
noncomputable def iso (n : Nat) (c : Nat → Nat) (T t : Nat) : Nat := bset n c false (2 ^ t) (andn T (2 ^ t))
theorem q_tw (t i : Nat) : (2 ^ t).testBit i = decide (t = i) := Nat.testBit_two_pow
theorem iso_ex {n T t : Nat} (ht : t < n) : ∃ S, cnd n (2 ^ t) (andn T (2 ^ t)) S := ⟨2 ^ t, Nat.pow_lt_pow_right (by decide) ht, fun i h => h, fun i h => by
  rw [andn_bit] at h
  cases e : (2 ^ t).testBit i with
  | false => rfl
  | true => rw [e] at h; simp at h⟩
theorem iso_isb {n : Nat} {c : Nat → Nat} {T t : Nat} (ht : t < n) : isb (skey c false) (cnd n (2 ^ t) (andn T (2 ^ t))) (iso n c T t) := bset_isb (iso_ex ht)
theorem iso_lt {n : Nat} {c : Nat → Nat} {T t : Nat} (ht : t < n) : iso n c T t < 2 ^ n := (iso_isb ht).1.1
theorem q_all_bit (n i : Nat) : (2 ^ n - 1).testBit i = decide (i < n) := Nat.testBit_two_pow_sub_one n i
set_option maxHeartbeats 4000000 in
theorem c_setOf {xs : am_X} {d : Nat} {h : am_H} {a n m T : Nat} {lo hi co : Nat → Nat} (hd : 4 ≤ d) (hg : cg h a n m T lo hi) (hc : cco h a m co) {t : Nat} (ht : t < n) (hTt : T.testBit t = true) {Q : am_Q} (HQ : Q (.inl (some (.int (nI (iso n (cutc m lo hi co) T t))))) h) : am_C xs am_P0 d m_Cu_setOf [.ref a, .int (nI t)] h Q := by
  have hg0 := hg
  obtain ⟨⟨hk, -⟩, ⟨h0, h1, h2⟩, he, ⟨hn, hm, hT⟩, hw⟩ := hg
  refine am_C_le hd (am_enter (d := 3) ap_Cu_setOf rfl ?_) (fun _ _ k => k)
  refine am_go (fun _ => false) (fun K cal Q' hK hC hQ => ?_)
  refine And.intro hk (hC _ _ _ _ (c_allVertices (by decide) hk h0 hn ?_))
  refine And.intro hk (And.intro trivial ?_)
  have e1 : nI (2 ^ n - 1) &&& (am_i h a 2 ^^^ -nI 1) = nI (andn (2 ^ n - 1) T) := by rw [h2]; exact q_andn _ _
  have e2 : nI 1 <<< (nI t &&& 31) = nI (2 ^ t) := q_shl t (by omega)
  show cal 2 [.ref a, .int (nI 1 <<< (nI t &&& 31)), .int (nI (2 ^ n - 1) &&& (am_i h a 2 ^^^ -nI 1)), .int (bI false)] h _
  rw [e1, e2]
  refine hC _ _ _ _ (c_cheapestSet (X := andn T (2 ^ t)) (by decide) hg0 hc false (Nat.pow_lt_pow_right (by decide) ht) (fun i => ?_) (fun i z => ?_) ?_)
  · rw [andn_bit, andn_bit, q_all_bit, q_tw]
    by_cases z : t = i
    · subst z; simp [hTt]
    · simp [z]
  · rw [andn_bit] at z
    cases e : (2 ^ t).testBit i with
    | false => rfl
    | true => rw [e] at z; simp at z
  · exact And.intro trivial (hQ _ _ HQ)
/-- its value -/
noncomputable def isv (n m T : Nat) (lo hi co : Nat → Nat) (t : Nat) : Nat := cutc m lo hi co (iso n (cutc m lo hi co) T t)
theorem c_valueOf {xs : am_X} {d : Nat} {h : am_H} {a n m T : Nat} {lo hi co : Nat → Nat} (hd : 5 ≤ d) (hg : cg h a n m T lo hi) (hc : cco h a m co) {t : Nat} (ht : t < n) (hTt : T.testBit t = true) {Q : am_Q} (HQ : Q (.inl (some (.int (nI (isv n m T lo hi co t))))) h) : am_C xs am_P0 d m_Cu_valueOf [.ref a, .int (nI t)] h Q := by
  have hn := hg.2.2.2.1.1
  refine am_C_le hd (am_enter (d := 4) ap_Cu_valueOf rfl ?_) (fun _ _ k => k)
  refine am_go (fun _ => false) (fun K cal Q' hK hC hQ => ?_)
  refine And.intro trivial (hC _ _ _ _ (c_setOf (by decide) hg hc ht hTt ?_))
  refine And.intro hg.1.1 (hC _ _ _ _ (c_costOfSet (by decide) hg hc (Nat.lt_trans (iso_lt ht) (pow_le31 (by omega))) ?_))
  exact And.intro trivial (hQ _ _ HQ)
theorem cutc_le {m : Nat} {lo hi co : Nat → Nat} (hm : m ≤ 20) (hc : ∀ e, e < m → co e ≤ 9999) (S : Nat) : cutc m lo hi co S ≤ 20 * 9999 := Nat.le_trans (sumE_le hc) (Nat.mul_le_mul_right _ hm)
/-- the dearest of the first v: the first greatest -/
def dea (val : Nat → Nat) (T : Nat) : Nat → Option Nat
  | 0 => none
  | v + 1 => if T.testBit v then (match dea val T v with
    | none => some v
    | some b => if val b < val v then some v else some b) else dea val T v
def oI (o : Option Nat) : Int32 := match o with
  | none => -nI 1
  | some v => nI v
def oV (val : Nat → Nat) (o : Option Nat) : Int32 := match o with
  | none => -nI 1
  | some v => nI (val v)
theorem dea_lt {val : Nat → Nat} {T : Nat} : ∀ {v b : Nat}, dea val T v = some b → b < v ∧ T.testBit b = true
  | 0, b, h => by cases h
  | v + 1, b, h => by
    unfold dea at h
    split at h
    · rename_i hT
      split at h
      · cases h; exact ⟨Nat.lt_succ_self _, hT⟩
      · rename_i b0 e
        split at h
        · cases h; exact ⟨Nat.lt_succ_self _, hT⟩
        · cases h; exact ⟨Nat.lt_succ_of_lt (dea_lt e).1, (dea_lt e).2⟩
    · exact ⟨Nat.lt_succ_of_lt (dea_lt h).1, (dea_lt h).2⟩
theorem nI_m1 : (-nI 1 : Int32).toInt = -1 := by decide
theorem oI_eq {v : Nat} {o : Option Nat} (hv : v < 1000) (ho : ∀ b, o = some b → b < 1000) : nI v = oI o ↔ o = some v := by
  cases o with
  | none =>
    constructor
    · intro h
      rw [fa_eq, nI_toInt (by omega)] at h
      have : (oI none).toInt = -1 := nI_m1
      omega
    · intro h; cases h
  | some b =>
    have := ho b rfl
    show nI v = nI b ↔ _
    rw [nI_eq (by omega) (by omega)]
    exact ⟨fun h => by rw [h], fun h => (Option.some.inj h).symm⟩
set_option maxHeartbeats 4000000 in
theorem c_dearestOf {xs : am_X} {d : Nat} {h : am_H} {a n m T : Nat} {lo hi co : Nat → Nat} (hd : 6 ≤ d) (hg : cg h a n m T lo hi) (hc : cco h a m co) {Q : am_Q} (HQ : Q (.inl (some (.int (oI (dea (isv n m T lo hi co) T n))))) h) : am_C xs am_P0 d m_Cu_dearestOf [.ref a] h Q := by
  have hg0 := hg
  obtain ⟨⟨hk, -⟩, ⟨h0, h1, h2⟩, he, ⟨hn, hm, hT⟩, hw⟩ := hg
  have vle : ∀ t, isv n m T lo hi co t ≤ 20 * 9999 := fun t => cutc_le hm (fun e he => (hc e he).2.2) _
  refine am_C_le hd (am_enter (d := 5) ap_Cu_dearestOf rfl ?_) (fun _ _ k => k)
  refine am_go (fun p => p == 6) (fun K cal Q' hK hC hQ => hK _ _ _ _ ?_)
  refine am_for n (fun i L h' => ∃ v4, h' = h ∧ L = [.ref a, .int (oI (dea (isv n m T lo hi co) T i)), .int (oV (isv n m T lo hi co) (dea (isv n m T lo hi co) T i)), .int (nI i), v4]) ?_ ?_ 0 (Nat.zero_le _) _ _ ⟨am_J, rfl, rfl⟩
  · rintro i hi9 L h' ⟨v4, rfl, rfl⟩ next
    refine am_go (fun p => p == 6) (fun K cal Q' hK hC hQ => ?_)
    refine And.intro hk (And.intro (fun z => absurd z (q_ge h0 hi9 (by omega))) (fun _ => ?_))
    refine And.intro hk (hC _ _ _ _ (c_isTerminal (by decide) hg0 _ ?_))
    rw [isT_nI hi9 (by omega)]
    have eI : am_inc (nI i) (Int.ofNat 1) = nI (i + 1) := nI_1 i
    rw [← eI] at next
    cases hTi : T.testBit i with
    | false =>
      refine And.intro (fun z => ?_) (fun z => absurd rfl z)
      have e9 : dea (isv n m T lo hi co) T (i + 1) = dea (isv n m T lo hi co) T i := by
        rw [dea, if_neg (by rw [hTi]; decide)]
      refine And.intro (fun _ => ?_) (fun z => absurd ?_ z)
      · exact hK _ _ _ _ (next _ _ ⟨_, rfl, by rw [e9]; rfl⟩)
      · show -nI 1 ≤ oV _ (dea _ T i)
        rw [fa_le, nI_m1]
        cases dea (isv n m T lo hi co) T i with
        | none => exact Int.le_refl _
        | some b => have := vle b; show _ ≤ (nI _).toInt; rw [nI_toInt (by omega)]; omega
    | true =>
      refine And.intro (fun z => absurd z q_t1) (fun _ => ?_)
      refine And.intro trivial (hC _ _ _ _ (c_valueOf (by decide) hg0 hc hi9 hTi ?_))
      have hv := vle i
      have e9 : dea (isv n m T lo hi co) T (i + 1) = (match dea (isv n m T lo hi co) T i with | none => some i | some b => if isv n m T lo hi co b < isv n m T lo hi co i then some i else some b) := by
        rw [dea, if_pos hTi]
      cases hD : dea (isv n m T lo hi co) T i with
      | none =>
        rw [hD] at e9
        refine And.intro (fun z => absurd z ?_) (fun _ => ?_)
        · show ¬ nI (isv n m T lo hi co i) ≤ -nI 1
          rw [fa_le, nI_m1, nI_toInt (by omega)]
          omega
        · exact hK _ _ _ _ (next _ _ ⟨_, rfl, by rw [e9]; rfl⟩)
      | some b =>
        rw [hD] at e9
        have hvb := vle b
        refine And.intro (fun z => ?_) (fun z => ?_)
        · have z := (nI_leI (by omega) (by omega)).mp z
          exact hK _ _ _ _ (next _ _ ⟨_, rfl, by rw [e9]; simp only; rw [if_neg (by omega)]; rfl⟩)
        · have z := Nat.not_le.mp fun q => z ((nI_leI (by omega) (by omega)).mpr q)
          exact hK _ _ _ _ (next _ _ ⟨_, rfl, by rw [e9]; simp only; rw [if_pos (by omega)]; rfl⟩)
  · rintro L h' ⟨v4, rfl, rfl⟩
    refine am_go (fun p => p == 6) (fun K cal Q' hK hC hQ => ?_)
    exact And.intro hk (And.intro (fun _ => And.intro trivial (hQ _ _ HQ)) (fun z => absurd (q_le h0 (by omega)) z))
/-- the edges of the union cut -/
def uniB (n : Nat) (lo hi : Nat → Nat) (S : Nat → Nat) (T : Nat) (o : Option Nat) (e : Nat) : Bool := decide (∃ v, v < n ∧ T.testBit v = true ∧ o ≠ some v ∧ crs lo hi (S v) e = true)
set_option maxHeartbeats 4000000 in
theorem c_unionOf {xs : am_X} {d : Nat} {h : am_H} {a n m T : Nat} {lo hi co : Nat → Nat} (hd : 7 ≤ d) (hg : cg h a n m T lo hi) (hc : cco h a m co) {Q : am_Q} (HQ : Q (.inl (some (.int (nI (cutm (uniB n lo hi (iso n (cutc m lo hi co) T) T (dea (isv n m T lo hi co) T n)) m))))) h) : am_C xs am_P0 d m_Cu_unionOf [.ref a] h Q := by
  have hg0 := hg
  obtain ⟨⟨hk, -⟩, ⟨h0, h1, h2⟩, he, ⟨hn, hm, hT⟩, hw⟩ := hg
  refine am_C_le hd (am_enter (d := 6) ap_Cu_unionOf rfl ?_) (fun _ _ k => k)
  refine am_go (fun p => p == 9) (fun K cal Q' hK hC hQ => ?_)
  refine And.intro trivial (hC _ _ _ _ (c_dearestOf (by decide) hg0 hc (hK _ _ _ _ ?_)))
  generalize ho : dea (isv n m T lo hi co) T n = o at HQ
  have hob : ∀ b, o = some b → b < 1000 := fun b e => by have := (dea_lt (ho.trans e)).1; omega
  refine am_for n (fun i L h' => ∃ M, h' = h ∧ L = [.ref a, .int (oI o), .int (nI M), .int (nI i)] ∧ ∀ e, M.testBit e = (decide (e < m) && uniB i lo hi (iso n (cutc m lo hi co) T) T o e)) ?_ ?_ 0 (Nat.zero_le _) _ _ ⟨0, rfl, by rw [← ho]; rfl, fun e => ?_⟩
  · rintro i hi9 L h' ⟨M, rfl, rfl, hM⟩ next
    refine am_go (fun p => p == 9) (fun K cal Q' hK hC hQ => ?_)
    refine And.intro hk (And.intro (fun z => absurd z (q_ge h0 hi9 (by omega))) (fun _ => ?_))
    refine And.intro hk (hC _ _ _ _ (c_isTerminal (by decide) hg0 _ ?_))
    rw [isT_nI hi9 (by omega)]
    have eI : am_inc (nI i) (Int.ofNat 1) = nI (i + 1) := nI_1 i
    rw [← eI] at next
    have same : (T.testBit i = false ∨ o = some i) → ∀ e, M.testBit e = (decide (e < m) && uniB (i + 1) lo hi (iso n (cutc m lo hi co) T) T o e) := by
      intro hno e
      rw [hM]
      congr 1
      unfold uniB
      refine decide_eq_decide.mpr ⟨fun ⟨v, a1, a2⟩ => ⟨v, by omega, a2⟩, fun ⟨v, a1, a2, a3, a4⟩ => ⟨v, Nat.lt_of_le_of_ne (by omega) (fun q => ?_), a2, a3, a4⟩⟩
      subst q
      rcases hno with w | w
      · rw [w] at a2; cases a2
      · exact a3 w
    cases hTi : T.testBit i with
    | false =>
      refine And.intro (fun z => ?_) (fun z => absurd rfl z)
      exact hK _ _ _ _ (next _ _ ⟨M, rfl, rfl, same (Or.inl hTi)⟩)
    | true =>
      refine And.intro (fun z => absurd z q_t1) (fun _ => ?_)
      refine And.intro (fun z => ?_) (fun z => ?_)
      · exact hK _ _ _ _ (next _ _ ⟨M, rfl, rfl, same (Or.inr ((oI_eq (by omega) hob).mp z))⟩)
      · have z : o ≠ some i := fun q => z ((oI_eq (by omega) hob).mpr q)
        refine And.intro trivial (hC _ _ _ _ (c_setOf (by decide) hg0 hc hi9 hTi ?_))
        refine And.intro hk (hC _ _ _ _ (c_borderOf (by decide) hg0 (Nat.lt_trans (iso_lt hi9) (pow_le31 (by omega))) ?_))
        refine hK _ _ _ _ (next _ _ ⟨M ||| cutm (crs lo hi (iso n (cutc m lo hi co) T i)) m, rfl, by rw [← fa_or]; rfl, fun e => ?_⟩)
        rw [Nat.testBit_or, hM, cutm_bit, ← Bool.and_or_distrib_left]
        congr 1
        unfold uniB
        cases hcr : crs lo hi (iso n (cutc m lo hi co) T i) e with
        | true => rw [Bool.or_true]; exact (decide_eq_true ⟨i, by omega, hTi, z, hcr⟩).symm
        | false =>
          rw [Bool.or_false]
          refine decide_eq_decide.mpr ⟨fun ⟨v, a1, a2⟩ => ⟨v, by omega, a2⟩, fun ⟨v, a1, a2, a3, a4⟩ => ⟨v, Nat.lt_of_le_of_ne (by omega) (fun q => ?_), a2, a3, a4⟩⟩
          subst q
          rw [hcr] at a4
          cases a4
  · rintro L h' ⟨M, rfl, rfl, hM⟩
    refine am_go (fun p => p == 9) (fun K cal Q' hK hC hQ => ?_)
    refine And.intro hk (And.intro (fun _ => And.intro trivial (hQ _ _ ?_)) (fun z => absurd (q_le h0 (by omega)) z))
    rw [show M = cutm (uniB n lo hi (iso n (cutc m lo hi co) T) T o) m from Nat.eq_of_testBit_eq fun e => by rw [hM, cutm_bit]]
    exact HQ
  · rw [Nat.zero_testBit, show uniB 0 lo hi (iso n (cutc m lo hi co) T) T o e = false from decide_eq_false fun ⟨v, a1, _⟩ => absurd a1 (Nat.not_lt_zero _), Bool.and_false]
end
section
/-! CUTS, 3: what a set of edges leaves joined; labels by sets -/
def est (lo hi : Nat → Nat) (rem R e : Nat) : Nat := if rem.testBit e = false ∧ (R.testBit (lo e) || R.testBit (hi e)) = true then R ||| (2 ^ lo e ||| 2 ^ hi e) else R
def pas (lo hi : Nat → Nat) (rem R : Nat) : Nat → Nat
  | 0 => R
  | e + 1 => est lo hi rem (pas lo hi rem R e) e
def rch (m : Nat) (lo hi : Nat → Nat) (rem s : Nat) : Nat → Nat
  | 0 => 2 ^ s
  | p + 1 => pas lo hi rem (rch m lo hi rem s p) m
theorem est_lt {n m : Nat} {lo hi : Nat → Nat} {rem R e : Nat} (hw : ∀ e, e < m → lo e < hi e ∧ hi e < n) (he : e < m) (hR : R < 2 ^ n) : est lo hi rem R e < 2 ^ n := by
  have := hw e he
  unfold est
  split
  · exact Nat.or_lt_two_pow hR (Nat.or_lt_two_pow (Nat.pow_lt_pow_right (by decide) (by omega)) (Nat.pow_lt_pow_right (by decide) (by omega)))
  · exact hR
theorem pas_lt {n m : Nat} {lo hi : Nat → Nat} {rem R : Nat} (hw : ∀ e, e < m → lo e < hi e ∧ hi e < n) (hR : R < 2 ^ n) : ∀ e, e ≤ m → pas lo hi rem R e < 2 ^ n
  | 0, _ => hR
  | e + 1, he => est_lt hw (by omega) (pas_lt hw hR e (by omega))
theorem rch_lt {n m : Nat} {lo hi : Nat → Nat} {rem s : Nat} (hw : ∀ e, e < m → lo e < hi e ∧ hi e < n) (hs : s < n) : ∀ p, rch m lo hi rem s p < 2 ^ n
  | 0 => Nat.pow_lt_pow_right (by decide) hs
  | p + 1 => pas_lt hw (rch_lt hw hs p) m (Nat.le_refl _)
theorem q_and_nz {a b : Nat} (ha : a < 2 ^ 30) : ¬ nI a &&& nI b = 0 ↔ ∃ i, a.testBit i = true ∧ b.testBit i = true := by
  rw [fa_and]
  have hl : a &&& b < 2 ^ 30 := Nat.lt_of_le_of_lt Nat.and_le_left ha
  rw [show (nI (a &&& b) = 0) = (nI (a &&& b) = nI 0) from rfl, nI_eq (by omega) (by omega)]
  constructor
  · intro h
    refine Classical.byContradiction fun w => h (Nat.eq_of_testBit_eq fun i => ?_)
    rw [Nat.zero_testBit, Nat.testBit_and]
    cases e : a.testBit i with
    | false => rfl
    | true =>
      cases e2 : b.testBit i with
      | false => rfl
      | true => exact absurd ⟨i, e, e2⟩ w
  · rintro ⟨i, h1, h2⟩ h
    have := congrArg (fun z => Nat.testBit z i) h
    simp only [Nat.testBit_and, h1, h2, Nat.zero_testBit] at this
    cases this
theorem q_ends_nz {x y R : Nat} (hx : x < 9) (hy : y < 9) : (¬ nI (2 ^ x ||| 2 ^ y) &&& nI R = 0) ↔ (R.testBit x || R.testBit y) = true := by
  rw [q_and_nz (Nat.or_lt_two_pow (Nat.pow_lt_pow_right (by decide) (by omega)) (Nat.pow_lt_pow_right (by decide) (by omega)))]
  constructor
  · rintro ⟨i, h1, h2⟩
    rw [Nat.testBit_or, q_tw, q_tw] at h1
    simp only [Bool.or_eq_true, decide_eq_true_eq] at h1 ⊢
    rcases h1 with h1 | h1 <;> rw [h1]
    · exact Or.inl h2
    · exact Or.inr h2
  · intro h
    simp only [Bool.or_eq_true] at h
    rcases h with h | h
    · exact ⟨x, by rw [Nat.testBit_or, q_tw, q_tw]; simp, h⟩
    · exact ⟨y, by rw [Nat.testBit_or, q_tw, q_tw]; simp, h⟩
set_option maxHeartbeats 4000000 in
theorem c_reachedFrom {xs : am_X} {d : Nat} {h : am_H} {a n m T : Nat} {lo hi : Nat → Nat} (hd : 2 ≤ d) (hg : cg h a n m T lo hi) {s rem : Nat} (hs : s < n) (hr : rem < 2 ^ 31) {Q : am_Q} (HQ : Q (.inl (some (.int (nI (rch m lo hi rem s (n - 1)))))) h) : am_C xs am_P0 d m_Cu_reachedFrom [.ref a, .int (nI s), .int (nI rem)] h Q := by
  have hg0 := hg
  obtain ⟨⟨hk, -⟩, ⟨h0, h1, h2⟩, he, ⟨hn, hm, hT⟩, hw⟩ := hg
  refine am_C_le hd (am_enter (d := 1) ap_Cu_reachedFrom rfl ?_) (fun _ _ k => k)
  refine am_go (fun p => p == 7) (fun K cal Q' hK hC hQ => hK _ _ _ _ ?_)
  have e0 : nI 1 <<< (nI s &&& 31) = nI (2 ^ s) := q_shl s (by omega)
  refine am_for (n - 1) (fun i L h' => ∃ v5 v6, h' = h ∧ L = [.ref a, .int (nI s), .int (nI rem), .int (nI (rch m lo hi rem s i)), .int (nI (i + 1)), v5, v6]) ?_ ?_ 0 (Nat.zero_le _) _ _ ⟨am_J, am_J, rfl, by rw [show rch m lo hi rem s 0 = 2 ^ s from rfl, ← e0]; rfl⟩
  · rintro i hi9 L h' ⟨v5, v6, rfl, rfl⟩ next
    refine am_go (fun p => p == 7 || p == 19) (fun K cal Q' hK hC hQ => ?_)
    refine And.intro hk (And.intro (fun z => absurd z (q_ge h0 (by omega) (by omega))) (fun _ => hK _ _ _ _ ?_))
    have hlt := fun e (z : e ≤ m) => pas_lt (rem := rem) hw (rch_lt (rem := rem) hw hs i) e z
    refine am_for m (fun e L h9 => ∃ v6, h9 = h' ∧ L = [.ref a, .int (nI s), .int (nI rem), .int (nI (pas lo hi rem (rch m lo hi rem s i) e)), .int (nI (i + 1)), .int (nI e), v6]) ?_ ?_ 0 (Nat.zero_le _) _ _ ⟨v6, rfl, rfl⟩
    · rintro e he9 L h9 ⟨v6, rfl, rfl⟩ next2
      obtain ⟨w1, w2⟩ := hw e he9
      have eI : am_inc (nI e) (Int.ofNat 1) = nI (e + 1) := nI_1 e
      rw [← eI] at next2
      have hR := Nat.lt_of_lt_of_le (hlt e (by omega)) (pow_le9 hn)
      refine am_go (fun p => p == 19) (fun K cal Q' hK hC hQ => ?_)
      refine And.intro hk (And.intro (fun z => absurd z (q_ge h1 he9 (by omega))) (fun _ => ?_))
      refine And.intro hk (hC _ _ _ _ (c_endsOf (by decide) hg0 he9 ?_))
      have eA : (nI rem >>> (nI e &&& 31)) &&& nI 1 = bI (rem.testBit e) := q_bit hr (by omega)
      refine And.intro (fun z => ?_) (fun z => ?_)
      · have z : ¬ bI (rem.testBit e) = 0 := fun q => z (eA.trans q)
        have z : rem.testBit e = true := by
          cases e3 : rem.testBit e with
          | true => rfl
          | false => rw [e3] at z; exact absurd rfl z
        exact hK _ _ _ _ (next2 _ _ ⟨_, rfl, by rw [pas, est, if_neg (fun q => by rw [z] at q; cases q.1)]; rfl⟩)
      · have z : bI (rem.testBit e) = 0 := eA.symm.trans (Classical.not_not.mp z)
        have z := (bI_0 _).mp z
        refine And.intro (fun z2 => ?_) (fun z2 => ?_)
        · refine hK _ _ _ _ (next2 _ _ ⟨_, rfl, by rw [pas, est, if_neg (fun q => (q_ends_nz (by omega) (by omega)).mpr q.2 z2)]; rfl⟩)
        · have z2 := (q_ends_nz (by omega) (by omega)).mp z2
          exact hK _ _ _ _ (next2 _ _ ⟨_, rfl, by rw [pas, est, if_pos ⟨z, z2⟩, ← fa_or (pas lo hi rem (rch m lo hi rem s i) e)]; rfl⟩)
    · rintro L h9 ⟨v6, rfl, rfl⟩
      have eI : am_inc (nI (i + 1)) (Int.ofNat 1) = nI (i + 1 + 1) := nI_1 (i + 1)
      refine am_go (fun p => p == 7) (fun K cal Q' hK hC hQ => ?_)
      exact And.intro hk (And.intro (fun _ => hK _ _ _ _ (next _ _ ⟨_, _, rfl, by rw [← eI]; rfl⟩)) (fun z => absurd (q_le h1 (by omega)) z))
  · rintro L h' ⟨v5, v6, rfl, rfl⟩
    refine am_go (fun p => p == 7) (fun K cal Q' hK hC hQ => ?_)
    exact And.intro hk (And.intro (fun _ => And.intro trivial (hQ _ _ HQ)) (fun z => absurd (by show am_i h' a 0 ≤ nI (n - 1 + 1); rw [h0]; exact nI_le (by omega) (by omega)) z))
/-- no terminal reaches another one -/
def kap (n m T : Nat) (lo hi : Nat → Nat) (rem : Nat) : Bool := decide (∀ v, v < n → T.testBit v = true → rch m lo hi rem v (n - 1) &&& T = 2 ^ v)
set_option maxHeartbeats 4000000 in
theorem c_keepsApart {xs : am_X} {d : Nat} {h : am_H} {a n m T : Nat} {lo hi : Nat → Nat} (hd : 3 ≤ d) (hg : cg h a n m T lo hi) {rem : Nat} (hr : rem < 2 ^ 31) {Q : am_Q} (HQ : Q (.inl (some (.int (bI (kap n m T lo hi rem))))) h) : am_C xs am_P0 d m_Cu_keepsApart [.ref a, .int (nI rem)] h Q := by
  have hg0 := hg
  obtain ⟨⟨hk, -⟩, ⟨h0, h1, h2⟩, he, ⟨hn, hm, hT⟩, hw⟩ := hg
  refine am_C_le hd (am_enter (d := 2) ap_Cu_keepsApart rfl ?_) (fun _ _ k => k)
  refine am_go (fun p => p == 2) (fun K cal Q' hK hC hQ => hK _ _ _ _ ?_)
  refine am_for n (fun i L h' => ∃ v3, h' = h ∧ L = [.ref a, .int (nI rem), .int (nI i), v3] ∧ ∀ v, v < i → T.testBit v = true → rch m lo hi rem v (n - 1) &&& T = 2 ^ v) ?_ ?_ 0 (Nat.zero_le _) _ _ ⟨am_J, rfl, rfl, fun v z => absurd z (Nat.not_lt_zero _)⟩
  · rintro i hi9 L h' ⟨v3, rfl, rfl, hno⟩ next
    have eI : am_inc (nI i) (Int.ofNat 1) = nI (i + 1) := nI_1 i
    rw [← eI] at next
    refine am_go (fun p => p == 2) (fun K cal Q' hK hC hQ => ?_)
    refine And.intro hk (And.intro (fun z => absurd z (q_ge h0 hi9 (by omega))) (fun _ => ?_))
    refine And.intro trivial (hC _ _ _ _ (c_reachedFrom (by decide) hg0 hi9 hr ?_))
    refine And.intro hk ?_
    refine And.intro hk (hC _ _ _ _ (c_isTerminal (by decide) hg0 _ ?_))
    rw [isT_nI hi9 (by omega)]
    have eA : nI (rch m lo hi rem i (n - 1)) &&& am_i h' a 2 = nI (rch m lo hi rem i (n - 1) &&& T) := by rw [h2]; exact fa_and _ _
    have eB : nI 1 <<< (nI i &&& 31) = nI (2 ^ i) := q_shl i (by omega)
    have hl1 : rch m lo hi rem i (n - 1) &&& T < 2 ^ 31 := Nat.lt_of_le_of_lt Nat.and_le_left (Nat.lt_trans (rch_lt hw hi9 _) (pow_le31 (by omega)))
    have hl2 : 2 ^ i < 2 ^ 31 := pow_le31 (by omega)
    cases hTi : T.testBit i with
    | false =>
      refine And.intro (fun _ => ?_) (fun z => absurd rfl z)
      refine hK _ _ _ _ (next _ _ ⟨_, rfl, rfl, fun v z1 z2 => ?_⟩)
      by_cases q : v < i
      · exact hno v q z2
      · rw [show v = i by omega, hTi] at z2; cases z2
    | true =>
      refine And.intro (fun z => absurd z q_t1) (fun _ => ?_)
      refine And.intro (fun z => ?_) (fun z => ?_)
      · have z := (nI_eq hl1 hl2).mp (eA.symm.trans (Eq.trans z eB))
        refine hK _ _ _ _ (next _ _ ⟨_, rfl, rfl, fun v z1 z2 => ?_⟩)
        by_cases q : v < i
        · exact hno v q z2
        · rw [show v = i by omega]; exact z
      · have z : ¬ rch m lo hi rem i (n - 1) &&& T = 2 ^ i := fun q => z (eA.trans ((congrArg nI q).trans eB.symm))
        refine And.intro (Or.inl rfl) (hQ _ _ ?_)
        rw [show kap n m T lo hi rem = false from decide_eq_false fun q => z (q i hi9 hTi)] at HQ
        exact HQ
  · rintro L h' ⟨v3, rfl, rfl, hno⟩
    refine am_go (fun p => p == 2) (fun K cal Q' hK hC hQ => ?_)
    refine And.intro hk (And.intro (fun _ => And.intro (Or.inr rfl) (hQ _ _ ?_)) (fun z => absurd (q_le h0 (by omega)) z))
    rw [show kap n m T lo hi rem = true from decide_eq_true hno] at HQ
    exact HQ
end
section
/-! FILL, LABELS BY SETS -/
theorem cg.mv {X : List Nat} {h h' : am_H} {a n m T : Nat} {lo hi : Nat → Nat} (hg : cg h a n m T lo hi) (s : sm X h h') (h0 : a ∉ X) (h3 : a + 3 ∉ X) (h4 : a + 4 ∉ X) : cg h' a n m T lo hi := by
  obtain ⟨g, ⟨a0, a1, a2⟩, he, hw⟩ := hg
  exact ⟨s.gx g, ⟨(s.i h0 _).trans a0, (s.i h0 _).trans a1, (s.i h0 _).trans a2⟩, fun e z => ⟨(s.i h3 _).trans (he e z).1, (s.i h4 _).trans (he e z).2⟩, hw⟩
theorem cco.mv {X : List Nat} {h h' : am_H} {a m : Nat} {co : Nat → Nat} (hc : cco h a m co) (s : sm X h h') (h6 : a + 6 ∉ X) : cco h' a m co := fun e z => ⟨(s.i h6 _).trans (hc e z).1, (hc e z).2⟩
theorem i_pi_at {h : am_H} {a k : Nat} {v : Int32} : am_i (am_pi h a k v) a k = v := by rw [i_pi_same, if_pos rfl]
theorem i_pi_k {h : am_H} {a k j : Nat} {v : Int32} (hj : j ≠ k) : am_i (am_pi h a k v) a j = am_i h a j := by rw [i_pi_same, if_neg hj]
set_option maxHeartbeats 4000000 in
theorem c_fill {xs : am_X} {d : Nat} {h : am_H} {b N : Nat} (hd : 1 ≤ d) (hk : am_k h b = (2, N)) (hN : N < 1000) (v : Int32) {Q : am_Q} (HQ : ∀ h', sm [b] h h' → (∀ k, k < N → am_i h' b k = v) → Q (.inl none) h') : am_C xs am_P0 d m_JA_fill [.ref b, .int v] h Q := by
  refine am_C_le hd (am_enter (d := 0) ap_JA_fill rfl ?_) (fun _ _ k => k)
  refine am_go (fun p => p == 5) (fun K cal Q' hK hC hQ => ?_)
  refine And.intro ⟨by rw [hk]; exact Nat.le_refl 2, by rw [hk]; exact (by decide : 2 ≤ 6)⟩ ?_
  have e1 : nI (am_k h b).2 = nI N := by rw [hk]
  refine hK _ _ _ _ ?_
  refine am_for N (fun i L h' => L = [.ref b, .int v, .int (nI i), .int (nI N)] ∧ sm [b] h h' ∧ ∀ k, k < i → am_i h' b k = v) ?_ ?_ 0 (Nat.zero_le _) _ _ ⟨by rw [← e1]; rfl, sm.rf, fun k z => absurd z (Nat.not_lt_zero _)⟩
  · rintro i hi9 L h' ⟨rfl, s, hv⟩ next
    have eI : am_inc (nI i) (Int.ofNat 1) = nI (i + 1) := nI_1 i
    rw [← eI] at next
    refine am_go (fun p => p == 5) (fun K cal Q' hK hC hQ => ?_)
    refine And.intro (fun z => absurd z (q_ge rfl hi9 (by omega))) (fun _ => ?_)
    refine And.intro (ck_arr ((s.k b).trans hk) rfl hi9 (by omega)) ?_
    refine hK _ _ _ _ (next _ _ ⟨rfl, s.pi (List.mem_singleton.mpr rfl), fun k z => ?_⟩)
    rw [q_cl (by omega), i_pi_same]
    by_cases q : k = i
    · rw [if_pos q]
    · rw [if_neg q]; exact hv k (by omega)
  · rintro L h' ⟨rfl, s, hv⟩
    refine am_go (fun p => p == 5) (fun K cal Q' hK hC hQ => ?_)
    exact And.intro (fun _ => And.intro trivial (hQ _ _ (HQ _ s hv))) (fun z => absurd (q_le rfl (by omega)) z)
set_option maxHeartbeats 4000000 in
theorem c_labelSet {xs : am_X} {d : Nat} {h : am_H} {a n m T : Nat} {lo hi : Nat → Nat} (hd : 1 ≤ d) (hg : cg h a n m T lo hi) {S : Nat} (hS : S < 2 ^ 31) (t : Int32) {Q : am_Q} (HQ : ∀ h', sm [a + 2] h h' → (∀ k, k < n → am_i h' (a + 2) k = if S.testBit k then t else am_i h (a + 2) k) → Q (.inl none) h') : am_C xs am_P0 d m_Cu_labelSet [.ref a, .int (nI S), .int t] h Q := by
  have hg0 := hg
  obtain ⟨⟨hk, ⟨k1, k2, k3, k4, k5, k6⟩, r3, r4, r5, r6, r7, r8⟩, ⟨h0, h1, h2⟩, he, ⟨hn, hm, hT⟩, hw⟩ := hg
  refine am_C_le hd (am_enter (d := 0) ap_Cu_labelSet rfl ?_) (fun _ _ k => k)
  refine am_go (fun p => p == 2) (fun K cal Q' hK hC hQ => hK _ _ _ _ ?_)
  have na : a ∉ [a + 2] := fun z => by have := List.mem_singleton.mp z; omega
  refine am_for n (fun i L h' => L = [.ref a, .int (nI S), .int t, .int (nI i)] ∧ sm [a + 2] h h' ∧ ∀ k, k < n → am_i h' (a + 2) k = if k < i ∧ S.testBit k = true then t else am_i h (a + 2) k) ?_ ?_ 0 (Nat.zero_le _) _ _ ⟨rfl, sm.rf, fun k z => by rw [if_neg (fun q => absurd q.1 (Nat.not_lt_zero _))]⟩
  · rintro i hi9 L h' ⟨rfl, s, hv⟩ next
    have eI : am_inc (nI i) (Int.ofNat 1) = nI (i + 1) := nI_1 i
    rw [← eI] at next
    refine am_go (fun p => p == 2) (fun K cal Q' hK hC hQ => ?_)
    refine And.intro ((s.k a).trans hk) (And.intro (fun z => absurd z (q_ge ((s.i na 0).trans h0) hi9 (by omega))) (fun _ => ?_))
    have eA : (nI S >>> (nI i &&& 31)) &&& nI 1 = bI (S.testBit i) := q_bit hS (by omega)
    refine And.intro (fun z => ?_) (fun z => ?_)
    · have z := (bI_0 _).mp (eA.symm.trans z)
      refine hK _ _ _ _ (next _ _ ⟨rfl, s, fun k q => ?_⟩)
      rw [hv k q]
      by_cases w : k = i
      · subst w; rw [z, if_neg (by simp), if_neg (by simp)]
      · have : (k < i + 1) ↔ (k < i) := by omega
        simp only [this]
    · have z : S.testBit i = true := by
        cases e : S.testBit i with
        | true => rfl
        | false => rw [e] at eA; exact absurd eA z
      refine And.intro ((s.k a).trans hk) (And.intro (ck_row ((s.r a 4).trans r4) ((s.k _).trans k2) rfl (by omega) (by omega)) ?_)
      refine hK _ _ _ _ (next _ _ ⟨rfl, ?_, fun k q => ?_⟩)
      · rw [show am_r h' a (132 % 64) = a + 2 from (s.r a 4).trans r4]
        exact s.pi (List.mem_singleton.mpr rfl)
      · rw [show am_r h' a (132 % 64) = a + 2 from (s.r a 4).trans r4, q_cl (by omega), i_pi_same]
        by_cases w : k = i
        · rw [if_pos w, if_pos ⟨by omega, by rw [w]; exact z⟩]
        · rw [if_neg w, hv k q]
          have : (k < i + 1) ↔ (k < i) := by omega
          simp only [this]
  · rintro L h' ⟨rfl, s, hv⟩
    refine am_go (fun p => p == 2) (fun K cal Q' hK hC hQ => ?_)
    refine And.intro ((s.k a).trans hk) (And.intro (fun _ => And.intro trivial (hQ _ _ (HQ _ s fun k q => ?_))) (fun z => absurd (q_le ((s.i na 0).trans h0) (by omega)) z))
    rw [hv k q]
    simp only [q, true_and]
/-- labels by the isolating sets of the terminals other than o, the later over the earlier -/
def lun (T : Nat) (S : Nat → Nat) (o : Option Nat) : Nat → Nat → Int32
  | 0, _ => oI o
  | t + 1, v => if T.testBit t = true ∧ o ≠ some t ∧ (S t).testBit v = true then nI t else lun T S o t v
set_option maxHeartbeats 4000000 in
theorem c_labelByUnion {xs : am_X} {d : Nat} {h : am_H} {a n m T : Nat} {lo hi co : Nat → Nat} (hd : 7 ≤ d) (hg : cg h a n m T lo hi) (hc : cco h a m co) {Q : am_Q} (HQ : ∀ h', sm [a + 2] h h' → (∀ k, k < n → am_i h' (a + 2) k = lun T (iso n (cutc m lo hi co) T) (dea (isv n m T lo hi co) T n) n k) → Q (.inl none) h') : am_C xs am_P0 d m_Cu_labelByUnion [.ref a] h Q := by
  have hg0 := hg
  obtain ⟨⟨hk, ⟨k1, k2, k3, k4, k5, k6⟩, r3, r4, r5, r6, r7, r8⟩, ⟨h0, h1, h2⟩, he, ⟨hn, hm, hT⟩, hw⟩ := hg
  have na : ∀ j, j ≠ 2 → a + j ∉ [a + 2] := fun j hj z => by have := List.mem_singleton.mp z; omega
  refine am_C_le hd (am_enter (d := 6) ap_Cu_labelByUnion rfl ?_) (fun _ _ k => k)
  refine am_go (fun p => p == 15) (fun K cal Q' hK hC hQ => ?_)
  refine And.intro trivial (hC _ _ _ _ (c_dearestOf (by decide) hg0 hc ?_))
  generalize ho : dea (isv n m T lo hi co) T n = o at HQ
  have hob : ∀ b, o = some b → b < 1000 := fun b e => by have := (dea_lt (ho.trans e)).1; omega
  refine And.intro hk ?_
  refine And.intro trivial ?_
  show cal 217 [.ref (am_r h a 4), .int (oI o)] h _
  rw [r4]
  refine hC _ _ _ _ (c_fill (by decide) k2 (by omega) _ (fun h1' s1 hv1 => hK _ _ _ _ ?_))
  refine am_for n (fun i L h' => L = [.ref a, .int (oI o), .int (nI i)] ∧ sm [a + 2] h h' ∧ ∀ k, k < n → am_i h' (a + 2) k = lun T (iso n (cutc m lo hi co) T) o i k) ?_ ?_ 0 (Nat.zero_le _) _ _ ⟨rfl, s1, fun k z => hv1 k (by omega)⟩
  · rintro i hi9 L h' ⟨rfl, s, hv⟩ next
    have eI : am_inc (nI i) (Int.ofNat 1) = nI (i + 1) := nI_1 i
    rw [← eI] at next
    have hg' := hg0.mv s (na 0 (by decide)) (na 3 (by decide)) (na 4 (by decide))
    have hc' := hc.mv s (na 6 (by decide))
    refine am_go (fun p => p == 15) (fun K cal Q' hK hC hQ => ?_)
    refine And.intro ((s.k a).trans hk) (And.intro (fun z => absurd z (q_ge ((s.i (na 0 (by decide)) 0).trans h0) hi9 (by omega))) (fun _ => ?_))
    refine And.intro ((s.k a).trans hk) (hC _ _ _ _ (c_isTerminal (by decide) hg' _ ?_))
    rw [isT_nI hi9 (by omega)]
    cases hTi : T.testBit i with
    | false =>
      refine And.intro (fun z => ?_) (fun z => absurd rfl z)
      refine hK _ _ _ _ (next _ _ ⟨rfl, s, fun k q => ?_⟩)
      rw [hv k q, lun, if_neg (fun w => by rw [hTi] at w; cases w.1)]
    | true =>
      refine And.intro (fun z => absurd z q_t1) (fun _ => ?_)
      refine And.intro (fun z => ?_) (fun z => ?_)
      · have z := (oI_eq (by omega) hob).mp z
        refine hK _ _ _ _ (next _ _ ⟨rfl, s, fun k q => ?_⟩)
        rw [hv k q, lun, if_neg (fun w => w.2.1 z)]
      · have z : o ≠ some i := fun q => z ((oI_eq (by omega) hob).mpr q)
        refine And.intro trivial (hC _ _ _ _ (c_setOf (by decide) hg' hc' hi9 hTi ?_))
        refine And.intro trivial (hC _ _ _ _ (c_labelSet (by decide) hg' (Nat.lt_trans (iso_lt hi9) (pow_le31 (by omega))) _ (fun h2' s2 hv2 => ?_)))
        refine hK _ _ _ _ (next _ _ ⟨rfl, s.tr s2, fun k q => ?_⟩)
        rw [hv2 k q, lun, hv k q]
        simp only [hTi, z, true_and, ne_eq, not_false_eq_true]
  · rintro L h' ⟨rfl, s, hv⟩
    refine am_go (fun p => p == 15) (fun K cal Q' hK hC hQ => ?_)
    exact And.intro ((s.k a).trans hk) (And.intro (fun _ => And.intro trivial (hQ _ _ (HQ _ s hv))) (fun z => absurd (q_le ((s.i (na 0 (by decide)) 0).trans h0) (by omega)) z))
end
section
/-! ROUNDS -/
def orF (f : Nat → Nat) : Nat → Nat
  | 0 => 0
  | k + 1 => orF f k ||| f k
theorem orF_bit (f : Nat → Nat) (k i : Nat) : (orF f k).testBit i = true ↔ ∃ o, o < k ∧ (f o).testBit i = true := by
  induction k with
  | zero => simp [orF]
  | succ k ih =>
    unfold orF
    rw [Nat.testBit_or, Bool.or_eq_true, ih]
    constructor
    · rintro (⟨o, h1, h2⟩ | h)
      · exact ⟨o, by omega, h2⟩
      · exact ⟨k, by omega, h⟩
    · rintro ⟨o, h1, h2⟩
      by_cases e : o = k
      · subst e; exact Or.inr h2
      · exact Or.inl ⟨o, by omega, h2⟩
theorem orF_lt {f : Nat → Nat} {b : Nat} (h : ∀ o, f o < 2 ^ b) : ∀ k, orF f k < 2 ^ b
  | 0 => Nat.two_pow_pos b
  | k + 1 => Nat.or_lt_two_pow (orF_lt h k) (h k)
/-- the groups of the others -/
def oth (n T : Nat) (G : Nat → Nat) (t : Nat) : Nat := orF (fun o => if o ≠ t ∧ T.testBit o = true then G o else 0) n
theorem oth_bit (n T : Nat) (G : Nat → Nat) (t i : Nat) : (oth n T G t).testBit i = true ↔ ∃ o, o < n ∧ o ≠ t ∧ T.testBit o = true ∧ (G o).testBit i = true := by
  unfold oth
  rw [orF_bit]
  constructor
  · rintro ⟨o, h1, h2⟩
    by_cases e : o ≠ t ∧ T.testBit o = true
    · rw [if_pos e] at h2; exact ⟨o, h1, e.1, e.2, h2⟩
    · rw [if_neg e, Nat.zero_testBit] at h2; cases h2
  · rintro ⟨o, h1, h2, h3, h4⟩
    exact ⟨o, h1, by rw [if_pos ⟨h2, h3⟩]; exact h4⟩
noncomputable def gst (n T : Nat) (c : Nat → Nat) (t : Nat) (G : Nat → Nat) : Nat → Nat := fun v => if v = t ∧ T.testBit t = true then bset n c true (G t) (oth n T G t) else G v
noncomputable def gro (n T : Nat) (c : Nat → Nat) (G : Nat → Nat) : Nat → Nat → Nat
  | 0 => G
  | t + 1 => gst n T c t (gro n T c G t)
noncomputable def grs (n T : Nat) (c : Nat → Nat) : Nat → Nat → Nat
  | 0 => fun v => if T.testBit v then 2 ^ v else 0
  | k + 1 => gro n T c (grs n T c k) n
def GI (n T : Nat) (G : Nat → Nat) : Prop := (∀ t, T.testBit t = false → G t = 0) ∧ (∀ t, G t < 2 ^ n) ∧ ∀ t u i, t ≠ u → (G t).testBit i = true → (G u).testBit i = false
theorem q_T_lt {n T t : Nat} (hT : T < 2 ^ n) (h : T.testBit t = true) : t < n := by
  refine Nat.not_le.mp fun q => ?_
  rw [Nat.testBit_lt_two_pow (Nat.lt_of_lt_of_le hT (Nat.pow_le_pow_right (by decide) q))] at h
  cases h
theorem GI.cn {n T : Nat} {G : Nat → Nat} (g : GI n T G) (t : Nat) : cnd n (G t) (oth n T G t) (G t) := ⟨g.2.1 t, fun _ h => h, fun i h => by
  obtain ⟨o, h1, h2, h3, h4⟩ := (oth_bit n T G t i).mp h
  exact g.2.2 o t i h2 h4⟩
theorem GI.new {n T : Nat} {c : Nat → Nat} {G : Nat → Nat} (g : GI n T G) (t : Nat) : cnd n (G t) (oth n T G t) (bset n c true (G t) (oth n T G t)) := (bset_isb ⟨_, g.cn t⟩).1
theorem gst_GI {n T : Nat} {c : Nat → Nat} {G : Nat → Nat} (hT : T < 2 ^ n) (g : GI n T G) (t : Nat) : GI n T (gst n T c t G) ∧ ∀ u i, (G u).testBit i = true → (gst n T c t G u).testBit i = true := by
  obtain ⟨s1, s2, s3⟩ := g.new (c := c) t
  have same : ∀ v, ¬ (v = t ∧ T.testBit t = true) → gst n T c t G v = G v := fun v h => if_neg h
  have new : T.testBit t = true → gst n T c t G t = bset n c true (G t) (oth n T G t) := fun h => if_pos ⟨rfl, h⟩
  have hno : ∀ u i, u ≠ t → T.testBit t = true → (gst n T c t G t).testBit i = true → (G u).testBit i = false := by
    intro u i hu hTt hi
    rw [new hTt] at hi
    cases e : (G u).testBit i with
    | false => rfl
    | true =>
      have hTu : T.testBit u = true := by
        cases e2 : T.testBit u with
        | true => rfl
        | false => rw [g.1 u e2, Nat.zero_testBit] at e; cases e
      rw [s3 i ((oth_bit n T G t i).mpr ⟨u, q_T_lt hT hTu, hu, hTu, e⟩)] at hi
      cases hi
  refine ⟨⟨fun v hv => ?_, fun v => ?_, fun v u i hvu hi => ?_⟩, fun u i hi => ?_⟩
  · rw [same v fun q => by rw [q.1, q.2] at hv; cases hv]; exact g.1 v hv
  · by_cases e : v = t ∧ T.testBit t = true
    · rw [e.1, new e.2]; exact s1
    · rw [same v e]; exact g.2.1 v
  · by_cases e : v = t ∧ T.testBit t = true
    · rw [e.1] at hi hvu
      rw [same u fun q => hvu q.1.symm]
      exact hno u i (Ne.symm hvu) e.2 hi
    · rw [same v e] at hi
      by_cases e2 : u = t ∧ T.testBit t = true
      · cases e3 : (gst n T c t G u).testBit i with
        | false => rfl
        | true =>
          rw [e2.1] at e3 hvu
          rw [hno v i hvu e2.2 e3] at hi
          cases hi
      · rw [same u e2]; exact g.2.2 v u i hvu hi
  · by_cases e : u = t ∧ T.testBit t = true
    · rw [e.1, new e.2]; rw [e.1] at hi; exact s2 i hi
    · rw [same u e]; exact hi
theorem gro_GI {n T : Nat} {c : Nat → Nat} {G : Nat → Nat} (hT : T < 2 ^ n) (g : GI n T G) : ∀ t, GI n T (gro n T c G t) ∧ ∀ u i, (G u).testBit i = true → (gro n T c G t u).testBit i = true
  | 0 => ⟨g, fun _ _ h => h⟩
  | t + 1 => by
    obtain ⟨a1, a2⟩ := gro_GI hT g t
    obtain ⟨b1, b2⟩ := gst_GI (c := c) hT a1 t
    exact ⟨b1, fun u i h => b2 u i (a2 u i h)⟩
theorem grs_GI {n T : Nat} {c : Nat → Nat} (hT : T < 2 ^ n) : ∀ k, GI n T (grs n T c k)
  | 0 => by
    refine ⟨fun t h => if_neg (by rw [h]; decide), fun t => ?_, fun t u i h1 h2 => ?_⟩
    · show (if T.testBit t then 2 ^ t else 0) < _
      split
      · rename_i h; exact Nat.pow_lt_pow_right (by decide) (q_T_lt hT h)
      · exact Nat.two_pow_pos n
    · have h2 : (if T.testBit t then 2 ^ t else 0).testBit i = true := h2
      show (if T.testBit u then 2 ^ u else 0).testBit i = false
      split at h2
      · rw [q_tw] at h2
        have h2 := of_decide_eq_true h2
        subst h2
        split
        · rw [q_tw]; exact decide_eq_false (Ne.symm h1)
        · exact Nat.zero_testBit _
      · rw [Nat.zero_testBit] at h2; cases h2
  | k + 1 => (gro_GI hT (grs_GI hT k) n).1
theorem grs_up {n T : Nat} {c : Nat → Nat} (hT : T < 2 ^ n) (k u i : Nat) (h : (grs n T c k u).testBit i = true) : (grs n T c (k + 1) u).testBit i = true := (gro_GI hT (grs_GI hT k) n).2 u i h
def chg (n T : Nat) (c : Nat → Nat) (k : Nat) : Prop := ∃ t, t < n ∧ grs n T c (k + 1) t ≠ grs n T c k t
theorem ct_lt {p q : Nat → Bool} : ∀ {n : Nat}, (∀ k, k < n → p k = true → q k = true) → (∃ k, k < n ∧ p k = false ∧ q k = true) → fb_ct p n < fb_ct q n
  | 0, _, ⟨k, h, _⟩ => absurd h (Nat.not_lt_zero k)
  | n + 1, h, ⟨k, hk, h1, h2⟩ => by
    rw [fb_ct_succ, fb_ct_succ]
    have hs : ∀ k, k < n → p k = true → q k = true := fun k z => h k (by omega)
    by_cases e : k = n
    · subst e
      rw [h1, h2]
      have := fb_ct_sub hs
      simp only [Bool.false_eq_true, if_false, if_true]
      omega
    · have := ct_lt hs ⟨k, by omega, h1, h2⟩
      have h3 : (if p n then 1 else 0) ≤ (if q n then 1 else 0) := by
        cases e2 : p n with
        | false => simp
        | true => rw [h n (by omega) e2]; exact Nat.le_refl _
      omega
theorem chg_lt {n T : Nat} {c : Nat → Nat} (hn : n ≤ 9) (hT : T < 2 ^ n) {k : Nat} (h : chg n T c k) : pcn (orF (grs n T c k) 9) < pcn (orF (grs n T c (k + 1)) 9) := by
  obtain ⟨t, ht, hne⟩ := h
  obtain ⟨g1, g2, g3⟩ := grs_GI (c := c) hT (k + 1)
  have hx : ∃ i, (grs n T c k t).testBit i = false ∧ (grs n T c (k + 1) t).testBit i = true := by
    refine Classical.byContradiction fun w => hne (Nat.eq_of_testBit_eq fun i => ?_)
    cases e : (grs n T c k t).testBit i with
    | true => exact grs_up hT k t i e
    | false =>
      cases e2 : (grs n T c (k + 1) t).testBit i with
      | false => rfl
      | true => exact absurd ⟨i, e, e2⟩ w
  obtain ⟨i, i1, i2⟩ := hx
  have hin : i < n := by
    refine Nat.not_le.mp fun q => ?_
    rw [Nat.testBit_lt_two_pow (Nat.lt_of_lt_of_le (g2 t) (Nat.pow_le_pow_right (by decide) q))] at i2
    cases i2
  refine ct_lt (fun j hj h => ?_) ⟨i, by omega, ?_, (orF_bit _ _ _).mpr ⟨t, by omega, i2⟩⟩
  · obtain ⟨o, o1, o2⟩ := (orF_bit _ _ _).mp h
    exact (orF_bit _ _ _).mpr ⟨o, o1, grs_up hT k o j o2⟩
  · cases e : (orF (grs n T c k) 9).testBit i with
    | false => rfl
    | true =>
      obtain ⟨o, o1, o2⟩ := (orF_bit _ _ _).mp e
      by_cases z : o = t
      · rw [z, i1] at o2; cases o2
      · rw [g3 o t i z (grs_up hT k o i o2)] at i2; cases i2
theorem chg_all {n T : Nat} {c : Nat → Nat} (hn : n ≤ 9) (hT : T < 2 ^ n) (h0 : T ≠ 0) : ∀ k, (∀ j, j < k → chg n T c j) → k + 1 ≤ pcn (orF (grs n T c k) 9)
  | 0, _ => by
    have hx : ∃ t, T.testBit t = true := by
      refine Classical.byContradiction fun w => h0 (Nat.eq_of_testBit_eq fun i => ?_)
      cases e : T.testBit i with
      | false => exact (Nat.zero_testBit _).symm
      | true => exact absurd ⟨i, e⟩ w
    obtain ⟨t, ht⟩ := hx
    have := q_T_lt hT ht
    refine fb_ct_pos.mpr ⟨t, by omega, (orF_bit _ _ _).mpr ⟨t, by omega, ?_⟩⟩
    show (if T.testBit t then 2 ^ t else 0).testBit t = true
    rw [if_pos ht, q_tw]
    simp
  | k + 1, h => by
    have a := chg_all hn hT h0 k (fun j z => h j (by omega))
    have b := chg_lt hn hT (h k (by omega))
    omega
theorem chg_no {n T : Nat} {c : Nat → Nat} (hn : n ≤ 9) (hT : T < 2 ^ n) (h0 : T ≠ 0) : ¬ ∀ j, j < 9 → chg n T c j := fun h => by
  have a := chg_all hn hT h0 9 h
  have b := pcn_le (orF (grs n T c 9) 9)
  omega
/-- how many rounds -/
def isR (n T : Nat) (c : Nat → Nat) (R : Nat) : Prop := (T = 0 ∧ R = 0) ∨ (T ≠ 0 ∧ 1 ≤ R ∧ R ≤ 9 ∧ (∀ k, k + 1 < R → chg n T c k) ∧ ¬ chg n T c (R - 1))
theorem isR.one {n T : Nat} {c : Nat → Nat} {a b : Nat} (ha : isR n T c a) (hb : isR n T c b) : a = b := by
  rcases ha with ⟨a1, a2⟩ | ⟨a1, a2, a3, a4, a5⟩ <;> rcases hb with ⟨b1, b2⟩ | ⟨b1, b2, b3, b4, b5⟩
  · omega
  · exact absurd a1 b1
  · exact absurd b1 a1
  · rcases Nat.lt_trichotomy a b with h | h | h
    · exact absurd (b4 (a - 1) (by omega)) a5
    · exact h
    · exact absurd (a4 (b - 1) (by omega)) b5
/-- the first of some -/
def fnd (p : Nat → Bool) : Nat → Option Nat
  | 0 => none
  | k + 1 => match fnd p k with
    | some x => some x
    | none => if p k then some k else none
theorem fnd_no {p : Nat → Bool} : ∀ {N : Nat}, (∀ k, k < N → p k = false) → fnd p N = none
  | 0, _ => rfl
  | N + 1, h => by rw [fnd, fnd_no (fun k z => h k (by omega))]; simp only; rw [if_neg (by rw [h N (by omega)]; decide)]
theorem fnd_hit {p : Nat → Bool} {i : Nat} (h : ∀ k, k < i → p k = false) (hi : p i = true) : ∀ {N : Nat}, i < N → fnd p N = some i
  | 0, z => absurd z (Nat.not_lt_zero _)
  | N + 1, z => by
    by_cases e : i = N
    · subst e; rw [fnd, fnd_no h]; simp only; rw [if_pos hi]
    · rw [fnd, fnd_hit h hi (by omega)]
theorem fnd_cong {p q : Nat → Bool} : ∀ {N : Nat}, (∀ k, k < N → p k = q k) → fnd p N = fnd q N
  | 0, _ => rfl
  | N + 1, h => by rw [fnd, fnd, fnd_cong (fun k z => h k (by omega)), h N (by omega)]
end
section
/-! ROUNDS, on the machine -/
set_option maxHeartbeats 4000000 in
theorem c_grouped {xs : am_X} {d : Nat} {h : am_H} (hd : 1 ≤ d) (hs : sh h) {G : Nat → Nat} (hG : ∀ v, v < 9 → am_i h 79 v = nI (G v)) {Q : am_Q} (HQ : Q (.inl (some (.int (nI (orF G 9))))) h) : am_C xs am_P0 d m_Gp_grouped [.ref 78] h Q := by
  refine am_C_le hd (am_enter (d := 0) ap_Gp_grouped rfl ?_) (fun _ _ k => k)
  refine am_go (fun p => p == 4) (fun K cal Q' hK hC hQ => hK _ _ _ _ ?_)
  refine am_for 9 (fun i L h' => h' = h ∧ L = [.ref 78, .int (nI (orF G i)), .int (nI i)]) ?_ ?_ 0 (Nat.zero_le _) _ _ ⟨rfl, rfl⟩
  · rintro i hi9 L h' ⟨rfl, rfl⟩ next
    refine am_go (fun p => p == 4) (fun K cal Q' hK hC hQ => ?_)
    refine And.intro (fun z => absurd z (q_ge rfl hi9 (by omega))) (fun _ => ?_)
    refine And.intro (sk_78 hs) (And.intro (ck_row (sr_78_1 hs) (sk_79 hs) rfl hi9 (by omega)) ?_)
    have e1 : am_i h' (am_r h' 78 1) (nI i).toNatClampNeg = nI (G i) := by rw [sr_78_1 hs, q_cl (by omega), hG i hi9]
    exact hK _ _ _ _ (next _ _ ⟨rfl, by rw [orF, ← fa_or, ← e1, ← nI_1 i]; rfl⟩)
  · rintro L h' ⟨rfl, rfl⟩
    refine am_go (fun p => p == 4) (fun K cal Q' hK hC hQ => ?_)
    exact And.intro (fun _ => And.intro trivial (hQ _ _ HQ)) (fun z => absurd (q_le rfl (by omega)) z)
set_option maxHeartbeats 4000000 in
theorem c_ownerOf {xs : am_X} {d : Nat} {h : am_H} (hd : 1 ≤ d) (hs : sh h) {G : Nat → Nat} (hG : ∀ v, v < 9 → am_i h 79 v = nI (G v)) (hGl : ∀ v, G v < 2 ^ 31) {v : Nat} (hv : v < 9) {Q : am_Q} (HQ : Q (.inl (some (.int (oI (fnd (fun t => (G t).testBit v) 9))))) h) : am_C xs am_P0 d m_Gp_ownerOf [.ref 78, .int (nI v)] h Q := by
  refine am_C_le hd (am_enter (d := 0) ap_Gp_ownerOf rfl ?_) (fun _ _ k => k)
  refine am_go (fun p => p == 2) (fun K cal Q' hK hC hQ => hK _ _ _ _ ?_)
  refine am_for 9 (fun i L h' => h' = h ∧ L = [.ref 78, .int (nI v), .int (nI i)] ∧ ∀ k, k < i → (G k).testBit v = false) ?_ ?_ 0 (Nat.zero_le _) _ _ ⟨rfl, rfl, fun k z => absurd z (Nat.not_lt_zero _)⟩
  · rintro i hi9 L h' ⟨rfl, rfl, hno⟩ next
    refine am_go (fun p => p == 2) (fun K cal Q' hK hC hQ => ?_)
    refine And.intro (fun z => absurd z (q_ge rfl hi9 (by omega))) (fun _ => ?_)
    refine And.intro (sk_78 hs) (And.intro (ck_row (sr_78_1 hs) (sk_79 hs) rfl hi9 (by omega)) ?_)
    have e1 : (am_i h' (am_r h' 78 1) (nI i).toNatClampNeg >>> (nI v &&& 31)) &&& nI 1 = bI ((G i).testBit v) := by rw [sr_78_1 hs, q_cl (by omega), hG i hi9]; exact q_bit (hGl i) (by omega)
    refine And.intro (fun z => ?_) (fun z => ?_)
    · have z := (bI_0 _).mp (e1.symm.trans z)
      refine hK _ _ _ _ (next _ _ ⟨rfl, by rw [← nI_1 i]; rfl, fun k q => ?_⟩)
      by_cases w : k = i
      · rw [w]; exact z
      · exact hno k (by omega)
    · have z : (G i).testBit v = true := by
        cases e : (G i).testBit v with
        | true => rfl
        | false => rw [e] at e1; exact absurd e1 z
      refine And.intro trivial (hQ _ _ ?_)
      rw [fnd_hit (p := fun t => (G t).testBit v) hno z hi9] at HQ
      exact HQ
  · rintro L h' ⟨rfl, rfl, hno⟩
    refine am_go (fun p => p == 2) (fun K cal Q' hK hC hQ => ?_)
    refine And.intro (fun _ => And.intro trivial (hQ _ _ ?_)) (fun z => absurd (q_le rfl (by omega)) z)
    rw [fnd_no (p := fun t => (G t).testBit v) hno] at HQ
    exact HQ
theorem bool_ne_t {b : Bool} (h : ¬ b = true) : b = false := by cases b; rfl; exact absurd rfl h
set_option maxHeartbeats 4000000 in
theorem c_makeRound {xs : am_X} {d : Nat} {h : am_H} {n m T : Nat} {lo hi co : Nat → Nat} (hd : 4 ≤ d) (hs : sh h) (hg : cg h 3 n m T lo hi) (hc : cco h 3 m co) {G : Nat → Nat} (hGI : GI n T G) (hG : ∀ v, v < 9 → am_i h 79 v = nI (G v)) {Q : am_Q}
    (HQ : ∀ h' b, sm [79] h h' → (∀ v, v < 9 → am_i h' 79 v = nI (gro n T (cutc m lo hi co) G n v)) → (b = true ↔ ∃ t, t < n ∧ gro n T (cutc m lo hi co) G n t ≠ G t) → Q (.inl (some (.int (bI b)))) h') : am_C xs am_P0 d m_Gp_makeRound [.ref 78, .ref 3] h Q := by
  obtain ⟨⟨hk, -⟩, ⟨h0, h1, h2⟩, he, ⟨hn, hm, hT⟩, hw⟩ := id hg
  refine am_C_le hd (am_enter (d := 3) ap_Gp_makeRound rfl ?_) (fun _ _ k => k)
  refine am_go (fun p => p == 4) (fun K cal Q' hK hC hQ => hK _ _ _ _ ?_)
  generalize hcc : cutc m lo hi co = c at HQ
  -- what a place holds before and behind its own turn
  have old : ∀ k t, k ≤ t → gro n T c G k t = G t := by
    intro k
    induction k with
    | zero => intro t _; rfl
    | succ k ih => intro t ht; show gst n T c k (gro n T c G k) t = _; unfold gst; rw [if_neg fun q => by omega]; exact ih t (by omega)
  have new : ∀ k j t, t < k → gro n T c G (k + j) t = gro n T c G k t := by
    intro k j
    induction j with
    | zero => intro t _; rfl
    | succ j ih => intro t ht; show gst n T c (k + j) (gro n T c G (k + j)) t = _; unfold gst; rw [if_neg fun q => by omega]; exact ih t ht
  refine am_for n (fun i L h' => ∃ b v4 v5, L = [.ref 78, .ref 3, .int (bI b), .int (nI i), v4, v5] ∧ sm [79] h h' ∧ (∀ v, v < 9 → am_i h' 79 v = nI (gro n T c G i v)) ∧ (b = true ↔ ∃ t, t < i ∧ gro n T c G i t ≠ G t)) ?_ ?_ 0 (Nat.zero_le _) _ _ ⟨false, am_J, am_J, rfl, sm.rf, hG, fun z => absurd z (by decide), fun ⟨t, z, _⟩ => absurd z (Nat.not_lt_zero _)⟩
  · rintro i hi9 L h' ⟨b, v4, v5, rfl, s, hv, hb⟩ next
    have hs' := s.sh hs
    have hg' := hg.mv s (by decide) (by decide) (by decide)
    have hc' := hc.mv s (by decide)
    have hGi := (gro_GI (c := c) hT hGI i).1
    have eI : am_inc (nI i) (Int.ofNat 1) = nI (i + 1) := nI_1 i
    rw [← eI] at next
    refine am_go (fun p => p == 4) (fun K cal Q' hK hC hQ => ?_)
    refine And.intro hg'.1.1 (And.intro (fun z => absurd z (q_ge hg'.2.1.1 hi9 (by omega))) (fun _ => ?_))
    refine And.intro hg'.1.1 (hC _ _ _ _ (c_isTerminal (by decide) hg' _ ?_))
    rw [isT_nI hi9 (by omega)]
    cases hTi : T.testBit i with
    | false =>
      refine And.intro (fun z => absurd rfl z) (fun _ => ?_)
      have e9 : gro n T c G (i + 1) = gro n T c G i := by
        show gst n T c i (gro n T c G i) = _
        funext v
        unfold gst
        rw [if_neg fun q => by rw [hTi] at q; cases q.2]
      refine hK _ _ _ _ (next _ _ ⟨b, v4, v5, rfl, s, by rw [e9]; exact hv, ?_⟩)
      rw [e9, hb]
      refine ⟨fun ⟨t, z1, z2⟩ => ⟨t, by omega, z2⟩, fun ⟨t, z1, z2⟩ => ⟨t, Nat.lt_of_le_of_ne (by omega) fun q => ?_, z2⟩⟩
      rw [q] at z2
      exact z2 (old i i (Nat.le_refl _))
    | true =>
      refine And.intro (fun _ => ?_) (fun z => absurd q_t1 z)
      refine And.intro hg'.1.1 (hC _ _ _ _ (c_allVertices (by decide) hg'.1.1 hg'.2.1.1 hn ?_))
      refine And.intro (sk_78 hs') (hC _ _ _ _ (c_grouped (by decide) hs' hv ?_))
      refine And.intro (sk_78 hs') (And.intro (ck_row (sr_78_1 hs') (sk_79 hs') rfl (by omega) (by omega)) ?_)
      refine And.intro trivial ?_
      have e1 : am_i h' (am_r h' 78 1) (nI i).toNatClampNeg = nI (gro n T c G i i) := by rw [sr_78_1 hs', q_cl (by omega), hv i (by omega)]
      have e2 : nI (2 ^ n - 1) &&& (nI (orF (gro n T c G i) 9) ^^^ -nI 1) = nI (andn (2 ^ n - 1) (orF (gro n T c G i) 9)) := q_andn _ _
      show cal 2 [.ref 3, .int (am_i h' (am_r h' 78 1) (nI i).toNatClampNeg), .int (nI (2 ^ n - 1) &&& (nI (orF (gro n T c G i) 9) ^^^ -nI 1)), .int (bI true)] h' _
      rw [e1, e2]
      refine hC _ _ _ _ (c_cheapestSet (X := oth n T (gro n T c G i) i) (by decide) hg' hc' true (hGi.2.1 i) (fun j => ?_) (fun j z => ?_) ?_)
      · rw [andn_bit, q_all_bit, Bool.and_assoc]
        congr 1
        have e3 : (orF (gro n T c G i) 9).testBit j = true ↔ ((gro n T c G i i).testBit j = true ∨ (oth n T (gro n T c G i) i).testBit j = true) := by
          rw [orF_bit, oth_bit]
          constructor
          · rintro ⟨o, o1, o2⟩
            by_cases w : o = i
            · rw [w] at o2; exact Or.inl o2
            · have hTo : T.testBit o = true := by
                cases e : T.testBit o with
                | true => rfl
                | false => rw [hGi.1 o e, Nat.zero_testBit] at o2; cases o2
              exact Or.inr ⟨o, q_T_lt hT hTo, w, hTo, o2⟩
          · rintro (w | ⟨o, o1, o2, o3, o4⟩)
            · exact ⟨i, by omega, w⟩
            · exact ⟨o, by omega, o4⟩
        cases e4 : (orF (gro n T c G i) 9).testBit j <;> cases e5 : (gro n T c G i i).testBit j <;> cases e6 : (oth n T (gro n T c G i) i).testBit j <;> rw [e4, e5, e6] at e3 <;> (clear e4 e5 e6; revert e3; decide)
      · obtain ⟨o, o1, o2, o3, o4⟩ := (oth_bit _ _ _ _ _).mp z
        exact hGi.2.2 o i j o2 o4
      · have hlt := (hGi.new (c := c) i).1
        have hlt2 := hGi.2.1 i
        have hp := Nat.lt_of_lt_of_le hlt (pow_le9 hn)
        have hp2 := Nat.lt_of_lt_of_le hlt2 (pow_le9 hn)
        rw [hcc]
        have e9 : ∀ v, gro n T c G (i + 1) v = if v = i then bset n c true (gro n T c G i i) (oth n T (gro n T c G i) i) else gro n T c G i v := by
          intro v
          show gst n T c i (gro n T c G i) v = _
          unfold gst
          by_cases w : v = i
          · rw [if_pos ⟨w, hTi⟩, if_pos w]
          · rw [if_neg fun q => w q.1, if_neg w]
        have hB : am_i h' (am_r h' 78 1) (nI i).toNatClampNeg = nI (G i) := by rw [e1, old i i (Nat.le_refl _)]
        -- both ways come to the same end
        have fin : ∀ b', (b' = true ↔ (b = true ∨ bset n c true (gro n T c G i i) (oth n T (gro n T c G i) i) ≠ G i)) → ∀ L, L = [.ref 78, .ref 3, .int (bI b'), .int (am_inc (nI i) (Int.ofNat 1)), .int (nI (andn (2 ^ n - 1) (orF (gro n T c G i) 9))), .int (nI (bset n c true (gro n T c G i i) (oth n T (gro n T c G i) i)))] →
            am_W xs (am_code at_Gp_makeRound) (am_hd ah_Gp_makeRound) (am_C xs am_P0 3) Q 4 L [] (am_pi h' (am_r h' 78 1) (nI i).toNatClampNeg (nI (bset n c true (gro n T c G i i) (oth n T (gro n T c G i) i)))) := by
          intro b' hb' L hL
          rw [sr_78_1 hs', q_cl (by omega)]
          refine next _ _ ⟨b', _, _, hL, s.pi (by decide), fun v hv9 => ?_, ?_⟩
          · rw [i_pi_same, e9]
            by_cases w : v = i
            · rw [if_pos w, if_pos w]
            · rw [if_neg w, if_neg w]; exact hv v hv9
          · rw [hb', hb]
            constructor
            · rintro (⟨t, z1, z2⟩ | z)
              · exact ⟨t, by omega, by rw [e9, if_neg (by omega)]; exact z2⟩
              · exact ⟨i, by omega, by rw [e9, if_pos rfl]; exact z⟩
            · rintro ⟨t, z1, z2⟩
              rw [e9] at z2
              by_cases w : t = i
              · rw [if_pos w, w] at z2; exact Or.inr z2
              · rw [if_neg w] at z2; exact Or.inl ⟨t, by omega, z2⟩
        cases b with
        | true =>
          refine And.intro (fun _ => ?_) (fun z => absurd q_t1 z)
          refine And.intro (sk_78 hs') (And.intro (ck_row (sr_78_1 hs') (sk_79 hs') rfl (by omega) (by omega)) ?_)
          exact hK _ _ _ _ (fin true (by simp) _ rfl)
        | false =>
          refine And.intro (fun z => absurd rfl z) (fun _ => ?_)
          refine And.intro (sk_78 hs') (And.intro (ck_row (sr_78_1 hs') (sk_79 hs') rfl (by omega) (by omega)) ?_)
          refine And.intro (fun z => ?_) (fun z => ?_)
          · have z := (nI_eq (by omega) (by rw [old i i (Nat.le_refl _)] at hp2; omega)).mp (Eq.trans z hB)
            refine And.intro (sk_78 hs') (And.intro (ck_row (sr_78_1 hs') (sk_79 hs') rfl (by omega) (by omega)) ?_)
            exact hK _ _ _ _ (fin false (by simp [z]) _ rfl)
          · have z : ¬ bset n c true (gro n T c G i i) (oth n T (gro n T c G i) i) = G i := fun q => z (Eq.trans (congrArg nI q) hB.symm)
            refine And.intro (sk_78 hs') (And.intro (ck_row (sr_78_1 hs') (sk_79 hs') rfl (by omega) (by omega)) ?_)
            exact hK _ _ _ _ (fin true (by simp [z]) _ rfl)
  · rintro L h' ⟨b, v4, v5, rfl, s, hv, hb⟩
    have hg' := hg.mv s (by decide) (by decide) (by decide)
    refine am_go (fun p => p == 4) (fun K cal Q' hK hC hQ => ?_)
    exact And.intro hg'.1.1 (And.intro (fun _ => And.intro (bI_01 b) (hQ _ _ (HQ _ b s hv hb))) (fun z => absurd (q_le hg'.2.1.1 (by omega)) z))
end
section
/-! ROUNDS, the run -/
theorem i_sm {X : List Nat} {h h' : am_H} (s : sm X h h') {a k : Nat} {v : Int32} (ha : a ∉ X) (e : am_i h a k = v) : am_i h' a k = v := (s.i ha k).trans e
set_option maxHeartbeats 4000000 in
theorem c_Gp_run {xs : am_X} {d : Nat} {h : am_H} {n m T : Nat} {lo hi co : Nat → Nat} (hd : 5 ≤ d) (hs : sh h) (hg : cg h 3 n m T lo hi) (hc : cco h 3 m co) {Q : am_Q}
    (HQ : ∀ h' R, sm [78, 79] h h' → am_i h' 78 0 = nI R → isR n T (cutc m lo hi co) R → (∀ v, v < 9 → am_i h' 79 v = nI (grs n T (cutc m lo hi co) R v)) → Q (.inl none) h') : am_C xs am_P0 d m_Gp_run [.ref 78, .ref 3] h Q := by
  obtain ⟨⟨hk, -⟩, ⟨h0, h1, h2⟩, he, ⟨hn, hm, hT⟩, hw⟩ := id hg
  refine am_C_le hd (am_enter (d := 4) ap_Gp_run rfl ?_) (fun _ _ k => k)
  refine am_go (fun p => p == 7) (fun K cal Q' hK hC hQ => ?_)
  refine And.intro (sk_78 hs) (hK _ _ _ _ ?_)
  generalize hcc : cutc m lo hi co = c at HQ
  refine am_for 9 (fun i L h' => L = [.ref 78, .ref 3, .int (nI i)] ∧ sm [78, 79] h h' ∧ am_i h' 78 0 = nI 0 ∧ ∀ v, v < i → am_i h' 79 v = nI (grs n T c 0 v)) ?_ ?_ 0 (Nat.zero_le _) _ _ ⟨rfl, sm.rf.pi (by decide), i_pi_at, fun v z => absurd z (Nat.not_lt_zero _)⟩
  · rintro i hi9 L h' ⟨rfl, s, hm0, hv⟩ next
    have hs' := s.sh hs
    have hg' := hg.mv s (by decide) (by decide) (by decide)
    have eI : am_inc (nI i) (Int.ofNat 1) = nI (i + 1) := nI_1 i
    rw [← eI] at next
    have fin : ∀ x : Nat, x = grs n T c 0 i → am_W xs (am_code at_Gp_run) (am_hd ah_Gp_run) (am_C xs am_P0 4) Q 7 [.ref 78, .ref 3, .int (am_inc (nI i) (Int.ofNat 1))] [] (am_pi h' (am_r h' 78 1) (nI i).toNatClampNeg (nI x)) := by
      intro x hx
      rw [sr_78_1 hs', q_cl (by omega)]
      refine next _ _ ⟨rfl, s.pi (by decide), (by rw [i_pi_ne (by decide)]; exact hm0), fun v z => ?_⟩
      rw [i_pi_same]
      by_cases w : v = i
      · rw [if_pos w, w, hx]
      · rw [if_neg w]; exact hv v (by omega)
    refine am_go (fun p => p == 7) (fun K cal Q' hK hC hQ => ?_)
    refine And.intro (fun z => absurd z (q_ge rfl hi9 (by omega))) (fun _ => ?_)
    refine And.intro (sk_78 hs') (And.intro hg'.1.1 (hC _ _ _ _ (c_isTerminal (by decide) hg' _ ?_)))
    have eB : nI 1 <<< (nI i &&& 31) = nI (2 ^ i) := q_shl i (by omega)
    cases hTi : isT n T (nI i) with
    | false =>
      refine And.intro (fun _ => ?_) (fun z => absurd rfl z)
      refine And.intro (ck_row (sr_78_1 hs') (sk_79 hs') rfl hi9 (by omega)) (hK _ _ _ _ (fin 0 ?_))
      show 0 = if T.testBit i then 2 ^ i else 0
      rw [if_neg]
      intro w
      rw [isT_nI (q_T_lt hT w) (by omega), w] at hTi
      cases hTi
    | true =>
      refine And.intro (fun z => absurd z q_t1) (fun _ => ?_)
      refine And.intro (ck_row (sr_78_1 hs') (sk_79 hs') rfl hi9 (by omega)) (hK _ _ _ _ ?_)
      have hTT : T.testBit i = true := by
        unfold isT at hTi
        rw [q_cl (by omega)] at hTi
        simp at hTi
        exact hTi.2
      have := fin (2 ^ i) (by show _ = if T.testBit i then 2 ^ i else 0; rw [if_pos hTT])
      rw [← eB] at this
      exact this
  · rintro L h' ⟨rfl, s, hm0, hv⟩
    have hs' := s.sh hs
    have hg' := hg.mv s (by decide) (by decide) (by decide)
    have W : am_W xs (am_code at_Gp_run) (am_hd ah_Gp_run) (am_C xs am_P0 4) Q 53 [.ref 78, .ref 3, .int (bI (decide (T ≠ 0)))] [] h' := by
      refine am_while (fun k L h9 => ∃ (j : Nat) (b : Bool), j ≤ 9 ∧ k = 9 - j ∧ L = [.ref 78, .ref 3, .int (bI b)] ∧ sm [78, 79] h h9 ∧ am_i h9 78 0 = nI j ∧ (∀ v, v < 9 → am_i h9 79 v = nI (grs n T c j v)) ∧ (∀ i, i + 1 < j → chg n T c i) ∧ (b = true ↔ T ≠ 0 ∧ (j = 0 ∨ chg n T c (j - 1))) ∧ (T = 0 → j = 0)) ?_ 9 _ _ ⟨0, decide (T ≠ 0), by omega, rfl, rfl, s, hm0, hv, fun i z => by omega, by simp, fun _ => rfl⟩
      rintro k L h9 ⟨j, b, hj9, rfl, rfl, s9, hj, hv9, hch, hb, hT0⟩ next
      have hs9 := s9.sh hs
      have hg9 := hg.mv s9 (by decide) (by decide) (by decide)
      have hc9 := hc.mv s9 (by decide)
      refine am_go (fun p => p == 53) (fun K cal Q' hK hC hQ => ?_)
      cases b with
      | false =>
        refine And.intro (fun _ => ?_) (fun z => absurd rfl z)
        refine And.intro trivial (hQ _ _ (HQ _ j s9 hj ?_ hv9))
        by_cases t0 : T = 0
        · exact Or.inl ⟨t0, hT0 t0⟩
        · have nb := fun q => Bool.false_ne_true (hb.mpr ⟨t0, q⟩)
          exact Or.inr ⟨t0, Nat.pos_of_ne_zero fun q => nb (Or.inl q), hj9, hch, fun q => nb (Or.inr q)⟩
      | true =>
        obtain ⟨t0, hor⟩ := hb.mp rfl
        have hall : ∀ i, i < j → chg n T c i := fun i z => by
          by_cases w : i + 1 < j
          · exact hch i w
          · rcases hor with q | q
            · omega
            · rw [show i = j - 1 by omega]; exact q
        have hj8 : j < 9 := Nat.lt_of_le_of_ne hj9 fun q => chg_no (c := c) hn hT t0 (by rw [q] at hall; exact hall)
        refine And.intro (fun z => absurd z q_t1) (fun _ => ?_)
        refine And.intro (sk_78 hs9) (And.intro (fun z => absurd z ?_) (fun _ => ?_))
        · show ¬ nI 9 ≤ am_i h9 78 0
          rw [hj]
          exact nI_ge hj8 (by omega)
        · refine And.intro (sk_78 hs9) (hC _ _ _ _ (c_makeRound (by decide) hs9 hg9 hc9 (grs_GI hT j) hv9 (fun h10 b10 s10 hv10 hb10 => ?_)))
          rw [hcc] at hv10 hb10
          have hs10 := s10.sh hs9
          refine And.intro (sk_78 hs10) (And.intro (sk_78 hs10) ?_)
          have e5 : am_i h10 78 0 = nI j := i_sm s10 (by decide) hj
          have e6 : am_i h10 78 0 + 1 = nI (j + 1) := by rw [e5]; exact nI_1 j
          refine hK _ _ _ _ (next (9 - (j + 1)) _ _ (by omega) ⟨j + 1, b10, by omega, rfl, rfl, (s9.tr (s10.mo (by decide))).pi (by decide), ?_, fun v z => ?_, fun i z => hall i (by omega), ?_, fun z => absurd z t0⟩)
          · exact i_pi_at.trans e6
          · rw [i_pi_ne (by decide)]; exact hv10 v z
          · rw [hb10]
            exact ⟨fun q => ⟨t0, Or.inr q⟩, fun q => q.2.elim (fun w => by omega) id⟩
    refine am_go (fun p => p == 53 || p == 7) (fun K cal Q' hK hC hQ => ?_)
    refine And.intro (fun _ => ?_) (fun z => absurd (q_le rfl (by omega)) z)
    refine And.intro hg'.1.1 (And.intro (fun z => ?_) (fun z => ?_))
    · have z : nI T = nI 0 := hg'.2.1.2.2.symm.trans z
      have z := (nI_eq (by have := pow_le9 hn; omega) (by omega)).mp z
      rw [show decide (T ≠ 0) = false by simp [z]] at W
      exact hK _ _ _ _ W
    · have z : T ≠ 0 := fun q => z (by show am_i h' 3 2 = 0; rw [hg'.2.1.2.2, q]; rfl)
      rw [show decide (T ≠ 0) = true by simp [z]] at W
      exact hK _ _ _ _ W
end
section
/-! THE EXACT SEARCH -/
/-- an assignment's cost among the first v vertices -/
def acost (m : Nat) (lo hi co : Nat → Nat) (A : Nat → Nat) (v : Nat) : Nat := sumE co (fun e => decide (hi e < v) && decide (A (lo e) ≠ A (hi e))) m
def avalid (n T : Nat) (A : Nat → Nat) : Prop := ∀ v, v < n → T.testBit (A v) = true ∧ (T.testBit v = true → A v = v)
/-- smaller at the first of the first v vertices where they differ -/
def llt (v : Nat) (A B : Nat → Nat) : Prop := ∃ u, u < v ∧ (∀ w, w < u → A w = B w) ∧ A u < B u
def lag (v : Nat) (A B : Nat → Nat) : Prop := ∀ w, w < v → A w = B w
theorem llt_no {v : Nat} {A B : Nat → Nat} (h1 : llt v A B) (h2 : llt v B A) : False := by
  obtain ⟨u, a1, a2, a3⟩ := h1
  obtain ⟨w, b1, b2, b3⟩ := h2
  rcases Nat.lt_trichotomy u w with h | h | h
  · have := b2 u h; omega
  · subst h; omega
  · have := a2 w h; omega
theorem llt_or {v : Nat} {A B : Nat → Nat} : llt v A B ∨ lag v A B ∨ llt v B A := by
  induction v with
  | zero => exact Or.inr (Or.inl fun w h => absurd h (Nat.not_lt_zero _))
  | succ v ih =>
    rcases ih with ⟨u, a1, a2⟩ | h | ⟨u, a1, a2⟩
    · exact Or.inl ⟨u, by omega, a2⟩
    · rcases Nat.lt_trichotomy (A v) (B v) with q | q | q
      · exact Or.inl ⟨v, by omega, h, q⟩
      · exact Or.inr (Or.inl fun w hw => by
          by_cases e : w = v
          · rw [e]; exact q
          · exact h w (by omega))
      · exact Or.inr (Or.inr ⟨v, by omega, fun w hw => (h w hw).symm, q⟩)
    · exact Or.inr (Or.inr ⟨u, by omega, a2⟩)
/-- the best of the assignments X: its cost and itself; MAX: none yet -/
abbrev xMAX : Nat := 2147483647
def xin (n m T : Nat) (lo hi co : Nat → Nat) (X : (Nat → Nat) → Prop) (bc : Nat) (bA : Nat → Nat) : Prop :=
  bc ≤ xMAX ∧ (∀ B, X B → avalid n T B → bc ≤ acost m lo hi co B n) ∧ (bc = xMAX ∨ (X bA ∧ avalid n T bA ∧ bc = acost m lo hi co bA n ∧ ∀ B, X B → avalid n T B → llt n B bA → bc < acost m lo hi co B n))
theorem xin.cong {n m T : Nat} {lo hi co : Nat → Nat} {X Y : (Nat → Nat) → Prop} {bc : Nat} {bA : Nat → Nat} (h : xin n m T lo hi co X bc bA) (e : ∀ B, avalid n T B → (X B ↔ Y B)) : xin n m T lo hi co Y bc bA :=
  ⟨h.1, fun B hY hv => h.2.1 B ((e B hv).mpr hY) hv, h.2.2.imp id fun ⟨a, b, c, d⟩ => ⟨(e _ b).mp a, b, c, fun B hY hv => d B ((e B hv).mpr hY) hv⟩⟩
theorem acost_mono {m : Nat} {lo hi co : Nat → Nat} (A : Nat → Nat) {v w : Nat} (h : v ≤ w) : acost m lo hi co A v ≤ acost m lo hi co A w := fb_sm_le fun k hk => by
  by_cases e : (decide (hi k < v) && decide (A (lo k) ≠ A (hi k))) = true
  · rw [if_pos e, if_pos (by simp only [Bool.and_eq_true, decide_eq_true_eq] at e ⊢; exact ⟨by omega, e.2⟩)]
    exact Nat.le_refl _
  · rw [if_neg e]; exact Nat.zero_le _
theorem acost_ag {n m : Nat} {lo hi co : Nat → Nat} {A B : Nat → Nat} {v : Nat} (hw : ∀ e, e < m → lo e < hi e ∧ hi e < n) (h : lag v A B) : acost m lo hi co A v = acost m lo hi co B v := sumE_cong fun k hk => by
  have := hw k hk
  show (decide (hi k < v) && decide (A (lo k) ≠ A (hi k))) = (decide (hi k < v) && decide (B (lo k) ≠ B (hi k)))
  by_cases e : hi k < v
  · rw [h (hi k) e, h (lo k) (by omega)]
  · simp only [e, decide_false, Bool.false_and]
theorem acost_le {m : Nat} {lo hi co : Nat → Nat} {A : Nat → Nat} {v : Nat} (hm : m ≤ 20) (hc : ∀ e, e < m → co e ≤ 9999) : acost m lo hi co A v ≤ 20 * 9999 := Nat.le_trans (sumE_le hc) (Nat.mul_le_mul_right _ hm)
/-- what v adds -/
def aadd (lo hi : Nat → Nat) (A : Nat → Nat) (v : Nat) (e : Nat) : Bool := decide (hi e = v) && decide (A (lo e) ≠ A v)
theorem acost_s {m : Nat} {lo hi co : Nat → Nat} (A : Nat → Nat) (v : Nat) : acost m lo hi co A (v + 1) = acost m lo hi co A v + sumE co (aadd lo hi A v) m := by
  unfold acost sumE
  rw [← fb_sm_add]
  refine fb_sm_cong fun k hk => ?_
  unfold aadd
  by_cases e : hi k = v
  · simp [e]
  · by_cases e2 : hi k < v
    · have : hi k < v + 1 := by omega
      simp [e, e2, this]
    · have : ¬ hi k < v + 1 := by omega
      simp [e, e2, this]
set_option maxHeartbeats 4000000 in
theorem c_costToEarlier {xs : am_X} {d : Nat} {h : am_H} {n m T : Nat} {lo hi co : Nat → Nat} (hd : 1 ≤ d) (hs : sh h) (hg : cg h 3 n m T lo hi) (hc : cco h 3 m co) {A : Nat → Nat} {v : Nat} (hv : v < n) (hA : ∀ w, w ≤ v → am_i h 82 w = nI (A w)) (hAl : ∀ w, A w < 1000) {Q : am_Q} (HQ : Q (.inl (some (.int (nI (sumE co (aadd lo hi A v) m))))) h) : am_C xs am_P0 d m_Ex_costToEarlier [.ref 80, .ref 3, .int (nI v)] h Q := by
  obtain ⟨⟨hk, ⟨k1, k2, k3, k4, k5, k6⟩, r3, r4, r5, r6, r7, r8⟩, ⟨h0, h1, h2⟩, he, ⟨hn, hm, hT⟩, hw⟩ := id hg
  refine am_C_le hd (am_enter (d := 0) ap_Ex_costToEarlier rfl ?_) (fun _ _ k => k)
  refine am_go (fun p => p == 5) (fun K cal Q' hK hC hQ => hK _ _ _ _ ?_)
  refine am_for m (fun i L h' => h' = h ∧ L = [.ref 80, .ref 3, .int (nI v), .int (nI (sumE co (aadd lo hi A v) i)), .int (nI i)]) ?_ ?_ 0 (Nat.zero_le _) _ _ ⟨rfl, rfl⟩
  · rintro i hi9 L h' ⟨rfl, rfl⟩ next
    obtain ⟨e1, e2⟩ := he i hi9
    obtain ⟨w1, w2⟩ := hw i hi9
    have e3 := (hc i hi9).1
    have eI : am_inc (nI i) (Int.ofNat 1) = nI (i + 1) := nI_1 i
    rw [← eI] at next
    have eA : am_i h' (am_r h' 3 6) (nI i).toNatClampNeg = nI (hi i) := by rw [r6, q_cl (by omega)]; exact e2
    have eB : am_i h' (am_r h' 3 5) (nI i).toNatClampNeg = nI (lo i) := by rw [r5, q_cl (by omega)]; exact e1
    have eC : am_i h' (am_r h' 3 8) (nI i).toNatClampNeg = nI (co i) := by rw [r8, q_cl (by omega)]; exact e3
    have s0 : aadd lo hi A v i = false → am_W xs (am_code at_Ex_costToEarlier) (am_hd ah_Ex_costToEarlier) (am_C xs am_P0 0) Q 5 [.ref 80, .ref 3, .int (nI v), .int (nI (sumE co (aadd lo hi A v) i)), .int (am_inc (nI i) (Int.ofNat 1))] [] h' := fun z => next _ _ ⟨rfl, by rw [sumE_s, z]; rfl⟩
    refine am_go (fun p => p == 5) (fun K cal Q' hK hC hQ => ?_)
    refine And.intro hk (And.intro (fun z => absurd z (q_ge h1 hi9 (by omega))) (fun _ => ?_))
    refine And.intro hk (And.intro (ck_row r6 k4 rfl (by omega) (by omega)) ?_)
    refine And.intro (fun z => ?_) (fun z => ?_)
    · have z : ¬ hi i = v := fun q => z (by rw [← q]; exact eA)
      exact hK _ _ _ _ (s0 (by unfold aadd; rw [decide_eq_false z]; rfl))
    · have z : hi i = v := (nI_eq (by omega) (by omega)).mp (eA.symm.trans (Classical.not_not.mp z))
      refine And.intro (sk_80 hs) (And.intro hk (And.intro (ck_row r5 k3 rfl (by omega) (by omega)) ?_))
      refine And.intro (ck_row (sr_80_2 hs) (sk_82 hs) eB (by omega) (by omega)) ?_
      refine And.intro (sk_80 hs) (And.intro (ck_row (sr_80_2 hs) (sk_82 hs) rfl (by omega) (by omega)) ?_)
      have eD : am_i h' (am_r h' 80 2) (am_i h' (am_r h' 3 5) (nI i).toNatClampNeg).toNatClampNeg = nI (A (lo i)) := by rw [eB, sr_80_2 hs, q_cl (by omega)]; exact hA _ (by omega)
      have eE : am_i h' (am_r h' 80 2) (nI v).toNatClampNeg = nI (A v) := by rw [sr_80_2 hs, q_cl (by omega)]; exact hA _ (by omega)
      have l1 := hAl (lo i)
      have l2 := hAl v
      refine And.intro (fun w => ?_) (fun w => ?_)
      · have w := (nI_eq (by omega) (by omega)).mp (eD.symm.trans (Eq.trans w eE))
        exact hK _ _ _ _ (s0 (by unfold aadd; rw [decide_eq_false (p := A (lo i) ≠ A v) (fun q => q w), Bool.and_false]))
      · have w : A (lo i) ≠ A v := fun q => w (eD.trans ((congrArg nI q).trans eE.symm))
        refine And.intro hk (And.intro (ck_row r8 k6 rfl (by omega) (by omega)) ?_)
        refine hK _ _ _ _ (next _ _ ⟨rfl, ?_⟩)
        rw [sumE_s, if_pos (by unfold aadd; rw [decide_eq_true z, decide_eq_true w]; rfl), ← nI_add, ← eC]
        rfl
  · rintro L h' ⟨rfl, rfl⟩
    refine am_go (fun p => p == 5) (fun K cal Q' hK hC hQ => ?_)
    exact And.intro hk (And.intro (fun _ => And.intro trivial (hQ _ _ HQ)) (fun z => absurd (q_le h1 (by omega)) z))
/-- explored before the prefix p of length v -/
def xE (v : Nat) (p B : Nat → Nat) : Prop := llt v B p
def setA (p : Nat → Nat) (v t : Nat) : Nat → Nat := fun w => if w = v then t else p w
theorem lag_set {v t : Nat} {p : Nat → Nat} : lag v (setA p v t) p := fun w hw => if_neg (by omega)
/-- the state of the search on the machine -/
def xst (h : am_H) (n bc : Nat) (bA : Nat → Nat) : Prop := am_i h 80 1 = nI bc ∧ ∀ w, w < n → am_i h 81 w = (if bc = xMAX then -nI 1 else nI (bA w))
set_option maxHeartbeats 8000000 in
theorem c_extend {xs : am_X} {n m T TS : Nat} {lo hi co : Nat → Nat} (hTS : TS < 2 ^ n) : ∀ (k v : Nat) (p : Nat → Nat) (h : am_H) (bc : Nat) (bA : Nat → Nat) (Q : am_Q), v + k = n → sh h → cg h 3 n m T lo hi → cco h 3 m co → xst h n bc bA →
    (∀ w, w < v → am_i h 82 w = nI (p w)) → (∀ w, p w < 9) → (∀ w, w < v → TS.testBit (p w) = true ∧ (TS.testBit w = true → p w = w)) → xin n m TS lo hi co (xE v p) bc bA →
    (∀ h' bc' bA', sm [80, 81, 82] h h' → xst h' n bc' bA' → (∀ w, w < v → am_i h' 82 w = nI (p w)) → xin n m TS lo hi co (fun B => xE v p B ∨ lag v B p) bc' bA' → Q (.inl none) h') →
    am_C xs am_P0 (k + 2) m_Ex_extend [.ref 80, .ref 3, .int (nI TS), .int (nI v), .int (nI (acost m lo hi co p v))] h Q := by
  intro k
  induction k with
  | zero =>
    intro v p h bc bA Q hvk hs hg hc hst htr hp9 hpv hin HQ
    rw [Nat.add_zero] at hvk
    subst hvk
    obtain ⟨⟨hk, ⟨k1, k2, k3, k4, k5, k6⟩, r3, r4, r5, r6, r7, r8⟩, ⟨h0, h1, h2⟩, he, ⟨hn, hm, hT⟩, hw⟩ := id hg
    have hcl : acost m lo hi co p v ≤ 20 * 9999 := acost_le hm fun e he => (hc e he).2.2
    have hbc := hin.1
    have hM : xMAX = 2147483647 := rfl
    refine am_enter (d := 1) ap_Ex_extend rfl ?_
    refine am_go (fun _ => false) (fun K cal Q' hK hC hQ => ?_)
    refine And.intro (sk_80 hs) (And.intro (fun z => ?_) (fun z => ?_))
    · have z : nI (acost m lo hi co p v) < nI bc := by rw [← hst.1]; exact z
      have z := (nI_ltI (by omega) (by omega)).mp z
      refine And.intro hk (And.intro (fun q => absurd q ?_) (fun _ => ?_))
      · show ¬ nI v < am_i h 3 0
        rw [h0]
        exact nI_nlt (Nat.le_refl _) (by omega)
      · refine And.intro (sk_80 hs) (And.intro (sk_80 hs) (And.intro (sk_80 hs) (And.intro hk ?_)))
        have eT : am_r (am_pi h 80 (1 % 64) (nI (acost m lo hi co p v))) 80 (2 % 64) = 82 := sr_80_2 hs
        have eB : am_r (am_pi h 80 (1 % 64) (nI (acost m lo hi co p v))) 80 (0 % 64) = 81 := sr_80_0 hs
        have eN : am_i (am_pi h 80 (1 % 64) (nI (acost m lo hi co p v))) 3 (128 % 64) = nI v := by rw [i_pi_ne (by decide)]; exact h0
        rw [eT, eB, eN]
        have k81 : am_k (am_pi h 80 (1 % 64) (nI (acost m lo hi co p v))) 81 = (2, 9) := sk_81 hs
        have k82 : am_k (am_pi h 80 (1 % 64) (nI (acost m lo hi co p v))) 82 = (2, 9) := sk_82 hs
        have c0 : (nI 0).toNatClampNeg = 0 := rfl
        have cv : (nI v).toNatClampNeg = v := q_cl (by omega)
        refine And.intro ⟨⟨by rw [k81], by rw [k82]⟩, ⟨by decide, by decide, nI_pos (by omega)⟩, ?_, ?_⟩ ?_
        · rw [k82, c0, cv]; show 0 + v ≤ 9; omega
        · rw [k81, c0, cv]; show 0 + v ≤ 9; omega
        · refine And.intro trivial (hQ _ _ ?_)
          rw [c0, cv]
          have ecp : ∀ a w, am_i (am_cp (am_pi h 80 (1 % 64) (nI (acost m lo hi co p v))) 82 0 81 0 v) a w = if a = 81 ∧ w < v then am_i h 82 w else am_i (am_pi h 80 (1 % 64) (nI (acost m lo hi co p v))) a w := by
            intro a w
            rw [i_cp]
            by_cases e : a = 81 ∧ w < v
            · rw [if_pos ⟨e.1, Nat.zero_le _, by omega⟩, if_pos e, i_pi_ne (by decide), Nat.sub_zero, Nat.zero_add]
            · rw [if_neg fun q => e ⟨q.1, by omega⟩, if_neg e]
          have ss : sm [80, 81, 82] h (am_cp (am_pi h 80 (1 % 64) (nI (acost m lo hi co p v))) 82 0 81 0 v) := (sm.rf.pi (by decide)).cp (by decide)
          refine HQ _ (acost m lo hi co p v) p ss ⟨?_, fun w hw9 => ?_⟩ (fun w hw9 => ?_) ?_
          · rw [ecp, if_neg (fun q => absurd q.1 (by decide))]; exact i_pi_at
          · rw [ecp, if_pos ⟨rfl, hw9⟩, htr w hw9, if_neg (by show ¬ _ = 2147483647; omega)]
          · rw [ecp, if_neg (fun q => absurd q.1 (by decide)), i_pi_ne (by decide)]; exact htr w hw9
          · refine ⟨by show _ ≤ 2147483647; omega, fun B hB hvB => ?_, Or.inr ⟨Or.inr fun w _ => rfl, fun w hw9 => hpv w hw9, rfl, fun B hB hvB hlt => ?_⟩⟩
            · rcases hB with hB | hB
              · have := hin.2.1 B hB hvB; omega
              · rw [acost_ag hw hB]; exact Nat.le_refl _
            · rcases hB with hB | hB
              · have := hin.2.1 B hB hvB; omega
              · obtain ⟨u, u1, u2, u3⟩ := hlt
                rw [hB u u1] at u3
                exact absurd u3 (Nat.lt_irrefl _)
    · have z : ¬ nI (acost m lo hi co p v) < nI bc := by rw [← hst.1]; exact z
      have z : bc ≤ acost m lo hi co p v := Nat.not_lt.mp fun q => z (nI_lt q (by omega))
      refine And.intro trivial (hQ _ _ (HQ _ bc bA sm.rf hst htr ?_))
      refine ⟨hin.1, fun B hB hvB => ?_, ?_⟩
      · rcases hB with hB | hB
        · exact hin.2.1 B hB hvB
        · rw [acost_ag hw hB]; exact z
      · refine hin.2.2.imp id fun ⟨a1, a2, a3, a4⟩ => ⟨Or.inl a1, a2, a3, fun B hB hvB hlt => ?_⟩
        rcases hB with hB | hB
        · exact a4 B hB hvB hlt
        · refine (llt_no hlt ?_).elim
          obtain ⟨u, u1, u2, u3⟩ := a1
          exact ⟨u, u1, fun w hw9 => (u2 w hw9).trans (hB w (by omega)).symm, by rw [hB u u1]; exact u3⟩
  | succ k ih =>
    intro v p h bc bA Q hvk hs hg hc hst htr hp9 hpv hin HQ
    obtain ⟨⟨hk, ⟨k1, k2, k3, k4, k5, k6⟩, r3, r4, r5, r6, r7, r8⟩, ⟨h0, h1, h2⟩, he, ⟨hn, hm, hT⟩, hw⟩ := id hg
    have hcl : ∀ A v, acost m lo hi co A v ≤ 20 * 9999 := fun A v => acost_le hm fun e he => (hc e he).2.2
    have hcl0 := hcl p v
    have hbc := hin.1
    have hM : xMAX = 2147483647 := rfl
    have hTS31 : TS < 2 ^ 31 := Nat.lt_trans hTS (pow_le31 (by omega))
    refine am_enter (d := k + 2) ap_Ex_extend rfl ?_
    refine am_go (fun p => p == 62) (fun K cal Q' hK hC hQ => ?_)
    refine And.intro (sk_80 hs) (And.intro (fun z => ?_) (fun z => ?_))
    · have z : nI (acost m lo hi co p v) < nI bc := by rw [← hst.1]; exact z
      have z := (nI_ltI (by omega) (by omega)).mp z
      refine And.intro hk (And.intro (fun _ => ?_) (fun q => absurd ?_ q))
      rotate_left
      · show nI v < am_i h 3 0
        rw [h0]
        exact nI_lt (by omega) (by omega)
      generalize hCh : (if TS.testBit v then 2 ^ v else TS) = Ch
      have hChl : Ch < 2 ^ 31 := by
        rw [← hCh]
        split
        · exact pow_le31 (by omega)
        · exact hTS31
      have chb : ∀ i, Ch.testBit i = true ↔ (TS.testBit i = true ∧ (TS.testBit v = true → i = v)) := by
        intro i
        rw [← hCh]
        by_cases q : TS.testBit v = true
        · rw [if_pos q, q_tw]
          exact ⟨fun w => by have w := of_decide_eq_true w; rw [← w]; exact ⟨q, fun _ => rfl⟩, fun w => decide_eq_true (w.2 q).symm⟩
        · rw [if_neg q]
          exact ⟨fun w => ⟨w, fun x => absurd x q⟩, fun w => w.1⟩
      have llt_set : ∀ i B, xE (v + 1) (setA p v i) B ↔ (xE v p B ∨ (lag v B p ∧ B v < i)) := by
        intro i B
        have e1 : ∀ w, w < v → setA p v i w = p w := fun w hw9 => if_neg (by omega)
        have e2 : setA p v i v = i := if_pos rfl
        constructor
        · rintro ⟨u, u1, u2, u3⟩
          by_cases e : u = v
          · subst e
            rw [e2] at u3
            exact Or.inr ⟨fun w hw9 => (u2 w hw9).trans (e1 w hw9), u3⟩
          · rw [e1 u (by omega)] at u3
            exact Or.inl ⟨u, by omega, fun w hw9 => (u2 w hw9).trans (e1 w (by omega)), u3⟩
        · rintro (⟨u, u1, u2, u3⟩ | ⟨q1, q2⟩)
          · exact ⟨u, by omega, fun w hw9 => (u2 w hw9).trans (e1 w (by omega)).symm, by rw [e1 u u1]; exact u3⟩
          · exact ⟨v, by omega, fun w hw9 => (q1 w hw9).trans (e1 w hw9).symm, by rw [e2]; exact q2⟩
      have W : am_W xs (am_code at_Ex_extend) (am_hd ah_Ex_extend) (am_C xs am_P0 (k + 2)) Q 62 [.ref 80, .ref 3, .int (nI TS), .int (nI v), .int (nI (acost m lo hi co p v)), .int (nI Ch), .int (nI 0), am_J] [] h := by
        refine am_for n (fun i L h' => ∃ bc bA v7, L = [.ref 80, .ref 3, .int (nI TS), .int (nI v), .int (nI (acost m lo hi co p v)), .int (nI Ch), .int (nI i), v7] ∧ sm [80, 81, 82] h h' ∧ xst h' n bc bA ∧ (∀ w, w < v → am_i h' 82 w = nI (p w)) ∧ xin n m TS lo hi co (fun B => xE v p B ∨ (lag v B p ∧ B v < i)) bc bA) ?_ ?_ 0 (Nat.zero_le _) _ _ ⟨bc, bA, am_J, rfl, sm.rf, hst, htr, hin.cong fun B _ => ⟨Or.inl, fun q => q.elim id fun w => absurd w.2 (Nat.not_lt_zero _)⟩⟩
        · rintro i hi9 L h' ⟨bc', bA', v7, rfl, s, hst', htr', hin'⟩ next
          have hs' := s.sh hs
          have hg' := hg.mv s (by decide) (by decide) (by decide)
          have hc' := hc.mv s (by decide)
          have eI : am_inc (nI i) (Int.ofNat 1) = nI (i + 1) := nI_1 i
          rw [← eI] at next
          have eA : (nI Ch >>> (nI i &&& 31)) &&& nI 1 = bI (Ch.testBit i) := q_bit hChl (by omega)
          refine am_go (fun p => p == 62) (fun K cal Q' hK hC hQ => ?_)
          refine And.intro hg'.1.1 (And.intro (fun z => absurd z (q_ge hg'.2.1.1 hi9 (by omega))) (fun _ => ?_))
          refine And.intro (fun w => ?_) (fun w => ?_)
          · have w := (bI_0 _).mp (eA.symm.trans w)
            refine hK _ _ _ _ (next _ _ ⟨bc', bA', v7, rfl, s, hst', htr', hin'.cong fun B hv => ⟨fun q => q.imp id fun r => ⟨r.1, by omega⟩, fun q => q.imp id fun r => ⟨r.1, Nat.lt_of_le_of_ne (by omega) fun x => ?_⟩⟩⟩)
            have := (chb i).mpr (by rw [← x]; exact hv v (by omega))
            rw [w] at this
            cases this
          · have w : Ch.testBit i = true := by
              cases e : Ch.testBit i with
              | true => rfl
              | false => rw [e] at eA; exact absurd eA w
            have wv := (chb i).mp w
            refine And.intro (sk_80 hs') (And.intro (ck_row (sr_80_2 hs') (sk_82 hs') rfl (by omega) (by omega)) ?_)
            have e82 : am_r h' 80 (2 % 64) = 82 := sr_80_2 hs'
            have ecl : (nI v).toNatClampNeg = v := q_cl (by omega)
            rw [e82, ecl]
            have s1 : sm [80, 81, 82] h' (am_pi h' 82 v (nI i)) := sm.rf.pi (by decide)
            have hs1 := s1.sh hs'
            have hg1 := hg'.mv s1 (by decide) (by decide) (by decide)
            have hc1 := hc'.mv s1 (by decide)
            have hA1 : ∀ w, w < v + 1 → am_i (am_pi h' 82 v (nI i)) 82 w = nI (setA p v i w) := by
              intro w hw9
              rw [i_pi_same]
              unfold setA
              by_cases e : w = v
              · rw [if_pos e, if_pos e]
              · rw [if_neg e, if_neg e]; exact htr' w (by omega)
            have hp1 : ∀ w, setA p v i w < 9 := fun w => by
              unfold setA
              split
              · omega
              · exact hp9 w
            refine And.intro (sk_80 hs1) (hC _ _ _ _ (c_costToEarlier (A := setA p v i) (by omega) hs1 hg1 hc1 (by omega) (fun w hw9 => hA1 w (by omega)) (fun w => by have := hp1 w; omega) ?_))
            have ecs : nI (acost m lo hi co p v) + nI (sumE co (aadd lo hi (setA p v i) v) m) = nI (acost m lo hi co (setA p v i) (v + 1)) := by
              rw [nI_add, acost_s, acost_ag hw (lag_set (v := v) (t := i) (p := p))]
            have ev1 : nI v + nI 1 = nI (v + 1) := nI_add v 1
            refine And.intro trivial ?_
            show cal 11 [.ref 80, .ref 3, .int (nI TS), .int (nI v + nI 1), .int (nI (acost m lo hi co p v) + nI (sumE co (aadd lo hi (setA p v i) v) m))] _ _
            rw [ecs, ev1]
            refine hC _ _ _ _ (ih (v + 1) (setA p v i) _ bc' bA' _ (by omega) hs1 hg1 hc1 ⟨by rw [i_pi_ne (by decide)]; exact hst'.1, fun w hw9 => by rw [i_pi_ne (by decide)]; exact hst'.2 w hw9⟩ hA1 hp1 (fun w hw9 => ?_) (hin'.cong fun B _ => (llt_set i B).symm) (fun h2' bc2 bA2 s2 hst2 htr2 hin2 => ?_))
            · unfold setA
              by_cases e : w = v
              · rw [if_pos e, e]; exact wv
              · rw [if_neg e]; exact hpv w (by omega)
            · refine hK _ _ _ _ (next _ _ ⟨bc2, bA2, _, rfl, s.tr (s1.tr s2), hst2, fun w hw9 => ?_, hin2.cong fun B _ => ?_⟩)
              · rw [htr2 w (by omega)]; congr 1; exact if_neg (by omega)
              · rw [llt_set]
                constructor
                · rintro ((q | q) | q)
                  · exact Or.inl q
                  · exact Or.inr ⟨q.1, by omega⟩
                  · refine Or.inr ⟨fun w hw9 => (q w (by omega)).trans (if_neg (by omega)), ?_⟩
                    rw [q v (by omega), show setA p v i v = i from if_pos rfl]
                    omega
                · rintro (q | ⟨q1, q2⟩)
                  · exact Or.inl (Or.inl q)
                  · by_cases e : B v = i
                    · refine Or.inr fun w hw9 => ?_
                      unfold setA
                      by_cases e3 : w = v
                      · rw [if_pos e3, e3]; exact e
                      · rw [if_neg e3]; exact q1 w (by omega)
                    · exact Or.inl (Or.inr ⟨q1, by omega⟩)
        · rintro L h' ⟨bc', bA', v7, rfl, s, hst', htr', hin'⟩
          have hg' := hg.mv s (by decide) (by decide) (by decide)
          refine am_go (fun p => p == 62) (fun K cal Q' hK hC hQ => ?_)
          refine And.intro hg'.1.1 (And.intro (fun _ => And.intro trivial (hQ _ _ (HQ _ bc' bA' s hst' htr' (hin'.cong fun B hv => ⟨fun q => q.imp id fun r => r.1, fun q => q.imp id fun r => ⟨r, q_T_lt hTS (hv v (by omega)).1⟩⟩)))) (fun z => absurd (q_le hg'.2.1.1 (by omega)) z))
      have eA : (nI TS >>> (nI v &&& 31)) &&& nI 1 = bI (TS.testBit v) := q_bit hTS31 (by omega)
      have eB : nI 1 <<< (nI v &&& 31) = nI (2 ^ v) := q_shl v (by omega)
      refine And.intro (fun q => ?_) (fun q => ?_)
      · have q := (bI_0 _).mp (eA.symm.trans q)
        rw [if_neg (by rw [q]; decide)] at hCh
        rw [← hCh] at W
        exact hK _ _ _ _ W
      · have q : TS.testBit v = true := by
          cases e : TS.testBit v with
          | true => rfl
          | false => rw [e] at eA; exact absurd eA q
        rw [if_pos q] at hCh
        rw [← hCh, ← eB] at W
        exact hK _ _ _ _ W
    · have z : ¬ nI (acost m lo hi co p v) < nI bc := by rw [← hst.1]; exact z
      have z : bc ≤ acost m lo hi co p v := Nat.not_lt.mp fun q => z (nI_lt q (by omega))
      refine And.intro trivial (hQ _ _ (HQ _ bc bA sm.rf hst htr ?_))
      refine ⟨hin.1, fun B hB hvB => ?_, ?_⟩
      · rcases hB with hB | hB
        · exact hin.2.1 B hB hvB
        · have a1 := acost_ag (co := co) hw hB
          have a2 := acost_mono (m := m) (lo := lo) (hi := hi) (co := co) B (show v ≤ n by omega)
          omega
      · refine hin.2.2.imp id fun ⟨a1, a2, a3, a4⟩ => ⟨Or.inl a1, a2, a3, fun B hB hvB hlt => ?_⟩
        rcases hB with hB | hB
        · exact a4 B hB hvB hlt
        · refine (llt_no hlt ?_).elim
          obtain ⟨u, u1, u2, u3⟩ := a1
          exact ⟨u, by omega, fun w hw9 => (u2 w hw9).trans (hB w (by omega)).symm, by rw [hB u u1]; exact u3⟩
end
section
/-! THE EXACT SEARCH, its run -/
def isx (n m T : Nat) (lo hi co : Nat → Nat) (A : Nat → Nat) : Prop := avalid n T A ∧ (∀ B, avalid n T B → acost m lo hi co A n ≤ acost m lo hi co B n) ∧ ∀ B, avalid n T B → llt n B A → acost m lo hi co A n < acost m lo hi co B n
theorem isx.one {n m T : Nat} {lo hi co : Nat → Nat} {A B : Nat → Nat} (ha : isx n m T lo hi co A) (hb : isx n m T lo hi co B) : lag n A B := by
  rcases llt_or (v := n) (A := A) (B := B) with h | h | h
  · have := hb.2.2 A ha.1 h
    have := ha.2.1 B hb.1
    omega
  · exact h
  · have := ha.2.2 B hb.1 h
    have := hb.2.1 A ha.1
    omega
/-- what the exact search leaves: its cost, its labels -/
def exr (h : am_H) (n m T : Nat) (lo hi co : Nat → Nat) : Prop := (T = 0 ∧ am_i h 80 1 = nI 0 ∧ ∀ w, w < n → am_i h 81 w = -nI 1) ∨ (T ≠ 0 ∧ ∃ A, isx n m T lo hi co A ∧ am_i h 80 1 = nI (acost m lo hi co A n) ∧ ∀ w, w < n → am_i h 81 w = nI (A w))
theorem q_ex_T {T : Nat} (h0 : T ≠ 0) : ∃ t, T.testBit t = true := by
  refine Classical.byContradiction fun w => h0 (Nat.eq_of_testBit_eq fun i => ?_)
  cases e : T.testBit i with
  | false => exact (Nat.zero_testBit _).symm
  | true => exact absurd ⟨i, e⟩ w
set_option maxHeartbeats 4000000 in
theorem c_Ex_run {xs : am_X} {d : Nat} {h : am_H} {n m T TS : Nat} {lo hi co : Nat → Nat} (hd : 12 ≤ d) (hs : sh h) (hg : cg h 3 n m T lo hi) (hc : cco h 3 m co) (hTS : TS < 2 ^ n) {Q : am_Q}
    (HQ : ∀ h', sm [80, 81, 82] h h' → exr h' n m TS lo hi co → Q (.inl none) h') : am_C xs am_P0 d m_Ex_run [.ref 80, .ref 3, .int (nI TS)] h Q := by
  obtain ⟨⟨hk, -⟩, ⟨h0, h1, h2⟩, he, ⟨hn, hm, hT⟩, hw⟩ := id hg
  have hn9 := pow_le9 hn
  have hM : xMAX = 2147483647 := rfl
  refine am_C_le hd (am_enter (d := 11) ap_Ex_run rfl ?_) (fun _ _ k => k)
  refine am_go (fun _ => false) (fun K cal Q' hK hC hQ => ?_)
  refine And.intro (sk_80 hs) (And.intro (sk_80 hs) (And.intro trivial ?_))
  have s0 : sm [80, 81, 82] h (am_pi h 80 1 (nI 0)) := sm.rf.pi (by decide)
  have e81 : am_r (am_pi h 80 1 (nI 0)) 80 0 = 81 := sr_80_0 hs
  show cal 217 [.ref (am_r (am_pi h 80 1 (nI 0)) 80 0), .int (-nI 1)] (am_pi h 80 1 (nI 0)) _
  rw [e81]
  refine hC _ _ _ _ (c_fill (by decide) (sk_81 (s0.sh hs)) (by decide) _ (fun h1' s1 hv1 => ?_))
  have s1' : sm [80, 81, 82] h h1' := s0.tr (s1.mo (by decide))
  have hs1 := s1'.sh hs
  refine And.intro (fun z => ?_) (fun z => ?_)
  · have z : TS = 0 := (nI_eq (by omega) (by omega)).mp (show nI TS = nI 0 from z)
    refine And.intro trivial (hQ _ _ (HQ _ s1' (Or.inl ⟨z, ?_, fun w hw9 => hv1 w (by omega)⟩)))
    rw [s1.i (by decide)]
    exact i_pi_at
  · have z : TS ≠ 0 := fun q => z (by rw [q]; rfl)
    refine And.intro (sk_80 hs1) (And.intro trivial ?_)
    have s2 : sm [80, 81, 82] h (am_pi h1' 80 1 (nI 2147483647)) := s1'.pi (by decide)
    have e0 : nI (acost m lo hi co (fun _ => 0) 0) = nI 0 := by
      congr 1
      have : acost m lo hi co (fun _ => 0) 0 = sumE co (fun _ => false) m := sumE_cong fun e _ => by simp
      rw [this]
      have : ∀ k, sumE co (fun _ => false) k = 0 := fun k => by
        induction k with
        | zero => rfl
        | succ k ih => rw [sumE_s, ih]; rfl
      exact this m
    have X := c_extend (xs := xs) (co := co) (TS := TS) hTS n 0 (fun _ => 0) (am_pi h1' 80 1 (nI 2147483647)) xMAX (fun _ => 0) (fun r h' => r = .inl none ∧ sm [80, 81, 82] h h' ∧ exr h' n m TS lo hi co) (by omega) (s2.sh hs) (hg.mv s2 (by decide) (by decide) (by decide)) (hc.mv s2 (by decide)) ⟨i_pi_at, fun w hw9 => by rw [i_pi_ne (by decide), if_pos rfl]; exact hv1 w (by omega)⟩ (fun w q => absurd q (Nat.not_lt_zero _)) (fun _ => by decide) (fun w q => absurd q (Nat.not_lt_zero _)) ⟨Nat.le_refl _, fun B hB _ => by obtain ⟨u, u1, _⟩ := hB; exact absurd u1 (Nat.not_lt_zero _), Or.inl rfl⟩ (fun h' bc bA s3 hst _ hin => ⟨rfl, s2.tr s3, Or.inr ⟨z, ?_⟩⟩)
    · rw [e0] at X
      refine hC _ _ _ _ (am_C_le (show n + 2 ≤ 11 by omega) X (fun r h' q => ?_))
      obtain ⟨rfl, q2, q3⟩ := q
      exact And.intro trivial (hQ _ _ (HQ _ q2 q3))
    · obtain ⟨t, ht⟩ := q_ex_T z
      have hv : avalid n TS (fun v => if TS.testBit v then v else t) := fun v _ => by
        show TS.testBit (if TS.testBit v then v else t) = true ∧ (TS.testBit v = true → (if TS.testBit v then v else t) = v)
        by_cases q : TS.testBit v = true
        · rw [if_pos q]; exact ⟨q, fun _ => rfl⟩
        · rw [if_neg q]; exact ⟨ht, fun w => absurd w q⟩
      have hle := hin.2.1 _ (Or.inr fun w q => absurd q (Nat.not_lt_zero _)) hv
      have hc9 : acost m lo hi co (fun v => if TS.testBit v then v else t) n ≤ 20 * 9999 := acost_le hm fun e he => (hc e he).2.2
      have hne : bc ≠ xMAX := by omega
      rcases hin.2.2 with q | ⟨a1, a2, a3, a4⟩
      · exact absurd q hne
      · refine ⟨bA, ⟨a2, fun B hB => by rw [← a3]; exact hin.2.1 B (Or.inr fun w q => absurd q (Nat.not_lt_zero _)) hB, fun B hB hlt => by rw [← a3]; exact a4 B (Or.inr fun w q => absurd q (Nat.not_lt_zero _)) hB hlt⟩, by rw [← a3]; exact hst.1, fun w hw9 => ?_⟩
        have := hst.2 w hw9
        rw [if_neg hne] at this
        exact this
end
section
/-! NEAREST TERMINALS -/
def olt (a b : Nat × Nat) : Prop := a.1 < b.1 ∨ (a.1 = b.1 ∧ a.2 < b.2)
/-- an offer over an edge of length w from u to v -/
noncomputable def ofr (S : Nat → Option (Nat × Nat)) (u v w : Nat) : Nat → Option (Nat × Nat) := match S u with
  | none => S
  | some p => fun x => if x = v then (match S v with
    | none => some (p.1 + w, p.2)
    | some q => haveI := Classical.propDecidable (olt (p.1 + w, p.2) q); if olt (p.1 + w, p.2) q then some (p.1 + w, p.2) else some q) else S x
noncomputable def nep (lo hi co : Nat → Nat) (S : Nat → Option (Nat × Nat)) : Nat → Nat → Option (Nat × Nat)
  | 0 => S
  | e + 1 => ofr (ofr (nep lo hi co S e) (lo e) (hi e) (10000 / co e)) (hi e) (lo e) (10000 / co e)
noncomputable def ners (m T : Nat) (lo hi co : Nat → Nat) : Nat → Nat → Option (Nat × Nat)
  | 0 => fun v => if T.testBit v then some (0, v) else none
  | p + 1 => nep lo hi co (ners m T lo hi co p) m
def oG (o : Option (Nat × Nat)) : Int32 := match o with
  | none => -nI 1
  | some p => nI p.2
def oL (o : Option (Nat × Nat)) : Int32 := match o with
  | none => -nI 1
  | some p => nI p.1
def nst (h : am_H) (S : Nat → Option (Nat × Nat)) : Prop := ∀ v, v < 9 → am_i h 84 v = oG (S v) ∧ am_i h 85 v = oL (S v)
def nb (S : Nat → Option (Nat × Nat)) (K : Nat) : Prop := ∀ v p, S v = some p → p.1 ≤ 10000 * K ∧ p.2 < 9
theorem nb.ofr {S : Nat → Option (Nat × Nat)} {K u v w : Nat} (h : nb S K) (hw : w ≤ 10000) : nb (ofr S u v w) (K + 1) := by
  intro x p hp
  unfold Jvm.Pilot.@@N@@.ofr at hp
  cases e : S u with
  | none => rw [e] at hp; have := h x p hp; omega
  | some q =>
    rw [e] at hp
    have hq := h u q e
    dsimp only at hp
    by_cases ex : x = v
    · rw [if_pos ex] at hp
      cases e2 : S v with
      | none => rw [e2] at hp; cases hp; exact ⟨by show q.1 + w ≤ _; omega, hq.2⟩
      | some r =>
        rw [e2] at hp
        have hr := h v r e2
        dsimp only at hp
        split at hp
        · cases hp; exact ⟨by show q.1 + w ≤ _; omega, hq.2⟩
        · cases hp; omega
    · rw [if_neg ex] at hp
      have := h x p hp
      omega
theorem nI_neg1 {k : Nat} (h : k < 2 ^ 31) : ¬ nI k = -nI 1 := fun e => by
  rw [fa_eq, nI_toInt h, nI_m1] at e
  omega
set_option maxHeartbeats 4000000 in
theorem c_offer {xs : am_X} {d : Nat} {h : am_H} (hd : 1 ≤ d) (hs : sh h) {S : Nat → Option (Nat × Nat)} {K : Nat} (hS : nst h S) (hb : nb S K) (hK9 : K < 1000) {u v w : Nat} (hu : u < 9) (hv : v < 9) (hw : w ≤ 10000) {Q : am_Q} (HQ : ∀ h', sm [84, 85] h h' → nst h' (ofr S u v w) → Q (.inl none) h') : am_C xs am_P0 d m_Ne_offer [.ref 83, .int (nI u), .int (nI v), .int (nI w)] h Q := by
  have eU : am_i h (am_r h 83 0) (nI u).toNatClampNeg = oG (S u) := by rw [sr_83_0 hs, q_cl (by omega)]; exact (hS u hu).1
  have eV : am_i h (am_r h 83 0) (nI v).toNatClampNeg = oG (S v) := by rw [sr_83_0 hs, q_cl (by omega)]; exact (hS v hv).1
  have lU : am_i h (am_r h 83 1) (nI u).toNatClampNeg = oL (S u) := by rw [sr_83_1 hs, q_cl (by omega)]; exact (hS u hu).2
  have lV : am_i h (am_r h 83 1) (nI v).toNatClampNeg = oL (S v) := by rw [sr_83_1 hs, q_cl (by omega)]; exact (hS v hv).2
  refine am_C_le hd (am_enter (d := 0) ap_Ne_offer rfl ?_) (fun _ _ k => k)
  refine am_go (fun _ => false) (fun K cal Q' hK hC hQ => ?_)
  have ckg : ∀ {k : Nat}, k < 9 → am_arr h (am_r h 83 0) 2 (nI k) := fun hk => ck_row (sr_83_0 hs) (sk_84 hs) rfl hk (by omega)
  have ckl : ∀ {k : Nat}, k < 9 → am_arr h (am_r h 83 1) 2 (nI k) := fun hk => ck_row (sr_83_1 hs) (sk_85 hs) rfl hk (by omega)
  cases hSu : S u with
  | none =>
    rw [hSu] at eU
    refine And.intro (sk_83 hs) (And.intro (ckg hu) (And.intro (fun z => absurd eU z) (fun _ => ?_)))
    refine And.intro trivial (hQ _ _ (HQ _ sm.rf ?_))
    unfold ofr
    rw [hSu]
    exact hS
  | some p =>
    rw [hSu] at eU lU
    obtain ⟨p1, p2⟩ := hb u p hSu
    have eU : am_i h (am_r h 83 0) (nI u).toNatClampNeg = nI p.2 := eU
    have lU : am_i h (am_r h 83 1) (nI u).toNatClampNeg = nI p.1 := lU
    have eW : am_i h (am_r h 83 1) (nI u).toNatClampNeg + nI w = nI (p.1 + w) := by rw [lU]; exact nI_add _ _
    -- the write
    have wr : (ofr S u v w) = (fun x => if x = v then some (p.1 + w, p.2) else S x) → Q (.inl none) (am_pi (am_pi h (am_r h 83 0) (nI v).toNatClampNeg (am_i h (am_r h 83 0) (nI u).toNatClampNeg)) (am_r h 83 1) (nI v).toNatClampNeg (am_i h (am_r h 83 1) (nI u).toNatClampNeg + nI w)) := by
      intro e
      rw [eU, eW, sr_83_0 hs, sr_83_1 hs, q_cl (by omega)]
      refine HQ _ ((sm.rf.pi (by decide)).pi (by decide)) ?_
      rw [e]
      intro x hx
      rw [i_pi_ne (show (84 : Nat) ≠ 85 by decide), i_pi_same, i_pi_same, i_pi_ne (show (85 : Nat) ≠ 84 by decide)]
      by_cases ex : x = v
      · rw [if_pos ex, if_pos ex]
        simp only [ex, if_true]
        exact ⟨rfl, rfl⟩
      · rw [if_neg ex, if_neg ex]
        simp only [ex, if_false]
        exact hS x hx
    have kp : (ofr S u v w) = S → Q (.inl none) h := fun e => HQ _ sm.rf (by rw [e]; exact hS)
    refine And.intro (sk_83 hs) (And.intro (ckg hu) (And.intro (fun _ => ?_) (fun z => absurd (eU.symm.trans (Classical.not_not.mp z)) (nI_neg1 (by omega)))))
    refine And.intro (sk_83 hs) (And.intro (ckl hu) (And.intro (sk_83 hs) (And.intro (ckg hv) ?_)))
    have ways : ∀ (n : Nat), True := fun _ => trivial
    cases hSv : S v with
    | none =>
      rw [hSv] at eV
      have e9 : ofr S u v w = (fun x => if x = v then some (p.1 + w, p.2) else S x) := by
        unfold ofr
        rw [hSu]
        dsimp only
        rw [hSv]
      refine And.intro (fun _ => ?_) (fun z => absurd eV z)
      refine And.intro (fun _ => ?_) (fun z => absurd (show ¬ nI 1 = 0 by decide) z)
      refine And.intro (sk_83 hs) (And.intro (sk_83 hs) (And.intro (ckg hu) (And.intro (ckg hv) (And.intro (sk_83 hs) (And.intro (ckl hv) (And.intro trivial (hQ _ _ (wr e9))))))))
    | some q =>
      rw [hSv] at eV lV
      obtain ⟨q1, q2⟩ := hb v q hSv
      have eV : am_i h (am_r h 83 0) (nI v).toNatClampNeg = nI q.2 := eV
      have lV : am_i h (am_r h 83 1) (nI v).toNatClampNeg = nI q.1 := lV
      have eY : olt (p.1 + w, p.2) q → ofr S u v w = (fun x => if x = v then some (p.1 + w, p.2) else S x) := by
        intro hlt
        unfold ofr
        rw [hSu]
        dsimp only
        rw [hSv]
        dsimp only
        rw [if_pos hlt]
      have eN : ¬ olt (p.1 + w, p.2) q → ofr S u v w = S := by
        intro hlt
        unfold ofr
        rw [hSu]
        dsimp only
        rw [hSv]
        dsimp only
        rw [if_neg hlt]
        funext x
        by_cases ex : x = v
        · rw [if_pos ex, ex, hSv]
        · rw [if_neg ex]
      have fin : olt (p.1 + w, p.2) q → _ := fun hlt => And.intro (sk_83 hs) (And.intro (sk_83 hs) (And.intro (ckg hu) (And.intro (ckg hv) (And.intro (sk_83 hs) (And.intro (ckl hv) (And.intro trivial (hQ _ _ (wr (eY hlt)))))))))
      refine And.intro (fun z => absurd (eV.symm.trans z) (nI_neg1 (by omega))) (fun _ => ?_)
      refine And.intro (sk_83 hs) (And.intro (ckl hv) ?_)
      refine And.intro (fun z => ?_) (fun z => ?_)
      · have z : nI q.1 ≤ nI (p.1 + w) := by rw [← lV, ← eW]; exact z
        have z := (nI_leI (by omega) (by omega)).mp z
        refine And.intro (fun x => absurd rfl x) (fun _ => ?_)
        refine And.intro (sk_83 hs) (And.intro (ckl hv) ?_)
        refine And.intro (fun y => ?_) (fun y => ?_)
        · have y : ¬ nI (p.1 + w) = nI q.1 := by rw [← lV, ← eW]; exact y
          have y : ¬ p.1 + w = q.1 := fun r => y (congrArg nI r)
          refine And.intro trivial (hQ _ _ (kp (eN fun r => ?_)))
          rcases r with r | r
          · have r : p.1 + w < q.1 := r; omega
          · exact y r.1
        · have y : nI (p.1 + w) = nI q.1 := by rw [← lV, ← eW]; exact Classical.not_not.mp y
          have y := (nI_eq (by omega) (by omega)).mp y
          refine And.intro (sk_83 hs) (And.intro (ckg hu) (And.intro (sk_83 hs) (And.intro (ckg hv) ?_)))
          refine And.intro (fun t => ?_) (fun t => ?_)
          · have t : nI q.2 ≤ nI p.2 := by rw [← eV, ← eU]; exact t
            have t := (nI_leI (by omega) (by omega)).mp t
            refine And.intro trivial (hQ _ _ (kp (eN fun r => ?_)))
            rcases r with r | r
            · have r : p.1 + w < q.1 := r; omega
            · have r : p.2 < q.2 := r.2; omega
          · have t : ¬ nI q.2 ≤ nI p.2 := by rw [← eV, ← eU]; exact t
            have t : p.2 < q.2 := Nat.not_le.mp fun r => t (nI_le r (by omega))
            exact fin (Or.inr ⟨y, t⟩)
      · have z : ¬ nI q.1 ≤ nI (p.1 + w) := by rw [← lV, ← eW]; exact z
        have z : p.1 + w < q.1 := Nat.not_le.mp fun r => z (nI_le r (by omega))
        refine And.intro (fun _ => ?_) (fun x => absurd (show ¬ nI 1 = 0 by decide) x)
        exact fin (Or.inl z)
end
section
/-! NEAREST TERMINALS, the run -/
theorem isT_bit {n T k : Nat} (hT : T < 2 ^ n) (hn : n ≤ 9) (hk : k < 9) : isT n T (nI k) = T.testBit k := by
  cases e : T.testBit k with
  | true => rw [isT_nI (q_T_lt hT e) (by omega)]; exact e
  | false =>
    cases e2 : isT n T (nI k) with
    | false => rfl
    | true =>
      unfold isT at e2
      rw [q_cl (by omega), e, Bool.and_false] at e2
      cases e2
theorem nep_nb {lo hi co : Nat → Nat} {S : Nat → Option (Nat × Nat)} {K : Nat} (h : nb S K) : ∀ e, nb (nep lo hi co S e) (K + 2 * e)
  | 0 => h
  | e + 1 => by
    have a := ((nep_nb (lo := lo) (hi := hi) (co := co) h e).ofr (u := lo e) (v := hi e) (w := 10000 / co e) (Nat.div_le_self _ _)).ofr (u := hi e) (v := lo e) (w := 10000 / co e) (Nat.div_le_self _ _)
    rw [show K + 2 * (e + 1) = K + 2 * e + 1 + 1 by omega]
    exact a
theorem ners_nb {n m T : Nat} {lo hi co : Nat → Nat} (hm : m ≤ 20) (hT : T < 2 ^ n) (hn : n ≤ 9) : ∀ p, nb (ners m T lo hi co p) (40 * p)
  | 0 => fun v q h => by
    have h : (if T.testBit v then some (0, v) else none) = some q := h
    split at h
    · rename_i hv
      cases h
      have := q_T_lt hT hv
      exact ⟨Nat.zero_le _, by show v < 9; omega⟩
    · cases h
  | p + 1 => by
    have a := nep_nb (lo := lo) (hi := hi) (co := co) (ners_nb (m := m) (lo := lo) (hi := hi) (co := co) hm hT hn p) m
    intro v q h
    have := a v q h
    exact ⟨by omega, this.2⟩
theorem nb.up {S : Nat → Option (Nat × Nat)} {K L : Nat} (h : nb S K) (hl : K ≤ L) : nb S L := fun v p e => by
  have := h v p e
  exact ⟨by omega, this.2⟩
set_option maxHeartbeats 4000000 in
theorem c_Ne_run {xs : am_X} {d : Nat} {h : am_H} {n m T : Nat} {lo hi co : Nat → Nat} (hd : 3 ≤ d) (hs : sh h) (hg : cg h 3 n m T lo hi) (hc : cco h 3 m co) {Q : am_Q}
    (HQ : ∀ h', sm [84, 85] h h' → nst h' (ners m T lo hi co (n - 1)) → Q (.inl none) h') : am_C xs am_P0 d m_Ne_run [.ref 83, .ref 3] h Q := by
  obtain ⟨⟨hk, -⟩, ⟨h0, h1, h2⟩, he, ⟨hn, hm, hT⟩, hw⟩ := id hg
  refine am_C_le hd (am_enter (d := 2) ap_Ne_run rfl ?_) (fun _ _ k => k)
  refine am_go (fun p => p == 2) (fun K cal Q' hK hC hQ => hK _ _ _ _ ?_)
  refine am_for 9 (fun i L h' => ∃ v3, L = [.ref 83, .ref 3, .int (nI i), v3] ∧ sm [84, 85] h h' ∧ ∀ v, v < i → am_i h' 84 v = oG (ners m T lo hi co 0 v) ∧ am_i h' 85 v = oL (ners m T lo hi co 0 v)) ?_ ?_ 0 (Nat.zero_le _) _ _ ⟨am_J, rfl, sm.rf, fun v z => absurd z (Nat.not_lt_zero _)⟩
  · rintro i hi9 L h' ⟨v3, rfl, s, hv⟩ next
    have hs' := s.sh hs
    have hg' := hg.mv s (by decide) (by decide) (by decide)
    have eI : am_inc (nI i) (Int.ofNat 1) = nI (i + 1) := nI_1 i
    rw [← eI] at next
    have fin : ∀ (x y : Int32) (v3 : Value), x = oG (ners m T lo hi co 0 i) → y = oL (ners m T lo hi co 0 i) → am_W xs (am_code at_Ne_run) (am_hd ah_Ne_run) (am_C xs am_P0 2) Q 2 [.ref 83, .ref 3, .int (am_inc (nI i) (Int.ofNat 1)), v3] [] (am_pi (am_pi h' (am_r h' 83 0) (nI i).toNatClampNeg x) (am_r h' 83 1) (nI i).toNatClampNeg y) := by
      intro x y v3 hx hy
      rw [sr_83_0 hs', sr_83_1 hs', q_cl (by omega)]
      refine next _ _ ⟨_, rfl, (s.pi (by decide)).pi (by decide), fun v z => ?_⟩
      rw [i_pi_ne (show (84 : Nat) ≠ 85 by decide), i_pi_same, i_pi_same, i_pi_ne (show (85 : Nat) ≠ 84 by decide)]
      by_cases w : v = i
      · rw [if_pos w, if_pos w, w]; exact ⟨hx, hy⟩
      · rw [if_neg w, if_neg w]; exact hv v (by omega)
    refine am_go (fun p => p == 2) (fun K cal Q' hK hC hQ => ?_)
    refine And.intro (fun z => absurd z (q_ge rfl hi9 (by omega))) (fun _ => ?_)
    refine And.intro hg'.1.1 (hC _ _ _ _ (c_isTerminal (by decide) hg' _ ?_))
    rw [isT_bit hT hn hi9]
    have g0 : am_arr h' (am_r h' 83 0) 2 (nI i) := ck_row (sr_83_0 hs') (sk_84 hs') rfl hi9 (by omega)
    have g1 : am_arr h' (am_r h' 83 1) 2 (nI i) := ck_row (sr_83_1 hs') (sk_85 hs') rfl hi9 (by omega)
    have e0 : ners m T lo hi co 0 i = if T.testBit i then some (0, i) else none := rfl
    cases hTi : T.testBit i with
    | false =>
      rw [hTi] at e0
      refine And.intro (sk_83 hs') (And.intro (fun _ => ?_) (fun z => absurd rfl z))
      refine And.intro g0 (And.intro (sk_83 hs') (And.intro (fun _ => ?_) (fun z => absurd rfl z)))
      refine And.intro g1 (hK _ _ _ _ (fin _ _ _ (by rw [e0]; rfl) (by rw [e0]; rfl)))
    | true =>
      rw [hTi] at e0
      refine And.intro (sk_83 hs') (And.intro (fun z => absurd z q_t1) (fun _ => ?_))
      refine And.intro g0 (And.intro (sk_83 hs') (And.intro (fun z => absurd z q_t1) (fun _ => ?_)))
      refine And.intro g1 (hK _ _ _ _ (fin _ _ _ (by rw [e0]; rfl) (by rw [e0]; rfl)))
  · rintro L h' ⟨v3, rfl, s, hv⟩
    refine am_go (fun p => p == 2 || p == 52) (fun K cal Q' hK hC hQ => ?_)
    refine And.intro (fun _ => hK _ _ _ _ ?_) (fun z => absurd (q_le rfl (by omega)) z)
    refine am_for (n - 1) (fun i L h' => ∃ v3, L = [.ref 83, .ref 3, .int (nI (i + 1)), v3] ∧ sm [84, 85] h h' ∧ nst h' (ners m T lo hi co i)) ?_ ?_ 0 (Nat.zero_le _) _ _ ⟨v3, rfl, s, hv⟩
    · rintro i hi9 L h' ⟨v3, rfl, s, hv⟩ next
      have hs' := s.sh hs
      have hg' := hg.mv s (by decide) (by decide) (by decide)
      refine am_go (fun p => p == 52 || p == 62) (fun K cal Q' hK hC hQ => ?_)
      refine And.intro hg'.1.1 (And.intro (fun z => absurd z (q_ge hg'.2.1.1 (by omega) (by omega))) (fun _ => hK _ _ _ _ ?_))
      refine am_for m (fun e L h9 => L = [.ref 83, .ref 3, .int (nI (i + 1)), .int (nI e)] ∧ sm [84, 85] h h9 ∧ nst h9 (nep lo hi co (ners m T lo hi co i) e)) ?_ ?_ 0 (Nat.zero_le _) _ _ ⟨rfl, s, hv⟩
      · rintro e he9 L h9 ⟨rfl, s9, hv9⟩ next2
        have hs9 := s9.sh hs
        have hg9 := hg.mv s9 (by decide) (by decide) (by decide)
        have hc9 := hc.mv s9 (by decide)
        obtain ⟨⟨_, ⟨k1, k2, k3, k4, k5, k6⟩, r3, r4, r5, r6, r7, r8⟩, ⟨g0, g1, g2⟩, ge, _⟩ := id hg9
        obtain ⟨e1, e2⟩ := ge e he9
        obtain ⟨w1, w2⟩ := hw e he9
        have eI : am_inc (nI e) (Int.ofNat 1) = nI (e + 1) := nI_1 e
        rw [← eI] at next2
        have hnb := nep_nb (lo := lo) (hi := hi) (co := co) (ners_nb (m := m) (lo := lo) (hi := hi) (co := co) hm hT hn i) e
        have eA : am_i h9 (am_r h9 3 5) (nI e).toNatClampNeg = nI (lo e) := by rw [r5, q_cl (by omega)]; exact e1
        have eB : am_i h9 (am_r h9 3 6) (nI e).toNatClampNeg = nI (hi e) := by rw [r6, q_cl (by omega)]; exact e2
        refine am_go (fun p => p == 62) (fun K cal Q' hK hC hQ => ?_)
        refine And.intro hg9.1.1 (And.intro (fun z => absurd z (q_ge g1 he9 (by omega))) (fun _ => ?_))
        refine And.intro hg9.1.1 (And.intro (ck_row r5 k3 rfl (by omega) (by omega)) ?_)
        refine And.intro hg9.1.1 (And.intro (ck_row r6 k4 rfl (by omega) (by omega)) ?_)
        refine And.intro hg9.1.1 (hC _ _ _ _ (c_lengthOf (by decide) hg9 hc9 he9 ?_))
        refine And.intro (sk_83 hs9) ?_
        show cal 51 [.ref 83, .int (am_i h9 (am_r h9 3 5) (nI e).toNatClampNeg), .int (am_i h9 (am_r h9 3 6) (nI e).toNatClampNeg), .int (nI (10000 / co e))] h9 _
        rw [eA, eB]
        refine hC _ _ _ _ (c_offer (by decide) hs9 hv9 hnb (by omega) (by omega) (by omega) (Nat.div_le_self _ _) (fun h10 s10 hv10 => ?_))
        have s10' := s9.tr s10
        have hs10 := s10'.sh hs
        have hg10 := hg.mv s10' (by decide) (by decide) (by decide)
        have hc10 := hc.mv s10' (by decide)
        have eA : am_i h10 (am_r h10 3 5) (nI e).toNatClampNeg = nI (lo e) := by rw [(gs_3 hs10).2.2.2.2.1, q_cl (by omega)]; exact (hg10.2.2.1 e he9).1
        have eB : am_i h10 (am_r h10 3 6) (nI e).toNatClampNeg = nI (hi e) := by rw [(gs_3 hs10).2.2.2.2.2.1, q_cl (by omega)]; exact (hg10.2.2.1 e he9).2
        refine And.intro hg10.1.1 (And.intro (ck_row (sr_3_6 hs10) (sk_7 hs10) rfl (by omega) (by omega)) ?_)
        refine And.intro hg10.1.1 (And.intro (ck_row (sr_3_5 hs10) (sk_6 hs10) rfl (by omega) (by omega)) ?_)
        refine And.intro hg10.1.1 (hC _ _ _ _ (c_lengthOf (by decide) hg10 hc10 he9 ?_))
        refine And.intro (sk_83 hs10) ?_
        show cal 51 [.ref 83, .int (am_i h10 (am_r h10 3 6) (nI e).toNatClampNeg), .int (am_i h10 (am_r h10 3 5) (nI e).toNatClampNeg), .int (nI (10000 / co e))] h10 _
        rw [eA, eB]
        refine hC _ _ _ _ (c_offer (by decide) hs10 hv10 (hnb.ofr (Nat.div_le_self _ _)) (by omega) (by omega) (by omega) (Nat.div_le_self _ _) (fun h11 s11 hv11 => ?_))
        exact hK _ _ _ _ (next2 _ _ ⟨rfl, s10'.tr s11, hv11⟩)
      · rintro L h9 ⟨rfl, s9, hv9⟩
        have hg9 := hg.mv s9 (by decide) (by decide) (by decide)
        have eI : am_inc (nI (i + 1)) (Int.ofNat 1) = nI (i + 1 + 1) := nI_1 (i + 1)
        refine am_go (fun p => p == 52) (fun K cal Q' hK hC hQ => ?_)
        exact And.intro hg9.1.1 (And.intro (fun _ => hK _ _ _ _ (next _ _ ⟨_, by rw [← eI]; rfl, s9, hv9⟩)) (fun z => absurd (q_le hg9.2.1.2.1 (by omega)) z))
    · rintro L h' ⟨v3, rfl, s, hv⟩
      have hg' := hg.mv s (by decide) (by decide) (by decide)
      refine am_go (fun p => p == 52) (fun K cal Q' hK hC hQ => ?_)
      refine And.intro hg'.1.1 (And.intro (fun _ => And.intro trivial (hQ _ _ (HQ _ s hv))) (fun z => absurd ?_ z))
      show am_i h' 3 0 ≤ nI (n - 1 + 1)
      rw [hg'.2.1.1]
      exact nI_le (by omega) (by omega)
end
section
/-! THE BEST MOVE -/
/-- vertex, terminal, cost then -/
abbrev mvT : Type := Option (Nat × Nat × Nat)
def setL (lab : Nat → Int32) (v t : Nat) : Nat → Int32 := fun w => if w = v then nI t else lab w
def mvc (m : Nat) (lo hi co : Nat → Nat) (lab : Nat → Int32) (v t : Nat) : Nat := sumE co (dif lo hi (setL lab v t)) m
def mvu (o : mvT) (x : Nat × Nat × Nat) : mvT := match o with
  | none => some x
  | some q => if x.2.2 < q.2.2 then some x else some q
def mv1 (m T : Nat) (lo hi co : Nat → Nat) (lab : Nat → Int32) (v t : Nat) (o : mvT) : mvT :=
  if T.testBit v = false ∧ T.testBit t = true ∧ lab v ≠ nI t then mvu o (v, t, mvc m lo hi co lab v t) else o
def mvr (m T : Nat) (lo hi co : Nat → Nat) (lab : Nat → Int32) (v : Nat) (o : mvT) : Nat → mvT
  | 0 => o
  | t + 1 => mv1 m T lo hi co lab v t (mvr m T lo hi co lab v o t)
def mva (n m T : Nat) (lo hi co : Nat → Nat) (lab : Nat → Int32) : Nat → mvT
  | 0 => none
  | v + 1 => mvr m T lo hi co lab v (mva n m T lo hi co lab v) n
def oV1 (o : mvT) : Int32 := match o with
  | none => -nI 1
  | some q => nI q.1
def oT1 (o : mvT) : Int32 := match o with
  | none => -nI 1
  | some q => nI q.2.1
def oC1 (o : mvT) : Int32 := match o with
  | none => -nI 1
  | some q => nI q.2.2
def mst (h : am_H) (o : mvT) : Prop := am_i h 86 0 = oV1 o ∧ am_i h 86 1 = oT1 o ∧ am_i h 86 2 = oC1 o
def mok (n : Nat) (o : mvT) : Prop := ∀ q, o = some q → q.1 < n ∧ q.2.1 < n ∧ q.2.2 ≤ 20 * 9999
theorem mvc_le {m : Nat} {lo hi co : Nat → Nat} {lab : Nat → Int32} {v t : Nat} (hm : m ≤ 20) (hc : ∀ e, e < m → co e ≤ 9999) : mvc m lo hi co lab v t ≤ 20 * 9999 := Nat.le_trans (sumE_le hc) (Nat.mul_le_mul_right _ hm)
set_option maxHeartbeats 4000000 in
theorem c_consider {xs : am_X} {d : Nat} {h : am_H} {n m T : Nat} {lo hi co : Nat → Nat} {lab : Nat → Int32} (hd : 3 ≤ d) (hs : sh h) (hg : cg h 3 n m T lo hi) (hc : cco h 3 m co) (hl : ∀ v, v < n → am_i h 5 v = lab v) {o : mvT} (hm0 : mst h o) (ho : mok n o) {v t : Nat} (hv : v < n) (ht : t < n) {Q : am_Q}
    (HQ : ∀ h', sm [5, 86] h h' → (∀ w, am_i h' 5 w = am_i h 5 w) → mst h' (mvu o (v, t, mvc m lo hi co lab v t)) → Q (.inl none) h') : am_C xs am_P0 d m_Mv_consider [.ref 86, .ref 3, .int (nI v), .int (nI t)] h Q := by
  obtain ⟨⟨hk, ⟨k1, k2, k3, k4, k5, k6⟩, r3, r4, r5, r6, r7, r8⟩, ⟨h0, h1, h2⟩, he, ⟨hn, hm, hT⟩, hw⟩ := id hg
  refine am_C_le hd (am_enter (d := 2) ap_Mv_consider rfl ?_) (fun _ _ k => k)
  refine am_go (fun _ => false) (fun K cal Q' hK hC hQ => ?_)
  have cl : (nI v).toNatClampNeg = v := q_cl (by omega)
  refine And.intro hk (And.intro (ck_row r4 k2 rfl (by omega) (by omega)) ?_)
  refine And.intro hk (And.intro (ck_row r4 k2 rfl (by omega) (by omega)) ?_)
  have s1 : sm [5, 86] h (am_pi h 5 v (nI t)) := sm.rf.pi (by decide)
  have e4 : am_r h 3 (132 % 64) = 5 := r4
  rw [e4, cl]
  have hs1 := s1.sh hs
  have hg1 := hg.mv s1 (by decide) (by decide) (by decide)
  have hc1 := hc.mv s1 (by decide)
  refine And.intro (sk_3 hs1) (hC _ _ _ _ (c_presentCost (lab := setL lab v t) (by decide) hg1 hc1 (fun w hw9 => ?_) ?_))
  · show am_i (am_pi h 5 v (nI t)) 5 w = _
    rw [i_pi_same]
    unfold setL
    by_cases e : w = v
    · rw [if_pos e, if_pos e]
    · rw [if_neg e, if_neg e]; exact hl w hw9
  have hcl : mvc m lo hi co lab v t ≤ 20 * 9999 := mvc_le hm fun e he => (hc e he).2.2
  show am_ev _ _ _ _ _ _ _ _ _ _ (.int (nI (mvc m lo hi co lab v t)) :: _) _
  refine And.intro (sk_3 hs1) (And.intro (ck_row (sr_3_4 hs1) (sk_5 hs1) rfl (by omega) (by omega)) ?_)
  have e5 : am_r (am_pi h 5 v (nI t)) 3 (132 % 64) = 5 := r4
  rw [e5, cl]
  generalize hh2 : am_pi (am_pi h 5 v (nI t)) 5 v (am_i h 5 v) = h2'
  have s2 : sm [5, 86] h h2' := by rw [← hh2]; exact s1.pi (by decide)
  have hs2 := s2.sh hs
  have h5 : ∀ w, am_i h2' 5 w = am_i h 5 w := by
    intro w
    rw [← hh2, i_pi_same, i_pi_same]
    by_cases e : w = v
    · rw [if_pos e, e]
    · rw [if_neg e, if_neg e]
  have m2 : mst h2' o := by
    rw [← hh2]
    unfold mst
    rw [i_pi_ne (show (86 : Nat) ≠ 5 by decide), i_pi_ne (show (86 : Nat) ≠ 5 by decide)]
    exact hm0
  -- the write
  have wr : mvu o (v, t, mvc m lo hi co lab v t) = some (v, t, mvc m lo hi co lab v t) → Q (.inl none) (am_pi (am_pi (am_pi h2' 86 (320 % 64) (nI v)) 86 (321 % 64) (nI t)) 86 (322 % 64) (nI (mvc m lo hi co lab v t))) := by
    intro e
    refine HQ _ (((s2.pi (by decide)).pi (by decide)).pi (by decide)) (fun w => ?_) ?_
    · rw [i_pi_ne (by decide), i_pi_ne (by decide), i_pi_ne (by decide)]; exact h5 w
    · rw [e]
      refine ⟨?_, ?_, ?_⟩
      · rw [i_pi_k (by decide), i_pi_k (by decide)]; exact i_pi_at
      · rw [i_pi_k (by decide)]; exact i_pi_at
      · exact i_pi_at
  have kp : mvu o (v, t, mvc m lo hi co lab v t) = o → Q (.inl none) h2' := fun e => HQ _ s2 h5 (by rw [e]; exact m2)
  cases o with
  | none =>
    refine And.intro (sk_86 hs2) (And.intro (fun _ => ?_) (fun z => absurd m2.1 z))
    exact And.intro (sk_86 hs2) (And.intro (sk_86 hs2) (And.intro (sk_86 hs2) (And.intro trivial (hQ _ _ (wr rfl)))))
  | some q =>
    obtain ⟨q1, q2, q3⟩ := ho q rfl
    refine And.intro (sk_86 hs2) (And.intro (fun z => absurd (m2.1.symm.trans z) (nI_neg1 (by omega))) (fun _ => ?_))
    refine And.intro (sk_86 hs2) (And.intro (fun z => ?_) (fun z => ?_))
    · have z : nI q.2.2 ≤ nI (mvc m lo hi co lab v t) := by rw [← show am_i h2' 86 2 = nI q.2.2 from m2.2.2]; exact z
      have z := (nI_leI (by omega) (by omega)).mp z
      exact And.intro trivial (hQ _ _ (kp (if_neg fun r => by have r : mvc m lo hi co lab v t < q.2.2 := r; omega)))
    · have z : ¬ nI q.2.2 ≤ nI (mvc m lo hi co lab v t) := by rw [← show am_i h2' 86 2 = nI q.2.2 from m2.2.2]; exact z
      have z := Nat.not_le.mp fun r => z (nI_le r (by omega))
      exact And.intro (sk_86 hs2) (And.intro (sk_86 hs2) (And.intro (sk_86 hs2) (And.intro trivial (hQ _ _ (wr (if_pos z))))))
theorem mvu_ok {n : Nat} {o : mvT} {x : Nat × Nat × Nat} (ho : mok n o) (h1 : x.1 < n) (h2 : x.2.1 < n) (h3 : x.2.2 ≤ 20 * 9999) : mok n (mvu o x) := by
  intro q hq
  unfold mvu at hq
  split at hq
  · cases hq; exact ⟨h1, h2, h3⟩
  · split at hq
    · cases hq; exact ⟨h1, h2, h3⟩
    · cases hq; exact ho _ rfl
theorem mv1_ok {n m T : Nat} {lo hi co : Nat → Nat} {lab : Nat → Int32} {v t : Nat} {o : mvT} (hm : m ≤ 20) (hc : ∀ e, e < m → co e ≤ 9999) (ho : mok n o) (hv : v < n) (ht : t < n) : mok n (mv1 m T lo hi co lab v t o) := by
  unfold mv1
  split
  · exact mvu_ok ho hv ht (mvc_le hm hc)
  · exact ho
theorem mvr_ok {n m T : Nat} {lo hi co : Nat → Nat} {lab : Nat → Int32} {v : Nat} {o : mvT} (hm : m ≤ 20) (hc : ∀ e, e < m → co e ≤ 9999) (ho : mok n o) (hv : v < n) : ∀ t, t ≤ n → mok n (mvr m T lo hi co lab v o t)
  | 0, _ => ho
  | t + 1, h => mv1_ok hm hc (mvr_ok hm hc ho hv t (by omega)) hv (by omega)
theorem mva_ok {n m T : Nat} {lo hi co : Nat → Nat} {lab : Nat → Int32} (hm : m ≤ 20) (hc : ∀ e, e < m → co e ≤ 9999) : ∀ v, v ≤ n → mok n (mva n m T lo hi co lab v)
  | 0, _ => fun q h => by cases h
  | v + 1, h => mvr_ok hm hc (mva_ok hm hc v (by omega)) (by omega) n (Nat.le_refl _)
set_option maxHeartbeats 4000000 in
theorem c_Mv_run {xs : am_X} {d : Nat} {h : am_H} {n m T : Nat} {lo hi co : Nat → Nat} {lab : Nat → Int32} (hd : 4 ≤ d) (hs : sh h) (hg : cg h 3 n m T lo hi) (hc : cco h 3 m co) (hl : ∀ v, v < n → am_i h 5 v = lab v) {Q : am_Q}
    (HQ : ∀ h', sm [5, 86] h h' → (∀ w, am_i h' 5 w = am_i h 5 w) → mst h' (mva n m T lo hi co lab n) → Q (.inl none) h') : am_C xs am_P0 d m_Mv_run [.ref 86, .ref 3] h Q := by
  obtain ⟨⟨hk, -⟩, ⟨h0, h1, h2⟩, he, ⟨hn, hm, hT⟩, hw⟩ := id hg
  have hcl : ∀ e, e < m → co e ≤ 9999 := fun e he => (hc e he).2.2
  refine am_C_le hd (am_enter (d := 3) ap_Mv_run rfl ?_) (fun _ _ k => k)
  refine am_go (fun p => p == 17) (fun K cal Q' hK hC hQ => ?_)
  refine And.intro (sk_86 hs) (And.intro (sk_86 hs) (And.intro (sk_86 hs) (hK _ _ _ _ ?_)))
  have s0 : sm [5, 86] h (am_pi (am_pi (am_pi h 86 (320 % 64) (-nI 1)) 86 (321 % 64) (-nI 1)) 86 (322 % 64) (-nI 1)) := ((sm.rf.pi (by decide)).pi (by decide)).pi (by decide)
  refine am_for n (fun i L h' => ∃ v3, L = [.ref 86, .ref 3, .int (nI i), v3] ∧ sm [5, 86] h h' ∧ (∀ w, am_i h' 5 w = am_i h 5 w) ∧ mst h' (mva n m T lo hi co lab i)) ?_ ?_ 0 (Nat.zero_le _) _ _ ⟨am_J, rfl, s0, fun w => by rw [i_pi_ne (by decide), i_pi_ne (by decide), i_pi_ne (by decide)], ?_, ?_, ?_⟩
  · rintro i hi9 L h' ⟨v3, rfl, s, h5, hst⟩ next
    have hg' := hg.mv s (by decide) (by decide) (by decide)
    refine am_go (fun p => p == 17 || p == 27) (fun K cal Q' hK hC hQ => ?_)
    refine And.intro hg'.1.1 (And.intro (fun z => absurd z (q_ge hg'.2.1.1 hi9 (by omega))) (fun _ => hK _ _ _ _ ?_))
    refine am_for n (fun t L h9 => L = [.ref 86, .ref 3, .int (nI i), .int (nI t)] ∧ sm [5, 86] h h9 ∧ (∀ w, am_i h9 5 w = am_i h 5 w) ∧ mst h9 (mvr m T lo hi co lab i (mva n m T lo hi co lab i) t)) ?_ ?_ 0 (Nat.zero_le _) _ _ ⟨rfl, s, h5, hst⟩
    · rintro t ht9 L h9 ⟨rfl, s9, h59, hst9⟩ next2
      have hs9 := s9.sh hs
      have hg9 := hg.mv s9 (by decide) (by decide) (by decide)
      have hc9 := hc.mv s9 (by decide)
      have hl9 : ∀ v, v < n → am_i h9 5 v = lab v := fun v z => (h59 v).trans (hl v z)
      have eI : am_inc (nI t) (Int.ofNat 1) = nI (t + 1) := nI_1 t
      rw [← eI] at next2
      have hok := mvr_ok (T := T) (lo := lo) (hi := hi) (lab := lab) hm hcl (mva_ok (T := T) (lo := lo) (hi := hi) (lab := lab) hm hcl i (by omega)) hi9 t (by omega)
      have skip : ¬ (T.testBit i = false ∧ T.testBit t = true ∧ lab i ≠ nI t) → am_W xs (am_code at_Mv_run) (am_hd ah_Mv_run) (am_C xs am_P0 3) Q 27 [.ref 86, .ref 3, .int (nI i), .int (am_inc (nI t) (Int.ofNat 1))] [] h9 := fun z => next2 _ _ ⟨rfl, s9, h59, by rw [mvr, mv1, if_neg z]; exact hst9⟩
      refine am_go (fun p => p == 27) (fun K cal Q' hK hC hQ => ?_)
      refine And.intro hg9.1.1 (And.intro (fun z => absurd z (q_ge hg9.2.1.1 ht9 (by omega))) (fun _ => ?_))
      refine And.intro hg9.1.1 (hC _ _ _ _ (c_isTerminal (by decide) hg9 _ ?_))
      rw [isT_nI hi9 (by omega)]
      cases hTi : T.testBit i with
      | true =>
        refine And.intro (fun _ => ?_) (fun z => absurd q_t1 z)
        exact hK _ _ _ _ (skip fun z => by rw [hTi] at z; cases z.1)
      | false =>
        refine And.intro (fun z => absurd rfl z) (fun _ => ?_)
        refine And.intro hg9.1.1 (hC _ _ _ _ (c_isTerminal (by decide) hg9 _ ?_))
        rw [isT_nI ht9 (by omega)]
        cases hTt : T.testBit t with
        | false =>
          refine And.intro (fun _ => ?_) (fun z => absurd rfl z)
          exact hK _ _ _ _ (skip fun z => by rw [hTt] at z; cases z.2.1)
        | true =>
          refine And.intro (fun z => absurd z q_t1) (fun _ => ?_)
          refine And.intro hg9.1.1 (And.intro (ck_row (sr_3_4 hs9) (sk_5 hs9) rfl (by omega) (by omega)) ?_)
          have eL : am_i h9 (am_r h9 3 4) (nI i).toNatClampNeg = lab i := by rw [sr_3_4 hs9, q_cl (by omega)]; exact hl9 i hi9
          refine And.intro (fun z => ?_) (fun z => ?_)
          · have z : lab i = nI t := eL.symm.trans z
            exact hK _ _ _ _ (skip fun q => q.2.2 z)
          · have z : lab i ≠ nI t := fun q => z (eL.trans q)
            refine And.intro (sk_86 hs9) (hC _ _ _ _ (c_consider (by decide) hs9 hg9 hc9 hl9 hst9 hok hi9 ht9 (fun h10 s10 h510 hst10 => ?_)))
            exact hK _ _ _ _ (next2 _ _ ⟨rfl, s9.tr s10, fun w => (h510 w).trans (h59 w), by rw [mvr, mv1, if_pos ⟨hTi, hTt, z⟩]; exact hst10⟩)
    · rintro L h9 ⟨rfl, s9, h59, hst9⟩
      have hg9 := hg.mv s9 (by decide) (by decide) (by decide)
      have eI : am_inc (nI i) (Int.ofNat 1) = nI (i + 1) := nI_1 i
      refine am_go (fun p => p == 17) (fun K cal Q' hK hC hQ => ?_)
      exact And.intro hg9.1.1 (And.intro (fun _ => hK _ _ _ _ (next _ _ ⟨_, by rw [← eI]; rfl, s9, h59, hst9⟩)) (fun z => absurd (q_le hg9.2.1.1 (by omega)) z))
  · rintro L h' ⟨v3, rfl, s, h5, hst⟩
    have hg' := hg.mv s (by decide) (by decide) (by decide)
    refine am_go (fun p => p == 17) (fun K cal Q' hK hC hQ => ?_)
    exact And.intro hg'.1.1 (And.intro (fun _ => And.intro trivial (hQ _ _ (HQ _ s h5 hst))) (fun z => absurd (q_le hg'.2.1.1 (by omega)) z))
  · rw [i_pi_k (by decide), i_pi_k (by decide)]; exact i_pi_at
  · rw [i_pi_k (by decide)]; exact i_pi_at
  · exact i_pi_at
/-- whether the best move improves -/
def mvi (m : Nat) (lo hi co : Nat → Nat) (lab : Nat → Int32) (o : mvT) : Bool := match o with
  | none => false
  | some q => decide (q.2.2 < sumE co (dif lo hi lab) m)
def mvl (lab : Nat → Int32) (o : mvT) : Nat → Int32 := match o with
  | none => lab
  | some q => setL lab q.1 q.2.1
set_option maxHeartbeats 4000000 in
theorem c_makeImprovement {xs : am_X} {d : Nat} {h : am_H} {n m T : Nat} {lo hi co : Nat → Nat} {lab : Nat → Int32} (hd : 5 ≤ d) (hs : sh h) (hg : cg h 3 n m T lo hi) (hc : cco h 3 m co) (hl : ∀ v, v < n → am_i h 5 v = lab v) {Q : am_Q}
    (HQ : ∀ h', sm [5, 86] h h' → (∀ v, v < n → am_i h' 5 v = if mvi m lo hi co lab (mva n m T lo hi co lab n) = true then mvl lab (mva n m T lo hi co lab n) v else lab v) → Q (.inl (some (.int (bI (mvi m lo hi co lab (mva n m T lo hi co lab n)))))) h') : am_C xs am_P0 d m_Mv_makeImprovement [.ref 86, .ref 3] h Q := by
  obtain ⟨⟨hk, -⟩, ⟨h0, h1, h2⟩, he, ⟨hn, hm, hT⟩, hw⟩ := id hg
  have hcl : ∀ e, e < m → co e ≤ 9999 := fun e he => (hc e he).2.2
  refine am_C_le hd (am_enter (d := 4) ap_Mv_makeImprovement rfl ?_) (fun _ _ k => k)
  refine am_go (fun _ => false) (fun K cal Q' hK hC hQ => ?_)
  refine And.intro (sk_86 hs) (hC _ _ _ _ (c_Mv_run (by decide) hs hg hc hl (fun h1' s h5 hst => ?_)))
  have hok := mva_ok (T := T) (lo := lo) (hi := hi) (lab := lab) hm hcl n (Nat.le_refl _)
  generalize mva n m T lo hi co lab n = o at HQ hst hok
  have hs1 := s.sh hs
  have hg1 := hg.mv s (by decide) (by decide) (by decide)
  have hc1 := hc.mv s (by decide)
  have hl1 : ∀ v, v < n → am_i h1' 5 v = lab v := fun v z => (h5 v).trans (hl v z)
  have hsc : sumE co (dif lo hi lab) m ≤ 20 * 9999 := Nat.le_trans (sumE_le hcl) (Nat.mul_le_mul_right _ hm)
  cases o with
  | none =>
    refine And.intro (sk_86 hs1) (And.intro (fun _ => And.intro (Or.inl rfl) (hQ _ _ (HQ _ s fun v z => ?_))) (fun z => absurd hst.1 z))
    exact (hl1 v z).trans (if_neg Bool.false_ne_true).symm
  | some q =>
    obtain ⟨q1, q2, q3⟩ := hok q rfl
    refine And.intro (sk_86 hs1) (And.intro (fun z => absurd (hst.1.symm.trans z) (nI_neg1 (by omega))) (fun _ => ?_))
    refine And.intro (sk_86 hs1) (And.intro (sk_3 hs1) (hC _ _ _ _ (c_presentCost (by decide) hg1 hc1 hl1 ?_)))
    have eC : am_i h1' 86 2 = nI q.2.2 := hst.2.2
    refine And.intro (fun z => ?_) (fun z => ?_)
    · have z : nI q.2.2 < nI (sumE co (dif lo hi lab) m) := by rw [← eC]; exact z
      have z := (nI_ltI (by omega) (by omega)).mp z
      have e9 : mvi m lo hi co lab (some q) = true := decide_eq_true z
      rw [e9] at HQ
      refine And.intro (sk_3 hs1) (And.intro (sk_86 hs1) (And.intro (sk_86 hs1) ?_))
      have eV : am_i h1' 86 0 = nI q.1 := hst.1
      have eT : am_i h1' 86 1 = nI q.2.1 := hst.2.1
      have e4 : am_r h1' 3 4 = 5 := sr_3_4 hs1
      refine And.intro (ck_row e4 (sk_5 hs1) eV (by omega) (by omega)) (And.intro (Or.inr rfl) (hQ _ _ ?_))
      show Q _ (am_pi h1' (am_r h1' 3 4) (am_i h1' 86 0).toNatClampNeg (am_i h1' 86 1))
      rw [e4, eV, eT, q_cl (by omega)]
      refine HQ _ (s.pi (by decide)) fun v z => ?_
      rw [if_pos rfl, i_pi_same]
      show _ = setL lab q.1 q.2.1 v
      unfold setL
      by_cases e : v = q.1
      · rw [if_pos e, if_pos e]
      · rw [if_neg e, if_neg e]; exact hl1 v z
    · have z : ¬ nI q.2.2 < nI (sumE co (dif lo hi lab) m) := by rw [← eC]; exact z
      have e9 : mvi m lo hi co lab (some q) = false := decide_eq_false fun r => z (nI_lt r (by omega))
      rw [e9] at HQ
      refine And.intro (Or.inl rfl) (hQ _ _ (HQ _ s fun v z => ?_))
      rw [if_neg (by decide)]
      exact hl1 v z
end
section
/-! GRAPH: the cost expression -/
/-- codes behind one another: what they leave on the pile -/
def foOp (c : Int) (x y : Int) : Int := max (-1000000) (min 1000000 (if c = -4 then x + y else if c = -5 then x - y else if c = -6 then x * y else if y = 0 then 0 else x.tdiv y))
def foVal (w l g : Int) (c : Int) : Int := if c = -1 then w else if c = -2 then l else if c = -3 then g else c
/-- one code on a pile (its top first) -/
def foPop (f : Int → Int → Int) : List Int → List Int
  | y :: x :: P => f x y :: P
  | P => P
def foStep (w l g : Int) (c : Int) (P : List Int) : List Int := if c ≤ -4 then foPop (foOp c) P else foVal w l g c :: P
def foRun (w l g : Int) : List Int → List Int → List Int
  | [], P => P
  | c :: cs, P => foRun w l g cs (foStep w l g c P)
/-- codes that are well made: from a pile of height k they come to one of height j, never above 11; an operation finds two -/
def foOk : List Int → Nat → Nat → Prop
  | [], k, j => k = j
  | c :: cs, k, j => (-7 ≤ c ∧ c ≤ 9999) ∧ (if c ≤ -4 then 2 ≤ k ∧ foOk cs (k - 1) j else k < 11 ∧ foOk cs (k + 1) j)
theorem foOp_rng (c x y : Int) : -1000000 ≤ foOp c x y ∧ foOp c x y ≤ 1000000 := by
  unfold foOp
  omega
set_option maxHeartbeats 4000000 in
theorem c_operand {xs : am_X} {d : Nat} {h : am_H} (hd : 1 ≤ d) {c w l g : Int32} {ci wi li gi : Int} (hc : c.toInt = ci) (hw : w.toInt = wi) (hl : l.toInt = li) (hg : g.toInt = gi) {Q : am_Q} (HQ : ∀ r : Int32, r.toInt = foVal wi li gi ci → Q (.inl (some (.int r))) h) : am_C xs am_P0 d m_Fo_operand [.int c, .int w, .int l, .int g] h Q := by
  have e1 : (-nI 1 : Int32).toInt = -1 := by decide
  have e2 : (-nI 2 : Int32).toInt = -2 := by decide
  have e3 : (-nI 3 : Int32).toInt = -3 := by decide
  refine am_C_le hd (am_enter (d := 0) ap_Fo_operand rfl ?_) (fun _ _ k => k)
  refine am_go (fun _ => false) (fun K cal Q' hK hC hQ => ?_)
  unfold foVal at HQ
  refine And.intro (fun z => ?_) (fun z => ?_)
  · have z : ci ≠ -1 := fun q => z ((fa_eq _ _).mpr (by rw [hc, e1, q]))
    rw [if_neg z] at HQ
    refine And.intro (fun z2 => ?_) (fun z2 => ?_)
    · have z2 : ci ≠ -2 := fun q => z2 ((fa_eq _ _).mpr (by rw [hc, e2, q]))
      rw [if_neg z2] at HQ
      refine And.intro (fun z3 => ?_) (fun z3 => ?_)
      · have z3 : ci ≠ -3 := fun q => z3 ((fa_eq _ _).mpr (by rw [hc, e3, q]))
        rw [if_neg z3] at HQ
        exact And.intro trivial (hQ _ _ (HQ _ hc))
      · have z3 : ci = -3 := by rw [← hc, ← e3]; exact (fa_eq _ _).mp (Classical.not_not.mp z3)
        rw [if_pos z3] at HQ
        exact And.intro trivial (hQ _ _ (HQ _ hg))
    · have z2 : ci = -2 := by rw [← hc, ← e2]; exact (fa_eq _ _).mp (Classical.not_not.mp z2)
      rw [if_pos z2] at HQ
      exact And.intro trivial (hQ _ _ (HQ _ hl))
  · have z : ci = -1 := by rw [← hc, ← e1]; exact (fa_eq _ _).mp (Classical.not_not.mp z)
    rw [if_pos z] at HQ
    exact And.intro trivial (hQ _ _ (HQ _ hw))
end
section
/-! THE COST EXPRESSION, on the machine -/
theorem q_L (x : Int32) : x.toInt64.toInt = x.toInt := Int32.toInt_toInt64 x
theorem q_clampL {z : Int64} : (if (if z < lN 1000000 then z else lN 1000000) < Int64.ofInt (Int.negSucc 999999) then Int64.ofInt (Int.negSucc 999999) else (if z < lN 1000000 then z else lN 1000000)).toInt32.toInt = max (-1000000) (min 1000000 z.toInt) := by
  have e1 : (lN 1000000).toInt = 1000000 := by decide +kernel
  have e2 : (Int64.ofInt (Int.negSucc 999999)).toInt = -1000000 := by decide +kernel
  rw [Int64.toInt_toInt32]
  have key : (if (if z < lN 1000000 then z else lN 1000000) < Int64.ofInt (Int.negSucc 999999) then Int64.ofInt (Int.negSucc 999999) else (if z < lN 1000000 then z else lN 1000000)).toInt = max (-1000000) (min 1000000 z.toInt) := by
    by_cases h : z < lN 1000000
    · rw [if_pos h]
      rw [fa_lt64, e1] at h
      by_cases h2 : z < Int64.ofInt (Int.negSucc 999999)
      · rw [if_pos h2, e2]; rw [fa_lt64, e2] at h2; omega
      · rw [if_neg h2]; rw [fa_lt64, e2] at h2; omega
    · rw [if_neg h]
      rw [fa_lt64, e1] at h
      rw [if_neg (by rw [fa_lt64, e1, e2]; omega), e1]
      omega
  rw [key]
  exact fb_bmod (by omega) (by omega)
set_option maxHeartbeats 4000000 in
theorem c_combine {xs : am_X} {d : Nat} {h : am_H} (hd : 1 ≤ d) {c x y : Int32} {ci xi yi : Int} (hc : c.toInt = ci) (hx : x.toInt = xi) (hy : y.toInt = yi) (bx : -1000000 ≤ xi ∧ xi ≤ 1000000) (by9 : -1000000 ≤ yi ∧ yi ≤ 1000000) {Q : am_Q} (HQ : ∀ r : Int32, r.toInt = foOp ci xi yi → Q (.inl (some (.int r))) h) : am_C xs am_P0 d m_Fo_combine [.int c, .int x, .int y] h Q := by
  have e4 : (-nI 4 : Int32).toInt = -4 := by decide
  have e5 : (-nI 5 : Int32).toInt = -5 := by decide
  have e6 : (-nI 6 : Int32).toInt = -6 := by decide
  refine am_C_le hd (am_enter (d := 0) ap_Fo_combine rfl ?_) (fun _ _ k => k)
  refine am_go (fun _ => false) (fun K cal Q' hK hC hQ => ?_)
  unfold foOp at HQ
  refine And.intro (fun z => ?_) (fun z => ?_)
  · have z : ci ≠ -4 := fun q => z ((fa_eq _ _).mpr (by rw [hc, e4, q]))
    rw [if_neg z] at HQ
    refine And.intro (fun z2 => ?_) (fun z2 => ?_)
    · have z2 : ci ≠ -5 := fun q => z2 ((fa_eq _ _).mpr (by rw [hc, e5, q]))
      rw [if_neg z2] at HQ
      refine And.intro (fun z3 => ?_) (fun z3 => ?_)
      · have z3 : ci ≠ -6 := fun q => z3 ((fa_eq _ _).mpr (by rw [hc, e6, q]))
        rw [if_neg z3] at HQ
        refine And.intro (fun z4 => ?_) (fun z4 => ?_)
        · have z4 : yi = 0 := by rw [← hy]; exact (fa_eq _ _).mp z4
          rw [if_pos z4] at HQ
          refine And.intro trivial (hQ _ _ (HQ _ ?_))
          exact q_clampL.trans rfl
        · have z4' : yi ≠ 0 := fun q => z4 ((fa_eq _ _).mpr (by rw [hy, q]; rfl))
          rw [if_neg z4'] at HQ
          refine And.intro z4 (And.intro trivial (hQ _ _ (HQ _ ?_)))
          refine q_clampL.trans ?_
          congr 2
          show (x / y).toInt64.toInt = _
          rw [q_L, Int32.toInt_div, hx, hy]
          have := Int.natAbs_tdiv_le_natAbs xi yi
          exact fb_bmod (by omega) (by omega)
      · have z3 : ci = -6 := by rw [← hc, ← e6]; exact (fa_eq _ _).mp (Classical.not_not.mp z3)
        rw [if_pos z3] at HQ
        refine And.intro trivial (hQ _ _ (HQ _ ?_))
        refine q_clampL.trans ?_
        congr 2
        have hb : -1000000000000 ≤ xi * yi ∧ xi * yi ≤ 1000000000000 := q_mul6 bx by9
        show (x.toInt64 * y.toInt64).toInt = _
        rw [fb_mulL (by rw [q_L, q_L, hx, hy]; omega) (by rw [q_L, q_L, hx, hy]; omega), q_L, q_L, hx, hy]
    · have z2 : ci = -5 := by rw [← hc, ← e5]; exact (fa_eq _ _).mp (Classical.not_not.mp z2)
      rw [if_pos z2] at HQ
      refine And.intro trivial (hQ _ _ (HQ _ ?_))
      refine q_clampL.trans ?_
      congr 2
      show (x.toInt64 - y.toInt64).toInt = _
      rw [fb_subL (by rw [q_L, q_L, hx, hy]; omega) (by rw [q_L, q_L, hx, hy]; omega), q_L, q_L, hx, hy]
  · have z : ci = -4 := by rw [← hc, ← e4]; exact (fa_eq _ _).mp (Classical.not_not.mp z)
    rw [if_pos z] at HQ
    refine And.intro trivial (hQ _ _ (HQ _ ?_))
    refine q_clampL.trans ?_
    congr 2
    show (x.toInt64 + y.toInt64).toInt = _
    rw [fb_addL (by rw [q_L, q_L, hx, hy]; omega) (by rw [q_L, q_L, hx, hy]; omega), q_L, q_L, hx, hy]
/-- a formula's cells: its codes -/
def fcs (h : am_H) (F : Nat) (cs : List Int) : Prop := am_k h F = (1, 1) ∧ am_r h F 0 = F + 1 ∧ am_r h F 1 = F + 2 ∧ am_k h (F + 1) = (2, cs.length) ∧ am_k h (F + 2) = (2, 11) ∧ (∀ k, k < cs.length → (am_i h (F + 1) k).toInt = cs.getD k 0) ∧ cs.length < 700
def foEv (cs : List Int) (w l g : Int) : Int := (foRun w l g cs []).headD 0
def pileAt (P : List Int) (j : Nat) : Int := P.getD (P.length - 1 - j) 0
theorem pileAt_cons {P : List Int} {v : Int} {j : Nat} (hj : j < P.length + 1) : pileAt (v :: P) j = if j = P.length then v else pileAt P j := by
  unfold pileAt
  rw [List.length_cons]
  by_cases e : j = P.length
  · rw [if_pos e, e]; simp
  · rw [if_neg e, show P.length + 1 - 1 - j = (P.length - 1 - j) + 1 by omega]; rfl
theorem foVal_rng {w l g c : Int} (hw : 0 ≤ w ∧ w ≤ 99) (hl : 0 ≤ l ∧ l ≤ 99) (hg : 0 ≤ g ∧ g ≤ 99) (hc : -4 < c ∧ c ≤ 9999) : -1000000 ≤ foVal w l g c ∧ foVal w l g c ≤ 1000000 := by
  unfold foVal
  split
  · omega
  · split
    · omega
    · split <;> omega
set_option maxHeartbeats 8000000 in
theorem c_evaluate {xs : am_X} {d : Nat} {h : am_H} {F : Nat} {cs : List Int} (hd : 2 ≤ d) (hF : fcs h F cs) (hok : foOk cs 0 1) {w l g : Int32} {wi li gi : Int} (hw : w.toInt = wi) (hl : l.toInt = li) (hg : g.toInt = gi) (bw : 0 ≤ wi ∧ wi ≤ 99) (bl : 0 ≤ li ∧ li ≤ 99) (bg : 0 ≤ gi ∧ gi ≤ 99) {Q : am_Q}
    (HQ : ∀ h' (r : Int32), sm [F + 2] h h' → r.toInt = foEv cs wi li gi → Q (.inl (some (.int r))) h') : am_C xs am_P0 d m_Fo_evaluate [.ref F, .int w, .int l, .int g] h Q := by
  obtain ⟨kF, rC, rW, kC, kW, hcs, hlen⟩ := hF
  refine am_C_le hd (am_enter (d := 1) ap_Fo_evaluate rfl ?_) (fun _ _ k => k)
  refine am_go (fun p => p == 6) (fun K cal Q' hK hC hQ => hK _ _ _ _ ?_)
  have nC : F + 1 ∉ [F + 2] := fun z => by have := List.mem_singleton.mp z; omega
  have nF : F ∉ [F + 2] := fun z => by have := List.mem_singleton.mp z; omega
  refine am_for cs.length (fun i L h' => ∃ (P : List Int) (v6 : Value), L = [.ref F, .int w, .int l, .int g, .int (nI P.length), .int (nI i), v6] ∧ sm [F + 2] h h' ∧ P.length ≤ 11 ∧ (∀ j, j < P.length → (am_i h' (F + 2) j).toInt = pileAt P j) ∧ (∀ z ∈ P, -1000000 ≤ z ∧ z ≤ 1000000) ∧ foOk (cs.drop i) P.length 1 ∧ foRun wi li gi (cs.drop i) P = foRun wi li gi cs []) ?_ ?_ 0 (Nat.zero_le _) _ _ ⟨[], am_J, rfl, sm.rf, Nat.zero_le _, fun j z => absurd z (Nat.not_lt_zero _), (fun z hz => absurd hz List.not_mem_nil), hok, rfl⟩
  · rintro i hi9 L h' ⟨P, v6, rfl, s, hPl, hPw, hPb, hok9, hrun⟩ next
    have kF' := (s.k F).trans kF
    have rC' := (s.r F 0).trans rC
    have rW' := (s.r F 1).trans rW
    have kC' := (s.k (F + 1)).trans kC
    have kW' := (s.k (F + 2)).trans kW
    have hd9 : cs.drop i = cs.getD i 0 :: cs.drop (i + 1) := by
      rw [List.drop_eq_getElem_cons hi9]
      congr 1
      rw [List.getD_eq_getElem?_getD, List.getElem?_eq_getElem hi9]
      rfl
    rw [hd9] at hok9 hrun
    have eI : am_inc (nI i) (Int.ofNat 1) = nI (i + 1) := nI_1 i
    rw [← eI] at next
    generalize hcv : cs.getD i 0 = cv at hok9 hrun
    have hcode : (am_i h' (am_r h' F 0) (nI i).toNatClampNeg).toInt = cv := by rw [rC', q_cl (by omega), s.i nC, hcs i hi9, hcv]
    have e4 : (-nI 4 : Int32).toInt = -4 := by decide
    refine am_go (fun p => p == 6) (fun K cal Q' hK hC hQ => ?_)
    refine And.intro kF' (And.intro ⟨by rw [rC', kC']; exact Nat.le_refl 2, by rw [rC', kC']; exact (by decide : 2 ≤ 6)⟩ ?_)
    have eN : nI (am_k h' (am_r h' F 0)).2 = nI cs.length := by rw [rC', kC']
    refine And.intro (fun z => absurd (show nI cs.length ≤ nI i from eN ▸ z) (nI_ge hi9 (by omega))) (fun _ => ?_)
    refine And.intro kF' (And.intro (ck_row rC' kC' rfl hi9 (by omega)) ?_)
    generalize am_i h' (am_r h' F 0) (nI i).toNatClampNeg = code at hcode
    have rng := hok9.1
    by_cases hop : cv ≤ -4
    · have hok2 := hok9.2
      rw [if_pos hop] at hok2
      obtain ⟨h2k, hok2⟩ := hok2
      have hstep : foStep wi li gi cv P = foPop (foOp cv) P := if_pos hop
      rcases P with _ | ⟨y, _ | ⟨x, P0⟩⟩
      · exact absurd h2k (show ¬ 2 ≤ 0 by decide)
      · exact absurd h2k (show ¬ 2 ≤ 1 by decide)
      · have by9 := hPb y (List.mem_cons_self)
        have bx9 := hPb x (List.mem_cons_of_mem _ List.mem_cons_self)
        have lP : (y :: x :: P0).length = P0.length + 2 := rfl
        rw [lP] at hPl hPw h2k hok2
        refine And.intro (fun z => absurd z ?_) (fun _ => ?_)
        · show ¬ (-nI 4 < code)
          rw [fa_lt, hcode, e4]; omega
        · refine And.intro (fun z => absurd z ?_) (fun _ => ?_)
          · show ¬ nI (P0.length + 2) < nI 2
            exact nI_nlt (by omega) (by omega)
          · refine And.intro kF' (And.intro kF' ?_)
            have eD : am_inc (nI (y :: x :: P0).length) (Int.negSucc 0) = nI (P0.length + 1) := nI_pred (P0.length + 1)
            have eD2 : am_inc (nI (y :: x :: P0).length) (Int.negSucc 0) - nI 1 = nI P0.length := by rw [eD]; exact nI_pred P0.length
            refine And.intro (ck_row rW' kW' eD2 (by omega) (by omega)) ?_
            refine And.intro kF' (And.intro (ck_row rW' kW' eD (by omega) (by omega)) ?_)
            refine And.intro trivial ?_
            have vx : (am_i h' (am_r h' F 1) (am_inc (nI (y :: x :: P0).length) (Int.negSucc 0) - nI 1).toNatClampNeg).toInt = x := by
              rw [eD2, rW', q_cl (by omega), hPw _ (by omega), pileAt_cons (by rw [List.length_cons]; omega), if_neg (by rw [List.length_cons]; omega), pileAt_cons (by omega), if_pos rfl]
            have vy : (am_i h' (am_r h' F 1) (am_inc (nI (y :: x :: P0).length) (Int.negSucc 0)).toNatClampNeg).toInt = y := by
              rw [eD, rW', q_cl (by omega), hPw _ (by omega), pileAt_cons (by rw [List.length_cons]; omega), if_pos (by rw [List.length_cons])]
            refine hC _ _ _ _ (c_combine (by decide) hcode vx vy bx9 by9 (fun r hr => ?_))
            refine And.intro (ck_row rW' kW' eD2 (by omega) (by omega)) ?_
            refine hK _ _ _ _ (next _ _ ⟨foOp cv x y :: P0, .int code, ?_, ?_, ?_, ?_, ?_, ?_, ?_⟩)
            · rw [show (foOp cv x y :: P0).length = P0.length + 1 from rfl, ← eD]; rfl
            · rw [show am_r h' F (65 % 64) = F + 2 from rW']; exact s.pi (List.mem_singleton.mpr rfl)
            · rw [List.length_cons]; omega
            · intro j hj
              rw [List.length_cons] at hj
              rw [show am_r h' F (65 % 64) = F + 2 from rW', eD2, q_cl (by omega), i_pi_same, pileAt_cons (by omega)]
              by_cases e : j = P0.length
              · rw [if_pos e, if_pos e]; exact hr
              · rw [if_neg e, if_neg e, hPw j (by omega), pileAt_cons (by rw [List.length_cons]; omega), if_neg (by rw [List.length_cons]; omega), pileAt_cons (by omega), if_neg e]
            · intro z hz
              rcases List.mem_cons.mp hz with rfl | hz
              · exact foOp_rng _ _ _
              · exact hPb z (List.mem_cons_of_mem _ (List.mem_cons_of_mem _ hz))
            · rw [List.length_cons]; exact hok2
            · rw [← hrun]
              show foRun _ _ _ _ _ = foRun _ _ _ _ (foStep wi li gi cv (y :: x :: P0))
              rw [hstep]
              rfl
    · have hok2 := hok9.2
      rw [if_neg hop] at hok2
      obtain ⟨hk11, hok2⟩ := hok2
      have hstep : foStep wi li gi cv P = foVal wi li gi cv :: P := if_neg hop
      refine And.intro (fun _ => ?_) (fun z => absurd ?_ z)
      rotate_left
      · show -nI 4 < code
        rw [fa_lt, hcode, e4]; omega
      refine And.intro (fun z => absurd z ?_) (fun _ => ?_)
      · show ¬ code ≤ -nI 4
        rw [fa_le, hcode, e4]; omega
      refine And.intro (fun z => absurd z (nI_ge hk11 (by omega))) (fun _ => ?_)
      refine And.intro kF' (And.intro trivial (hC _ _ _ _ (c_operand (by decide) hcode hw hl hg (fun r hr => ?_))))
      refine And.intro (ck_row rW' kW' rfl hk11 (by omega)) ?_
      refine hK _ _ _ _ (next _ _ ⟨foVal wi li gi cv :: P, .int code, ?_, ?_, ?_, ?_, ?_, ?_, ?_⟩)
      · rw [List.length_cons, ← nI_1 P.length]; rfl
      · rw [show am_r h' F (65 % 64) = F + 2 from rW']; exact s.pi (List.mem_singleton.mpr rfl)
      · rw [List.length_cons]; omega
      · intro j hj
        rw [List.length_cons] at hj
        rw [show am_r h' F (65 % 64) = F + 2 from rW', q_cl (by omega), i_pi_same, pileAt_cons hj]
        by_cases e : j = P.length
        · rw [if_pos e, if_pos e]; exact hr
        · rw [if_neg e, if_neg e]; exact hPw j (by omega)
      · intro z hz
        rcases List.mem_cons.mp hz with rfl | hz
        · exact foVal_rng bw bl bg ⟨by omega, by omega⟩
        · exact hPb z hz
      · rw [List.length_cons]; exact hok2
      · rw [← hrun]
        show foRun _ _ _ _ _ = foRun _ _ _ _ (foStep wi li gi cv P)
        rw [hstep]
  · rintro L h' ⟨P, v6, rfl, s, hPl, hPw, hPb, hok9, hrun⟩
    have kF' := (s.k F).trans kF
    have rC' := (s.r F 0).trans rC
    have rW' := (s.r F 1).trans rW
    have kC' := (s.k (F + 1)).trans kC
    have kW' := (s.k (F + 2)).trans kW
    rw [List.drop_length] at hok9 hrun
    have h1 : P.length = 1 := hok9
    have hP : ∃ z, P = [z] := List.length_eq_one_iff.mp h1
    obtain ⟨z, rfl⟩ := hP
    refine am_go (fun p => p == 6) (fun K cal Q' hK hC hQ => ?_)
    refine And.intro kF' (And.intro ⟨by rw [rC', kC']; exact Nat.le_refl 2, by rw [rC', kC']; exact (by decide : 2 ≤ 6)⟩ ?_)
    have eN : nI (am_k h' (am_r h' F 0)).2 = nI cs.length := by rw [rC', kC']
    refine And.intro (fun _ => ?_) (fun q => absurd (show nI (am_k h' (am_r h' F 0)).2 ≤ nI cs.length by rw [eN]; exact nI_le (Nat.le_refl _) (by omega)) q)
    refine And.intro kF' (And.intro (ck_row rW' kW' (e := 0) rfl (by decide) (by decide)) (And.intro trivial (hQ _ _ (HQ _ _ s ?_))))
    show (am_i h' (am_r h' F 1) (nI 0).toNatClampNeg).toInt = _
    rw [rW', q_cl (by decide), hPw 0 Nat.one_pos]
    unfold foEv
    rw [← hrun]
    rfl
end
section
/-! GRAPH: writes -/
theorem cg.gs {h : am_H} {a n m T : Nat} {lo hi : Nat → Nat} (hg : cg h a n m T lo hi) : gs h a := hg.1
/-- the cost of an edge: by its codes, if there are any -/
def coF (cs : Option (List Int)) (w l g : Nat) : Nat := match cs with
  | none => w
  | some cs => (max 1 (min 9999 (foEv cs w l g))).toNat
/-- the formula of a graph -/
def gfo (h : am_H) (a : Nat) (cs : Option (List Int)) : Prop := match cs with
  | none => am_r h a 9 = 0
  | some cs => 105 ≤ am_r h a 9 ∧ fcs h (am_r h a 9) cs ∧ foOk cs 0 1
theorem q_clamp {v : Int32} {z : Int} (hv : v.toInt = z) : (if nI 1 < (if v < nI 9999 then v else nI 9999) then (if v < nI 9999 then v else nI 9999) else nI 1) = nI (max 1 (min 9999 z)).toNat := by
  have e1 : (nI 9999).toInt = 9999 := by decide
  have e2 : (nI 1).toInt = 1 := by decide
  rw [fa_eq, nI_toInt (by omega)]
  by_cases h : v < nI 9999
  · rw [if_pos h]
    rw [fa_lt, e1, hv] at h
    by_cases h2 : nI 1 < v
    · rw [if_pos h2, hv]; rw [fa_lt, e2, hv] at h2; omega
    · rw [if_neg h2, e2]; rw [fa_lt, e2, hv] at h2; omega
  · rw [if_neg h]
    rw [fa_lt, e1, hv] at h
    rw [if_pos (by decide), e1]
    omega
def gfX (h : am_H) (a : Nat) (cs : Option (List Int)) : List Nat := match cs with
  | none => [a + 6]
  | some _ => [a + 6, am_r h a 9 + 2]
set_option maxHeartbeats 4000000 in
theorem c_updateCost {xs : am_X} {d : Nat} {h : am_H} {a e w l g lo hi : Nat} {cs : Option (List Int)} (hd : 3 ≤ d) (ha : a + 6 < 105) (hg : gs h a) (hf : gfo h a cs) (he : e < 20) (hlo : am_i h (a + 3) e = nI lo) (hhi : am_i h (a + 4) e = nI hi) (hw : am_i h (a + 5) e = nI w) (hl : am_i h (a + 1) lo = nI l) (hh : am_i h (a + 1) hi = nI g) (b1 : lo < 9) (b2 : hi < 9) (b3 : 1 ≤ w ∧ w ≤ 99) (b4 : l ≤ 99) (b5 : g ≤ 99) {Q : am_Q}
    (HQ : ∀ h', sm (gfX h a cs) h h' → (∀ k, am_i h' (a + 6) k = if k = e then nI (coF cs w l g) else am_i h (a + 6) k) → Q (.inl none) h') : am_C xs am_P0 d m_Gr_updateCost [.ref a, .int (nI e)] h Q := by
  obtain ⟨hk, ⟨k1, k2, k3, k4, k5, k6⟩, r3, r4, r5, r6, r7, r8⟩ := hg
  refine am_C_le hd (am_enter (d := 2) ap_Gr_updateCost rfl ?_) (fun _ _ k => k)
  refine am_go (fun p => p == 45) (fun K cal Q' hK hC hQ => ?_)
  refine And.intro hk (And.intro (ck_row r7 k5 rfl he (by omega)) (And.intro hk ?_))
  have cl : (nI e).toNatClampNeg = e := q_cl (by omega)
  have eW : am_i h (am_r h a 7) (nI e).toNatClampNeg = nI w := by rw [r7, cl]; exact hw
  have fin : ∀ (v : Int32) (h1 : am_H), sm (gfX h a cs) h h1 → (∀ k, am_i h1 (a + 6) k = am_i h (a + 6) k) → (if nI 1 < (if v < nI 9999 then v else nI 9999) then (if v < nI 9999 then v else nI 9999) else nI 1) = nI (coF cs w l g) → am_W xs (am_code at_Gr_updateCost) (am_hd ah_Gr_updateCost) (am_C xs am_P0 2) Q 45 [.ref a, .int (nI e), .int v] [] h1 := by
    intro v h1 s h6 hv
    refine am_go (fun _ => false) (fun K cal Q' hK hC hQ => ?_)
    refine And.intro ((s.k a).trans hk) (And.intro (ck_row ((s.r a 8).trans r8) ((s.k _).trans k6) rfl he (by omega)) (And.intro trivial (hQ _ _ ?_)))
    rw [show am_r h1 a (136 % 64) = a + 6 from (s.r a 8).trans r8, cl, hv]
    refine HQ _ (s.pi (by cases cs <;> exact List.mem_cons_self)) (fun k => ?_)
    rw [i_pi_same]
    by_cases q : k = e
    · rw [if_pos q, if_pos q]
    · rw [if_neg q, if_neg q]; exact h6 k
  cases cs with
  | none =>
    have hf : am_r h a 9 = 0 := hf
    refine And.intro (fun _ => hK _ _ _ _ ?_) (fun z => absurd hf z)
    have := fin (nI w) h sm.rf (fun _ => rfl) ?_
    · rw [← eW] at this; exact this
    · rw [q_clamp (nI_toInt (by omega))]
      congr 1
      show _ = w
      omega
  | some cs =>
    obtain ⟨hF, hcs, hok⟩ := hf
    refine And.intro (fun z => absurd (show am_r h a 9 = 0 from z) (by omega)) (fun _ => ?_)
    have eL : am_i h (am_r h a 5) (nI e).toNatClampNeg = nI lo := by rw [r5, cl]; exact hlo
    have eH : am_i h (am_r h a 6) (nI e).toNatClampNeg = nI hi := by rw [r6, cl]; exact hhi
    refine And.intro hk (And.intro hk (And.intro hk (And.intro (ck_row r5 k3 rfl he (by omega)) ?_)))
    refine And.intro (ck_row r3 k1 eL b1 (by omega)) ?_
    refine And.intro hk (And.intro hk (And.intro (ck_row r6 k4 rfl he (by omega)) ?_))
    refine And.intro (ck_row r3 k1 eH b2 (by omega)) ?_
    have vL : am_i h (am_r h a 3) (am_i h (am_r h a 5) (nI e).toNatClampNeg).toNatClampNeg = nI l := by rw [eL, r3, q_cl (by omega)]; exact hl
    have vH : am_i h (am_r h a 3) (am_i h (am_r h a 6) (nI e).toNatClampNeg).toNatClampNeg = nI g := by rw [eH, r3, q_cl (by omega)]; exact hh
    refine And.intro hcs.1 (hC _ _ _ _ (c_evaluate (by decide) hcs hok (wi := w) (li := l) (gi := g) (by rw [eW]; exact nI_toInt (by omega)) (by rw [vL]; exact nI_toInt (by omega)) (by rw [vH]; exact nI_toInt (by omega)) (by omega) (by omega) (by omega) (fun h1 r s hr => ?_)))
    have n6 : a + 6 ∉ [am_r h a 9 + 2] := fun z => by have := List.mem_singleton.mp z; omega
    refine hK _ _ _ _ (fin r h1 (s.mo fun x hx => ?_) (fun k => s.i n6 k) ?_)
    · exact List.mem_cons_of_mem _ hx
    · exact q_clamp hr
set_option maxHeartbeats 4000000 in
theorem c_putEdge {xs : am_X} {d : Nat} {h : am_H} {a m : Nat} (hd : 1 ≤ d) (hg : gs h a) (hm : am_i h a 1 = nI m) (hm20 : m < 20) {u v w : Nat} (hu : u < 9) (hv : v < 9) {Q : am_Q}
    (HQ : ∀ h', sm [a, a + 3, a + 4, a + 5] h h' → (∀ k, am_i h' a k = if k = 1 then nI (m + 1) else am_i h a k) → (∀ k, am_i h' (a + 3) k = if k = m then nI (Nat.min u v) else am_i h (a + 3) k) → (∀ k, am_i h' (a + 4) k = if k = m then nI (Nat.max u v) else am_i h (a + 4) k) → (∀ k, am_i h' (a + 5) k = if k = m then nI w else am_i h (a + 5) k) → Q (.inl none) h') : am_C xs am_P0 d m_Gr_putEdge [.ref a, .int (nI u), .int (nI v), .int (nI w)] h Q := by
  obtain ⟨hk, ⟨k1, k2, k3, k4, k5, k6⟩, r3, r4, r5, r6, r7, r8⟩ := hg
  have eMin : (if nI v < nI u then nI v else nI u) = nI (Nat.min u v) := by
    by_cases q : v < u
    · rw [if_pos (nI_lt q (by omega))]; congr 1; exact (Nat.min_eq_right (by omega)).symm
    · rw [if_neg (nI_nlt (by omega) (by omega))]; congr 1; exact (Nat.min_eq_left (by omega)).symm
  have eMax : (if nI u < nI v then nI v else nI u) = nI (Nat.max u v) := by
    by_cases q : u < v
    · rw [if_pos (nI_lt q (by omega))]; congr 1; exact (Nat.max_eq_right (by omega)).symm
    · rw [if_neg (nI_nlt (by omega) (by omega))]; congr 1; exact (Nat.max_eq_left (by omega)).symm
  refine am_C_le hd (am_enter (d := 0) ap_Gr_putEdge rfl ?_) (fun _ _ k => k)
  refine am_go (fun _ => false) (fun K cal Q' hK hC hQ => ?_)
  refine And.intro hk (And.intro (fun _ => ?_) (fun z => absurd ?_ z))
  rotate_left
  · show am_i h a 1 < nI 20
    rw [hm]; exact nI_lt hm20 (by omega)
  refine And.intro hk (And.intro hk (And.intro (ck_row r5 k3 hm hm20 (by omega)) ?_))
  have m1 : (am_i h a 1).toNatClampNeg = m := by rw [hm]; exact q_cl (by omega)
  have e3 : am_r h a (133 % 64) = a + 3 := r5
  have m1' : (am_i h a (129 % 64)).toNatClampNeg = m := m1
  rw [e3, m1', eMin]
  have na : a ≠ a + 3 := by omega
  have hm1 : am_i (am_pi h (a + 3) m (nI (Nat.min u v))) a 1 = nI m := by rw [i_pi_ne na]; exact hm
  refine And.intro hk (And.intro hk (And.intro (ck_row r6 k4 hm1 hm20 (by omega)) ?_))
  have e4 : am_r (am_pi h (a + 3) m (nI (Nat.min u v))) a (134 % 64) = a + 4 := r6
  have m2 : (am_i (am_pi h (a + 3) m (nI (Nat.min u v))) a (129 % 64)).toNatClampNeg = m := by rw [show am_i (am_pi h (a + 3) m (nI (Nat.min u v))) a (129 % 64) = nI m from hm1]; exact q_cl (by omega)
  rw [e4, m2, eMax]
  have hm2 : am_i (am_pi (am_pi h (a + 3) m (nI (Nat.min u v))) (a + 4) m (nI (Nat.max u v))) a 1 = nI m := by rw [i_pi_ne (by omega)]; exact hm1
  refine And.intro hk (And.intro hk (And.intro (ck_row r7 k5 hm2 hm20 (by omega)) ?_))
  have e5 : am_r (am_pi (am_pi h (a + 3) m (nI (Nat.min u v))) (a + 4) m (nI (Nat.max u v))) a (135 % 64) = a + 5 := r7
  have m3 : (am_i (am_pi (am_pi h (a + 3) m (nI (Nat.min u v))) (a + 4) m (nI (Nat.max u v))) a (129 % 64)).toNatClampNeg = m := by rw [show am_i (am_pi (am_pi h (a + 3) m (nI (Nat.min u v))) (a + 4) m (nI (Nat.max u v))) a (129 % 64) = nI m from hm2]; exact q_cl (by omega)
  rw [e5, m3]
  have hm3 : am_i (am_pi (am_pi (am_pi h (a + 3) m (nI (Nat.min u v))) (a + 4) m (nI (Nat.max u v))) (a + 5) m (nI w)) a 1 = nI m := by rw [i_pi_ne (by omega)]; exact hm2
  refine And.intro hk (And.intro hk (And.intro trivial (hQ _ _ ?_)))
  have e9 : am_i (am_pi (am_pi (am_pi h (a + 3) m (nI (Nat.min u v))) (a + 4) m (nI (Nat.max u v))) (a + 5) m (nI w)) a (129 % 64) + nI 1 = nI (m + 1) := by rw [show am_i (am_pi (am_pi (am_pi h (a + 3) m (nI (Nat.min u v))) (a + 4) m (nI (Nat.max u v))) (a + 5) m (nI w)) a (129 % 64) = nI m from hm3]; exact nI_add m 1
  rw [e9]
  refine HQ _ ((((sm.rf.pi (by simp)).pi (by simp)).pi (by simp)).pi (by simp)) (fun k => ?_) (fun k => ?_) (fun k => ?_) (fun k => ?_)
  · rw [i_pi_same, i_pi_ne (by omega), i_pi_ne (by omega), i_pi_ne (by omega)]
  · rw [i_pi_ne (by omega), i_pi_ne (by omega), i_pi_ne (by omega), i_pi_same]
  · rw [i_pi_ne (by omega), i_pi_ne (by omega), i_pi_same, i_pi_ne (by omega)]
  · rw [i_pi_ne (by omega), i_pi_same, i_pi_ne (by omega), i_pi_ne (by omega)]
end
section
/-! GRAPH: writes, 2 -/
set_option maxHeartbeats 4000000 in
theorem c_startTerminal {xs : am_X} {d : Nat} {h : am_H} {a T v : Nat} (hd : 1 ≤ d) (hg : gs h a) (hT : am_i h a 2 = nI T) (hv : v < 9) {Q : am_Q}
    (HQ : ∀ h', sm [a, a + 2] h h' → (∀ k, am_i h' a k = if k = 2 then nI (T ||| 2 ^ v) else am_i h a k) → (∀ k, am_i h' (a + 2) k = if k = v then nI v else am_i h (a + 2) k) → Q (.inl none) h') : am_C xs am_P0 d m_Gr_startTerminal [.ref a, .int (nI v)] h Q := by
  obtain ⟨hk, ⟨k1, k2, k3, k4, k5, k6⟩, r3, r4, r5, r6, r7, r8⟩ := hg
  refine am_C_le hd (am_enter (d := 0) ap_Gr_startTerminal rfl ?_) (fun _ _ k => k)
  refine am_go (fun _ => false) (fun K cal Q' hK hC hQ => ?_)
  have e1 : am_i h a (130 % 64) ||| (nI 1 <<< (nI v &&& 31)) = nI (T ||| 2 ^ v) := by rw [show am_i h a (130 % 64) = nI T from hT]; exact q_orb (by omega)
  refine And.intro hk (And.intro hk (And.intro hk (And.intro (ck_row r4 k2 rfl hv (by omega)) (And.intro trivial (hQ _ _ ?_)))))
  rw [e1, show am_r (am_pi h a (130 % 64) (nI (T ||| 2 ^ v))) a (132 % 64) = a + 2 from r4, q_cl (by omega)]
  refine HQ _ ((sm.rf.pi (by simp)).pi (by simp)) (fun k => ?_) (fun k => ?_)
  · rw [i_pi_ne (by omega), i_pi_same]
  · rw [i_pi_same, i_pi_ne (by omega)]
set_option maxHeartbeats 4000000 in
theorem c_endTerminal {xs : am_X} {d : Nat} {h : am_H} {a n T v : Nat} (hd : 1 ≤ d) (hg : gs h a) (hn : am_i h a 0 = nI n) (hn9 : n ≤ 9) (hT : am_i h a 2 = nI T) (hv : v < 9) {Q : am_Q}
    (HQ : ∀ h', sm [a, a + 2] h h' → (∀ k, am_i h' a k = if k = 2 then nI (andn T (2 ^ v)) else am_i h a k) → (∀ k, k < n → am_i h' (a + 2) k = if am_i h (a + 2) k = nI v then -nI 1 else am_i h (a + 2) k) → Q (.inl none) h') : am_C xs am_P0 d m_Gr_endTerminal [.ref a, .int (nI v)] h Q := by
  obtain ⟨hk, ⟨k1, k2, k3, k4, k5, k6⟩, r3, r4, r5, r6, r7, r8⟩ := hg
  refine am_C_le hd (am_enter (d := 0) ap_Gr_endTerminal rfl ?_) (fun _ _ k => k)
  refine am_go (fun p => p == 16) (fun K cal Q' hK hC hQ => ?_)
  have e1 : am_i h a (130 % 64) &&& ((nI 1 <<< (nI v &&& 31)) ^^^ -nI 1) = nI (andn T (2 ^ v)) := by rw [show am_i h a (130 % 64) = nI T from hT, q_shl v (by omega)]; exact q_andn _ _
  refine And.intro hk (And.intro hk ?_)
  rw [e1]
  refine hK _ _ _ _ ?_
  have s0 : sm [a, a + 2] h (am_pi h a (130 % 64) (nI (andn T (2 ^ v)))) := sm.rf.pi (by simp)
  have h20 : ∀ k, am_i (am_pi h a (130 % 64) (nI (andn T (2 ^ v)))) (a + 2) k = am_i h (a + 2) k := fun k => by rw [i_pi_ne (by omega)]
  refine am_for n (fun i L h' => L = [.ref a, .int (nI v), .int (nI i)] ∧ sm [a, a + 2] h h' ∧ (∀ k, am_i h' a k = if k = 2 then nI (andn T (2 ^ v)) else am_i h a k) ∧ ∀ k, am_i h' (a + 2) k = if k < i ∧ am_i h (a + 2) k = nI v then -nI 1 else am_i h (a + 2) k) ?_ ?_ 0 (Nat.zero_le _) _ _ ⟨rfl, s0, fun k => by rw [i_pi_same], fun k => by rw [h20, if_neg fun q => absurd q.1 (Nat.not_lt_zero _)]⟩
  · rintro i hi9 L h' ⟨rfl, s, hA, hv9⟩ next
    have eI : am_inc (nI i) (Int.ofNat 1) = nI (i + 1) := nI_1 i
    rw [← eI] at next
    have r4' : am_r h' a 4 = a + 2 := (s.r a 4).trans r4
    have k2' := (s.k (a + 2)).trans k2
    have hk' := (s.k a).trans hk
    have hn' : am_i h' a 0 = nI n := by rw [hA, if_neg (by decide)]; exact hn
    have hcur : am_i h' (am_r h' a 4) (nI i).toNatClampNeg = am_i h (a + 2) i := by rw [r4', q_cl (by omega), hv9, if_neg fun q => absurd q.1 (Nat.lt_irrefl _)]
    refine am_go (fun p => p == 16) (fun K cal Q' hK hC hQ => ?_)
    refine And.intro hk' (And.intro (fun z => absurd z (q_ge hn' hi9 (by omega))) (fun _ => ?_))
    refine And.intro hk' (And.intro (ck_row r4' k2' rfl (by omega) (by omega)) ?_)
    refine And.intro (fun z => ?_) (fun z => ?_)
    · have z : ¬ am_i h (a + 2) i = nI v := fun q => z (hcur.trans q)
      refine hK _ _ _ _ (next _ _ ⟨rfl, s, hA, fun k => ?_⟩)
      rw [hv9]
      by_cases w : k = i
      · rw [w, if_neg fun q => z q.2, if_neg fun q => z q.2]
      · have : (k < i + 1) ↔ (k < i) := by omega
        simp only [this]
    · have z : am_i h (a + 2) i = nI v := hcur.symm.trans (Classical.not_not.mp z)
      refine And.intro hk' (And.intro (ck_row r4' k2' rfl (by omega) (by omega)) ?_)
      rw [show am_r h' a (132 % 64) = a + 2 from r4', q_cl (by omega)]
      refine hK _ _ _ _ (next _ _ ⟨rfl, s.pi (by simp), fun k => by rw [i_pi_ne (by omega)]; exact hA k, fun k => ?_⟩)
      rw [i_pi_same, hv9]
      by_cases w : k = i
      · rw [if_pos w, w, if_pos ⟨by omega, z⟩]
      · rw [if_neg w]
        have : (k < i + 1) ↔ (k < i) := by omega
        simp only [this]
  · rintro L h' ⟨rfl, s, hA, hv9⟩
    have hn' : am_i h' a 0 = nI n := by rw [hA, if_neg (by decide)]; exact hn
    refine am_go (fun p => p == 16) (fun K cal Q' hK hC hQ => ?_)
    refine And.intro ((s.k a).trans hk) (And.intro (fun _ => And.intro trivial (hQ _ _ (HQ _ s hA fun k z => ?_))) (fun z => absurd (q_le hn' (by omega)) z))
    rw [hv9]
    simp only [z, true_and]
set_option maxHeartbeats 4000000 in
theorem c_takeLabels {xs : am_X} {d : Nat} {h : am_H} {a n b : Nat} (hd : 1 ≤ d) (hg : gs h a) (hn : am_i h a 0 = nI n) (hn9 : n ≤ 9) (hb : am_k h b = (2, 9)) (hba : b ≠ a + 2) {Q : am_Q}
    (HQ : ∀ h', sm [a + 2] h h' → (∀ k, k < n → am_i h' (a + 2) k = am_i h b k) → Q (.inl none) h') : am_C xs am_P0 d m_Gr_takeLabels [.ref a, .ref b] h Q := by
  obtain ⟨hk, ⟨k1, k2, k3, k4, k5, k6⟩, r3, r4, r5, r6, r7, r8⟩ := hg
  refine am_C_le hd (am_enter (d := 0) ap_Gr_takeLabels rfl ?_) (fun _ _ k => k)
  refine am_go (fun p => p == 2) (fun K cal Q' hK hC hQ => hK _ _ _ _ ?_)
  have na : a ∉ [a + 2] := fun z => by have := List.mem_singleton.mp z; omega
  have nb : b ∉ [a + 2] := fun z => hba (List.mem_singleton.mp z)
  refine am_for n (fun i L h' => L = [.ref a, .ref b, .int (nI i)] ∧ sm [a + 2] h h' ∧ ∀ k, k < i → am_i h' (a + 2) k = am_i h b k) ?_ ?_ 0 (Nat.zero_le _) _ _ ⟨rfl, sm.rf, fun k z => absurd z (Nat.not_lt_zero _)⟩
  · rintro i hi9 L h' ⟨rfl, s, hv9⟩ next
    have eI : am_inc (nI i) (Int.ofNat 1) = nI (i + 1) := nI_1 i
    rw [← eI] at next
    have r4' : am_r h' a 4 = a + 2 := (s.r a 4).trans r4
    have k2' := (s.k (a + 2)).trans k2
    have hk' := (s.k a).trans hk
    have hb' := (s.k b).trans hb
    have hn' : am_i h' a 0 = nI n := (s.i na 0).trans hn
    refine am_go (fun p => p == 2) (fun K cal Q' hK hC hQ => ?_)
    refine And.intro hk' (And.intro (fun z => absurd z (q_ge hn' hi9 (by omega))) (fun _ => ?_))
    refine And.intro ⟨by rw [hb']; exact Nat.le_refl 2, by rw [hb']; exact (by decide : 2 ≤ 6)⟩ (And.intro (fun z => absurd z ?_) (fun _ => ?_))
    · show ¬ nI (am_k h' b).2 ≤ nI i
      rw [hb']
      exact nI_ge (show i < 9 by omega) (by omega)
    · refine And.intro hk' (And.intro (ck_arr hb' rfl (by omega) (by omega)) (And.intro (ck_row r4' k2' rfl (by omega) (by omega)) ?_))
      rw [show am_r h' a (132 % 64) = a + 2 from r4', q_cl (by omega), s.i nb]
      refine hK _ _ _ _ (next _ _ ⟨rfl, s.pi (by simp), fun k z => ?_⟩)
      rw [i_pi_same]
      by_cases w : k = i
      · rw [if_pos w, w]
      · rw [if_neg w]; exact hv9 k (by omega)
  · rintro L h' ⟨rfl, s, hv9⟩
    have hn' : am_i h' a 0 = nI n := (s.i na 0).trans hn
    refine am_go (fun p => p == 2) (fun K cal Q' hK hC hQ => ?_)
    exact And.intro ((s.k a).trans hk) (And.intro (fun _ => And.intro trivial (hQ _ _ (HQ _ s hv9))) (fun z => absurd (q_le hn' (by omega)) z))
end
section
/-! GRAPH: copies -/
/-- only the ints of the cells X and one reference field of a have changed -/
def smf (X : List Nat) (a : Nat) (h h' : am_H) : Prop := h'.1 = h.1 ∧ (∀ x k, ¬ (x = a ∧ k = 9) → am_r h' x k = am_r h x k) ∧ (am_n h' = am_n h ∧ am_cs h' = am_cs h) ∧ ∀ x, x ∉ X → am_i h' x = am_i h x ∧ am_l h' x = am_l h x
theorem smf.of {X : List Nat} {a : Nat} {h h' : am_H} (s : sm X h h') : smf X a h h' := ⟨s.1, fun x k _ => s.r x k, ⟨s.n, s.cs⟩, s.2.2⟩
theorem smf.tr {X : List Nat} {a : Nat} {h h1 h2 : am_H} (s : smf X a h h1) (t : smf X a h1 h2) : smf X a h h2 := ⟨t.1.trans s.1, fun x k z => (t.2.1 x k z).trans (s.2.1 x k z), ⟨t.2.2.1.1.trans s.2.2.1.1, t.2.2.1.2.trans s.2.2.1.2⟩, fun x hx => ⟨(t.2.2.2 x hx).1.trans (s.2.2.2 x hx).1, (t.2.2.2 x hx).2.trans (s.2.2.2 x hx).2⟩⟩
theorem smf.mo {X Y : List Nat} {a : Nat} {h h1 : am_H} (s : smf X a h h1) (hs : ∀ x, x ∈ X → x ∈ Y) : smf Y a h h1 := ⟨s.1, s.2.1, s.2.2.1, fun x hx => s.2.2.2 x fun z => hx (hs x z)⟩
theorem smf.k {X : List Nat} {a : Nat} {h h' : am_H} (s : smf X a h h') (x : Nat) : am_k h' x = am_k h x := by unfold am_k; rw [s.1]
theorem smf.i {X : List Nat} {a : Nat} {h h' : am_H} (s : smf X a h h') {x : Nat} (hx : x ∉ X) (k : Nat) : am_i h' x k = am_i h x k := by rw [(s.2.2.2 x hx).1]
theorem smf.pr {X : List Nat} {a : Nat} {h h1 : am_H} (s : smf X a h h1) {v : Nat} : smf X a h (am_pr h1 a 9 v) := ⟨s.1, fun x k z => by
  rw [r_pr]
  by_cases e : x = a
  · rw [if_pos e, if_neg fun q => z ⟨e, q⟩, e]
    have := s.2.1 a k (fun q => z ⟨e, q.2⟩)
    exact this
  · rw [if_neg e]; exact s.2.1 x k z, s.2.2.1, s.2.2.2⟩
theorem sh_no9 : ∀ q ∈ sh_rl, ¬ (q.2.1 = 9 ∧ q.1 ≠ 1) := by decide +kernel
theorem smf.sh {X : List Nat} {a : Nat} {h h' : am_H} (s : smf X a h h') (ha : a ≠ 1) (hs : sh h) : sh h' := ⟨fun x hx => (s.k x).trans (hs.1 x hx), fun q hq => (s.2.1 _ _ fun z => sh_no9 q hq ⟨z.2, by rw [z.1]; exact ha⟩).trans (hs.2.1 q hq), by rw [s.2.2.1.1]; exact hs.2.2⟩
theorem smf.gx {X : List Nat} {a : Nat} {h h' : am_H} (s : smf X a h h') {b : Nat} (g : gs h b) : gs h' b := by
  obtain ⟨hk, ⟨k1, k2, k3, k4, k5, k6⟩, r3, r4, r5, r6, r7, r8⟩ := g
  have R : ∀ k, k ≠ 9 → am_r h' b k = am_r h b k := fun k z => s.2.1 b k fun q => z q.2
  exact ⟨(s.k _).trans hk, ⟨(s.k _).trans k1, (s.k _).trans k2, (s.k _).trans k3, (s.k _).trans k4, (s.k _).trans k5, (s.k _).trans k6⟩, (R 3 (by decide)).trans r3, (R 4 (by decide)).trans r4, (R 5 (by decide)).trans r5, (R 6 (by decide)).trans r6, (R 7 (by decide)).trans r7, (R 8 (by decide)).trans r8⟩
abbrev gX7 (a : Nat) : List Nat := [a, a + 1, a + 2, a + 3, a + 4, a + 5, a + 6]
def gln (i : Nat) : Nat := if i ≤ 2 then 9 else 20
/-- j rows of b are copied -/
def cpJ (h : am_H) (a b j : Nat) (h' : am_H) : Prop := smf (gX7 a) a h h' ∧ (∀ k, k < 3 → am_i h' a k = am_i h b k) ∧ am_r h' a 9 = am_r h b 9 ∧ ∀ i, 1 ≤ i → i ≤ j → ∀ k, k < gln i → am_i h' (a + i) k = am_i h (b + i) k
theorem cpJ.s {h h' : am_H} {a b j : Nat} (J : cpJ h a b j h') (hj : j < 6) (hab : a + 7 ≤ b ∨ b + 7 ≤ a) : cpJ h a b (j + 1) (am_cp h' (b + (j + 1)) 0 (a + (j + 1)) 0 (gln (j + 1))) := by
  obtain ⟨s, h1, h2, h3⟩ := J
  have hm : a + (j + 1) ∈ gX7 a := by
    have : j = 0 ∨ j = 1 ∨ j = 2 ∨ j = 3 ∨ j = 4 ∨ j = 5 := by omega
    rcases this with rfl | rfl | rfl | rfl | rfl | rfl <;> simp [gX7]
  have hb : b + (j + 1) ∉ gX7 a := by simp [gX7]; omega
  refine ⟨s.tr (smf.of (sm.rf.cp hm)), fun k hk => ?_, h2, fun i i1 i2 k hk => ?_⟩
  · rw [i_cp, if_neg fun q => by omega]; exact h1 k hk
  · rw [i_cp]
    by_cases e : i = j + 1
    · subst e
      rw [if_pos ⟨rfl, Nat.zero_le _, by omega⟩, Nat.sub_zero, Nat.zero_add]
      exact s.i hb k
    · rw [if_neg fun q => by omega]
      exact h3 i i1 (by omega) k hk
theorem ck_cp {h : am_H} {x y A B N : Nat} {n : Int32} (hx : x = A) (hy : y = B) (kA : am_k h A = (2, N)) (kB : am_k h B = (2, N)) (hn : n = nI N) (hN : N < 1000) : ((am_k h x).1 = 2 ∧ (am_k h y).1 = 2) ∧ (¬ nI 0 < 0 ∧ ¬ nI 0 < 0 ∧ ¬ n < 0) ∧ (nI 0).toNatClampNeg + n.toNatClampNeg ≤ (am_k h y).2 ∧ (nI 0).toNatClampNeg + n.toNatClampNeg ≤ (am_k h x).2 := by
  subst hx hy hn
  rw [kA, kB, q_cl (by omega), q_cl (by omega)]
  exact ⟨⟨rfl, rfl⟩, ⟨by decide, by decide, nI_pos (by omega)⟩, by show 0 + N ≤ N; omega, by show 0 + N ≤ N; omega⟩
set_option maxHeartbeats 4000000 in
theorem c_copyFrom {xs : am_X} {d : Nat} {h : am_H} {a b : Nat} (hd : 1 ≤ d) (hga : gs h a) (hgb : gs h b) (hab : a + 7 ≤ b ∨ b + 7 ≤ a) {Q : am_Q} (HQ : ∀ h', cpJ h a b 6 h' → Q (.inl none) h') : am_C xs am_P0 d m_Gr_copyFrom [.ref a, .ref b] h Q := by
  obtain ⟨hka, ⟨a1, a2, a3, a4, a5, a6⟩, ar3, ar4, ar5, ar6, ar7, ar8⟩ := id hga
  obtain ⟨hkb, ⟨b1, b2, b3, b4, b5, b6⟩, br3, br4, br5, br6, br7, br8⟩ := id hgb
  have hne : b ≠ a := by omega
  refine am_C_le hd (am_enter (d := 0) ap_Gr_copyFrom rfl ?_) (fun _ _ k => k)
  refine am_go (fun _ => false) (fun K cal Q' hK hC hQ => ?_)
  refine And.intro hkb (And.intro hka (And.intro hkb (And.intro hka (And.intro hkb (And.intro hka (And.intro hkb (And.intro hka ?_)))))))
  -- the heap ahead of the rows
  have J0 : cpJ h a b 0 (am_pr (am_pi (am_pi (am_pi h a (128 % 64) (am_i h b (128 % 64))) a (129 % 64) (am_i (am_pi h a (128 % 64) (am_i h b (128 % 64))) b (129 % 64))) a (130 % 64) (am_i (am_pi (am_pi h a (128 % 64) (am_i h b (128 % 64))) a (129 % 64) (am_i (am_pi h a (128 % 64) (am_i h b (128 % 64))) b (129 % 64))) b (130 % 64))) a 9 (am_r h b 9)) := by
    refine ⟨(smf.of (((sm.rf.pi (by simp)).pi (by simp)).pi (by simp))).pr, fun k hk => ?_, ?_, fun i i1 i2 => absurd i1 (by omega)⟩
    · rw [i_pr, i_pi_same, i_pi_same, i_pi_same, i_pi_ne hne, i_pi_ne hne]
      have : k = 0 ∨ k = 1 ∨ k = 2 := by omega
      rcases this with rfl | rfl | rfl <;> rfl
    · rw [r_pr, if_pos rfl, if_pos rfl]
  have c0 : (nI 0).toNatClampNeg = 0 := rfl
  have c9 : (nI 9).toNatClampNeg = 9 := rfl
  have c20 : (nI 20).toNatClampNeg = 20 := rfl
  show am_ev _ _ _ _ _ _ _ _ _ _ _ (am_pr (am_pi (am_pi (am_pi h a (128 % 64) (am_i h b (128 % 64))) a (129 % 64) (am_i (am_pi h a (128 % 64) (am_i h b (128 % 64))) b (129 % 64))) a (130 % 64) (am_i (am_pi (am_pi h a (128 % 64) (am_i h b (128 % 64))) a (129 % 64) (am_i (am_pi h a (128 % 64) (am_i h b (128 % 64))) b (129 % 64))) b (130 % 64))) a 9 (am_r h b 9))
  generalize am_pr (am_pi (am_pi (am_pi h a (128 % 64) (am_i h b (128 % 64))) a (129 % 64) (am_i (am_pi h a (128 % 64) (am_i h b (128 % 64))) b (129 % 64))) a (130 % 64) (am_i (am_pi (am_pi h a (128 % 64) (am_i h b (128 % 64))) a (129 % 64) (am_i (am_pi h a (128 % 64) (am_i h b (128 % 64))) b (129 % 64))) b (130 % 64))) a 9 (am_r h b 9) = h0 at J0
  have ka : ∀ {j h'}, cpJ h a b j h' → am_k h' a = (1, 2) := fun J => (J.1.k a).trans hka
  have kb : ∀ {j h'}, cpJ h a b j h' → am_k h' b = (1, 2) := fun J => (J.1.k b).trans hkb
  have ra : ∀ {j h' k}, cpJ h a b j h' → k ≠ 9 → am_r h' a k = am_r h a k := fun J hk => J.1.2.1 a _ fun q => hk q.2
  have rb : ∀ {j h' k}, cpJ h a b j h' → am_r h' b k = am_r h b k := fun J => J.1.2.1 b _ fun q => hne q.1
  refine And.intro (kb J0) (And.intro (ka J0) (And.intro (ck_cp ((ra J0 (by decide)).trans ar3) ((rb J0).trans br3) ((J0.1.k _).trans a1) ((J0.1.k _).trans b1) rfl (by decide)) ?_))
  rw [show am_r h0 b (131 % 64) = b + 1 from (rb J0).trans br3, show am_r h0 a (131 % 64) = a + 1 from (ra J0 (by decide)).trans ar3, c0, c9]
  have J1 := J0.s (by decide) hab
  rw [show gln (0 + 1) = 9 from rfl] at J1
  generalize am_cp h0 (b + 1) 0 (a + 1) 0 9 = h1 at J1
  refine And.intro (kb J1) (And.intro (ka J1) (And.intro (ck_cp ((ra J1 (by decide)).trans ar4) ((rb J1).trans br4) ((J1.1.k _).trans a2) ((J1.1.k _).trans b2) rfl (by decide)) ?_))
  rw [show am_r h1 b (132 % 64) = b + 2 from (rb J1).trans br4, show am_r h1 a (132 % 64) = a + 2 from (ra J1 (by decide)).trans ar4, c0, c9]
  have J2 := J1.s (by decide) hab
  rw [show gln (0 + 1 + 1) = 9 from rfl] at J2
  generalize hh2 : am_cp h1 (b + 2) 0 (a + 2) 0 9 = h2
  have J2 : cpJ h a b 2 h2 := by rw [← hh2]; exact J2
  refine And.intro (kb J2) (And.intro (ka J2) (And.intro (ck_cp ((ra J2 (by decide)).trans ar5) ((rb J2).trans br5) ((J2.1.k _).trans a3) ((J2.1.k _).trans b3) rfl (by decide)) ?_))
  rw [show am_r h2 b (133 % 64) = b + 3 from (rb J2).trans br5, show am_r h2 a (133 % 64) = a + 3 from (ra J2 (by decide)).trans ar5, c0, c20]
  have J3 := J2.s (by decide) hab
  generalize hh3 : am_cp h2 (b + 3) 0 (a + 3) 0 20 = h3
  have J3 : cpJ h a b 3 h3 := by rw [← hh3]; exact J3
  refine And.intro (kb J3) (And.intro (ka J3) (And.intro (ck_cp ((ra J3 (by decide)).trans ar6) ((rb J3).trans br6) ((J3.1.k _).trans a4) ((J3.1.k _).trans b4) rfl (by decide)) ?_))
  rw [show am_r h3 b (134 % 64) = b + 4 from (rb J3).trans br6, show am_r h3 a (134 % 64) = a + 4 from (ra J3 (by decide)).trans ar6, c0, c20]
  have J4 := J3.s (by decide) hab
  generalize hh4 : am_cp h3 (b + 4) 0 (a + 4) 0 20 = h4
  have J4 : cpJ h a b 4 h4 := by rw [← hh4]; exact J4
  refine And.intro (kb J4) (And.intro (ka J4) (And.intro (ck_cp ((ra J4 (by decide)).trans ar7) ((rb J4).trans br7) ((J4.1.k _).trans a5) ((J4.1.k _).trans b5) rfl (by decide)) ?_))
  rw [show am_r h4 b (135 % 64) = b + 5 from (rb J4).trans br7, show am_r h4 a (135 % 64) = a + 5 from (ra J4 (by decide)).trans ar7, c0, c20]
  have J5 := J4.s (by decide) hab
  generalize hh5 : am_cp h4 (b + 5) 0 (a + 5) 0 20 = h5
  have J5 : cpJ h a b 5 h5 := by rw [← hh5]; exact J5
  refine And.intro (kb J5) (And.intro (ka J5) (And.intro (ck_cp ((ra J5 (by decide)).trans ar8) ((rb J5).trans br8) ((J5.1.k _).trans a6) ((J5.1.k _).trans b6) rfl (by decide)) ?_))
  rw [show am_r h5 b (136 % 64) = b + 6 from (rb J5).trans br8, show am_r h5 a (136 % 64) = a + 6 from (ra J5 (by decide)).trans ar8, c0, c20]
  exact And.intro trivial (hQ _ _ (HQ _ (J5.s (by decide) hab)))
end
section
/-! THE STATE: a graph's data, its picture in the class's cells; the history -/
abbrev gD : Type := (Nat × Nat × Nat) × (Nat → Nat) × (Nat → Nat) × (Nat → Nat) × (Nat → Nat) × (Nat → Int32) × Option (List Int)
def gN (g : gD) : Nat := g.1.1
def gM (g : gD) : Nat := g.1.2.1
def gT (g : gD) : Nat := g.1.2.2
def gLo (g : gD) : Nat → Nat := g.2.1
def gHi (g : gD) : Nat → Nat := g.2.2.1
def gWt (g : gD) : Nat → Nat := g.2.2.2.1
def gLd (g : gD) : Nat → Nat := g.2.2.2.2.1
def gLab (g : gD) : Nat → Int32 := g.2.2.2.2.2.1
def gCs (g : gD) : Option (List Int) := g.2.2.2.2.2.2
def gCo (g : gD) (e : Nat) : Nat := coF (gCs g) (gWt g e) (gLd g (gLo g e)) (gLd g (gHi g e))
def gwf (g : gD) : Prop := (gN g ≤ 9 ∧ gM g ≤ 20 ∧ gT g < 2 ^ gN g) ∧ (∀ e, e < gM g → gLo g e < gHi g e ∧ gHi g e < gN g) ∧ (∀ e, e < gM g → 1 ≤ gWt g e ∧ gWt g e ≤ 99) ∧ (∀ v, v < gN g → gLd g v ≤ 99) ∧ ∀ cs, gCs g = some cs → foOk cs 0 1 ∧ cs.length < 700
/-- a graph in the class's cells -/
def cgp (h : am_H) (a : Nat) (g : gD) : Prop := cg h a (gN g) (gM g) (gT g) (gLo g) (gHi g) ∧ (∀ e, e < gM g → am_i h (a + 5) e = nI (gWt g e)) ∧ (∀ v, v < gN g → am_i h (a + 1) v = nI (gLd g v)) ∧ (∀ v, v < gN g → am_i h (a + 2) v = gLab g v) ∧ (∀ e, e < gM g → am_i h (a + 6) e = nI (gCo g e)) ∧ gfo h a (gCs g) ∧ gwf g
theorem coF_rng {cs : Option (List Int)} {w l g : Nat} (hw : 1 ≤ w ∧ w ≤ 99) : 1 ≤ coF cs w l g ∧ coF cs w l g ≤ 9999 := by
  unfold coF
  split <;> omega
theorem cgp.co {h : am_H} {a : Nat} {g : gD} (p : cgp h a g) : cco h a (gM g) (gCo g) := fun e he => ⟨p.2.2.2.2.1 e he, coF_rng (p.2.2.2.2.2.2.2.2.1 e he)⟩
theorem fcs.mv {h h' : am_H} {F : Nat} {cs : List Int} (f : fcs h F cs) (hk : am_k h' F = am_k h F ∧ am_k h' (F + 1) = am_k h (F + 1) ∧ am_k h' (F + 2) = am_k h (F + 2)) (hr : ∀ k, k < 9 → am_r h' F k = am_r h F k) (hi : ∀ k, am_i h' (F + 1) k = am_i h (F + 1) k) : fcs h' F cs := by
  obtain ⟨f1, f2, f3, f4, f5, f6, f7⟩ := f
  exact ⟨hk.1.trans f1, (hr 0 (by decide)).trans f2, (hr 1 (by decide)).trans f3, hk.2.1.trans f4, hk.2.2.trans f5, fun k z => by rw [hi]; exact f6 k z, f7⟩
theorem gfo.mv {h h' : am_H} {a : Nat} {cs : Option (List Int)} (f : gfo h a cs) (h9 : am_r h' a 9 = am_r h a 9) (hF : ∀ F, 105 ≤ F → am_k h F = (1, 1) → (am_k h' F = am_k h F ∧ am_k h' (F + 1) = am_k h (F + 1) ∧ am_k h' (F + 2) = am_k h (F + 2)) ∧ (∀ k, k < 9 → am_r h' F k = am_r h F k) ∧ ((∃ N, am_k h (F + 1) = (2, N)) → ∀ k, am_i h' (F + 1) k = am_i h (F + 1) k)) : gfo h' a cs := by
  cases cs with
  | none => exact h9.trans f
  | some cs =>
    obtain ⟨f1, f2, f3⟩ := f
    have := hF _ f1 f2.1
    refine ⟨by rw [h9]; exact f1, ?_, f3⟩
    rw [h9]
    exact f2.mv this.1 this.2.1 (this.2.2 ⟨_, f2.2.2.2.1⟩)
/-- a copy: what stands at b stands at a -/
theorem cgp.copy {h h' : am_H} {a b : Nat} {g : gD} (p : cgp h b g) (J : cpJ h a b 6 h') (hga : gs h a) (ha : a + 6 < 105) : cgp h' a g := by
  obtain ⟨⟨p1, p2, p3, p4⟩, q1, q2, q3, q4, q5, q6⟩ := p
  obtain ⟨s, j1, j2, j3⟩ := J
  obtain ⟨w1, w2, w3⟩ := q6.1
  have J : ∀ i k, 1 ≤ i → i ≤ 6 → k < gln i → am_i h' (a + i) k = am_i h (b + i) k := fun i k z1 z2 z3 => j3 i z1 z2 k z3
  have g9 : gln 1 = 9 := rfl
  have g92 : gln 2 = 9 := rfl
  have g20 : gln 3 = 20 := rfl
  have g204 : gln 4 = 20 := rfl
  have g205 : gln 5 = 20 := rfl
  have g206 : gln 6 = 20 := rfl
  refine ⟨⟨s.gx hga, ⟨(j1 0 (by decide)).trans p2.1, (j1 1 (by decide)).trans p2.2.1, (j1 2 (by decide)).trans p2.2.2⟩, fun e he => ⟨(J 3 e (by decide) (by decide) (by omega)).trans (p3 e he).1, (J 4 e (by decide) (by decide) (by omega)).trans (p3 e he).2⟩, p4⟩, fun e he => (J 5 e (by decide) (by decide) (by omega)).trans (q1 e he), fun v hv => (J 1 v (by decide) (by decide) (by omega)).trans (q2 v hv), fun v hv => (J 2 v (by decide) (by decide) (by omega)).trans (q3 v hv), fun e he => (J 6 e (by decide) (by decide) (by omega)).trans (q4 e he), ?_, q6⟩
  cases hcs : gCs g with
  | none => rw [hcs] at q5; exact j2.trans q5
  | some cs =>
    rw [hcs] at q5
    obtain ⟨f1, f2, f3⟩ := q5
    refine ⟨by rw [j2]; exact f1, ?_, f3⟩
    rw [j2]
    refine f2.mv ⟨s.k _, s.k _, s.k _⟩ (fun k hk => s.2.1 _ k fun z => by omega) (fun k => s.i (by simp [gX7]; omega) k)
/-- another graph stays -/
theorem cgp.mvf {h h' : am_H} {a b : Nat} {g : gD} (p : cgp h b g) (s : smf (gX7 a) a h h') (ha : a + 6 < 105) (hab : a + 7 ≤ b ∨ b + 7 ≤ a) : cgp h' b g := by
  obtain ⟨⟨p1, p2, p3, p4⟩, q1, q2, q3, q4, q5, q6⟩ := p
  have I : ∀ i k, i ≤ 6 → am_i h' (b + i) k = am_i h (b + i) k := fun i k hi => s.i (by simp [gX7]; omega) k
  refine ⟨⟨s.gx p1, ⟨(I 0 0 (by decide)).trans p2.1, (I 0 1 (by decide)).trans p2.2.1, (I 0 2 (by decide)).trans p2.2.2⟩, fun e he => ⟨(I 3 e (by decide)).trans (p3 e he).1, (I 4 e (by decide)).trans (p3 e he).2⟩, p4⟩, fun e he => (I 5 e (by decide)).trans (q1 e he), fun v hv => (I 1 v (by decide)).trans (q2 v hv), fun v hv => (I 2 v (by decide)).trans (q3 v hv), fun e he => (I 6 e (by decide)).trans (q4 e he), ?_, q6⟩
  refine q5.mv (s.2.1 _ _ fun z => by omega) fun F hF _ => ⟨⟨s.k _, s.k _, s.k _⟩, fun k hk => s.2.1 _ k fun z => by omega, fun _ k => s.i (by simp [gX7]; omega) k⟩
/-- scratch cells leave a graph alone -/
theorem cgp.mvs {h h' : am_H} {X : List Nat} {a : Nat} {g : gD} (p : cgp h a g) (s : sm X h h') (hX : ∀ x, x ∈ X → x < a ∨ a + 7 ≤ x) (hX2 : ∀ x, x ∈ X → x < 105) : cgp h' a g := by
  obtain ⟨⟨p1, p2, p3, p4⟩, q1, q2, q3, q4, q5, q6⟩ := p
  have I : ∀ i k, i ≤ 6 → am_i h' (a + i) k = am_i h (a + i) k := fun i k hi => s.i (fun z => by have := hX _ z; omega) k
  refine ⟨⟨s.gx p1, ⟨(I 0 0 (by decide)).trans p2.1, (I 0 1 (by decide)).trans p2.2.1, (I 0 2 (by decide)).trans p2.2.2⟩, fun e he => ⟨(I 3 e (by decide)).trans (p3 e he).1, (I 4 e (by decide)).trans (p3 e he).2⟩, p4⟩, fun e he => (I 5 e (by decide)).trans (q1 e he), fun v hv => (I 1 v (by decide)).trans (q2 v hv), fun v hv => (I 2 v (by decide)).trans (q3 v hv), fun e he => (I 6 e (by decide)).trans (q4 e he), ?_, q6⟩
  exact q5.mv (s.r _ _) fun F hF _ => ⟨⟨s.k _, s.k _, s.k _⟩, fun k _ => s.r _ k, fun _ k => s.i (fun z => by have := hX2 _ z; omega) k⟩
/-- the class's history: the latest first -/
def hrow (i : Nat) : Nat := 12 + 7 * i
def chi (h : am_H) (hist : List gD) : Prop := ∃ nx, nx < 8 ∧ am_i h 10 1 = nI nx ∧ am_i h 10 2 = nI hist.length ∧ hist.length ≤ 8 ∧ ∀ j g, hist[j]? = some g → cgp h (hrow ((nx + 7 - j) % 8)) g
theorem gs_row {h : am_H} (hs : sh h) : ∀ i, i < 8 → gs h (hrow i) ∧ am_r h 11 i = hrow i := by
  intro i hi
  have : i = 0 ∨ i = 1 ∨ i = 2 ∨ i = 3 ∨ i = 4 ∨ i = 5 ∨ i = 6 ∨ i = 7 := by omega
  rcases this with rfl | rfl | rfl | rfl | rfl | rfl | rfl | rfl
  · exact ⟨gs_12 hs, sr_11_0 hs⟩
  · exact ⟨gs_19 hs, sr_11_1 hs⟩
  · exact ⟨gs_26 hs, sr_11_2 hs⟩
  · exact ⟨gs_33 hs, sr_11_3 hs⟩
  · exact ⟨gs_40 hs, sr_11_4 hs⟩
  · exact ⟨gs_47 hs, sr_11_5 hs⟩
  · exact ⟨gs_54 hs, sr_11_6 hs⟩
  · exact ⟨gs_61 hs, sr_11_7 hs⟩
/-- what a change of the class's graph and history leaves alone: all but the cells 3 to 67 and those of formulas -/
def clG (h h' : am_H) : Prop := sh h' ∧ h'.1 = h.1 ∧ (am_n h' = am_n h ∧ am_cs h' = am_cs h) ∧ (∀ x k, ¬ (3 ≤ x ∧ x ≤ 67) → am_r h' x k = am_r h x k) ∧ ∀ x, ¬ (3 ≤ x ∧ x ≤ 67) → am_i h' x = am_i h x ∧ am_l h' x = am_l h x
theorem q_mod8 : ∀ x, x < 8 → nI x + nI 1 - (nI x + nI 1) / nI 8 * nI 8 = nI ((x + 1) % 8) := by decide +kernel
set_option maxHeartbeats 4000000 in
theorem c_save {xs : am_X} {d : Nat} {h : am_H} {cur : gD} {hist : List gD} (hd : 2 ≤ d) (hs : sh h) (hp : cgp h 3 cur) (hh : chi h hist) {Q : am_Q}
    (HQ : ∀ h', clG h h' → cgp h' 3 cur → chi h' ((cur :: hist).take 8) → Q (.inl none) h') : am_C xs am_P0 d m_Hi_save [.ref 10, .ref 3] h Q := by
  obtain ⟨nx, n8, e1, e2, l8, hj⟩ := hh
  obtain ⟨grow, rrow⟩ := gs_row hs nx n8
  refine am_C_le hd (am_enter (d := 1) ap_Hi_save rfl ?_) (fun _ _ k => k)
  refine am_go (fun _ => false) (fun K cal Q' hK hC hQ => ?_)
  refine And.intro (sk_10 hs) (And.intro (sk_10 hs) (And.intro (ck_row (sr_10_0 hs) (sk_11 hs) e1 n8 (by omega)) ?_))
  have er : am_r h (am_r h 10 0) (am_i h 10 1).toNatClampNeg = hrow nx := by rw [sr_10_0 hs, e1, q_cl (by omega)]; exact rrow
  refine And.intro (by show am_k h (am_r h (am_r h 10 0) (am_i h 10 1).toNatClampNeg) = (1, 2); rw [er]; exact grow.1) ?_
  show cal 19 [.ref (am_r h (am_r h 10 0) (am_i h 10 1).toNatClampNeg), .ref 3] h _
  rw [er]
  refine hC _ _ _ _ (c_copyFrom (by decide) grow (gs_3 hs) (by unfold hrow; omega) (fun h1 J => ?_))
  have hr6 : hrow nx + 6 < 105 := by unfold hrow; omega
  have s := J.1
  have hs1 : sh h1 := s.sh (by unfold hrow; omega) hs
  have nin : ∀ x, ¬ (hrow nx ≤ x ∧ x ≤ hrow nx + 6) → x ∉ gX7 (hrow nx) := fun x hx z => by
    simp [gX7] at z
    omega
  have f1 : am_i h1 10 1 = nI nx := (s.i (nin 10 (by unfold hrow; omega)) 1).trans e1
  have f2 : am_i h1 10 2 = nI hist.length := (s.i (nin 10 (by unfold hrow; omega)) 2).trans e2
  refine And.intro (sk_10 hs1) (And.intro (show ¬ nI 8 = 0 by decide) (And.intro (sk_10 hs1) ?_))
  have em : am_i h1 10 (257 % 64) + nI 1 - (am_i h1 10 (257 % 64) + nI 1) / nI 8 * nI 8 = nI ((nx + 1) % 8) := by rw [show am_i h1 10 (257 % 64) = nI nx from f1]; exact q_mod8 nx n8
  rw [em]
  refine And.intro (sk_10 hs1) (And.intro (sk_10 hs1) (And.intro trivial (hQ _ _ ?_)))
  have f2' : am_i (am_pi h1 10 (257 % 64) (nI ((nx + 1) % 8))) 10 (258 % 64) = nI hist.length := by rw [i_pi_k (by decide)]; exact f2
  have en : (if am_i (am_pi h1 10 (257 % 64) (nI ((nx + 1) % 8))) 10 (258 % 64) + nI 1 < nI 8 then am_i (am_pi h1 10 (257 % 64) (nI ((nx + 1) % 8))) 10 (258 % 64) + nI 1 else nI 8) = nI (((cur :: hist).take 8).length) := by
    rw [f2', nI_add, List.length_take, List.length_cons]
    by_cases q : hist.length + 1 < 8
    · rw [if_pos (nI_lt q (by omega))]; congr 1; omega
    · rw [if_neg (nI_nlt (by omega) (by omega))]; congr 1; omega
  rw [en]
  generalize hh9 : am_pi (am_pi h1 10 (257 % 64) (nI ((nx + 1) % 8))) 10 (258 % 64) (nI (((cur :: hist).take 8).length)) = h9
  have s9 : sm [10] h1 h9 := by rw [← hh9]; exact (sm.rf.pi (by decide)).pi (by decide)
  have mv9 : ∀ {b g}, cgp h1 b g → (b = 3 ∨ 12 ≤ b) → cgp h9 b g := fun p hb => p.mvs s9 (fun x hx => by have := List.mem_singleton.mp hx; omega) (fun x hx => by have := List.mem_singleton.mp hx; omega)
  refine HQ h9 ⟨s9.sh hs1, s9.1.trans s.1, ⟨s9.n.trans s.2.2.1.1, s9.cs.trans s.2.2.1.2⟩, fun x k hx => (s9.r x k).trans (s.2.1 x k fun z => by unfold hrow at z; omega), fun x hx => ?_⟩ ?_ ⟨(nx + 1) % 8, Nat.mod_lt _ (by decide), ?_, ?_, ?_, fun j g hg => ?_⟩
  · have a1 := s9.2.2 x (fun z => by have := List.mem_singleton.mp z; omega)
    have a2 := s.2.2.2 x (nin x (by unfold hrow; omega))
    exact ⟨a1.1.trans a2.1, a1.2.trans a2.2⟩
  · exact mv9 (hp.mvf s hr6 (by unfold hrow; omega)) (Or.inl rfl)
  · rw [← hh9, i_pi_k (by decide)]; exact i_pi_at
  · rw [← hh9]; exact i_pi_at
  · rw [List.length_take]; omega
  · rw [List.getElem?_take] at hg
    split at hg
    · rename_i hj8
      cases j with
      | zero =>
        cases hg
        rw [show ((nx + 1) % 8 + 7 - 0) % 8 = nx by omega]
        exact mv9 (hp.copy J grow hr6) (by unfold hrow; omega)
      | succ j =>
        have hg : hist[j]? = some g := hg
        have hne : (nx + 7 - j) % 8 ≠ nx := by omega
        rw [show ((nx + 1) % 8 + 7 - (j + 1)) % 8 = (nx + 7 - j) % 8 by omega]
        exact mv9 ((hj j g hg).mvf s hr6 (by unfold hrow; omega)) (by unfold hrow; omega)
    · cases hg
end
section
/-! HISTORY: one back; an edge dropped -/
theorem q_back8 : ∀ x, x < 8 → nI x + nI 8 - nI 1 - (nI x + nI 8 - nI 1) / nI 8 * nI 8 = nI ((x + 7) % 8) := by decide +kernel
set_option maxHeartbeats 4000000 in
theorem c_restore {xs : am_X} {d : Nat} {h : am_H} {cur : gD} {hist : List gD} (hd : 2 ≤ d) (hs : sh h) (hp : cgp h 3 cur) (hh : chi h hist) {Q : am_Q}
    (H0 : hist = [] → Q (.inl (some (.int (-nI 1)))) h) (HQ : ∀ g t h', hist = g :: t → clG h h' → cgp h' 3 g → chi h' t → Q (.inl (some (.int (nI t.length)))) h') : am_C xs am_P0 d m_Hi_restore [.ref 10, .ref 3] h Q := by
  obtain ⟨nx, n8, e1, e2, l8, hj⟩ := hh
  refine am_C_le hd (am_enter (d := 1) ap_Hi_restore rfl ?_) (fun _ _ k => k)
  refine am_go (fun _ => false) (fun K cal Q' hK hC hQ => ?_)
  cases hist with
  | nil =>
    refine And.intro (sk_10 hs) (And.intro (fun z => absurd ?_ z) (fun _ => And.intro trivial (hQ _ _ (H0 rfl))))
    show am_i h 10 2 = 0
    rw [e2]
    rfl
  | cons g t =>
    rw [List.length_cons] at e2 l8
    have hg := hj 0 g rfl
    rw [show (nx + 7 - 0) % 8 = (nx + 7) % 8 by omega] at hg
    have m8 : (nx + 7) % 8 < 8 := Nat.mod_lt _ (by decide)
    obtain ⟨grow, rrow⟩ := gs_row hs ((nx + 7) % 8) m8
    refine And.intro (sk_10 hs) (And.intro (fun _ => ?_) (fun z => absurd (by show am_i h 10 2 = 0; exact Classical.not_not.mp z) (by rw [e2]; exact nI_ne0 (by omega) (by omega))))
    refine And.intro (sk_10 hs) (And.intro (show ¬ nI 8 = 0 by decide) (And.intro (sk_10 hs) ?_))
    have em : am_i h 10 (257 % 64) + nI 8 - nI 1 - (am_i h 10 (257 % 64) + nI 8 - nI 1) / nI 8 * nI 8 = nI ((nx + 7) % 8) := by rw [show am_i h 10 (257 % 64) = nI nx from e1]; exact q_back8 nx n8
    rw [em]
    refine And.intro (sk_10 hs) (And.intro (sk_10 hs) ?_)
    have en : am_i (am_pi h 10 (257 % 64) (nI ((nx + 7) % 8))) 10 (258 % 64) - nI 1 = nI t.length := by rw [i_pi_k (by decide), show am_i h 10 (258 % 64) = nI (t.length + 1) from e2]; exact nI_pred _
    rw [en]
    generalize hh1 : am_pi (am_pi h 10 (257 % 64) (nI ((nx + 7) % 8))) 10 (258 % 64) (nI t.length) = h1
    have s1 : sm [10] h h1 := by rw [← hh1]; exact (sm.rf.pi (by decide)).pi (by decide)
    have hs1 := s1.sh hs
    have f1 : am_i h1 10 1 = nI ((nx + 7) % 8) := by rw [← hh1, i_pi_k (by decide)]; exact i_pi_at
    have f2 : am_i h1 10 2 = nI t.length := by rw [← hh1]; exact i_pi_at
    have mv1 : ∀ {b g}, cgp h b g → (b = 3 ∨ 12 ≤ b) → cgp h1 b g := fun p hb => p.mvs s1 (fun x hx => by have := List.mem_singleton.mp hx; omega) (fun x hx => by have := List.mem_singleton.mp hx; omega)
    refine And.intro (sk_10 hs1) (And.intro (sk_10 hs1) (And.intro (ck_row (sr_10_0 hs1) (sk_11 hs1) f1 m8 (by omega)) ?_))
    have er : am_r h1 (am_r h1 10 0) (am_i h1 10 1).toNatClampNeg = hrow ((nx + 7) % 8) := by rw [sr_10_0 hs1, f1, q_cl (by omega)]; exact (gs_row hs1 _ m8).2
    refine And.intro (sk_3 hs1) ?_
    show cal 19 [.ref 3, .ref (am_r h1 (am_r h1 10 0) (am_i h1 10 1).toNatClampNeg)] h1 _
    rw [er]
    refine hC _ _ _ _ (c_copyFrom (by decide) (gs_3 hs1) (gs_row hs1 _ m8).1 (by unfold hrow; omega) (fun h2 J => ?_))
    have s := J.1
    have nin : ∀ x, ¬ (3 ≤ x ∧ x ≤ 9) → x ∉ gX7 3 := fun x hx z => by
      simp [gX7] at z
      omega
    have hs2 : sh h2 := s.sh (by decide) hs1
    have f2' : am_i h2 10 2 = nI t.length := (s.i (nin 10 (by omega)) 2).trans f2
    refine And.intro (sk_10 hs2) (And.intro trivial (hQ _ _ ?_))
    rw [show am_i h2 10 (258 % 64) = nI t.length from f2']
    refine HQ g t h2 rfl ⟨hs2, s.1.trans s1.1, ⟨s.2.2.1.1.trans s1.n, s.2.2.1.2.trans s1.cs⟩, fun x k hx => (s.2.1 x k fun z => by omega).trans (s1.r x k), fun x hx => ?_⟩ ((mv1 hg (by unfold hrow; omega)).copy J (gs_3 hs1) (by decide)) ⟨(nx + 7) % 8, m8, (s.i (nin 10 (by omega)) 1).trans f1, f2', by omega, fun j g9 hg9 => ?_⟩
    · have a1 := s1.2.2 x (fun z => by have := List.mem_singleton.mp z; omega)
      have a2 := s.2.2.2 x (nin x (by omega))
      exact ⟨a2.1.trans a1.1, a2.2.trans a1.2⟩
    · have := hj (j + 1) g9 hg9
      have jl : j < t.length := (List.getElem?_eq_some_iff.mp hg9).1
      rw [show ((nx + 7) % 8 + 7 - j) % 8 = (nx + 7 - (j + 1)) % 8 by omega]
      exact (mv1 this (by unfold hrow; omega)).mvf s (by decide) (by unfold hrow; omega)
/-- rows behind an edge come one nearer -/
def drp {α : Type} (e : Nat) (f : Nat → α) : Nat → α := fun k => if k < e then f k else f (k + 1)
set_option maxHeartbeats 4000000 in
theorem c_dropEdge {xs : am_X} {d : Nat} {h : am_H} {a m e : Nat} (hd : 1 ≤ d) (hg : gs h a) (hm : am_i h a 1 = nI m) (hm20 : m ≤ 20) (he : e < m) {Q : am_Q}
    (HQ : ∀ h', sm [a, a + 3, a + 4, a + 5, a + 6] h h' → (∀ k, am_i h' a k = if k = 1 then nI (m - 1) else am_i h a k) → (∀ j k, 3 ≤ j → j ≤ 6 → k < m - 1 → am_i h' (a + j) k = drp e (am_i h (a + j)) k) → Q (.inl none) h') : am_C xs am_P0 d m_Gr_dropEdge [.ref a, .int (nI e)] h Q := by
  obtain ⟨hk, ⟨k1, k2, k3, k4, k5, k6⟩, r3, r4, r5, r6, r7, r8⟩ := hg
  refine am_C_le hd (am_enter (d := 0) ap_Gr_dropEdge rfl ?_) (fun _ _ k => k)
  refine am_go (fun p => p == 4) (fun K cal Q' hK hC hQ => hK _ _ _ _ ?_)
  have na : a ∉ [a + 3, a + 4, a + 5, a + 6] := fun z => by simp at z
  refine am_for (m - 1) (fun i L h' => e ≤ i ∧ L = [.ref a, .int (nI e), .int (nI (i + 1))] ∧ sm [a + 3, a + 4, a + 5, a + 6] h h' ∧ ∀ j k, 3 ≤ j → j ≤ 6 → am_i h' (a + j) k = if k < i then drp e (am_i h (a + j)) k else am_i h (a + j) k) ?_ ?_ e (by omega) _ _ ⟨Nat.le_refl _, by rw [← nI_1 e]; rfl, sm.rf, fun j k _ _ => ?_⟩
  · rintro i hi9 L h' ⟨hei, rfl, s, hv⟩ next
    have hn' : am_i h' a 1 = nI m := (s.i na 1).trans hm
    have hk' := (s.k a).trans hk
    have R5 : am_r h' a 5 = a + 3 := (s.r a 5).trans r5
    have R6 : am_r h' a 6 = a + 4 := (s.r a 6).trans r6
    have R7 : am_r h' a 7 = a + 5 := (s.r a 7).trans r7
    have R8 : am_r h' a 8 = a + 6 := (s.r a 8).trans r8
    have K3 := (s.k (a + 3)).trans k3
    have K4 := (s.k (a + 4)).trans k4
    have K5 := (s.k (a + 5)).trans k5
    have K6 := (s.k (a + 6)).trans k6
    have eP : nI (i + 1) - nI 1 = nI i := nI_pred i
    have c1 : (nI (i + 1)).toNatClampNeg = i + 1 := q_cl (by omega)
    have c2 : (nI (i + 1) - nI 1).toNatClampNeg = i := by rw [eP]; exact q_cl (by omega)
    have eI : am_inc (nI (i + 1)) (Int.ofNat 1) = nI (i + 1 + 1) := nI_1 (i + 1)
    have A : ∀ {h9 : am_H} {x b : Nat}, x = b → am_k h9 b = (2, 20) → am_arr h9 x 2 (nI (i + 1)) := fun hx hb => ck_row hx hb rfl (by omega) (by omega)
    have B : ∀ {h9 : am_H} {x b : Nat}, x = b → am_k h9 b = (2, 20) → am_arr h9 x 2 (nI (i + 1) - nI 1) := fun hx hb => ck_row hx hb eP (by omega) (by omega)
    refine am_go (fun p => p == 4) (fun K cal Q' hK hC hQ => ?_)
    refine And.intro hk' (And.intro (fun z => absurd z (q_ge hn' (by omega) (by omega))) (fun _ => ?_))
    refine And.intro hk' (And.intro hk' (And.intro (A R5 K3) (And.intro (B R5 K3) ?_)))
    refine And.intro hk' (And.intro hk' (And.intro (A R6 K4) (And.intro (B R6 K4) ?_)))
    refine And.intro hk' (And.intro hk' (And.intro (A R7 K5) (And.intro (B R7 K5) ?_)))
    refine And.intro hk' (And.intro hk' (And.intro (A R8 K6) (And.intro (B R8 K6) ?_)))
    refine hK _ _ _ _ (next _ _ ⟨by omega, by rw [← eI]; rfl, ?_, fun j k j3 j6 => ?_⟩)
    · rw [show am_r h' a (133 % 64) = a + 3 from R5]
      show sm _ h (am_pi (am_pi (am_pi (am_pi h' (a + 3) _ _) (am_r h' a 6) _ _) (am_r h' a 7) _ _) (am_r h' a 8) _ _)
      rw [R6, R7, R8]
      exact (((s.pi (by simp)).pi (by simp)).pi (by simp)).pi (by simp)
    · rw [show am_r h' a (133 % 64) = a + 3 from R5]
      show am_i (am_pi (am_pi (am_pi (am_pi h' (a + 3) (nI (i + 1) - nI 1).toNatClampNeg (am_i h' (a + 3) (nI (i + 1)).toNatClampNeg)) (am_r h' a 6) (nI (i + 1) - nI 1).toNatClampNeg (am_i (am_pi h' (a + 3) (nI (i + 1) - nI 1).toNatClampNeg (am_i h' (a + 3) (nI (i + 1)).toNatClampNeg)) (am_r h' a 6) (nI (i + 1)).toNatClampNeg)) (am_r h' a 7) (nI (i + 1) - nI 1).toNatClampNeg (am_i (am_pi (am_pi h' (a + 3) (nI (i + 1) - nI 1).toNatClampNeg (am_i h' (a + 3) (nI (i + 1)).toNatClampNeg)) (am_r h' a 6) (nI (i + 1) - nI 1).toNatClampNeg (am_i (am_pi h' (a + 3) (nI (i + 1) - nI 1).toNatClampNeg (am_i h' (a + 3) (nI (i + 1)).toNatClampNeg)) (am_r h' a 6) (nI (i + 1)).toNatClampNeg)) (am_r h' a 7) (nI (i + 1)).toNatClampNeg)) (am_r h' a 8) (nI (i + 1) - nI 1).toNatClampNeg (am_i (am_pi (am_pi (am_pi h' (a + 3) (nI (i + 1) - nI 1).toNatClampNeg (am_i h' (a + 3) (nI (i + 1)).toNatClampNeg)) (am_r h' a 6) (nI (i + 1) - nI 1).toNatClampNeg (am_i (am_pi h' (a + 3) (nI (i + 1) - nI 1).toNatClampNeg (am_i h' (a + 3) (nI (i + 1)).toNatClampNeg)) (am_r h' a 6) (nI (i + 1)).toNatClampNeg)) (am_r h' a 7) (nI (i + 1) - nI 1).toNatClampNeg (am_i (am_pi (am_pi h' (a + 3) (nI (i + 1) - nI 1).toNatClampNeg (am_i h' (a + 3) (nI (i + 1)).toNatClampNeg)) (am_r h' a 6) (nI (i + 1) - nI 1).toNatClampNeg (am_i (am_pi h' (a + 3) (nI (i + 1) - nI 1).toNatClampNeg (am_i h' (a + 3) (nI (i + 1)).toNatClampNeg)) (am_r h' a 6) (nI (i + 1)).toNatClampNeg)) (am_r h' a 7) (nI (i + 1)).toNatClampNeg)) (am_r h' a 8) (nI (i + 1)).toNatClampNeg)) (a + j) k = _
      rw [R6, R7, R8, c1, c2]
      have old : ∀ q, 3 ≤ q → q ≤ 6 → am_i h' (a + q) (i + 1) = am_i h (a + q) (i + 1) := fun q q3 q6 => by rw [hv q (i + 1) q3 q6, if_neg (by omega)]
      have dr : ∀ (f : Nat → Int32), drp e f i = f (i + 1) := fun f => if_neg (by omega)
      have : j = 3 ∨ j = 4 ∨ j = 5 ∨ j = 6 := by omega
      by_cases w : k = i
      · subst w
        rw [if_pos (by omega), dr]
        rcases this with rfl | rfl | rfl | rfl
        · rw [i_pi_ne (by omega), i_pi_ne (by omega), i_pi_ne (by omega), i_pi_at]; exact old 3 (by omega) (by omega)
        · rw [i_pi_ne (by omega), i_pi_ne (by omega), i_pi_at, i_pi_ne (by omega)]; exact old 4 (by omega) (by omega)
        · rw [i_pi_ne (by omega), i_pi_at, i_pi_ne (by omega), i_pi_ne (by omega)]; exact old 5 (by omega) (by omega)
        · rw [i_pi_at, i_pi_ne (by omega), i_pi_ne (by omega), i_pi_ne (by omega)]; exact old 6 (by omega) (by omega)
      · have e9 : (k < i + 1) ↔ (k < i) := by omega
        simp only [e9]
        rw [← hv j k j3 j6]
        rcases this with rfl | rfl | rfl | rfl
        · rw [i_pi_ne (by omega), i_pi_ne (by omega), i_pi_ne (by omega), i_pi_k w]
        · rw [i_pi_ne (by omega), i_pi_ne (by omega), i_pi_k w, i_pi_ne (by omega)]
        · rw [i_pi_ne (by omega), i_pi_k w, i_pi_ne (by omega), i_pi_ne (by omega)]
        · rw [i_pi_k w, i_pi_ne (by omega), i_pi_ne (by omega), i_pi_ne (by omega)]
  · rintro L h' ⟨hei, rfl, s, hv⟩
    have hn' : am_i h' a 1 = nI m := (s.i na 1).trans hm
    have hk' := (s.k a).trans hk
    refine am_go (fun p => p == 4) (fun K cal Q' hK hC hQ => ?_)
    refine And.intro hk' (And.intro (fun _ => ?_) (fun z => absurd (by show am_i h' a 1 ≤ nI (m - 1 + 1); rw [hn']; exact nI_le (by omega) (by omega)) z))
    refine And.intro hk' (And.intro hk' (And.intro trivial (hQ _ _ ?_)))
    have ep : am_i h' a (129 % 64) - nI 1 = nI (m - 1) := by
      rw [show am_i h' a (129 % 64) = nI m from hn']
      have := nI_pred (m - 1)
      rw [show m - 1 + 1 = m by omega] at this
      exact this
    rw [ep]
    refine HQ _ ((s.mo (fun x hx => List.mem_cons_of_mem _ hx)).pi List.mem_cons_self) (fun k => ?_) (fun j k j3 j6 hk9 => ?_)
    · rw [i_pi_same, s.i na k]
    · rw [i_pi_ne (by omega), hv j k j3 j6, if_pos hk9]
  · by_cases w : k < e
    · rw [if_pos w, drp, if_pos w]
    · rw [if_neg w]
end
section
/-! THE CLASS'S STATE -/
abbrev stD : Type := gD × List gD × (Nat × (Nat → Nat)) × Int32
/-- a byte as the class's row holds it -/
def bS (b : Nat) : Int32 := if b < 128 then nI b else nI b - nI 256
def CI (h : am_H) (st : stD) : Prop := sh h ∧ cgp h 3 st.1 ∧ chi h st.2.1 ∧ (st.2.2.1.1 ≤ 700 ∧ am_i h 1 1 = nI st.2.2.1.1 ∧ ∀ k, k < st.2.2.1.1 → am_i h 2 k = bS (st.2.2.1.2 k) ∧ st.2.2.1.2 k < 256) ∧ am_i h 1 2 = st.2.2.2
/-- what a call of the class leaves alone: the model's cells and the law's row -/
def clF (h h' : am_H) : Prop := (∀ a, a < am_n h → am_k h' a = am_k h a) ∧ (∀ a, 87 ≤ a → a ≤ 104 → am_i h' a = am_i h a ∧ am_l h' a = am_l h a) ∧ (am_n h ≤ am_n h' ∧ am_n h' ≤ am_n h + 3) ∧ am_cs h' ≤ am_cs h + 720
theorem clF.rf {h : am_H} : clF h h := ⟨fun _ _ => rfl, fun _ _ _ => ⟨rfl, rfl⟩, ⟨Nat.le_refl _, by omega⟩, by omega⟩
theorem CI.sh {h : am_H} {st : stD} (I : CI h st) : sh h := I.1
theorem cgp.mv5 {h h' : am_H} {X : List Nat} {g : gD} (p : cgp h 3 g) (s : sm X h h') (h5 : ∀ w, am_i h' 5 w = am_i h 5 w) (hX : ∀ x, x ∈ X → x = 5 ∨ (10 ≤ x ∧ x < 105)) : cgp h' 3 g := by
  obtain ⟨⟨p1, p2, p3, p4⟩, q1, q2, q3, q4, q5, q6⟩ := p
  have I : ∀ i k, i ≤ 6 → am_i h' (3 + i) k = am_i h (3 + i) k := fun i k hi => by
    by_cases e : i = 2
    · subst e; exact h5 k
    · exact s.i (fun z => by have := hX _ z; omega) k
  refine ⟨⟨s.gx p1, ⟨(I 0 0 (by decide)).trans p2.1, (I 0 1 (by decide)).trans p2.2.1, (I 0 2 (by decide)).trans p2.2.2⟩, fun e he => ⟨(I 3 e (by decide)).trans (p3 e he).1, (I 4 e (by decide)).trans (p3 e he).2⟩, p4⟩, fun e he => (I 5 e (by decide)).trans (q1 e he), fun v hv => (I 1 v (by decide)).trans (q2 v hv), fun v hv => (I 2 v (by decide)).trans (q3 v hv), fun e he => (I 6 e (by decide)).trans (q4 e he), ?_, q6⟩
  exact q5.mv (s.r _ _) fun F hF _ => ⟨⟨s.k _, s.k _, s.k _⟩, fun k _ => s.r _ k, fun _ k => s.i (fun z => by have := hX _ z; omega) k⟩
/-- scratch cells -/
def scr (X : List Nat) : Bool := X.all (fun x => Nat.ble 68 x && Nat.ble x 86)
theorem scr_x {X : List Nat} (h : scr X = true) : ∀ x, x ∈ X → 68 ≤ x ∧ x ≤ 86 := fun x hx => by
  have := List.all_eq_true.mp h x hx
  rw [Bool.and_eq_true] at this
  exact ⟨Nat.le_of_ble_eq_true this.1, Nat.le_of_ble_eq_true this.2⟩
theorem clF.sm {h h' : am_H} {X : List Nat} (s : sm X h h') (hX : ∀ x, x ∈ X → x < 87) : clF h h' := ⟨fun a _ => s.k a, fun a h1 h2 => s.2.2 a fun z => by have := hX a z; omega, ⟨by rw [s.n]; exact Nat.le_refl _, by rw [s.n]; omega⟩, by rw [s.cs]; omega⟩
theorem chi.mvs {h h' : am_H} {X : List Nat} {hist : List gD} (c : chi h hist) (s : sm X h h') (hX : ∀ x, x ∈ X → x < 10 ∨ (68 ≤ x ∧ x < 105)) : chi h' hist := by
  obtain ⟨nx, n8, e1, e2, l8, hj⟩ := c
  have n10 : (10 : Nat) ∉ X := fun z => by have := hX _ z; omega
  exact ⟨nx, n8, (s.i n10 1).trans e1, (s.i n10 2).trans e2, l8, fun j g hg => (hj j g hg).mvs s (fun x hx => by have := hX x hx; unfold hrow; omega) (fun x hx => by have := hX x hx; omega)⟩
theorem CI.mv5 {h h' : am_H} {X : List Nat} {st : stD} (I : CI h st) (s : sm X h h') (h5 : ∀ w, am_i h' 5 w = am_i h 5 w) (hX : ∀ x, x ∈ X → x = 5 ∨ (68 ≤ x ∧ x ≤ 86)) : CI h' st ∧ clF h h' := by
  obtain ⟨i1, i2, i3, ⟨i4, i5, i6⟩, i7⟩ := I
  have n1 : (1 : Nat) ∉ X := fun z => by have := hX _ z; omega
  have n2 : (2 : Nat) ∉ X := fun z => by have := hX _ z; omega
  exact ⟨⟨s.sh i1, i2.mv5 s h5 (fun x hx => by have := hX x hx; omega), i3.mvs s (fun x hx => by have := hX x hx; omega), ⟨i4, (s.i n1 _).trans i5, fun k hk => ⟨(s.i n2 k).trans (i6 k hk).1, (i6 k hk).2⟩⟩, (s.i n1 _).trans i7⟩, clF.sm s (fun x hx => by have := hX x hx; omega)⟩
theorem CI.q {h h' : am_H} {X : List Nat} {st : stD} (I : CI h st) (s : sm X h h') (hX : scr X = true) : CI h' st ∧ clF h h' := by
  have hX := scr_x hX
  exact I.mv5 s (fun w => s.i (fun z => by have := hX _ z; omega) w) (fun x hx => Or.inr (hX x hx))
theorem cgp.thr {h : am_H} {a : Nat} {g : gD} (p : cgp h a g) : cgp (am_thr h) a g := p
theorem CI.thr {h : am_H} {st : stD} (I : CI h st) : CI (am_thr h) st ∧ clF h (am_thr h) := by
  obtain ⟨⟨a1, a2, a3⟩, i2, i3, i4, i7⟩ := I
  exact ⟨⟨⟨a1, a2, Nat.le_succ_of_le a3⟩, i2, i3, i4, i7⟩, fun _ _ => rfl, fun _ _ _ => ⟨rfl, rfl⟩, ⟨Nat.le_succ _, by show am_n h + 1 ≤ _; omega⟩, by show am_cs h + 6 ≤ _; omega⟩
/-- an answer: its code and its value; the codes' exceptions -/
def aR (E1 E2 E3 : Nat) (p : Nat × Int32) : am_R := match p.1 with
  | 0 => .inl (some (.int p.2))
  | 1 => .inr E1
  | 2 => .inr E2
  | _ => .inr E3
def vin (n : Nat) (v : Int32) : Bool := decide (0 ≤ v ∧ v < nI n)
abbrev topN (h : am_H) : Prop := am_n h < 900000
theorem top_lt {h : am_H} (hN : topN h) : am_n h < am_top := Nat.lt_trans hN (by decide)
set_option maxHeartbeats 4000000 in
theorem c_requireVertex {xs : am_X} {d : Nat} {h : am_H} {st : stD} (hd : 2 ≤ d) (I : CI h st) (hN : topN h) (v : Int32) {Q : am_Q} (H1 : ∀ k, k < gN st.1 → v = nI k → Q (.inl none) h) (H2 : vin (gN st.1) v = false → Q (.inr 2) (am_thr h)) : am_C xs am_P0 d m_Mc_requireVertex [.ref 1, .int v] h Q := by
  have hs := I.1
  have hg := I.2.1.1
  refine am_C_le hd (am_enter (d := 1) ap_Mc_requireVertex rfl ?_) (fun _ _ k => k)
  refine am_go (fun _ => false) (fun K cal Q' hK hC hQ => ?_)
  refine And.intro (sk_1 hs) (And.intro (by show am_k h (am_r h 1 3) = (1, 2); rw [sr_1_3 hs]; exact sk_3 hs) ?_)
  show cal 20 [.ref (am_r h 1 3), .int v] h _
  rw [sr_1_3 hs]
  refine hC _ _ _ _ (c_hasVertex (by decide) (sk_3 hs) hg.2.1.1 v ?_)
  have hn := hg.2.2.2.1.1
  cases e : decide (0 ≤ v ∧ v < nI (gN st.1)) with
  | true =>
    refine And.intro (fun _ => And.intro trivial (hQ _ _ ?_)) (fun z => absurd q_t1 z)
    obtain ⟨k, k1, k2⟩ := q_range_of (by omega) e
    exact H1 k k1 k2
  | false => exact And.intro (fun z => absurd rfl z) (fun _ => And.intro (top_lt hN) (hQ _ _ (H2 e)))
set_option maxHeartbeats 4000000 in
theorem c_requireEdge {xs : am_X} {d : Nat} {h : am_H} {st : stD} (hd : 1 ≤ d) (I : CI h st) (hN : topN h) (v : Int32) {Q : am_Q} (H1 : ∀ k, k < gM st.1 → v = nI k → Q (.inl none) h) (H2 : vin (gM st.1) v = false → Q (.inr 2) (am_thr h)) : am_C xs am_P0 d m_Mc_requireEdge [.ref 1, .int v] h Q := by
  have hs := I.1
  have hg := I.2.1.1
  have hm := hg.2.2.2.1.2.1
  have e1 : am_i h 3 1 = nI (gM st.1) := hg.2.1.2.1
  refine am_C_le hd (am_enter (d := 0) ap_Mc_requireEdge rfl ?_) (fun _ _ k => k)
  refine am_go (fun _ => false) (fun K cal Q' hK hC hQ => ?_)
  refine And.intro (fun c1 => ?_) (fun c1 => ?_)
  · have c1 : v < 0 := c1
    exact And.intro (top_lt hN) (hQ _ _ (H2 (decide_eq_false fun z => by have := z.1; rw [fa_le] at this; rw [fa_lt] at c1; omega)))
  · have c1 : ¬ v < 0 := c1
    refine And.intro (sk_1 hs) (And.intro (by show am_k h (am_r h 1 3) = (1, 2); rw [sr_1_3 hs]; exact sk_3 hs) ?_)
    refine And.intro (fun c2 => ?_) (fun c2 => ?_)
    · have c2 : v < am_i h (am_r h 1 3) 1 := c2
      rw [sr_1_3 hs, e1] at c2
      obtain ⟨k, k1, k2⟩ := q_range_of (n := gM st.1) (v := v) (by omega) (decide_eq_true ⟨by rw [fa_lt] at c1; rw [fa_le]; omega, c2⟩)
      exact And.intro trivial (hQ _ _ (H1 k k1 k2))
    · have c2 : ¬ v < am_i h (am_r h 1 3) 1 := c2
      rw [sr_1_3 hs, e1] at c2
      exact And.intro (top_lt hN) (hQ _ _ (H2 (decide_eq_false fun z => c2 z.2)))
set_option maxHeartbeats 4000000 in
theorem c_requireTerminal {xs : am_X} {d : Nat} {h : am_H} {st : stD} (hd : 3 ≤ d) (I : CI h st) (hN : topN h) (v : Int32) {Q : am_Q} (H1 : ∀ k, k < gN st.1 → v = nI k → (gT st.1).testBit k = true → Q (.inl none) h) (H2 : isT (gN st.1) (gT st.1) v = false → Q (.inr 1) (am_thr h)) : am_C xs am_P0 d m_Mc_requireTerminal [.ref 1, .int v] h Q := by
  have hs := I.1
  have hg := I.2.1.1
  have hn := hg.2.2.2.1.1
  refine am_C_le hd (am_enter (d := 2) ap_Mc_requireTerminal rfl ?_) (fun _ _ k => k)
  refine am_go (fun _ => false) (fun K cal Q' hK hC hQ => ?_)
  refine And.intro (sk_1 hs) (And.intro (by show am_k h (am_r h 1 3) = (1, 2); rw [sr_1_3 hs]; exact sk_3 hs) ?_)
  show cal 21 [.ref (am_r h 1 3), .int v] h _
  rw [sr_1_3 hs]
  refine hC _ _ _ _ (c_isTerminal (by decide) hg v ?_)
  cases e : isT (gN st.1) (gT st.1) v with
  | true =>
    refine And.intro (fun _ => And.intro trivial (hQ _ _ ?_)) (fun z => absurd q_t1 z)
    have e0 := e
    unfold isT at e
    rw [Bool.and_eq_true] at e
    obtain ⟨k, k1, k2⟩ := q_range_of (by omega) e.1
    refine H1 k k1 k2 ?_
    rw [k2, isT_nI k1 (by omega)] at e0
    exact e0
  | false => exact And.intro (fun z => absurd rfl z) (fun _ => And.intro (top_lt hN) (hQ _ _ (H2 e)))
set_option maxHeartbeats 4000000 in
theorem c_requireSome {xs : am_X} {d : Nat} {h : am_H} {st : stD} (hd : 1 ≤ d) (I : CI h st) (hN : topN h) {Q : am_Q} (H1 : gT st.1 ≠ 0 → Q (.inl none) h) (H2 : gT st.1 = 0 → Q (.inr 3) (am_thr h)) : am_C xs am_P0 d m_Mc_requireSomeTerminal [.ref 1] h Q := by
  have hs := I.1
  have hg := I.2.1.1
  have hn9 := pow_le9 hg.2.2.2.1.1
  have hT := hg.2.2.2.1.2.2
  have e1 : am_i h 3 2 = nI (gT st.1) := hg.2.1.2.2
  refine am_C_le hd (am_enter (d := 0) ap_Mc_requireSomeTerminal rfl ?_) (fun _ _ k => k)
  refine am_go (fun _ => false) (fun K cal Q' hK hC hQ => ?_)
  refine And.intro (sk_1 hs) (And.intro (by show am_k h (am_r h 1 3) = (1, 2); rw [sr_1_3 hs]; exact sk_3 hs) ?_)
  refine And.intro (fun c2 => ?_) (fun c2 => ?_)
  · have c2 : ¬ am_i h (am_r h 1 3) 2 = 0 := c2
    rw [sr_1_3 hs, e1] at c2
    exact And.intro trivial (hQ _ _ (H1 fun z => c2 (by rw [z]; rfl)))
  · have c2 : am_i h (am_r h 1 3) 2 = nI 0 := Classical.not_not.mp c2
    rw [sr_1_3 hs, e1] at c2
    exact And.intro (top_lt hN) (hQ _ _ (H2 ((nI_eq (by omega) (by omega)).mp c2)))
set_option maxHeartbeats 4000000 in
theorem c_requireWeight {xs : am_X} {d : Nat} {h : am_H} {a : Nat} (hd : 1 ≤ d) (hN : topN h) (v : Int32) {Q : am_Q} (H1 : ∀ k, 1 ≤ k → k ≤ 99 → v = nI k → Q (.inl none) h) (H2 : decide (nI 1 ≤ v ∧ v ≤ nI 99) = false → Q (.inr 1) (am_thr h)) : am_C xs am_P0 d m_Mc_requireWeight [.ref a, .int v] h Q := by
  have e1 : (nI 1).toInt = 1 := by decide
  have e99 : (nI 99).toInt = 99 := by decide
  refine am_C_le hd (am_enter (d := 0) ap_Mc_requireWeight rfl ?_) (fun _ _ k => k)
  refine am_go (fun _ => false) (fun K cal Q' hK hC hQ => ?_)
  refine And.intro (fun c1 => ?_) (fun c1 => ?_)
  · have c1 : v < nI 1 := c1
    exact And.intro (top_lt hN) (hQ _ _ (H2 (decide_eq_false fun z => by have := z.1; rw [fa_le] at this; rw [fa_lt] at c1; omega)))
  · have c1 : ¬ v < nI 1 := c1
    rw [fa_lt, e1] at c1
    refine And.intro (fun c2 => ?_) (fun c2 => ?_)
    · have c2 : v ≤ nI 99 := c2
      rw [fa_le, e99] at c2
      obtain ⟨j, j1, j2⟩ := nI_of (x := v) (by rw [fa_lt]; show ¬ v.toInt < 0; omega)
      rw [j2, nI_toInt j1] at c1 c2
      exact And.intro trivial (hQ _ _ (H1 j (by omega) (by omega) j2))
    · have c2 : ¬ v ≤ nI 99 := c2
      exact And.intro (top_lt hN) (hQ _ _ (H2 (decide_eq_false fun z => c2 z.2)))
end
section
/-! THE CLASS'S QUESTIONS -/
theorem k13 {h : am_H} (hs : sh h) : am_k h (am_r h 1 3) = (1, 2) := by rw [sr_1_3 hs]; exact sk_3 hs
theorem k14 {h : am_H} (hs : sh h) : am_k h (am_r h 1 4) = (1, 4) := by rw [sr_1_4 hs]; exact sk_10 hs
theorem k15 {h : am_H} (hs : sh h) : am_k h (am_r h 1 5) = (1, 7) := by rw [sr_1_5 hs]; exact sk_68 hs
theorem k16 {h : am_H} (hs : sh h) : am_k h (am_r h 1 6) = (1, 3) := by rw [sr_1_6 hs]; exact sk_78 hs
theorem k17 {h : am_H} (hs : sh h) : am_k h (am_r h 1 7) = (1, 0) := by rw [sr_1_7 hs]; exact sk_80 hs
theorem k18 {h : am_H} (hs : sh h) : am_k h (am_r h 1 8) = (1, 6) := by rw [sr_1_8 hs]; exact sk_83 hs
theorem k19 {h : am_H} (hs : sh h) : am_k h (am_r h 1 9) = (1, 5) := by rw [sr_1_9 hs]; exact sk_86 hs
theorem vin_nI {n k : Nat} (hk : k < n) (hn : n < 1000) : vin n (nI k) = true := q_range hk hn
def gCC (g : gD) (S : Nat) : Nat := cutc (gM g) (gLo g) (gHi g) (gCo g) S
noncomputable def gIV (g : gD) (t : Nat) : Nat := isv (gN g) (gM g) (gT g) (gLo g) (gHi g) (gCo g) t
noncomputable def gIS (g : gD) (t : Nat) : Nat := iso (gN g) (gCC g) (gT g) t
def sBurden (g : gD) (v : Int32) : Nat × Int32 := if vin (gN g) v = true then (0, nI (gLd g v.toNatClampNeg)) else (1, 0)
def sLabel (g : gD) (v : Int32) : Nat × Int32 := if vin (gN g) v = true then (0, gLab g v.toNatClampNeg) else (1, 0)
def sEdge (g : gD) (e w : Int32) : Nat × Int32 := if vin (gM g) e = true then (if w = nI 0 then (0, nI (gLo g e.toNatClampNeg)) else if w = nI 1 then (0, nI (gHi g e.toNatClampNeg)) else if w = nI 2 then (0, nI (gWt g e.toNatClampNeg)) else if w = nI 3 then (0, nI (gCo g e.toNatClampNeg)) else if w = nI 4 then (0, nI (10000 / gCo g e.toNatClampNeg)) else (2, 0)) else (1, 0)
def sCutCost (g : gD) (s : Int32) : Nat × Int32 := if vin (2 ^ gN g) s = true then (0, nI (gCC g s.toNatClampNeg)) else (1, 0)
def sSep (g : gD) (s : Int32) : Nat × Int32 := if vin (2 ^ gM g) s = true then (0, bI (kap (gN g) (gM g) (gT g) (gLo g) (gHi g) s.toNatClampNeg)) else (1, 0)
noncomputable def sIsoV (g : gD) (t : Int32) : Nat × Int32 := if isT (gN g) (gT g) t = true then (0, nI (gIV g t.toNatClampNeg)) else (1, 0)
noncomputable def sIsoS (g : gD) (t : Int32) : Nat × Int32 := if isT (gN g) (gT g) t = true then (0, nI (gIS g t.toNatClampNeg)) else (1, 0)
noncomputable def gSum (g : gD) (v : Nat) : Nat := fb_sm (fun v => if (gT g).testBit v then gIV g v else 0) v
noncomputable def sLow (g : gD) : Int32 := nI ((gSum g (gN g) + 1) / 2)
noncomputable def gDe (g : gD) : Option Nat := dea (gIV g) (gT g) (gN g)
noncomputable def sDear (g : gD) : Nat × Int32 := if gT g = 0 then (1, 0) else (0, oI (gDe g))
noncomputable def gUn (g : gD) : Nat := cutm (uniB (gN g) (gLo g) (gHi g) (gIS g) (gT g) (gDe g)) (gM g)
noncomputable def sUni (g : gD) : Nat × Int32 := if gT g = 0 then (1, 0) else (0, nI (gUn g))
noncomputable def sUniC (g : gD) : Nat × Int32 := if gT g = 0 then (1, 0) else (0, nI (sumE (gCo g) (gUn g).testBit (gM g)))
noncomputable def gR (g : gD) : Nat := Classical.epsilon (isR (gN g) (gT g) (gCC g))
theorem gR_eq {g : gD} {R : Nat} (h : isR (gN g) (gT g) (gCC g) R) : gR g = R := isR.one (Classical.epsilon_spec ⟨R, h⟩) h
noncomputable def sFixed (g : gD) (v : Int32) : Nat × Int32 := if vin (gN g) v = true then (0, oI (fnd (fun t => (grs (gN g) (gT g) (gCC g) (gR g) t).testBit v.toNatClampNeg) 9)) else (1, 0)
noncomputable def exA (g : gD) (T : Nat) : Nat → Nat := Classical.epsilon (isx (gN g) (gM g) T (gLo g) (gHi g) (gCo g))
noncomputable def eC (g : gD) (T : Nat) : Nat := if T = 0 then 0 else acost (gM g) (gLo g) (gHi g) (gCo g) (exA g T) (gN g)
noncomputable def eL (g : gD) (T w : Nat) : Int32 := if T = 0 then -nI 1 else nI (exA g T w)
theorem exA_eq {g : gD} {T : Nat} {A : Nat → Nat} (h : isx (gN g) (gM g) T (gLo g) (gHi g) (gCo g) A) : lag (gN g) A (exA g T) := isx.one h (Classical.epsilon_spec ⟨A, h⟩)
theorem exr_eq {h : am_H} {g : gD} {T : Nat} (hw : ∀ e, e < gM g → gLo g e < gHi g e ∧ gHi g e < gN g) (r : exr h (gN g) (gM g) T (gLo g) (gHi g) (gCo g)) : am_i h 80 1 = nI (eC g T) ∧ ∀ w, w < gN g → am_i h 81 w = eL g T w := by
  unfold eC eL
  rcases r with ⟨r1, r2, r3⟩ | ⟨r1, A, r2, r3, r4⟩
  · rw [if_pos r1]
    exact ⟨r2, fun w hw9 => by rw [if_pos r1]; exact r3 w hw9⟩
  · rw [if_neg r1]
    have l := exA_eq r2
    exact ⟨by rw [r3, acost_ag hw l], fun w hw9 => by rw [if_neg r1, r4 w hw9, l w hw9]⟩
noncomputable def sEx (g : gD) (v : Int32) : Nat × Int32 := if vin (gN g) v = true then (0, eL g (gT g) v.toNatClampNeg) else (1, 0)
noncomputable def sPrice (g : gD) (t : Int32) : Nat × Int32 := if isT (gN g) (gT g) t = true then (0, nI (eC g (gT g)) - nI (eC g (andn (gT g) (2 ^ t.toNatClampNeg)))) else (1, 0)
noncomputable def gNe (g : gD) : Nat → Option (Nat × Nat) := ners (gM g) (gT g) (gLo g) (gHi g) (gCo g) (gN g - 1)
noncomputable def sNear (g : gD) (v : Int32) : Nat × Int32 := if vin (gN g) v = true then (0, oG (gNe g v.toNatClampNeg)) else (1, 0)
noncomputable def sDist (g : gD) (v : Int32) : Nat × Int32 := if vin (gN g) v = true then (0, oL (gNe g v.toNatClampNeg)) else (1, 0)
def gCost (g : gD) : Nat := sumE (gCo g) (dif (gLo g) (gHi g) (gLab g)) (gM g)
def sCut (g : gD) : Int32 := nI (cutm (dif (gLo g) (gHi g) (gLab g)) (gM g))
def gMv (g : gD) : mvT := mva (gN g) (gM g) (gT g) (gLo g) (gHi g) (gCo g) (gLab g) (gN g)
def sMove (g : gD) (w : Int32) : Nat × Int32 := if w = nI 0 then (0, oV1 (gMv g)) else if w = nI 1 then (0, oT1 (gMv g)) else if w = nI 2 then (0, oC1 (gMv g)) else (1, 0)
section
variable {xs : am_X} {d : Nat} {h : am_H} {st : stD} {Q : am_Q}
set_option maxHeartbeats 4000000 in
theorem k_size (hd : 1 ≤ d) (I : CI h st) (HQ : ∀ h', CI h' st → clF h h' → Q (.inl (some (.int (nI (gN st.1))))) h') : am_C xs am_P0 d m_Mc_size [.ref 1] h Q := by
  have e : am_i h (am_r h 1 3) 0 = nI (gN st.1) := by rw [sr_1_3 I.1]; exact I.2.1.1.2.1.1
  refine am_C_le hd (am_enter (d := 0) ap_Mc_size rfl ?_) (fun _ _ k => k)
  refine am_go (fun _ => false) (fun K cal Q' hK hC hQ => ?_)
  refine And.intro (sk_1 I.1) (And.intro (k13 I.1) (And.intro trivial (hQ _ _ ?_)))
  rw [show am_i h (am_r h 1 (515 % 64)) (128 % 64) = _ from e]
  exact HQ h I clF.rf
set_option maxHeartbeats 4000000 in
theorem k_edgeCount (hd : 1 ≤ d) (I : CI h st) (HQ : ∀ h', CI h' st → clF h h' → Q (.inl (some (.int (nI (gM st.1))))) h') : am_C xs am_P0 d m_Mc_edgeCount [.ref 1] h Q := by
  have e : am_i h (am_r h 1 3) 1 = nI (gM st.1) := by rw [sr_1_3 I.1]; exact I.2.1.1.2.1.2.1
  refine am_C_le hd (am_enter (d := 0) ap_Mc_edgeCount rfl ?_) (fun _ _ k => k)
  refine am_go (fun _ => false) (fun K cal Q' hK hC hQ => ?_)
  refine And.intro (sk_1 I.1) (And.intro (k13 I.1) (And.intro trivial (hQ _ _ ?_)))
  rw [show am_i h (am_r h 1 (515 % 64)) (129 % 64) = _ from e]
  exact HQ h I clF.rf
set_option maxHeartbeats 4000000 in
theorem k_terminals (hd : 1 ≤ d) (I : CI h st) (HQ : ∀ h', CI h' st → clF h h' → Q (.inl (some (.int (nI (gT st.1))))) h') : am_C xs am_P0 d m_Mc_terminals [.ref 1] h Q := by
  have e : am_i h (am_r h 1 3) 2 = nI (gT st.1) := by rw [sr_1_3 I.1]; exact I.2.1.1.2.1.2.2
  refine am_C_le hd (am_enter (d := 0) ap_Mc_terminals rfl ?_) (fun _ _ k => k)
  refine am_go (fun _ => false) (fun K cal Q' hK hC hQ => ?_)
  refine And.intro (sk_1 I.1) (And.intro (k13 I.1) (And.intro trivial (hQ _ _ ?_)))
  rw [show am_i h (am_r h 1 (515 % 64)) (130 % 64) = _ from e]
  exact HQ h I clF.rf
set_option maxHeartbeats 4000000 in
theorem k_errorOffset (hd : 1 ≤ d) (I : CI h st) (HQ : ∀ h', CI h' st → clF h h' → Q (.inl (some (.int st.2.2.2))) h') : am_C xs am_P0 d m_Mc_errorOffset [.ref 1] h Q := by
  refine am_C_le hd (am_enter (d := 0) ap_Mc_errorOffset rfl ?_) (fun _ _ k => k)
  refine am_go (fun _ => false) (fun K cal Q' hK hC hQ => ?_)
  refine And.intro (sk_1 I.1) (And.intro trivial (hQ _ _ ?_))
  rw [show am_i h 1 (514 % 64) = _ from I.2.2.2.2]
  exact HQ h I clF.rf
set_option maxHeartbeats 4000000 in
theorem k_burden (hd : 3 ≤ d) (I : CI h st) (hN : topN h) (v : Int32) (HQ : ∀ h', CI h' st → clF h h' → Q (aR 2 0 0 (sBurden st.1 v)) h') : am_C xs am_P0 d m_Mc_burden [.ref 1, .int v] h Q := by
  have hn := I.2.1.1.2.2.2.1.1
  refine am_C_le hd (am_enter (d := 2) ap_Mc_burden rfl ?_) (fun _ _ k => k)
  refine am_go (fun _ => false) (fun K cal Q' hK hC hQ => ?_)
  refine And.intro (sk_1 I.1) (hC _ _ _ _ (c_requireVertex (by decide) I hN v (fun k k1 k2 => ?_) (fun z => ?_)))
  · subst k2
    refine And.intro (sk_1 I.1) (And.intro (k13 I.1) (And.intro (ck_row (x := am_r h (am_r h 1 3) 3) (by rw [sr_1_3 I.1]; exact sr_3_3 I.1) (sk_4 I.1) rfl (by omega) (by omega)) (And.intro trivial (hQ _ _ ?_))))
    have := HQ h I clF.rf
    unfold sBurden at this
    rw [if_pos (vin_nI k1 (by omega)), q_cl (by omega), ← I.2.1.2.2.1 k k1] at this
    show Q (.inl (some (.int (am_i h (am_r h (am_r h 1 3) 3) (nI k).toNatClampNeg)))) h
    rw [sr_1_3 I.1, sr_3_3 I.1, q_cl (by omega)]
    exact this
  · have := HQ _ I.thr.1 I.thr.2
    unfold sBurden at this
    rw [if_neg (by rw [z]; decide)] at this
    exact hQ _ _ this
set_option maxHeartbeats 4000000 in
theorem k_label (hd : 3 ≤ d) (I : CI h st) (hN : topN h) (v : Int32) (HQ : ∀ h', CI h' st → clF h h' → Q (aR 2 0 0 (sLabel st.1 v)) h') : am_C xs am_P0 d m_Mc_label [.ref 1, .int v] h Q := by
  have hn := I.2.1.1.2.2.2.1.1
  refine am_C_le hd (am_enter (d := 2) ap_Mc_label rfl ?_) (fun _ _ k => k)
  refine am_go (fun _ => false) (fun K cal Q' hK hC hQ => ?_)
  refine And.intro (sk_1 I.1) (hC _ _ _ _ (c_requireVertex (by decide) I hN v (fun k k1 k2 => ?_) (fun z => ?_)))
  · subst k2
    refine And.intro (sk_1 I.1) (And.intro (k13 I.1) (And.intro (ck_row (x := am_r h (am_r h 1 3) 4) (by rw [sr_1_3 I.1]; exact sr_3_4 I.1) (sk_5 I.1) rfl (by omega) (by omega)) (And.intro trivial (hQ _ _ ?_))))
    have := HQ h I clF.rf
    unfold sLabel at this
    rw [if_pos (vin_nI k1 (by omega)), q_cl (by omega), ← I.2.1.2.2.2.1 k k1] at this
    show Q (.inl (some (.int (am_i h (am_r h (am_r h 1 3) 4) (nI k).toNatClampNeg)))) h
    rw [sr_1_3 I.1, sr_3_4 I.1, q_cl (by omega)]
    exact this
  · have := HQ _ I.thr.1 I.thr.2
    unfold sLabel at this
    rw [if_neg (by rw [z]; decide)] at this
    exact hQ _ _ this
set_option maxHeartbeats 8000000 in
theorem k_edge (hd : 2 ≤ d) (I : CI h st) (hN : topN h) (e w : Int32) (HQ : ∀ h', CI h' st → clF h h' → Q (aR 2 1 0 (sEdge st.1 e w)) h') : am_C xs am_P0 d m_Mc_edge [.ref 1, .int e, .int w] h Q := by
  have hm := I.2.1.1.2.2.2.1.2.1
  refine am_C_le hd (am_enter (d := 1) ap_Mc_edge rfl ?_) (fun _ _ k => k)
  refine am_go (fun _ => false) (fun K cal Q' hK hC hQ => ?_)
  refine And.intro (sk_1 I.1) (hC _ _ _ _ (c_requireEdge (by decide) I hN e (fun k k1 k2 => ?_) (fun z => ?_)))
  · subst k2
    have H := HQ h I clF.rf
    have Ht := HQ _ I.thr.1 I.thr.2
    unfold sEdge at H Ht
    rw [if_pos (vin_nI k1 (by omega)), q_cl (by omega)] at H Ht
    have cl : (nI k).toNatClampNeg = k := q_cl (by omega)
    refine And.intro (fun c => ?_) (fun c => ?_)
    · have c : ¬ w = nI 0 := c
      rw [if_neg c] at H Ht
      refine And.intro (fun c2 => ?_) (fun c2 => ?_)
      · have c2 : ¬ w = nI 1 := c2
        rw [if_neg c2] at H Ht
        refine And.intro (fun c3 => ?_) (fun c3 => ?_)
        · have c3 : ¬ w = nI 2 := c3
          rw [if_neg c3] at H Ht
          refine And.intro (fun c4 => ?_) (fun c4 => ?_)
          · have c4 : ¬ w = nI 3 := c4
            rw [if_neg c4] at H Ht
            refine And.intro (fun c5 => ?_) (fun c5 => ?_)
            · have c5 : ¬ w = nI 4 := c5
              rw [if_neg c5] at Ht
              exact And.intro (top_lt hN) (hQ _ _ Ht)
            · have c5 : w = nI 4 := Classical.not_not.mp c5
              rw [if_pos c5] at H
              refine And.intro (sk_1 I.1) (And.intro (k13 I.1) ?_)
              show cal 25 [.ref (am_r h 1 3), .int (nI k)] h _
              rw [sr_1_3 I.1]
              exact hC _ _ _ _ (c_lengthOf (by decide) I.2.1.1 I.2.1.co k1 (And.intro trivial (hQ _ _ H)))
          · have c4 : w = nI 3 := Classical.not_not.mp c4
            rw [if_pos c4] at H
            refine And.intro (sk_1 I.1) (And.intro (k13 I.1) (And.intro (ck_row (x := am_r h (am_r h 1 3) 8) (by rw [sr_1_3 I.1]; exact sr_3_8 I.1) (sk_9 I.1) rfl (by omega) (by omega)) (And.intro trivial (hQ _ _ ?_))))
            show Q (.inl (some (.int (am_i h (am_r h (am_r h 1 3) 8) (nI k).toNatClampNeg)))) h
            rw [sr_1_3 I.1, sr_3_8 I.1, cl, show am_i h 9 k = _ from I.2.1.2.2.2.2.1 k k1]
            exact H
        · have c3 : w = nI 2 := Classical.not_not.mp c3
          rw [if_pos c3] at H
          refine And.intro (sk_1 I.1) (And.intro (k13 I.1) (And.intro (ck_row (x := am_r h (am_r h 1 3) 7) (by rw [sr_1_3 I.1]; exact sr_3_7 I.1) (sk_8 I.1) rfl (by omega) (by omega)) (And.intro trivial (hQ _ _ ?_))))
          show Q (.inl (some (.int (am_i h (am_r h (am_r h 1 3) 7) (nI k).toNatClampNeg)))) h
          rw [sr_1_3 I.1, sr_3_7 I.1, cl, show am_i h 8 k = _ from I.2.1.2.1 k k1]
          exact H
      · have c2 : w = nI 1 := Classical.not_not.mp c2
        rw [if_pos c2] at H
        refine And.intro (sk_1 I.1) (And.intro (k13 I.1) (And.intro (ck_row (x := am_r h (am_r h 1 3) 6) (by rw [sr_1_3 I.1]; exact sr_3_6 I.1) (sk_7 I.1) rfl (by omega) (by omega)) (And.intro trivial (hQ _ _ ?_))))
        show Q (.inl (some (.int (am_i h (am_r h (am_r h 1 3) 6) (nI k).toNatClampNeg)))) h
        rw [sr_1_3 I.1, sr_3_6 I.1, cl, show am_i h 7 k = _ from (I.2.1.1.2.2.1 k k1).2]
        exact H
    · have c : w = nI 0 := Classical.not_not.mp c
      rw [if_pos c] at H
      refine And.intro (sk_1 I.1) (And.intro (k13 I.1) (And.intro (ck_row (x := am_r h (am_r h 1 3) 5) (by rw [sr_1_3 I.1]; exact sr_3_5 I.1) (sk_6 I.1) rfl (by omega) (by omega)) (And.intro trivial (hQ _ _ ?_))))
      show Q (.inl (some (.int (am_i h (am_r h (am_r h 1 3) 5) (nI k).toNatClampNeg)))) h
      rw [sr_1_3 I.1, sr_3_5 I.1, cl, show am_i h 6 k = _ from (I.2.1.1.2.2.1 k k1).1]
      exact H
  · have := HQ _ I.thr.1 I.thr.2
    unfold sEdge at this
    rw [if_neg (by rw [z]; decide)] at this
    exact hQ _ _ this
end
end

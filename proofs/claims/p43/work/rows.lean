section
-- ===== PART A: goes FIRST, ahead of the names: the tables' words, and 'selects' of the private methods out of them =====
/-- a private method of a class that the tables say can be made, by its rows of tables_1 -/
def lw_okq (q : MethodName × Nat) : Prop := (q.1.cls ≠ "java/lang/invoke/MethodHandle" ∧ q.1.cls ≠ "java/lang/invoke/VarHandle") ∧ Cond.instantiable q.1.cls q.2 ∈ tables_1 ∧ Cond.privateMethod q.1 ∈ tables_1 ∧ Cond.instanceMethod q.1 ∈ tables_1
theorem lw_p0 : lw_okq (⟨"MultiwayCut$ExactSearch", "costToEarlier", "(LMultiwayCut$Graph;I)I"⟩, 3) := ⟨⟨by decide +kernel, by decide +kernel⟩, List.mem_of_getElem? (i := 180) (by decide +kernel), List.mem_of_getElem? (i := 279) (by decide +kernel), List.mem_of_getElem? (i := 280) (by decide +kernel)⟩
theorem lw_p1 : lw_okq (⟨"MultiwayCut", "requireVertex", "(I)V"⟩, 10) := ⟨⟨by decide +kernel, by decide +kernel⟩, List.mem_of_getElem? (i := 30) (by decide +kernel), List.mem_of_getElem? (i := 287) (by decide +kernel), List.mem_of_getElem? (i := 288) (by decide +kernel)⟩
theorem lw_p2 : lw_okq (⟨"java/lang/Throwable", "fillInStackTrace", "(I)Ljava/lang/Throwable;"⟩, 6) := ⟨⟨by decide +kernel, by decide +kernel⟩, List.mem_of_getElem? (i := 333) (by decide +kernel), List.mem_of_getElem? (i := 331) (by decide +kernel), List.mem_of_getElem? (i := 332) (by decide +kernel)⟩
theorem lw_p3 : lw_okq (⟨"MultiwayCut", "requireTerminal", "(I)V"⟩, 10) := ⟨⟨by decide +kernel, by decide +kernel⟩, List.mem_of_getElem? (i := 30) (by decide +kernel), List.mem_of_getElem? (i := 366) (by decide +kernel), List.mem_of_getElem? (i := 367) (by decide +kernel)⟩
theorem lw_p4 : lw_okq (⟨"MultiwayCut", "putWord", "(I)V"⟩, 10) := ⟨⟨by decide +kernel, by decide +kernel⟩, List.mem_of_getElem? (i := 30) (by decide +kernel), List.mem_of_getElem? (i := 533) (by decide +kernel), List.mem_of_getElem? (i := 534) (by decide +kernel)⟩
theorem lw_p5 : lw_okq (⟨"MultiwayCut$SetupReader", "advance", "()V"⟩, 13) := ⟨⟨by decide +kernel, by decide +kernel⟩, List.mem_of_getElem? (i := 117) (by decide +kernel), List.mem_of_getElem? (i := 552) (by decide +kernel), List.mem_of_getElem? (i := 553) (by decide +kernel)⟩
theorem lw_p6 : lw_okq (⟨"MultiwayCut$SetupReader", "readGraph", "()Z"⟩, 13) := ⟨⟨by decide +kernel, by decide +kernel⟩, List.mem_of_getElem? (i := 117) (by decide +kernel), List.mem_of_getElem? (i := 557) (by decide +kernel), List.mem_of_getElem? (i := 558) (by decide +kernel)⟩
theorem lw_p7 : lw_okq (⟨"MultiwayCut$SetupReader", "isWord", "(Ljava/lang/String;)Z"⟩, 13) := ⟨⟨by decide +kernel, by decide +kernel⟩, List.mem_of_getElem? (i := 117) (by decide +kernel), List.mem_of_getElem? (i := 562) (by decide +kernel), List.mem_of_getElem? (i := 563) (by decide +kernel)⟩
theorem lw_p8 : lw_okq (⟨"MultiwayCut$SetupReader", "fail", "(I)Z"⟩, 13) := ⟨⟨by decide +kernel, by decide +kernel⟩, List.mem_of_getElem? (i := 117) (by decide +kernel), List.mem_of_getElem? (i := 568) (by decide +kernel), List.mem_of_getElem? (i := 569) (by decide +kernel)⟩
theorem lw_p9 : lw_okq (⟨"MultiwayCut$SetupReader", "numberHere", "(II)I"⟩, 13) := ⟨⟨by decide +kernel, by decide +kernel⟩, List.mem_of_getElem? (i := 117) (by decide +kernel), List.mem_of_getElem? (i := 572) (by decide +kernel), List.mem_of_getElem? (i := 573) (by decide +kernel)⟩
theorem lw_p10 : lw_okq (⟨"MultiwayCut$SetupReader", "readSymbol", "(I)Z"⟩, 13) := ⟨⟨by decide +kernel, by decide +kernel⟩, List.mem_of_getElem? (i := 117) (by decide +kernel), List.mem_of_getElem? (i := 576) (by decide +kernel), List.mem_of_getElem? (i := 577) (by decide +kernel)⟩
theorem lw_p11 : lw_okq (⟨"MultiwayCut$SetupReader", "readStatement", "()Z"⟩, 13) := ⟨⟨by decide +kernel, by decide +kernel⟩, List.mem_of_getElem? (i := 117) (by decide +kernel), List.mem_of_getElem? (i := 580) (by decide +kernel), List.mem_of_getElem? (i := 581) (by decide +kernel)⟩
theorem lw_p12 : lw_okq (⟨"MultiwayCut$SetupReader", "readTerminal", "()Z"⟩, 13) := ⟨⟨by decide +kernel, by decide +kernel⟩, List.mem_of_getElem? (i := 117) (by decide +kernel), List.mem_of_getElem? (i := 585) (by decide +kernel), List.mem_of_getElem? (i := 586) (by decide +kernel)⟩
theorem lw_p13 : lw_okq (⟨"MultiwayCut$SetupReader", "vertexHere", "()I"⟩, 13) := ⟨⟨by decide +kernel, by decide +kernel⟩, List.mem_of_getElem? (i := 117) (by decide +kernel), List.mem_of_getElem? (i := 595) (by decide +kernel), List.mem_of_getElem? (i := 596) (by decide +kernel)⟩
theorem lw_p14 : lw_okq (⟨"MultiwayCut$SetupReader", "readEdge", "()Z"⟩, 13) := ⟨⟨by decide +kernel, by decide +kernel⟩, List.mem_of_getElem? (i := 117) (by decide +kernel), List.mem_of_getElem? (i := 601) (by decide +kernel), List.mem_of_getElem? (i := 602) (by decide +kernel)⟩
theorem lw_p15 : lw_okq (⟨"MultiwayCut$SetupReader", "readLoad", "()Z"⟩, 13) := ⟨⟨by decide +kernel, by decide +kernel⟩, List.mem_of_getElem? (i := 117) (by decide +kernel), List.mem_of_getElem? (i := 622) (by decide +kernel), List.mem_of_getElem? (i := 623) (by decide +kernel)⟩
def lw_privs_1 : List (MethodName × Nat) := [(⟨"MultiwayCut$ExactSearch", "costToEarlier", "(LMultiwayCut$Graph;I)I"⟩, 3), (⟨"MultiwayCut", "requireVertex", "(I)V"⟩, 10), (⟨"java/lang/Throwable", "fillInStackTrace", "(I)Ljava/lang/Throwable;"⟩, 6), (⟨"MultiwayCut", "requireTerminal", "(I)V"⟩, 10), (⟨"MultiwayCut", "putWord", "(I)V"⟩, 10), (⟨"MultiwayCut$SetupReader", "advance", "()V"⟩, 13), (⟨"MultiwayCut$SetupReader", "readGraph", "()Z"⟩, 13), (⟨"MultiwayCut$SetupReader", "isWord", "(Ljava/lang/String;)Z"⟩, 13), (⟨"MultiwayCut$SetupReader", "fail", "(I)Z"⟩, 13), (⟨"MultiwayCut$SetupReader", "numberHere", "(II)I"⟩, 13), (⟨"MultiwayCut$SetupReader", "readSymbol", "(I)Z"⟩, 13), (⟨"MultiwayCut$SetupReader", "readStatement", "()Z"⟩, 13), (⟨"MultiwayCut$SetupReader", "readTerminal", "()Z"⟩, 13), (⟨"MultiwayCut$SetupReader", "vertexHere", "()I"⟩, 13), (⟨"MultiwayCut$SetupReader", "readEdge", "()Z"⟩, 13), (⟨"MultiwayCut$SetupReader", "readLoad", "()Z"⟩, 13)]
theorem lw_r1 : ∀ q ∈ lw_privs_1, lw_okq q := List.forall_mem_cons.mpr ⟨lw_p0, List.forall_mem_cons.mpr ⟨lw_p1, List.forall_mem_cons.mpr ⟨lw_p2, List.forall_mem_cons.mpr ⟨lw_p3, List.forall_mem_cons.mpr ⟨lw_p4, List.forall_mem_cons.mpr ⟨lw_p5, List.forall_mem_cons.mpr ⟨lw_p6, List.forall_mem_cons.mpr ⟨lw_p7, List.forall_mem_cons.mpr ⟨lw_p8, List.forall_mem_cons.mpr ⟨lw_p9, List.forall_mem_cons.mpr ⟨lw_p10, List.forall_mem_cons.mpr ⟨lw_p11, List.forall_mem_cons.mpr ⟨lw_p12, List.forall_mem_cons.mpr ⟨lw_p13, List.forall_mem_cons.mpr ⟨lw_p14, List.forall_mem_cons.mpr ⟨lw_p15, fun _ h => absurd h List.not_mem_nil⟩⟩⟩⟩⟩⟩⟩⟩⟩⟩⟩⟩⟩⟩⟩⟩
theorem lw_p16 : lw_okq (⟨"MultiwayCut$SetupReader", "startCost", "()Z"⟩, 13) := ⟨⟨by decide +kernel, by decide +kernel⟩, List.mem_of_getElem? (i := 117) (by decide +kernel), List.mem_of_getElem? (i := 627) (by decide +kernel), List.mem_of_getElem? (i := 628) (by decide +kernel)⟩
theorem lw_p17 : lw_okq (⟨"MultiwayCut$SetupReader", "readSum", "(I)Z"⟩, 13) := ⟨⟨by decide +kernel, by decide +kernel⟩, List.mem_of_getElem? (i := 117) (by decide +kernel), List.mem_of_getElem? (i := 631) (by decide +kernel), List.mem_of_getElem? (i := 632) (by decide +kernel)⟩
theorem lw_p18 : lw_okq (⟨"MultiwayCut$SetupReader", "readTerm", "(I)Z"⟩, 13) := ⟨⟨by decide +kernel, by decide +kernel⟩, List.mem_of_getElem? (i := 117) (by decide +kernel), List.mem_of_getElem? (i := 635) (by decide +kernel), List.mem_of_getElem? (i := 636) (by decide +kernel)⟩
theorem lw_p19 : lw_okq (⟨"MultiwayCut$SetupReader", "readFactor", "(I)Z"⟩, 13) := ⟨⟨by decide +kernel, by decide +kernel⟩, List.mem_of_getElem? (i := 117) (by decide +kernel), List.mem_of_getElem? (i := 639) (by decide +kernel), List.mem_of_getElem? (i := 640) (by decide +kernel)⟩
theorem lw_p20 : lw_okq (⟨"MultiwayCut$SetupReader", "putCode", "(I)V"⟩, 13) := ⟨⟨by decide +kernel, by decide +kernel⟩, List.mem_of_getElem? (i := 117) (by decide +kernel), List.mem_of_getElem? (i := 643) (by decide +kernel), List.mem_of_getElem? (i := 644) (by decide +kernel)⟩
theorem lw_p21 : lw_okq (⟨"MultiwayCut$SetupReader", "finish", "()V"⟩, 13) := ⟨⟨by decide +kernel, by decide +kernel⟩, List.mem_of_getElem? (i := 117) (by decide +kernel), List.mem_of_getElem? (i := 650) (by decide +kernel), List.mem_of_getElem? (i := 651) (by decide +kernel)⟩
theorem lw_p22 : lw_okq (⟨"MultiwayCutLaw", "cost", "([I)I"⟩, 5) := ⟨⟨by decide +kernel, by decide +kernel⟩, List.mem_of_getElem? (i := 447) (by decide +kernel), List.mem_of_getElem? (i := 705) (by decide +kernel), List.mem_of_getElem? (i := 706) (by decide +kernel)⟩
theorem lw_p23 : lw_okq (⟨"MultiwayCutLaw", "exact", "(I)I"⟩, 5) := ⟨⟨by decide +kernel, by decide +kernel⟩, List.mem_of_getElem? (i := 447) (by decide +kernel), List.mem_of_getElem? (i := 709) (by decide +kernel), List.mem_of_getElem? (i := 710) (by decide +kernel)⟩
theorem lw_p24 : lw_okq (⟨"MultiwayCutLaw", "search", "([III)V"⟩, 5) := ⟨⟨by decide +kernel, by decide +kernel⟩, List.mem_of_getElem? (i := 447) (by decide +kernel), List.mem_of_getElem? (i := 713) (by decide +kernel), List.mem_of_getElem? (i := 714) (by decide +kernel)⟩
theorem lw_p25 : lw_okq (⟨"MultiwayCutLaw", "areIsolating", "(LMultiwayCut;)Z"⟩, 5) := ⟨⟨by decide +kernel, by decide +kernel⟩, List.mem_of_getElem? (i := 447) (by decide +kernel), List.mem_of_getElem? (i := 719) (by decide +kernel), List.mem_of_getElem? (i := 720) (by decide +kernel)⟩
theorem lw_p26 : lw_okq (⟨"MultiwayCutLaw", "cut", "(I)I"⟩, 5) := ⟨⟨by decide +kernel, by decide +kernel⟩, List.mem_of_getElem? (i := 447) (by decide +kernel), List.mem_of_getElem? (i := 723) (by decide +kernel), List.mem_of_getElem? (i := 724) (by decide +kernel)⟩
theorem lw_p27 : lw_okq (⟨"MultiwayCut", "requireSomeTerminal", "()V"⟩, 10) := ⟨⟨by decide +kernel, by decide +kernel⟩, List.mem_of_getElem? (i := 30) (by decide +kernel), List.mem_of_getElem? (i := 773) (by decide +kernel), List.mem_of_getElem? (i := 774) (by decide +kernel)⟩
theorem lw_p28 : lw_okq (⟨"MultiwayCutLaw", "areDistances", "(LMultiwayCut;)Z"⟩, 5) := ⟨⟨by decide +kernel, by decide +kernel⟩, List.mem_of_getElem? (i := 447) (by decide +kernel), List.mem_of_getElem? (i := 783) (by decide +kernel), List.mem_of_getElem? (i := 784) (by decide +kernel)⟩
theorem lw_p29 : lw_okq (⟨"MultiwayCut$NearestSearch", "offer", "(III)V"⟩, 2) := ⟨⟨by decide +kernel, by decide +kernel⟩, List.mem_of_getElem? (i := 198) (by decide +kernel), List.mem_of_getElem? (i := 802) (by decide +kernel), List.mem_of_getElem? (i := 803) (by decide +kernel)⟩
def lw_privs_2 : List (MethodName × Nat) := [(⟨"MultiwayCut$SetupReader", "startCost", "()Z"⟩, 13), (⟨"MultiwayCut$SetupReader", "readSum", "(I)Z"⟩, 13), (⟨"MultiwayCut$SetupReader", "readTerm", "(I)Z"⟩, 13), (⟨"MultiwayCut$SetupReader", "readFactor", "(I)Z"⟩, 13), (⟨"MultiwayCut$SetupReader", "putCode", "(I)V"⟩, 13), (⟨"MultiwayCut$SetupReader", "finish", "()V"⟩, 13), (⟨"MultiwayCutLaw", "cost", "([I)I"⟩, 5), (⟨"MultiwayCutLaw", "exact", "(I)I"⟩, 5), (⟨"MultiwayCutLaw", "search", "([III)V"⟩, 5), (⟨"MultiwayCutLaw", "areIsolating", "(LMultiwayCut;)Z"⟩, 5), (⟨"MultiwayCutLaw", "cut", "(I)I"⟩, 5), (⟨"MultiwayCut", "requireSomeTerminal", "()V"⟩, 10), (⟨"MultiwayCutLaw", "areDistances", "(LMultiwayCut;)Z"⟩, 5), (⟨"MultiwayCut$NearestSearch", "offer", "(III)V"⟩, 2)]
theorem lw_r2 : ∀ q ∈ lw_privs_2, lw_okq q := List.forall_mem_cons.mpr ⟨lw_p16, List.forall_mem_cons.mpr ⟨lw_p17, List.forall_mem_cons.mpr ⟨lw_p18, List.forall_mem_cons.mpr ⟨lw_p19, List.forall_mem_cons.mpr ⟨lw_p20, List.forall_mem_cons.mpr ⟨lw_p21, List.forall_mem_cons.mpr ⟨lw_p22, List.forall_mem_cons.mpr ⟨lw_p23, List.forall_mem_cons.mpr ⟨lw_p24, List.forall_mem_cons.mpr ⟨lw_p25, List.forall_mem_cons.mpr ⟨lw_p26, List.forall_mem_cons.mpr ⟨lw_p27, List.forall_mem_cons.mpr ⟨lw_p28, List.forall_mem_cons.mpr ⟨lw_p29, fun _ h => absurd h List.not_mem_nil⟩⟩⟩⟩⟩⟩⟩⟩⟩⟩⟩⟩⟩⟩
def lw_privs : List (MethodName × Nat) := lw_privs_1 ++ (lw_privs_2)
/-- AbstractStringBuilder's private methods, called on a StringBuilder -/
def lw_asp : List MethodName := [⟨"java/lang/AbstractStringBuilder", "ensureCapacityInternal", "(I)V"⟩, ⟨"java/lang/AbstractStringBuilder", "newCapacity", "(I)I"⟩, ⟨"java/lang/AbstractStringBuilder", "putStringAt", "(ILjava/lang/String;)V"⟩, ⟨"java/lang/AbstractStringBuilder", "inflateIfNeededFor", "(Ljava/lang/String;)V"⟩]
abbrev lw_asx : MethodName := ⟨"java/lang/AbstractStringBuilder", "isLatin1", "()Z"⟩
theorem lw_sel_up {C : String} {x0 y : MethodName} {s : State} {args : Array Value} (hy : y.cls ≠ "java/lang/invoke/MethodHandle" ∧ y.cls ≠ "java/lang/invoke/VarHandle") (h0 : (Cond.selects C x0 x0).before args s = true) (hcl : x0.cls = y.cls)
    (hpriv : (Cond.privateMethod y).before args s = true) (hinst : (Cond.instanceMethod y).before args s = true) : (Cond.selects C y y).before args s = true := by
  obtain ⟨c, r, m, hc, hr, hm, hs, mk0, hmk, hni⟩ := Cond.selects_spec h0
  obtain ⟨mk, methM, hnamed, hmethM, -, -⟩ := Cond.instanceMethod_spec hinst
  have hfound : s.methodFound? y.cls y.name y.desc = some mk := State.methodFound?_of_named hnamed hy
  have hcls : mk.cls = m.cls := Option.some.inj ((findClass_of_methodNamed hnamed).symm.trans ((congrArg s.vm.findClass hcl.symm).trans (findClass_of_methodNamed hm)))
  have hsel : selectMethod {} s.vm c mk = .method mk := selectMethod_private hmethM (Cond.privateMethod_at hpriv mk methM hnamed hmethM)
  simp only [Cond.before, Cond.holds, Cond.value, hc, hfound, hnamed, hsel, hcls, hmk]
  simp
  exact hni
theorem lw_asp_ok : ∀ y ∈ lw_asp, (y.cls ≠ "java/lang/invoke/MethodHandle" ∧ y.cls ≠ "java/lang/invoke/VarHandle") ∧ lw_asx.cls = y.cls ∧ Cond.privateMethod y ∈ tables_1 ∧ Cond.instanceMethod y ∈ tables_1 := by
  intro y hy
  rcases List.mem_cons.mp hy with rfl | hy
  · exact ⟨⟨by decide +kernel, by decide +kernel⟩, rfl, List.mem_of_getElem? (i := 866) (by decide +kernel), List.mem_of_getElem? (i := 867) (by decide +kernel)⟩
  rcases List.mem_cons.mp hy with rfl | hy
  · exact ⟨⟨by decide +kernel, by decide +kernel⟩, rfl, List.mem_of_getElem? (i := 870) (by decide +kernel), List.mem_of_getElem? (i := 871) (by decide +kernel)⟩
  rcases List.mem_cons.mp hy with rfl | hy
  · exact ⟨⟨by decide +kernel, by decide +kernel⟩, rfl, List.mem_of_getElem? (i := 910) (by decide +kernel), List.mem_of_getElem? (i := 911) (by decide +kernel)⟩
  rcases List.mem_cons.mp hy with rfl | hy
  · exact ⟨⟨by decide +kernel, by decide +kernel⟩, rfl, List.mem_of_getElem? (i := 914) (by decide +kernel), List.mem_of_getElem? (i := 915) (by decide +kernel)⟩
  exact absurd hy List.not_mem_nil
theorem lw_asx_in : Cond.selects "java/lang/StringBuilder" lw_asx lw_asx ∈ tables_1 := List.mem_of_getElem? (i := 892) (by decide +kernel)
def lw_sels2 : List Cond := lw_asp.map (fun y => Cond.selects "java/lang/StringBuilder" y y)
def lw_tbl : List Cond := lw_sels2 ++ (k2_sels lw_privs ++ tables_1)
theorem lw_privs_ok : ∀ q ∈ lw_privs, lw_okq q := by
  show ∀ q ∈ lw_privs_1 ++ (lw_privs_2), lw_okq q
  exact List.forall_mem_append.mpr ⟨lw_r1, lw_r2⟩
theorem lw_hts {args : Array Value} {s : State} (hts : ∀ w ∈ tables_1, w.before args s = true) : ∀ w ∈ lw_tbl, w.before args s = true := by
  intro w hw
  rcases List.mem_append.mp hw with hw | hw
  · obtain ⟨y, hy, rfl⟩ := List.mem_map.mp hw
    obtain ⟨h1, h2, h3, h4⟩ := lw_asp_ok y hy
    exact lw_sel_up h1 (hts _ lw_asx_in) h2 (hts _ h3) (hts _ h4)
  · exact k2_hts_sels lw_privs hts lw_privs_ok w hw
end
section
/-! ===== BEGIN words of one list among another's, by their places ===== -/
theorem goodIn_r {big : List Cond} (ws : List Cond) (ps : List Nat) (hp : ws = ps.filterMap (fun i => big[i]?)) (h : ws.all goodWord = true) : GoodIn big ws := by
  intro w hw
  have h1 := List.all_eq_true.mp h w hw
  rw [hp] at hw
  obtain ⟨i, -, hi⟩ := List.mem_filterMap.mp hw
  have hm : w ∈ big := by first | exact List.mem_of_getElem? hi | exact List.getElem?_mem hi
  exact ⟨hm, good_of_word h1⟩
theorem goodIn_app {big a b : List Cond} (ha : GoodIn big a) (hb : GoodIn big b) : GoodIn big (a ++ b) := fun w h => (List.mem_append.mp h).elim (ha w) (hb w)
theorem goodIn_ca {big a b : List Cond} {c : Cond} (ha : GoodIn big (c :: a)) (hb : GoodIn big b) : GoodIn big (c :: (a ++ b)) := fun w h => (List.mem_cons.mp h).elim (fun e => ha w (List.mem_cons.mpr (Or.inl e))) (fun h => (List.mem_append.mp h).elim (fun h => ha w (List.mem_cons.mpr (Or.inr h))) (hb w))
theorem goodIn_sub {big ws : List Cond} (hm : ∀ w ∈ ws, w ∈ big) (h : ws.all goodWord = true) : GoodIn big ws := fun w hw => ⟨hm w hw, good_of_word (List.all_eq_true.mp h w hw)⟩
/-! ===== END ===== -/
/-! ===== BEGIN exceptions that leave a method, and their catching by the caller (launches without stack traces) ===== -/
section VXA
/-! The laws vx_back, vx_callV, vx_callS, vx_callSW, vx_throw0, vx_throwS follow proofs of the library, with one case more: JvmDerived/Free/Laws.lean (Back.of_free), Shelf42/LK1.lean (callV, callS), Shelf/KitTraced.lean (throwNew0V, throwNewS). -/
/-- where a method has thrown q: the class by its name, the cell, what was written, the world -/
def vx_T (XC : String → State → State → Prop) (st : State) (q : Addr) (t : State) (mc ms : Nat) (free : Addr → Prop) : Prop :=
  ∃ (E : String) (ce : Cell) (L : List Loc), XC E st t ∧ t.heap[q]? = some ce ∧ ce.vm = .none ∧ st.vm.findClass E = some ce.cls ∧ st.WarmedH t.vm ∧ st.sameButNew ({ t with vm := st.vm } : State) L mc ms ∧ ∀ z ∈ L, free z.base
def vx_Q (Qc : Array Value → State → Outcome → State → Prop) (XC : String → State → State → Prop) (mc ms : Nat) (free : Addr → Prop) : Array Value → State → Outcome → State → Prop := fun a st o t =>
  (Qc a st o t ∧ ∃ L, FrameEnd st o t L mc ms ∧ ∀ q ∈ L, free q.base) ∨ ∃ q, o = .threw q ∧ vx_T XC st q t mc ms free
/-- a callee that returns or throws -/
def vx_Met (l : Launch) (y : MethodName) (ws : List Cond) (rm : Room) (Pc : Array Value → State → Prop) (Qc : Array Value → State → Outcome → State → Prop) (XC : String → State → State → Prop) (mc ms : Nat) (free : Addr → Prop) : Prop :=
  MetFree l y (headSpec ws rm) Pc (fun _ _ _ _ _ => True) (vx_Q Qc XC mc ms free)
def vx_Post (XC : String → State → State → Prop) (mc ms : Nat) (free : Addr → Prop) : Pt → Array Value → Addr → Pt → Prop := fun A a q B =>
  ∃ (g : JFrame) (mk : MethodId) (t : State) (L : List Loc) (E : String) (ce : Cell), B.U.heap = t.heap ∧ B.U.vm = t.vm ∧ XC E (A.U.calling g mk a) t ∧ t.heap[q]? = some ce ∧ ce.vm = .none ∧ A.U.vm.findClass E = some ce.cls ∧ B.locs = A.locs ++ L ∧ (∀ z ∈ L, free z.base) ∧ B.cells = A.cells + mc ∧ B.slots = A.slots + ms
def vx_Back (l : Launch) (R : Room) (p : Program) (e : Env) (below : List Frame) (s : State) (sargs : Array Value) (y : MethodName) (len W9 : Nat)
    (Pre : Pt → Array Value → Prop) (Post : Pt → Array Value → Option Value → Pt → Prop) (PostX : Pt → Array Value → Addr → Pt → Prop) : Prop :=
  ∀ (m : MethodId) (meth : Method) (c : Code) (A : Pt) (g : JFrame) (ig : Instr) (mk : MethodId) (a : Array Value),
    Stand p l e R s m sargs below meth c A.U A.locs A.cells A.slots → g.method = m → g.locals.size = c.maxLocals → decode c.code g.pc = .ok (ig, len) →
    2 * g.monitorRoom + (g.stack.map fun v => v.category).sum ≤ W9 → A.U.methodNamed? y = some mk → Pre A a →
    (∃ (v : Option Value) (B : Pt), Stand p l e R s m sargs below meth c B.U B.locs B.cells B.slots ∧ Post A a v B ∧
      Steps p.tables e below (doInvoke e (A.U.setTop g) [] mk a).1 (B.U.setTop { g with pc := g.pc + len, stack := v.toList ++ g.stack })) ∨
    (∃ (q : Addr) (B : Pt), Stand p l e R s m sargs below meth c B.U B.locs B.cells B.slots ∧ PostX A a q B ∧
      Steps p.tables e below (doInvoke e (A.U.setTop g) [] mk a).1 ((B.U.setTop g).pushFrame (.throwing q)))
section Payer
variable {l : Launch} {R : Room} {p : Program} {e : Env} {below : List Frame} {s : State} {sargs : Array Value} {y : MethodName} {len W9 : Nat}
theorem vx_back {ws : List Cond} {rm : Room} {Pc : Array Value → State → Prop} {Qc : Array Value → State → Outcome → State → Prop} {XC : String → State → State → Prop} {mc ms : Nat} {free : Addr → Prop} {bytes : ByteArray} {maxL : Nat} {ret : Option FieldType}
    (hM : vx_Met l y ws rm Pc Qc XC mc ms free) (hblind : FrameBlind Pc) (hrc : rm.cells = mc) (hrs : rm.slots = ms)
    (hframes : rm.frames + 1 ≤ R.frames) (hlocals : W9 + (maxL + 11) + rm.locals ≤ R.locals)
    (hws : ∀ w ∈ ws, ∀ a' U, s.WarmedH U.vm → w.before a' U = true) (hcode : Cond.code y bytes maxL ret ∈ ws) (hinit : ∀ a' U, s.WarmedH U.vm → (Cond.initialized y.cls).before a' U = true) :
    vx_Back l R p e below s sargs y len W9 (PreOf R mc ms Pc) (PostOf Qc mc ms free) (vx_Post XC mc ms free) := by
  intro m meth c A g ig mk a X hg hsize hdg hW hn hp
  have h1 : (headSpec ws rm).pre.before a A.U = true := atoms_intro fun w hw => hws w hw _ _ X.warmed
  have h2 : (Cond.code y bytes maxL ret).before a A.U = true := hws _ hcode _ _ X.warmed
  have h3 : (Cond.initialized y.cls).before a A.U = true := hinit _ _ X.warmed
  have h4 : A.cells + (headSpec ws rm).room.cells ≤ R.cells := by rw [show (headSpec ws rm).room.cells = mc from hrc]; exact hp.1
  have h5 : A.slots + (headSpec ws rm).room.slots ≤ R.slots := by rw [show (headSpec ws rm).room.slots = ms from hrs]; exact hp.2.1
  have hPc : Pc a (A.U.calling g mk a) := hblind _ _ _ _ hp.2.2
  obtain ⟨U, Ls, c0, s0⟩ := A
  dsimp only [Pt.U, Pt.locs, Pt.cells, Pt.slots] at h1 h2 h3 h4 h5 X hn hPc ⊢
  obtain ⟨methY, cY, hmY, hcY, -, hlY, -, -, -, -⟩ := Cond.code_spec hn h2
  obtain ⟨kY, hkY, -⟩ := className_of_methodNamed hn
  have hinitY : kY.init = .initialized := Cond.initialized_spec (findClass_of_methodNamed hn) hkY h3
  have h : At U g.method c below := by rw [hg]; exact X.here
  have hlocals9 : W9 + (maxL + 11) + (headSpec ws rm).room.locals ≤ R.locals := hlocals
  have happ : (headSpec ws rm).appliesLoose y e.platform (U.calling g mk a) = true :=
    Spec.appliesLoose_calling (g := g) h hdg hn hkY hinitY
      (X.room_calling (g := g) (R' := (headSpec ws rm).room) hsize hmY hcY hframes (by rw [hlY]; omega) h4 h5) h1
  obtain ⟨mid, hmid⟩ := h.above
  have hfr : (U.setTop g).frames = (.java g :: mid) ++ below := by rw [State.frames_setTop' g h.top, hmid]; rfl
  obtain ⟨o, s₂, hsteps, -, hend, hq⟩ := Steps.callFree hM p X.admits X.cas X.clock (acts := []) hfr happ hPc trivial
  have hq' : vx_Q Qc XC mc ms free a (U.calling g mk a) o s₂ := hq
  rw [State.frames_setTop' g h.top] at hend
  obtain ⟨g₀, hg0⟩ := Option.isSome_iff_exists.mp h.top
  obtain ⟨r, hr⟩ := State.topJava?_eq_some.mp hg0
  have hr' : (({ U with heap := s₂.heap, slotsUsed := s₂.slotsUsed } : State).setVm s₂.vm).frames = .java g₀ :: r := hr
  rcases hq' with ⟨hqc, L, hfe, hL⟩ | ⟨q, rfl, E, ce, L, hx, hce, hcv, hcl, hW₂, hsm, hL⟩
  · obtain ⟨⟨v, rfl⟩, hW₂, e2, q2, q3, q4, q5, q6⟩ := id hfe
    have e3 : s₂ = ({ (U.calling g mk a).setFrames s₂.frames with heap := s₂.heap, slotsUsed := s₂.slotsUsed } : State).setVm s₂.vm := by
      have : s₂ = ({ s₂ with vm := (U.calling g mk a).vm } : State).setVm s₂.vm := rfl
      rw [e2] at this
      exact this
    obtain ⟨c₂, i₂, len₂, hc₂, hd₂, hf₂⟩ := hend
    have hW' : U.WarmedH s₂.vm := hW₂
    have hcc : c₂ = c := by
      have h1 : s₂.code? g.method = U.code? g.method := by
        rw [State.code?_eq, State.code?_eq, hW'.alike.method?]
      exact Option.some.inj (hc₂.symm.trans (h1.trans h.code))
    subst hcc
    have hlen : len₂ = len := by rw [hdg] at hd₂; cases hd₂; rfl
    subst hlen
    have hs₂ : s₂ = (({ U with heap := s₂.heap, slotsUsed := s₂.slotsUsed } : State).setVm s₂.vm).setTop { g with pc := g.pc + len₂, stack := v.toList ++ g.stack } := by
      refine e3.trans ?_
      rw [hf₂, State.calling_eq h.top, State.setFrames_setFrames, State.setTop_of_frames _ hr', hr]
      rfl
    have hsame : U.sameButNew ({ U with heap := s₂.heap, slotsUsed := s₂.slotsUsed } : State) L mc ms := by
      refine ⟨?_, q2, q3, q4, q5, q6⟩
      obtain ⟨t, ht, -⟩ := State.frames_cons hr
      show ({ U with heap := s₂.heap, slotsUsed := s₂.slotsUsed } : State) = { U.setFrames U.frames with heap := s₂.heap, slotsUsed := s₂.slotsUsed }
      rw [State.setFrames_self ht]
    subst hg
    refine Or.inl ⟨v, ⟨(({ U with heap := s₂.heap, slotsUsed := s₂.slotsUsed } : State).setVm s₂.vm), Ls ++ L, c0 + mc, s0 + ms⟩,
      ⟨X.admits, X.cas, X.clock, X.frames, X.room, X.hears, X.method, X.code, (X.here.setHeapUsed s₂.heap s₂.slotsUsed).setVm hW'.alike, X.tail, State.WarmedH.trans X.warmed hW', X.limits, X.bytes, X.same.trans (hsame.setVm s.vm)⟩,
      ⟨g, mk, s₂, L, rfl, rfl, hqc, rfl, hL, rfl, rfl⟩, ?_⟩
    show Steps p.tables e below _ ((({ U with heap := s₂.heap, slotsUsed := s₂.slotsUsed } : State).setVm s₂.vm).setTop { g with pc := g.pc + len₂, stack := v.toList ++ g.stack })
    rw [← hs₂]
    exact hsteps
  · obtain ⟨e2, q2, q3, q4, q5, q6⟩ := id hsm
    have e3 : s₂ = ({ (U.calling g mk a).setFrames s₂.frames with heap := s₂.heap, slotsUsed := s₂.slotsUsed } : State).setVm s₂.vm := by
      have : s₂ = ({ s₂ with vm := (U.calling g mk a).vm } : State).setVm s₂.vm := rfl
      rw [e2] at this
      exact this
    have hf₂ : s₂.frames = .throwing q :: .java g :: U.frames.tail := hend
    have hW' : U.WarmedH s₂.vm := hW₂
    have hs₂ : s₂ = ((({ U with heap := s₂.heap, slotsUsed := s₂.slotsUsed } : State).setVm s₂.vm).setTop g).pushFrame (.throwing q) := by
      refine e3.trans ?_
      rw [hf₂, State.calling_eq h.top, State.setFrames_setFrames, State.pushFrame, State.frames_setTop _ hr', State.setTop_of_frames _ hr', State.setFrames_setFrames, hr]
      rfl
    have hsame : U.sameButNew ({ U with heap := s₂.heap, slotsUsed := s₂.slotsUsed } : State) L mc ms := by
      refine ⟨?_, q2, q3, q4, q5, q6⟩
      obtain ⟨t, ht, -⟩ := State.frames_cons hr
      show ({ U with heap := s₂.heap, slotsUsed := s₂.slotsUsed } : State) = { U.setFrames U.frames with heap := s₂.heap, slotsUsed := s₂.slotsUsed }
      rw [State.setFrames_self ht]
    subst hg
    refine Or.inr ⟨q, ⟨(({ U with heap := s₂.heap, slotsUsed := s₂.slotsUsed } : State).setVm s₂.vm), Ls ++ L, c0 + mc, s0 + ms⟩,
      ⟨X.admits, X.cas, X.clock, X.frames, X.room, X.hears, X.method, X.code, (X.here.setHeapUsed s₂.heap s₂.slotsUsed).setVm hW'.alike, X.tail, State.WarmedH.trans X.warmed hW', X.limits, X.bytes, X.same.trans (hsame.setVm s.vm)⟩,
      ⟨g, mk, s₂, L, E, ce, rfl, rfl, hx, hce, hcv, hcl, rfl, hL, rfl, rfl⟩, ?_⟩
    show Steps p.tables e below _ (((({ U with heap := s₂.heap, slotsUsed := s₂.slotsUsed } : State).setVm s₂.vm).setTop g).pushFrame (.throwing q))
    rw [← hs₂]
    exact hsteps
end Payer
section Calls
variable {p : Program} {l : Launch} {e : Env} {R : Room} {s : State} {m : MethodId} {args : Array Value} {below : List Frame} {meth : Method} {c : Code} {T : State} {locs : List Loc} {cells slots : Nat}
theorem vx_callV (X : Stand p l e R s m args below meth c T locs cells slots) (hexec : p.tables.exec = Jvm.exec) {own C : String} {index : Nat} {y : MethodName} {bytes : ByteArray} {maxL : Nat} {ret : Option FieldType}
    (hown : s.vm.findClass own = some m.cls) (hlink : (Cond.methodLink own index y).before args s = true) (hinst : (Cond.instanceMethod y).before args s = true) (hsel : (Cond.selects C y y).before args s = true)
    (hcode : (Cond.code y bytes maxL ret).before args s = true) (hy : y.cls ≠ "java/lang/invoke/MethodHandle" ∧ y.cls ≠ "java/lang/invoke/VarHandle")
    {W9 : Nat} {Pre : Pt → Array Value → Prop} {Post : Pt → Array Value → Option Value → Pt → Prop} {PostX : Pt → Array Value → Addr → Pt → Prop} (hK : vx_Back l R p e below s args y 3 W9 Pre Post PostX)
    {b : Addr} {cellB : Cell} (hcell : T.heap[b]? = some cellB) (hobj : cellB.vm.isStatics = false) (hcls : s.vm.findClass C = some cellB.cls)
    {g : JFrame} (hg : g.method = m) (hsize : g.locals.size = c.maxLocals) {argsL rest : List Value} (hlen : ∀ sig, parseMethodDescriptor y.desc = some sig → argsL.length = sig.parameters.length)
    (hstack : g.stack = argsL.reverse ++ .ref b :: rest) (hW : 2 * g.monitorRoom + (rest.map fun v => v.category).sum ≤ W9) (hdg : decode c.code g.pc = .ok (.invokevirtual index, 3))
    (hpre : ∀ vm₁, s.WarmedH vm₁ → Pre ⟨T.setVm vm₁, locs, cells, slots⟩ (Value.ref b :: argsL).toArray) :
    (∃ (v : Option Value) (vm₁ : Vm) (B : Pt), s.WarmedH vm₁ ∧ Stand p l e R s m args below meth c B.U B.locs B.cells B.slots ∧ Post ⟨T.setVm vm₁, locs, cells, slots⟩ (Value.ref b :: argsL).toArray v B ∧
      ∀ target, Steps p.tables e below (B.U.setTop { g with pc := g.pc + 3, stack := v.toList ++ rest }) target → Steps p.tables e below (T.setTop g) target) ∨
    (∃ (q : Addr) (vm₁ : Vm) (B : Pt), s.WarmedH vm₁ ∧ Stand p l e R s m args below meth c B.U B.locs B.cells B.slots ∧ PostX ⟨T.setVm vm₁, locs, cells, slots⟩ (Value.ref b :: argsL).toArray q B ∧
      Steps p.tables e below (T.setTop g) ((B.U.setTop { g with stack := rest }).pushFrame (.throwing q))) := by
  obtain ⟨mk, methM, hnamed, hmethM, hstM, habM⟩ := Cond.instanceMethod_spec hinst
  obtain ⟨methM', cM, hmethM', -, -, -, -, -, -, hsigM⟩ := Cond.code_spec hnamed hcode
  cases hmethM.symm.trans hmethM'
  obtain ⟨c2, r2, m2, q1, q2, q3, q4, kP, hkP, hkPi⟩ := Cond.selects_spec hsel
  cases hcls.symm.trans q1
  cases (State.methodFound?_of_named hnamed hy).symm.trans q2
  cases hnamed.symm.trans q3
  have hselP : selectMethod e.platform s.vm cellB.cls mk = .method mk := by rw [Launch.admits_selectMethod X.admits]; exact q4
  obtain ⟨vm₁, X₁, hstep₁⟩ := X.invokevirtual hexec hown hlink hnamed hmethM hstM hkP hkPi hy (a := b) (cell := cellB) hcell
    (fun z h => by rw [h] at hobj; cases hobj) hselP hmethM habM hkP hkPi (g := g) hg (argsL := argsL) (rest := rest) (hlen _ hsigM) hstack hdg
  rcases hK m meth c ⟨T.setVm vm₁, locs, cells, slots⟩ { g with stack := rest } (.invokevirtual index) mk (Value.ref b :: argsL).toArray X₁ hg hsize hdg hW (X₁.named hnamed) (hpre vm₁ X₁.warmed) with ⟨v, B, X', hpost, hsteps⟩ | ⟨q, B, X', hpost, hsteps⟩
  · exact Or.inl ⟨v, vm₁, B, X₁.warmed, X', hpost, fun target h => hstep₁ _ fun acts => by rw [doInvoke_state]; exact hsteps.trans h⟩
  · exact Or.inr ⟨q, vm₁, B, X₁.warmed, X', hpost, hstep₁ _ fun acts => by rw [doInvoke_state]; exact hsteps⟩
theorem vx_callS (X : Stand p l e R s m args below meth c T locs cells slots) (hexec : p.tables.exec = Jvm.exec) {own : String} {index : Nat} {y : MethodName} {bytes : ByteArray} {maxL : Nat} {ret : Option FieldType}
    (hown : s.vm.findClass own = some m.cls) (hlink : (Cond.methodLink own index y).before args s = true) (hstat : (Cond.static y).before args s = true) (hinit : (Cond.initialized y.cls).before args s = true)
    (hcode : (Cond.code y bytes maxL ret).before args s = true) (hy : y.cls ≠ "java/lang/invoke/MethodHandle" ∧ y.cls ≠ "java/lang/invoke/VarHandle")
    {W9 : Nat} {Pre : Pt → Array Value → Prop} {Post : Pt → Array Value → Option Value → Pt → Prop} {PostX : Pt → Array Value → Addr → Pt → Prop} (hK : vx_Back l R p e below s args y 3 W9 Pre Post PostX)
    {g : JFrame} (hg : g.method = m) (hsize : g.locals.size = c.maxLocals) {argsL rest : List Value} (hlen : ∀ sig, parseMethodDescriptor y.desc = some sig → argsL.length = sig.parameters.length)
    (hstack : g.stack = argsL.reverse ++ rest) (hW : 2 * g.monitorRoom + (rest.map fun v => v.category).sum ≤ W9) (hdg : decode c.code g.pc = .ok (.invokestatic index, 3))
    (hpre : ∀ vm₁, s.WarmedH vm₁ → Pre ⟨T.setVm vm₁, locs, cells, slots⟩ argsL.toArray) :
    (∃ (v : Option Value) (vm₁ : Vm) (B : Pt), s.WarmedH vm₁ ∧ Stand p l e R s m args below meth c B.U B.locs B.cells B.slots ∧ Post ⟨T.setVm vm₁, locs, cells, slots⟩ argsL.toArray v B ∧
      ∀ target, Steps p.tables e below (B.U.setTop { g with pc := g.pc + 3, stack := v.toList ++ rest }) target → Steps p.tables e below (T.setTop g) target) ∨
    (∃ (q : Addr) (vm₁ : Vm) (B : Pt), s.WarmedH vm₁ ∧ Stand p l e R s m args below meth c B.U B.locs B.cells B.slots ∧ PostX ⟨T.setVm vm₁, locs, cells, slots⟩ argsL.toArray q B ∧
      Steps p.tables e below (T.setTop g) ((B.U.setTop { g with stack := rest }).pushFrame (.throwing q))) := by
  obtain ⟨mk, hnamed⟩ := Cond.code_named hcode
  obtain ⟨methM, cM, hmethM, -, -, -, -, -, -, hsigM⟩ := Cond.code_spec hnamed hcode
  have hstatic : methM.isStatic = true := Cond.static_spec hnamed hmethM hstat
  obtain ⟨kP, hkP, -⟩ := className_of_methodNamed hnamed
  have hinitP : kP.init = .initialized := Cond.initialized_spec (findClass_of_methodNamed hnamed) hkP hinit
  obtain ⟨vm₁, X₁, hstep₁⟩ := X.invokestatic hexec hown hlink hnamed hmethM hstatic hkP hinitP hy (g := g) hg (argsL := argsL) (rest := rest) (hlen _ hsigM) hstack hdg
  rcases hK m meth c ⟨T.setVm vm₁, locs, cells, slots⟩ { g with stack := rest } (.invokestatic index) mk argsL.toArray X₁ hg hsize hdg hW (X₁.named hnamed) (hpre vm₁ X₁.warmed) with ⟨v, B, X', hpost, hsteps⟩ | ⟨q, B, X', hpost, hsteps⟩
  · exact Or.inl ⟨v, vm₁, B, X₁.warmed, X', hpost, fun target h => hstep₁ _ fun acts => by rw [doInvoke_state]; exact hsteps.trans h⟩
  · exact Or.inr ⟨q, vm₁, B, X₁.warmed, X', hpost, hstep₁ _ fun acts => by rw [doInvoke_state]; exact hsteps⟩
end Calls
theorem vx_cls {s : State} {T : State} {vm₁ : Vm} {E : String} {k : ClassId} (hW : s.WarmedH vm₁) (h : (T.setVm vm₁).vm.findClass E = some k) : s.vm.findClass E = some k := by
  have h1 : vm₁.findClass E = some k := h
  rw [hW.alike.findClass] at h1
  exact h1
/-- the method's frame g, with q thrown over it -/
def vx_W (p : Program) (l : Launch) (e : Env) (R : Room) (s : State) (m : MethodId) (args : Array Value) (below : List Frame) (meth : Method) (c : Code) (H : Heap) (locs : List Loc) (cells slots : Nat) (Q : State → Prop) (g : JFrame) (q : Addr) : Prop :=
  ∀ T : State, T.heap = H → Stand p l e R s m args below meth c T locs cells slots → ∃ t, Steps p.tables e below ((T.setTop g).pushFrame (.throwing q)) t ∧ Q t
def vx_Run (p : Program) (l : Launch) (e : Env) (R : Room) (s : State) (m : MethodId) (args : Array Value) (below : List Frame) (meth : Method) (c : Code) (H : Heap) (locs : List Loc) (cells slots mc ms : Nat) (g : JFrame) (rest : List Value) (Qa : State → Outcome → State → Prop) (XC : String → State → State → Prop) (free : Addr → Prop) : Prop :=
  ∀ T : State, T.heap = H → Stand p l e R s m args below meth c T locs cells slots →
    (∃ (v : Option Value) (st₀ t T' : State) (L : List Loc), st₀.heap = H ∧ Stand p l e R s m args below meth c T' (locs ++ L) (cells + mc) (slots + ms) ∧ (∀ q ∈ L, free q.base) ∧ T'.heap = t.heap ∧ T'.vm = t.vm ∧ Qa st₀ (.returned v) t ∧
      Goes p e below T g T' { g with pc := g.pc + 3, stack := v.toList ++ rest }) ∨
    (∃ (q : Addr) (st₀ t T' : State) (L : List Loc) (E : String) (ce : Cell), st₀.heap = H ∧ Stand p l e R s m args below meth c T' (locs ++ L) (cells + mc) (slots + ms) ∧ (∀ z ∈ L, free z.base) ∧ T'.heap = t.heap ∧ T'.vm = t.vm ∧ XC E st₀ t ∧ t.heap[q]? = some ce ∧ ce.vm = .none ∧ s.vm.findClass E = some ce.cls ∧
      Steps p.tables e below (T.setTop g) ((T'.setTop { g with stack := rest }).pushFrame (.throwing q)))
def vx_X {S : Type} (px : S → Prop) (B : String → S → State → Prop) (A : Nat → Prop) : String → State → State → Prop := fun E st t => ∃ u : S, px u ∧ B E u t ∧ va_F A st t
section Runs
variable {p : Program} {l : Launch} {e : Env} {R : Room} {s : State} {m : MethodId} {args : Array Value} {below : List Frame} {meth : Method} {c : Code} {H : Heap} {locs : List Loc} {cells slots : Nat}
variable {y : MethodName} {bytes cc : ByteArray} {maxL nL mc ms n index : Nat} {ret : Option FieldType} {ws : List Cond} {rm : Room} {Pc : Array Value → State → Prop} {Qc : Array Value → State → Outcome → State → Prop} {XC : String → State → State → Prop} {free : Addr → Prop} {Ts : List Cond} {own C : String} {b : Addr} {As rest : List Value} {g : JFrame}
theorem vx_callBack (cb : CallB R s args own index y bytes maxL ret ws rm mc ms n) (hM : vx_Met l y ws rm Pc Qc XC mc ms free) (hbl : FrameBlind Pc) : vx_Back l R p e below s args y 3 8 (PreOf R mc ms Pc) (PostOf Qc mc ms free) (vx_Post XC mc ms free) := by
  obtain ⟨hrc, hrs, hfr, hlo, hws, hcw, -, hini, -⟩ := cb
  exact vx_back (bytes := bytes) (maxL := maxL) (ret := ret) hM hbl hrc hrs hfr hlo hws hcw (fun a' U hW => word_at hW (Or.inl (by first | rfl | simp [Cond.onTables, Cond.keeps, Cond.steady])) hini)
theorem vx_runV (S : CallFix p m c cc nL s args Ts own) (hM : vx_Met l y ws rm Pc Qc XC mc ms free) (cw : CallW R s args own C index y bytes maxL ret ws rm mc ms n) (hp : PreV s H C b Pc As)
    (hg : g.method = m) (hn : As.length = n) (hsize : g.locals.size = nL) (hstack : g.stack = As.reverse ++ .ref b :: rest) (hW : 2 * g.monitorRoom + (rest.map fun v => v.category).sum ≤ 8) (hdg : decode cc g.pc = .ok (.invokevirtual index, 3)) (hf : cells + mc ≤ R.cells ∧ slots + ms ≤ R.slots) :
    vx_Run p l e R s m args below meth c H locs cells slots mc ms g rest (Qc (Value.ref b :: As).toArray) XC free := by
  have hK : vx_Back l R p e below s args y 3 8 (PreOf R mc ms Pc) (PostOf Qc mc ms free) (vx_Post XC mc ms free) := vx_callBack cw.1 hM hp.1
  obtain ⟨⟨-, -, -, -, -, -, hcode, -, hy, hlen, hl⟩, hin, hse⟩ := cw
  obtain ⟨hx, hb, hml, ho, -⟩ := S
  obtain ⟨-, ⟨cellB, hcB, hoB, hclB⟩, hPc⟩ := hp
  intro T hT X
  rcases vx_callV X hx (C := C) (bytes := bytes) (maxL := maxL) (ret := ret) ho hl hin hse hcode hy hK (by rw [hT]; exact hcB) hoB hclB hg (hsize.trans hml.symm) (argsL := As) (rest := rest) (fun sig h => hn.trans (hlen sig h)) hstack hW (by rw [hb]; exact hdg)
    (fun vm₁ hW₁ => ⟨hf.1, hf.2, hPc (T.setVm vm₁) hT hW₁⟩) with ⟨v, vm₁, ⟨U', l2, c2, s2⟩, hW₁, X', ⟨g', mk, t, L, e1, e2, hq, h1, hL, h2, h3⟩, st⟩ | ⟨q, vm₁, ⟨U', l2, c2, s2⟩, hW₁, X', ⟨g', mk, t, L, E, ce, e1, e2, hq, hce, hcv, hcl, h1, hL, h2, h3⟩, st⟩
  · dsimp only [Pt.U, Pt.locs, Pt.cells, Pt.slots] at X' e1 e2 h1 h2 h3 st
    subst h1; subst h2; subst h3
    exact Or.inl ⟨v, (T.setVm vm₁).calling g' mk (Value.ref b :: As).toArray, t, U', L, hT, X', hL, e1, e2, hq, st⟩
  · dsimp only [Pt.U, Pt.locs, Pt.cells, Pt.slots] at X' e1 e2 h1 h2 h3 st hcl
    subst h1; subst h2; subst h3
    exact Or.inr ⟨q, (T.setVm vm₁).calling g' mk (Value.ref b :: As).toArray, t, U', L, E, ce, hT, X', hL, e1, e2, hq, hce, hcv, vx_cls hW₁ hcl, st⟩
theorem vx_runS (S : CallFix p m c cc nL s args Ts own) (hM : vx_Met l y ws rm Pc Qc XC mc ms free) (cw : CallB R s args own index y bytes maxL ret ws rm mc ms n ∧ (Cond.static y).before args s = true) (hp : PreS s H Pc As)
    (hg : g.method = m) (hn : As.length = n) (hsize : g.locals.size = nL) (hstack : g.stack = As.reverse ++ rest) (hW : 2 * g.monitorRoom + (rest.map fun v => v.category).sum ≤ 8) (hdg : decode cc g.pc = .ok (.invokestatic index, 3)) (hf : cells + mc ≤ R.cells ∧ slots + ms ≤ R.slots) :
    vx_Run p l e R s m args below meth c H locs cells slots mc ms g rest (Qc As.toArray) XC free := by
  have hK : vx_Back l R p e below s args y 3 8 (PreOf R mc ms Pc) (PostOf Qc mc ms free) (vx_Post XC mc ms free) := vx_callBack cw.1 hM hp.1
  obtain ⟨⟨-, -, -, -, -, -, hcode, hini, hy, hlen, hl⟩, hstt⟩ := cw
  obtain ⟨hx, hb, hml, ho, -⟩ := S
  intro T hT X
  rcases vx_callS X hx (bytes := bytes) (maxL := maxL) (ret := ret) ho hl hstt hini hcode hy hK hg (hsize.trans hml.symm) (argsL := As) (rest := rest) (fun sig h => hn.trans (hlen sig h)) hstack hW (by rw [hb]; exact hdg)
    (fun vm₁ hW₁ => ⟨hf.1, hf.2, hp.2 (T.setVm vm₁) hT hW₁⟩) with ⟨v, vm₁, ⟨U', l2, c2, s2⟩, hW₁, X', ⟨g', mk, t, L, e1, e2, hq, h1, hL, h2, h3⟩, st⟩ | ⟨q, vm₁, ⟨U', l2, c2, s2⟩, hW₁, X', ⟨g', mk, t, L, E, ce, e1, e2, hq, hce, hcv, hcl, h1, hL, h2, h3⟩, st⟩
  · dsimp only [Pt.U, Pt.locs, Pt.cells, Pt.slots] at X' e1 e2 h1 h2 h3 st
    subst h1; subst h2; subst h3
    exact Or.inl ⟨v, (T.setVm vm₁).calling g' mk As.toArray, t, U', L, hT, X', hL, e1, e2, hq, st⟩
  · dsimp only [Pt.U, Pt.locs, Pt.cells, Pt.slots] at X' e1 e2 h1 h2 h3 st hcl
    subst h1; subst h2; subst h3
    exact Or.inr ⟨q, (T.setVm vm₁).calling g' mk As.toArray, t, U', L, E, ce, hT, X', hL, e1, e2, hq, hce, hcv, vx_cls hW₁ hcl, st⟩
end Runs
section Rows
variable {p : Program} {l : Launch} {e : Env} {R : Room} {s : State} {m : MethodId} {args : Array Value} {below : List Frame} {meth : Method} {c : Code} {H : Heap} {locs : List Loc} {cells slots : Nat} {Q : State → Prop}
variable {mc ms : Nat} {free : Addr → Prop} {A0 A1 : Nat → Prop} {H0 : Heap} {a : Array Value} {pc : Nat} {ls : Array Slot} {st0 rest : List Value}
theorem vx_keep {st₀ t T' : State} {L : List Loc} (h0 : st₀.heap = H) (e1 : T'.heap = t.heap) (hS : va_S A0 H0 H locs) (hA : ∀ q, q < H.size → A1 q → A0 q) (hf : ∀ q, free q → A0 q) (hL : ∀ q ∈ L, free q.base) (hF : va_F A1 st₀ t) :
    H.size ≤ T'.heap.size ∧ (∀ q : Nat, q < H.size → ¬ A1 q → T'.heap[q]? = H[q]?) ∧ va_S A0 H0 T'.heap (locs ++ L) := by
  obtain ⟨hz, hk⟩ := hF
  rw [h0] at hz hk
  exact ⟨by rw [e1]; exact hz, fun q h1 h2 => by rw [e1]; exact hk q h1 h2,
    ⟨Nat.le_trans hS.1 (by rw [e1]; exact hz), fun q h1 h2 => by rw [e1, hk q (Nat.lt_of_lt_of_le h1 hS.1) (fun z => h2 (hA q (Nat.lt_of_lt_of_le h1 hS.1) z))]; exact hS.2.1 q h1 h2, fun q hq => by
      rcases List.mem_append.mp hq with h | h
      · exact hS.2.2 q h
      · exact hf _ (hL q h)⟩⟩
theorem vx_calli {S SX : Type} {post : Int32 → S → Prop} {px : SX → Prop} {B : S → State → Prop} {BX : String → SX → State → Prop} {AX : Nat → Prop} (hr : vx_Run p l e R s m args below meth c H locs cells slots mc ms (F0 m pc ls st0) rest (va_Qi post B A1 a) (vx_X px BX AX) free) (hS : va_S A0 H0 H locs) (hA : ∀ q, q < H.size → A1 q → A0 q) (hf : ∀ q, free q → A0 q) (hAX : ∀ q, q < H.size → AX q → A0 q)
    (kx : ∀ (E : String) (ce : Cell) (q9 : Addr) (u : SX) (t : State) (H1 : Heap) (locs1 : List Loc), t.heap = H1 → s.vm.Alike t.vm → px u → BX E u t → H.size ≤ H1.size → (∀ q : Nat, q < H.size → ¬ AX q → H1[q]? = H[q]?) → va_S A0 H0 H1 locs1 → H1[q9]? = some ce → ce.vm = .none → s.vm.findClass E = some ce.cls → vx_W p l e R s m args below meth c H1 locs1 (cells + mc) (slots + ms) Q (F0 m pc ls rest) q9)
    (kk : ∀ (r : Int32) (u : S) (t : State) (H1 : Heap) (locs1 : List Loc), t.heap = H1 → s.vm.Alike t.vm → post r u → B u t → H.size ≤ H1.size → (∀ q : Nat, q < H.size → ¬ A1 q → H1[q]? = H[q]?) → va_S A0 H0 H1 locs1 → W p l e R s m args below meth c H1 locs1 (cells + mc) (slots + ms) Q (F0 m (pc + 3) ls (.int r :: rest))) : W p l e R s m args below meth c H locs cells slots Q (F0 m pc ls st0) := by
  intro T hT X
  rcases hr T hT X with ⟨v, st₀, t, T', L, h0, X', hL, e1, e2, ⟨⟨r, u, hv, hp, hb⟩, hF⟩, st⟩ | ⟨q, st₀, t, T', L, E, ce, h0, X', hL, e1, e2, ⟨u, hp, hb, hF⟩, hce, hcv, hcl, st⟩
  · cases hv
    obtain ⟨k1, k2, k3⟩ := vx_keep h0 e1 hS hA hf hL hF
    obtain ⟨t2, a1, b1⟩ := kk r u t T'.heap (locs ++ L) e1.symm (by rw [← e2]; exact X'.warmed.alike) hp hb k1 k2 k3 T' rfl X'
    exact ⟨t2, st t2 a1, b1⟩
  · obtain ⟨k1, k2, k3⟩ := vx_keep h0 e1 hS hAX hf hL hF
    obtain ⟨t2, a1, b1⟩ := kx E ce q u t T'.heap (locs ++ L) e1.symm (by rw [← e2]; exact X'.warmed.alike) hp hb k1 k2 k3 (by rw [e1]; exact hce) hcv hcl T' rfl X'
    exact ⟨t2, st.trans a1, b1⟩
theorem vx_calll {S SX : Type} {post : Int64 → S → Prop} {px : SX → Prop} {B : S → State → Prop} {BX : String → SX → State → Prop} {AX : Nat → Prop} (hr : vx_Run p l e R s m args below meth c H locs cells slots mc ms (F0 m pc ls st0) rest (va_Ql post B A1 a) (vx_X px BX AX) free) (hS : va_S A0 H0 H locs) (hA : ∀ q, q < H.size → A1 q → A0 q) (hf : ∀ q, free q → A0 q) (hAX : ∀ q, q < H.size → AX q → A0 q)
    (kx : ∀ (E : String) (ce : Cell) (q9 : Addr) (u : SX) (t : State) (H1 : Heap) (locs1 : List Loc), t.heap = H1 → s.vm.Alike t.vm → px u → BX E u t → H.size ≤ H1.size → (∀ q : Nat, q < H.size → ¬ AX q → H1[q]? = H[q]?) → va_S A0 H0 H1 locs1 → H1[q9]? = some ce → ce.vm = .none → s.vm.findClass E = some ce.cls → vx_W p l e R s m args below meth c H1 locs1 (cells + mc) (slots + ms) Q (F0 m pc ls rest) q9)
    (kk : ∀ (r : Int64) (u : S) (t : State) (H1 : Heap) (locs1 : List Loc), t.heap = H1 → s.vm.Alike t.vm → post r u → B u t → H.size ≤ H1.size → (∀ q : Nat, q < H.size → ¬ A1 q → H1[q]? = H[q]?) → va_S A0 H0 H1 locs1 → W p l e R s m args below meth c H1 locs1 (cells + mc) (slots + ms) Q (F0 m (pc + 3) ls (.long r :: rest))) : W p l e R s m args below meth c H locs cells slots Q (F0 m pc ls st0) := by
  intro T hT X
  rcases hr T hT X with ⟨v, st₀, t, T', L, h0, X', hL, e1, e2, ⟨⟨r, u, hv, hp, hb⟩, hF⟩, st⟩ | ⟨q, st₀, t, T', L, E, ce, h0, X', hL, e1, e2, ⟨u, hp, hb, hF⟩, hce, hcv, hcl, st⟩
  · cases hv
    obtain ⟨k1, k2, k3⟩ := vx_keep h0 e1 hS hA hf hL hF
    obtain ⟨t2, a1, b1⟩ := kk r u t T'.heap (locs ++ L) e1.symm (by rw [← e2]; exact X'.warmed.alike) hp hb k1 k2 k3 T' rfl X'
    exact ⟨t2, st t2 a1, b1⟩
  · obtain ⟨k1, k2, k3⟩ := vx_keep h0 e1 hS hAX hf hL hF
    obtain ⟨t2, a1, b1⟩ := kx E ce q u t T'.heap (locs ++ L) e1.symm (by rw [← e2]; exact X'.warmed.alike) hp hb k1 k2 k3 (by rw [e1]; exact hce) hcv hcl T' rfl X'
    exact ⟨t2, st.trans a1, b1⟩
theorem vx_callf {S SX : Type} {post : UInt32 → S → Prop} {px : SX → Prop} {B : S → State → Prop} {BX : String → SX → State → Prop} {AX : Nat → Prop} (hr : vx_Run p l e R s m args below meth c H locs cells slots mc ms (F0 m pc ls st0) rest (va_Qf post B A1 a) (vx_X px BX AX) free) (hS : va_S A0 H0 H locs) (hA : ∀ q, q < H.size → A1 q → A0 q) (hf : ∀ q, free q → A0 q) (hAX : ∀ q, q < H.size → AX q → A0 q)
    (kx : ∀ (E : String) (ce : Cell) (q9 : Addr) (u : SX) (t : State) (H1 : Heap) (locs1 : List Loc), t.heap = H1 → s.vm.Alike t.vm → px u → BX E u t → H.size ≤ H1.size → (∀ q : Nat, q < H.size → ¬ AX q → H1[q]? = H[q]?) → va_S A0 H0 H1 locs1 → H1[q9]? = some ce → ce.vm = .none → s.vm.findClass E = some ce.cls → vx_W p l e R s m args below meth c H1 locs1 (cells + mc) (slots + ms) Q (F0 m pc ls rest) q9)
    (kk : ∀ (r : UInt32) (u : S) (t : State) (H1 : Heap) (locs1 : List Loc), t.heap = H1 → s.vm.Alike t.vm → post r u → B u t → H.size ≤ H1.size → (∀ q : Nat, q < H.size → ¬ A1 q → H1[q]? = H[q]?) → va_S A0 H0 H1 locs1 → W p l e R s m args below meth c H1 locs1 (cells + mc) (slots + ms) Q (F0 m (pc + 3) ls (.float r :: rest))) : W p l e R s m args below meth c H locs cells slots Q (F0 m pc ls st0) := by
  intro T hT X
  rcases hr T hT X with ⟨v, st₀, t, T', L, h0, X', hL, e1, e2, ⟨⟨r, u, hv, hp, hb⟩, hF⟩, st⟩ | ⟨q, st₀, t, T', L, E, ce, h0, X', hL, e1, e2, ⟨u, hp, hb, hF⟩, hce, hcv, hcl, st⟩
  · cases hv
    obtain ⟨k1, k2, k3⟩ := vx_keep h0 e1 hS hA hf hL hF
    obtain ⟨t2, a1, b1⟩ := kk r u t T'.heap (locs ++ L) e1.symm (by rw [← e2]; exact X'.warmed.alike) hp hb k1 k2 k3 T' rfl X'
    exact ⟨t2, st t2 a1, b1⟩
  · obtain ⟨k1, k2, k3⟩ := vx_keep h0 e1 hS hAX hf hL hF
    obtain ⟨t2, a1, b1⟩ := kx E ce q u t T'.heap (locs ++ L) e1.symm (by rw [← e2]; exact X'.warmed.alike) hp hb k1 k2 k3 (by rw [e1]; exact hce) hcv hcl T' rfl X'
    exact ⟨t2, st.trans a1, b1⟩
theorem vx_calld {S SX : Type} {post : UInt64 → S → Prop} {px : SX → Prop} {B : S → State → Prop} {BX : String → SX → State → Prop} {AX : Nat → Prop} (hr : vx_Run p l e R s m args below meth c H locs cells slots mc ms (F0 m pc ls st0) rest (va_Qd post B A1 a) (vx_X px BX AX) free) (hS : va_S A0 H0 H locs) (hA : ∀ q, q < H.size → A1 q → A0 q) (hf : ∀ q, free q → A0 q) (hAX : ∀ q, q < H.size → AX q → A0 q)
    (kx : ∀ (E : String) (ce : Cell) (q9 : Addr) (u : SX) (t : State) (H1 : Heap) (locs1 : List Loc), t.heap = H1 → s.vm.Alike t.vm → px u → BX E u t → H.size ≤ H1.size → (∀ q : Nat, q < H.size → ¬ AX q → H1[q]? = H[q]?) → va_S A0 H0 H1 locs1 → H1[q9]? = some ce → ce.vm = .none → s.vm.findClass E = some ce.cls → vx_W p l e R s m args below meth c H1 locs1 (cells + mc) (slots + ms) Q (F0 m pc ls rest) q9)
    (kk : ∀ (r : UInt64) (u : S) (t : State) (H1 : Heap) (locs1 : List Loc), t.heap = H1 → s.vm.Alike t.vm → post r u → B u t → H.size ≤ H1.size → (∀ q : Nat, q < H.size → ¬ A1 q → H1[q]? = H[q]?) → va_S A0 H0 H1 locs1 → W p l e R s m args below meth c H1 locs1 (cells + mc) (slots + ms) Q (F0 m (pc + 3) ls (.double r :: rest))) : W p l e R s m args below meth c H locs cells slots Q (F0 m pc ls st0) := by
  intro T hT X
  rcases hr T hT X with ⟨v, st₀, t, T', L, h0, X', hL, e1, e2, ⟨⟨r, u, hv, hp, hb⟩, hF⟩, st⟩ | ⟨q, st₀, t, T', L, E, ce, h0, X', hL, e1, e2, ⟨u, hp, hb, hF⟩, hce, hcv, hcl, st⟩
  · cases hv
    obtain ⟨k1, k2, k3⟩ := vx_keep h0 e1 hS hA hf hL hF
    obtain ⟨t2, a1, b1⟩ := kk r u t T'.heap (locs ++ L) e1.symm (by rw [← e2]; exact X'.warmed.alike) hp hb k1 k2 k3 T' rfl X'
    exact ⟨t2, st t2 a1, b1⟩
  · obtain ⟨k1, k2, k3⟩ := vx_keep h0 e1 hS hAX hf hL hF
    obtain ⟨t2, a1, b1⟩ := kx E ce q u t T'.heap (locs ++ L) e1.symm (by rw [← e2]; exact X'.warmed.alike) hp hb k1 k2 k3 (by rw [e1]; exact hce) hcv hcl T' rfl X'
    exact ⟨t2, st.trans a1, b1⟩
theorem vx_callv {S SX : Type} {post : S → Prop} {px : SX → Prop} {B : S → State → Prop} {BX : String → SX → State → Prop} {AX : Nat → Prop} (hr : vx_Run p l e R s m args below meth c H locs cells slots mc ms (F0 m pc ls st0) rest (va_Qv post B A1 a) (vx_X px BX AX) free) (hS : va_S A0 H0 H locs) (hA : ∀ q, q < H.size → A1 q → A0 q) (hf : ∀ q, free q → A0 q) (hAX : ∀ q, q < H.size → AX q → A0 q)
    (kx : ∀ (E : String) (ce : Cell) (q9 : Addr) (u : SX) (t : State) (H1 : Heap) (locs1 : List Loc), t.heap = H1 → s.vm.Alike t.vm → px u → BX E u t → H.size ≤ H1.size → (∀ q : Nat, q < H.size → ¬ AX q → H1[q]? = H[q]?) → va_S A0 H0 H1 locs1 → H1[q9]? = some ce → ce.vm = .none → s.vm.findClass E = some ce.cls → vx_W p l e R s m args below meth c H1 locs1 (cells + mc) (slots + ms) Q (F0 m pc ls rest) q9)
    (kk : ∀ (u : S) (t : State) (H1 : Heap) (locs1 : List Loc), t.heap = H1 → s.vm.Alike t.vm → post u → B u t → H.size ≤ H1.size → (∀ q : Nat, q < H.size → ¬ A1 q → H1[q]? = H[q]?) → va_S A0 H0 H1 locs1 → W p l e R s m args below meth c H1 locs1 (cells + mc) (slots + ms) Q (F0 m (pc + 3) ls (rest))) : W p l e R s m args below meth c H locs cells slots Q (F0 m pc ls st0) := by
  intro T hT X
  rcases hr T hT X with ⟨v, st₀, t, T', L, h0, X', hL, e1, e2, ⟨⟨u, hv, hp, hb⟩, hF⟩, st⟩ | ⟨q, st₀, t, T', L, E, ce, h0, X', hL, e1, e2, ⟨u, hp, hb, hF⟩, hce, hcv, hcl, st⟩
  · cases hv
    obtain ⟨k1, k2, k3⟩ := vx_keep h0 e1 hS hA hf hL hF
    obtain ⟨t2, a1, b1⟩ := kk u t T'.heap (locs ++ L) e1.symm (by rw [← e2]; exact X'.warmed.alike) hp hb k1 k2 k3 T' rfl X'
    exact ⟨t2, st t2 a1, b1⟩
  · obtain ⟨k1, k2, k3⟩ := vx_keep h0 e1 hS hAX hf hL hF
    obtain ⟨t2, a1, b1⟩ := kx E ce q u t T'.heap (locs ++ L) e1.symm (by rw [← e2]; exact X'.warmed.alike) hp hb k1 k2 k3 (by rw [e1]; exact hce) hcv hcl T' rfl X'
    exact ⟨t2, st.trans a1, b1⟩
/-- caught by the row x of this method's table; the rows ahead don't take it -/
theorem vx_catch {own name : String} {E : String} {ce : Cell} {q : Addr} (hown : s.vm.findClass own = some m.cls) (pre : List ExceptionTableEntry) (x : ExceptionTableEntry) (suf : List ExceptionTableEntry) (hsplit : c.exceptionTable.toList = pre ++ x :: suf)
    (hpass : ∀ z ∈ pre, covers z pc = false ∨ (z.catchType ≠ 0 ∧ ∃ nm : String, (Cond.classLink own z.catchType nm).before args s = true ∧ va_Nc E nm s)) (hx : covers x pc = true) (h0 : x.catchType ≠ 0)
    (hlink : (Cond.classLink own x.catchType name).before args s = true) (hcast : (Cond.castable E name).before args s = true) (hcell : H[q]? = some ce) (hv : ce.vm = .none) (hcl : s.vm.findClass E = some ce.cls)
    (kk : W p l e R s m args below meth c H locs cells slots Q (F0 m x.handlerPc ls [.ref q])) : vx_W p l e R s m args below meth c H locs cells slots Q (F0 m pc ls rest) q := by
  intro T hT X
  have hpl : e.platform.magicAccessors = ({} : Platform).magicAccessors := by rw [X.admits.platform]
  obtain ⟨c3, c4, hc3, hc4, hasg⟩ := Cond.castable_spec hcast
  cases Option.some.inj (hc3.symm.trans hcl)
  obtain ⟨c5, hc5, hcl5⟩ := Cond.classLink_spec hown hlink e.platform hpl
  cases Option.some.inj (hc4.symm.trans hc5)
  obtain ⟨vm', X', st⟩ := X.thenCaughtThrough q (g := F0 m pc ls rest) rfl (Steps.refl _) (by rw [hT]; exact hcell) (by rw [hv]; rfl) (by obtain ⟨k9, h9, -⟩ := Vm.findClass_spec hcl; exact ⟨k9, h9⟩) pre x suf hsplit
    (fun z hz => by
      rcases hpass z hz with h | ⟨hz0, nm, hl1, hn1⟩
      · exact Or.inl h
      · obtain ⟨c6, hc6, hcl6⟩ := Cond.classLink_spec hown hl1 e.platform hpl
        obtain ⟨a8, b8, h1, h2, h3⟩ := hn1
        cases Option.some.inj (h1.symm.trans hcl)
        cases Option.some.inj (h2.symm.trans hc6)
        exact Or.inr ⟨hz0, _, hcl6, h3⟩) hx (Or.inr ⟨h0, c4, hcl5, hasg⟩)
  obtain ⟨t, a1, b1⟩ := kk (T.setVm vm') hT X'
  exact ⟨t, st.trans a1, b1⟩
end Rows
section Ends
variable {p : Program} {l : Launch} {e : Env} {R : Room} {s : State} {m : MethodId} {args : Array Value} {below : List Frame} {meth : Method} {c : Code} {H : Heap} {locs : List Loc} {cells slots : Nat} {Q : State → Prop}
variable {mc ms : Nat} {free : Addr → Prop} {A0 A1 : Nat → Prop} {H0 : Heap} {a : Array Value} {ls : Array Slot} {st0 rest : List Value}
variable {Qc : Array Value → State → Outcome → State → Prop} {XC : String → State → State → Prop}
/-- what a body that may throw owes at its end -/
def vx_MQ (below : List Frame) (Qc : Array Value → State → Outcome → State → Prop) (XC : String → State → State → Prop) (a : Array Value) (s : State) (mc ms : Nat) (free : Addr → Prop) : State → Prop := fun t =>
  ∃ o, t.status = .running ∧ Ended t below o ∧ vx_Q Qc XC mc ms free a s o t
theorem vx_ret {g : JFrame} {mc ms : Nat} (k : W p l e R s m args below meth c H locs cells slots (MQ below Qc args s mc ms free) g) : W p l e R s m args below meth c H locs cells slots (vx_MQ below Qc XC args s mc ms free) g := by
  intro T hT X
  obtain ⟨t, a1, o, b1, b2, b3, b4⟩ := k T hT X
  exact ⟨t, a1, o, b1, b2, Or.inl ⟨b3, b4⟩⟩
/-- not caught here: it goes on to the caller -/
theorem vx_widen {g : JFrame} {q : Addr} {k n : Nat} (h1 : cells ≤ k) (h2 : slots ≤ n) (kk : vx_W p l e R s m args below meth c H locs k n Q g q) : vx_W p l e R s m args below meth c H locs cells slots Q g q := fun T hT X => kk T hT (stand_widen X h1 h2)
theorem vx_out {pc : Nat} {E : String} {ce : Cell} {q : Addr} {mc ms : Nat} (hout : ∀ x ∈ c.exceptionTable.toList, covers x pc = false) (hlocks : meth.locks = false) (hcell : H[q]? = some ce) (hv : ce.vm = .none) (hcl : s.vm.findClass E = some ce.cls)
    (hx : ∀ t : State, t.heap = H → s.vm.Alike t.vm → XC E s t) (hf : ∀ z ∈ locs, free z.base) (hc : cells ≤ mc) (hs : slots ≤ ms) :
    vx_W p l e R s m args below meth c H locs cells slots (vx_MQ below Qc XC args s mc ms free) (F0 m pc ls rest) q := by
  intro T hT X
  obtain ⟨st1, hrun, hend, hW, hsm⟩ := X.leaveThrown q (g := F0 m pc ls rest) rfl rfl rfl hout hlocks
  have hcell9 : (T.setFrames (.throwing q :: below)).heap[q]? = some ce := by
    show T.heap[q]? = some ce
    rw [hT]; exact hcell
  exact ⟨_, st1, .threw q, hrun, hend, Or.inr ⟨q, rfl, E, ce, locs, hx _ hT hW.alike, hcell9, hv, hcl, hW, hsm.mono hc hs, hf⟩⟩
theorem vx_frame {U : State} {k n : Nat} (h : s.sameButNew ({ U with vm := s.vm } : State) locs k n) : s.heap.size ≤ U.heap.size ∧ ∀ q : Nat, q < s.heap.size → (∀ z ∈ locs, z.base ≠ q) → U.heap[q]? = s.heap[q]? := by
  obtain ⟨-, h2, -, -, -, h6⟩ := h
  refine ⟨h2, fun q hq hz => ?_⟩
  obtain ⟨c9, e1, e2, e3, e4⟩ := h6 q _ (Array.getElem?_eq_getElem hq)
  have hs : c9.slots = (s.heap[q]).slots := Array.ext_getElem? fun i => e4 i fun hm => hz _ hm rfl
  have h9 : c9 = s.heap[q] := by
    rw [hs] at e2
    exact e2
  have e5 : U.heap[q]? = some c9 := e1
  rw [e5, h9, Array.getElem?_eq_getElem hq]
/-- the words of a throw but the four that speak of the heap -/
def vx_no (w : Cond) : Bool := decide (w ≠ .isRef (.static Bundle.tN "UNASSIGNED_STACK" Bundle.steD)) && decide (w ≠ .isRef (.static Bundle.tN "SUPPRESSED_SENTINEL" Bundle.listD)) && decide (w ≠ .laysStatic Bundle.tN "UNASSIGNED_STACK" Bundle.steD) && decide (w ≠ .laysStatic Bundle.tN "SUPPRESSED_SENTINEL" Bundle.listD)
def vx_at0 (own : String) (ic : Nat) (X : String) (names : List String) : List Cond := (Bundle.ownAtoms0 own ic X names).filter vx_no
def vx_atS (own : String) (ic : Nat) (X : String) (names : List String) : List Cond := (Bundle.ownAtoms own ic X names).filter vx_no
/-- a word that the tables alone decide, or a good one -/
def vx_ot (w : Cond) : Bool := w.onTables || goodWord w
theorem vx_ot_at {args a' : Array Value} {s U : State} {w : Cond} (hW : s.WarmedH U.vm) (hvm : s.vm = U.vm) (hg : vx_ot w = true) (h : w.before args s = true) : w.before a' U = true := by
  simp only [vx_ot, Bool.or_eq_true] at hg
  rcases hg with hg | hg
  · exact va_tabs hg hvm h
  · exact word_at hW (good_of_word hg) h
/-- a list's words: the good ones out of the method's own list, the others by premises of their own -/
theorem vx_hat {args : Array Value} {s : State} {L B : List Cond} (h1 : ∀ w ∈ L.filter goodWord, w.before args s = true) (h2 : ∀ w ∈ L.filter (fun w => !goodWord w), w ∈ B) (h3 : ∀ w ∈ B, w.before args s = true) : ∀ w ∈ L, w.before args s = true := by
  intro w hw
  by_cases g : goodWord w = true
  · exact h1 w (List.mem_filter.mpr ⟨hw, g⟩)
  · refine h3 w (h2 w (List.mem_filter.mpr ⟨hw, ?_⟩))
    show (!goodWord w) = true
    cases hgw : goodWord w
    · rfl
    · exact absurd hgw g
theorem vx_c {args : Array Value} {s : State} {w : Cond} {B : List Cond} (h : w.before args s = true) (t : ∀ w ∈ B, w.before args s = true) : ∀ w' ∈ w :: B, w'.before args s = true := fun w' h' => (List.mem_cons.mp h').elim (fun e => by rw [e]; exact h) (t w')
theorem vx_n {args : Array Value} {s : State} : ∀ w ∈ ([] : List Cond), w.before args s = true := fun _ h => nomatch h
theorem vx_own {args : Array Value} {s : State} {L : List Cond} (h1 : ∀ w ∈ L.filter vx_no, w.before args s = true)
    (hU : (Cond.isRef (.static Bundle.tN "UNASSIGNED_STACK" Bundle.steD)).before args s = true) (hN : (Cond.isRef (.static Bundle.tN "SUPPRESSED_SENTINEL" Bundle.listD)).before args s = true)
    (lU : (Cond.laysStatic Bundle.tN "UNASSIGNED_STACK" Bundle.steD).before args s = true) (lN : (Cond.laysStatic Bundle.tN "SUPPRESSED_SENTINEL" Bundle.listD).before args s = true) : ∀ w ∈ L, w.before args s = true := by
  intro w hw
  by_cases e1 : w = .isRef (.static Bundle.tN "UNASSIGNED_STACK" Bundle.steD)
  · rw [e1]; exact hU
  · by_cases e2 : w = .isRef (.static Bundle.tN "SUPPRESSED_SENTINEL" Bundle.listD)
    · rw [e2]; exact hN
    · by_cases e3 : w = .laysStatic Bundle.tN "UNASSIGNED_STACK" Bundle.steD
      · rw [e3]; exact lU
      · by_cases e4 : w = .laysStatic Bundle.tN "SUPPRESSED_SENTINEL" Bundle.listD
        · rw [e4]; exact lN
        · exact h1 w (List.mem_filter.mpr ⟨hw, by unfold vx_no; rw [decide_eq_true e1, decide_eq_true e2, decide_eq_true e3, decide_eq_true e4]; rfl⟩)
/-- where a static field lies, its class's statics cell in H -/
def vx_L (C n d : String) (A : Nat → Prop) (U : State) (H : Heap) : Prop := ∃ (c : ClassId) (k : Class) (i : Nat) (f : Field) (a : Nat) (cell : Cell), U.vm.findClass C = some c ∧ U.fieldFound? C n d = some (c, k, i, f) ∧ f.isStatic = true ∧ k.statics = some a ∧ H[a]? = some cell ∧ cell.vm.isStatics = true ∧ cell.cls = c ∧ f.slot < cell.slots.size ∧ k.staticTypes[f.slot]? = some f.type ∧ ¬ A a
theorem vx_L.moved {C n d : String} {A : Nat → Prop} {u U : State} {H : Heap} (hvm : u.vm.Alike U.vm) (h : vx_L C n d A u H) : vx_L C n d A U H := by
  obtain ⟨c, k, i, f, a, cell, h1, h2, h3, h4, h5, h6, h7, h8, h9, h10⟩ := h
  obtain ⟨k', hi', he⟩ := State.fieldFound?_setVm hvm h2
  exact ⟨c, k', i, f, a, cell, by rw [hvm.findClass]; exact h1, hi', h3, by rw [he]; exact h4, h5, h6, h7, h8, by rw [he]; exact h9, h10⟩
theorem vx_L.kept {C n d : String} {A : Nat → Prop} {U : State} {H H1 : Heap} (h : vx_L C n d A U H) (hq : ∀ a : Nat, a < H.size → ¬ A a → H1[a]? = H[a]?) : vx_L C n d A U H1 := by
  obtain ⟨c, k, i, f, a, cell, h1, h2, h3, h4, h5, h6, h7, h8, h9, h10⟩ := h
  exact ⟨c, k, i, f, a, cell, h1, h2, h3, h4, by rw [hq a (Array.getElem?_eq_some_iff.mp h5).1 h10]; exact h5, h6, h7, h8, h9, h10⟩
theorem vx_L.narrow {C n d : String} {A B : Nat → Prop} {U : State} {H : Heap} (h : vx_L C n d A U H) (hAB : ∀ q, B q → A q) : vx_L C n d B U H := by
  obtain ⟨c, k, i, f, a, cell, h1, h2, h3, h4, h5, h6, h7, h8, h9, h10⟩ := h
  exact ⟨c, k, i, f, a, cell, h1, h2, h3, h4, h5, h6, h7, h8, h9, fun z => h10 (hAB _ z)⟩
theorem vx_L.word {C n d : String} {A : Nat → Prop} {s : State} {args : Array Value} (h : vx_L C n d A s s.heap) : (Cond.laysStatic C n d).before args s = true := by
  obtain ⟨c, k, i, f, a, cell, h1, h2, h3, h4, h5, h6, h7, h8, h9, -⟩ := h
  show (Cond.laysStatic C n d).holds args s none s [] = true
  exact Cond.laysStatic_of h1 h2 h3 h4 h5 h6 h7 h8 h9
/-- .. and what it holds: null or some reference -/
def vx_Zq (C n d : String) (A : Nat → Prop) (U : State) (H : Heap) : Prop := va_Zq C n d A U H ∧ vx_L C n d A U H
theorem vx_Zq.moved {C n d : String} {A : Nat → Prop} {u U : State} {H : Heap} (hvm : u.vm.Alike U.vm) (h : vx_Zq C n d A u H) : vx_Zq C n d A U H := ⟨va_Zq.moved hvm h.1, vx_L.moved hvm h.2⟩
theorem vx_Zq.kept {C n d : String} {A : Nat → Prop} {U : State} {H H1 : Heap} (h : vx_Zq C n d A U H) (hq : ∀ a : Nat, a < H.size → ¬ A a → H1[a]? = H[a]?) : vx_Zq C n d A U H1 := ⟨va_Zq.kept h.1 hq, vx_L.kept h.2 hq⟩
theorem vx_Zq.narrow {C n d : String} {A B : Nat → Prop} {U : State} {H : Heap} (h : vx_Zq C n d A U H) (hAB : ∀ q, B q → A q) : vx_Zq C n d B U H := ⟨va_Zq.narrow h.1 hAB, vx_L.narrow h.2 hAB⟩
theorem vx_Zqof {args : Array Value} {s : State} {C n d : String} {A : Nat → Prop} (hl : (Cond.laysStatic C n d).before args s = true) (hini : (Cond.initialized C).before args s = true) (h : (Cond.isRef (.static C n d)).before args s = true) (hA : ∀ a : Nat, a < s.heap.size → ¬ A a) : vx_Zq C n d A s s.heap := by
  refine ⟨va_Zqof hl hini h hA, ?_⟩
  obtain ⟨c, k, i, f, a, cell, h1, h2, h3, h4, h5, h6, h7, h8, h9⟩ := Cond.laysStatic_spec hl
  exact ⟨c, k, i, f, a, cell, h1, h2, h3, h4, h5, h6, h7, h8, h9, hA a (Array.getElem?_eq_some_iff.mp h5).1⟩
theorem vx_isRef {C n d : String} {v : Value} {A : Nat → Prop} {s : State} {args : Array Value} (h : va_Z C n d v A s s.heap) (hv : v.isRef = true) : (Cond.isRef (.static C n d)).before args s = true := by
  obtain ⟨cf, kf, fi, f, a, cell, h1, h2, h3, h4, h5, h6, h7, -⟩ := h
  have he : (Term.static C n d).eval args s none [] s = some v := by
    simp [Term.eval, State.fieldNamed?, h1, h2, h4, h5, h6, h7]
  simp only [Cond.before, Cond.holds, Cond.value, he]
  cases v <;> simp_all [Value.isRef]
theorem vx_isRefq {C n d : String} {A : Nat → Prop} {s : State} {args : Array Value} (h : va_Zq C n d A s s.heap) : (Cond.isRef (.static C n d)).before args s = true := by
  rcases h with h | ⟨t, h⟩
  · exact vx_isRef h rfl
  · exact vx_isRef h rfl
/-- the same frame, seen from here: as if the method were called anew in this heap -/
theorem vx_rebase {T : State} (X : Stand p l e R s m args below meth c T locs cells slots) {R' : Room} (hf : R'.frames ≤ R.frames) (hl : R'.locals ≤ R.locals) (hc : cells + R'.cells ≤ R.cells) (hs : slots + R'.slots ≤ R.slots) :
    Stand p l e R' ((T.setVm s.vm).setFrames (.invoking m args :: below)) m args below meth c T [] 0 0 := by
  have htop : (T.setVm s.vm).topJava?.isSome := X.here.top
  have hF : ((T.setVm s.vm).setFrames (.invoking m args :: below)).frames = .invoking m args :: below := State.frames_setFrames _ (State.cur_lt_of_top htop)
  obtain ⟨g₀, hg0⟩ := Option.isSome_iff_exists.mp htop
  obtain ⟨r, hr⟩ := State.topJava?_eq_some.mp hg0
  have hl9 : e.platform.stackLimits (T.setVm s.vm).me = e.platform.stackLimits s.me := X.limits
  have hb9 : (T.setVm s.vm).me.stackBytes = s.me.stackBytes := X.bytes
  refine ⟨X.admits, X.cas, X.clock, hF, ?_, X.hears, X.method, X.code, X.here, X.tail, X.warmed, ?_, ?_, ?_⟩
  · have h := X.room
    have hU : ((T.setVm s.vm).setFrames (.invoking m args :: below)).localsInUse = s.localsInUse := by
      rw [State.localsInUse_invoking hF (meth := meth) (c := c) X.method X.code, State.localsInUse_invoking X.frames X.method X.code]
    simp only [State.hasRoom, Bool.and_eq_true, decide_eq_true_eq] at h ⊢
    obtain ⟨⟨⟨⟨h1, h2, h3, h4, h5, h6⟩, h7⟩, h8⟩, h9⟩ := h
    rw [X.frames, List.length_cons] at h2 h3
    have q1 := X.heapSize
    have q2 := X.used
    simp only [hF, hU, List.length_cons, State.stackLimits_setFrames, State.stackBytes_setFrames, hl9, hb9]
    refine ⟨⟨⟨⟨by omega, by omega, by omega, by omega, by omega, h6⟩, ?_⟩, ?_⟩, X.book⟩
    · show T.heap.size + R'.cells ≤ e.platform.maxCells
      omega
    · show T.slotsUsed + R'.slots ≤ e.platform.maxSlots
      omega
  · rw [State.stackLimits_setFrames]; rfl
  · rw [State.stackBytes_setFrames]; rfl
  · refine ⟨?_, Nat.le_refl _, Nat.le_refl _, ?_, ?_, fun a c9 h9 => ⟨c9, h9, rfl, rfl, fun _ _ => rfl⟩⟩
    · obtain ⟨t, ht, -⟩ := State.frames_cons hr
      show T.setVm s.vm = { ((T.setVm s.vm).setFrames (.invoking m args :: below)).setFrames (T.setVm s.vm).frames with heap := T.heap, slotsUsed := T.slotsUsed }
      rw [State.setFrames_setFrames, State.setFrames_self ht]
      rfl
    · show T.slotsUsed = T.slotsUsed + ((T.heap.toList.drop T.heap.size).map (·.slots.size)).sum
      rw [List.drop_eq_nil_of_le (Nat.le_of_eq Array.length_toList)]
      rfl
    · show ((T.heap.toList.drop T.heap.size).map (·.slots.size)).sum ≤ 0
      rw [List.drop_eq_nil_of_le (Nat.le_of_eq Array.length_toList)]
      exact Nat.le_refl _
/-- 'throw new E()': new; dup; invokespecial; athrow -/
theorem vx_throw0 {cc : ByteArray} {pc : Nat} (hexec : p.tables.exec = Jvm.exec) (hb : c.code = cc) (hl : l.stackTraces = false) {own cls : String} {names : List String} {ik ic mc ms : Nat} {A : Nat → Prop}
    (hown : s.vm.findClass own = some m.cls) (hcls : Bundle.fit cls = true) (hnames : ∀ n ∈ names, Bundle.fit n = true)
    (hk : (Cond.classLink own ik cls).before args s = true) (hini : (Cond.initialized cls).before args s = true) (hat : ∀ w ∈ vx_at0 own ic cls names, w.before args s = true)
    (hgood : ∀ w ∈ Cond.classLink own ik cls :: Cond.initialized cls :: vx_at0 own ic cls names, vx_ot w = true)
    (hU : vx_Zq Bundle.tN "UNASSIGNED_STACK" Bundle.steD A s s.heap) (hN : vx_Zq Bundle.tN "SUPPRESSED_SENTINEL" Bundle.listD A s s.heap) (hS : va_S A s.heap H locs) (hsize : ls.size = c.maxLocals)
    (d0 : decode cc pc = .ok (.new ik, 3)) (d3 : decode cc (pc + 3) = .ok (.dup, 1)) (d4 : decode cc (pc + 4) = .ok (.invokespecial ic, 3)) (d7 : decode cc (pc + 7) = .ok (.athrow, 1))
    (hout : ∀ x ∈ c.exceptionTable.toList, covers x (pc + 7) = false)
    (hRframes : names.length + 3 < R.frames) (hRlocals : (rest.map fun v => v.category).sum + (13 * (names.length + 1) + 42) ≤ R.locals) (hRcells : cells + 1 ≤ R.cells) (hRslots : slots + 6 ≤ R.slots) (hlocks : meth.locks = false)
    (hx : ∀ t : State, s.vm.Alike t.vm → H.size ≤ t.heap.size → (∀ q : Nat, q < H.size → t.heap[q]? = H[q]?) → XC cls s t)
    (hf : ∀ z ∈ locs, free z.base) (hc : cells + 1 ≤ mc) (hs : slots + 6 ≤ ms) :
    W p l e R s m args below meth c H locs cells slots (vx_MQ below Qc XC args s mc ms free) (F0 m pc ls rest) := by
  intro T hT X
  have htr : e.platform.stackTraces = false := (show e.platform.stackTraces = l.stackTraces by rw [X.admits.platform]).trans hl
  have Y := vx_rebase X (R' := { frames := R.frames, locals := R.locals, cells := 1, slots := 6 }) (Nat.le_refl _) (Nat.le_refl _) hRcells hRslots
  obtain ⟨s', hA⟩ : ∃ z, z = (T.setVm s.vm).setFrames (.invoking m args :: below) := ⟨_, rfl⟩
  rw [← hA] at Y
  have hvm : s'.vm = s.vm := by rw [hA]; rfl
  have hhp : s'.heap = H := by rw [hA]; exact hT
  have hW0 : s.WarmedH s'.vm := by rw [hvm]; exact State.WarmedH.refl s
  have hat' : ∀ w ∈ vx_at0 own ic cls names, w.before args s' = true := fun w hw => vx_ot_at hW0 hvm.symm (hgood w (List.mem_cons_of_mem _ (List.mem_cons_of_mem _ hw))) (hat w hw)
  have hk' : (Cond.classLink own ik cls).before args s' = true := vx_ot_at hW0 hvm.symm (hgood _ List.mem_cons_self) hk
  have hini' : (Cond.initialized cls).before args s' = true := vx_ot_at hW0 hvm.symm (hgood _ (List.mem_cons_of_mem _ List.mem_cons_self)) hini
  have hU' : vx_Zq Bundle.tN "UNASSIGNED_STACK" Bundle.steD A s' s'.heap := by rw [hhp]; exact vx_Zq.moved hW0.alike (hU.kept hS.2.1)
  have hN' : vx_Zq Bundle.tN "SUPPRESSED_SENTINEL" Bundle.listD A s' s'.heap := by rw [hhp]; exact vx_Zq.moved hW0.alike (hN.kept hS.2.1)
  have h : ∀ w ∈ Bundle.ownAtoms0 own ic cls names, w.before args s' = true := vx_own hat' (vx_isRefq hU'.1) (vx_isRefq hN'.1) hU'.2.word hN'.2.word
  have hown' : s'.vm.findClass own = some m.cls := by rw [hvm]; exact hown
  have hins : (Cond.instantiable cls 6).before args s' = true := h _ (by simp [Bundle.ownAtoms0])
  obtain ⟨vm₁, cX, kX, hfX, hkX, -, -, X₁, st1⟩ := Y.newCold hexec (own := own) (C := cls) (index := ik) (n := 6) hown' hk' hins hini'
    (g := F0 m pc ls rest) rfl (by rw [hb]; exact d0) (Nat.le_refl _) (Nat.le_refl _)
  generalize hT1 : (T.setVm vm₁).pushCell { cls := cX, slots := kX.instanceTypes.map defaultValue, vm := .none } = T1 at X₁ st1
  have hcat : (Value.ref T.heap.size).category = 1 := rfl
  have hcellA : T1.heap[T.heap.size]? = some (freshCell cX kX) := by rw [← hT1]; exact State.heap_pushCell_size _ _
  have d3' : decode c.code (pc + 3) = .ok (.dup, 1) := by rw [hb]; exact d3
  obtain ⟨U, hsteps, hrun, hend, hW, hsame, ce, hce, hO⟩ := X₁.ctorThrow0 hexec htr (own := own) (cls := cls) (names := names) (ic := ic) hown' hcls hnames h (fun x hx => nomatch hx) hfX hkX hcellA (by rw [hhp, hT]; exact Nat.le_refl _)
    (g := { method := m, pc := pc + 4, locals := ls, stack := .ref T.heap.size :: .ref T.heap.size :: rest, locked := none }) rfl hsize rfl rfl (rest := rest) rfl
    (by rw [hb]; exact d4) (by rw [hb]; exact d7) hout hRframes (by simp only [List.map_cons, List.sum_cons, hcat]; omega) hlocks
  obtain ⟨f1, f2⟩ := vx_frame hsame
  rw [hhp] at f1 f2
  have hWs : s.WarmedH U.vm := State.WarmedH.trans hW0 hW
  have hcl : s.vm.findClass cls = some ce.cls := by
    have h9 := hO.cls
    rw [hvm] at h9
    exact h9
  have hall : s.sameButNew ({ U with vm := s.vm } : State) locs mc ms := by
    subst hA
    obtain ⟨e1, e2⟩ := hsame
    rw [State.setFrames_setFrames] at e1
    have h2 : (T.setVm s.vm).sameButNew ({ U with vm := s.vm } : State) [] (0 + 1) (0 + 6) := ⟨e1, e2⟩
    have h3 := X.same.trans h2
    rw [List.append_nil] at h3
    exact h3.mono hc hs
  refine ⟨U, ?_, .threw T.heap.size, hrun, hend, Or.inr ⟨T.heap.size, rfl, cls, ce, locs, hx U hWs.alike f1 (fun q hq => f2 q hq (fun z hz => nomatch hz)), hce, hO.vm, hcl, hWs, hall, hf⟩⟩
  refine st1 _ ?_
  show Steps p.tables e below (T1.setTop { method := m, pc := pc + 3, locals := ls, stack := .ref T.heap.size :: rest, locked := none }) _
  jvm_step X₁.here [X₁.here.top, hexec, d3', Value.category]
  exact hsteps
/-- 'throw new E("text")': new; dup; ldc; invokespecial; athrow -/
theorem vx_throwS {cc : ByteArray} {pc : Nat} (hexec : p.tables.exec = Jvm.exec) (hb : c.code = cc) (hl : l.stackTraces = false) {own cls text : String} {names : List String} {ik is ic mc ms sa : Nat} {A : Nat → Prop}
    (hown : s.vm.findClass own = some m.cls) (hcls : Bundle.fit cls = true) (hnames : ∀ n ∈ names, Bundle.fit n = true)
    (hk : (Cond.classLink own ik cls).before args s = true) (hini : (Cond.initialized cls).before args s = true) (hstr : vk_R own is text sa s) (hat : ∀ w ∈ vx_atS own ic cls names, w.before args s = true)
    (hgood : ∀ w ∈ Cond.classLink own ik cls :: Cond.initialized cls :: vx_atS own ic cls names, vx_ot w = true)
    (hU : vx_Zq Bundle.tN "UNASSIGNED_STACK" Bundle.steD A s s.heap) (hN : vx_Zq Bundle.tN "SUPPRESSED_SENTINEL" Bundle.listD A s s.heap) (hS : va_S A s.heap H locs) (hsize : ls.size = c.maxLocals)
    (d0 : decode cc pc = .ok (.new ik, 3)) (d3 : decode cc (pc + 3) = .ok (.dup, 1)) (d4 : decode cc (pc + 4) = .ok (.ldc is, 2)) (d6 : decode cc (pc + 6) = .ok (.invokespecial ic, 3)) (d9 : decode cc (pc + 9) = .ok (.athrow, 1))
    (hout : ∀ x ∈ c.exceptionTable.toList, covers x (pc + 9) = false)
    (hRframes : names.length + 3 < R.frames) (hRlocals : (rest.map fun v => v.category).sum + (13 * (names.length + 1) + 43) ≤ R.locals) (hRcells : cells + 1 ≤ R.cells) (hRslots : slots + 6 ≤ R.slots) (hlocks : meth.locks = false)
    (hx : ∀ t : State, s.vm.Alike t.vm → H.size ≤ t.heap.size → (∀ q : Nat, q < H.size → t.heap[q]? = H[q]?) → XC cls s t)
    (hf : ∀ z ∈ locs, free z.base) (hc : cells + 1 ≤ mc) (hs : slots + 6 ≤ ms) :
    W p l e R s m args below meth c H locs cells slots (vx_MQ below Qc XC args s mc ms free) (F0 m pc ls rest) := by
  intro T hT X
  have htr : e.platform.stackTraces = false := (show e.platform.stackTraces = l.stackTraces by rw [X.admits.platform]).trans hl
  have Y := vx_rebase X (R' := { frames := R.frames, locals := R.locals, cells := 1, slots := 6 }) (Nat.le_refl _) (Nat.le_refl _) hRcells hRslots
  obtain ⟨s', hA⟩ : ∃ z, z = (T.setVm s.vm).setFrames (.invoking m args :: below) := ⟨_, rfl⟩
  rw [← hA] at Y
  have hvm : s'.vm = s.vm := by rw [hA]; rfl
  have hhp : s'.heap = H := by rw [hA]; exact hT
  have hW0 : s.WarmedH s'.vm := by rw [hvm]; exact State.WarmedH.refl s
  have hat' : ∀ w ∈ vx_atS own ic cls names, w.before args s' = true := fun w hw => vx_ot_at hW0 hvm.symm (hgood w (List.mem_cons_of_mem _ (List.mem_cons_of_mem _ hw))) (hat w hw)
  have hk' : (Cond.classLink own ik cls).before args s' = true := vx_ot_at hW0 hvm.symm (hgood _ List.mem_cons_self) hk
  have hini' : (Cond.initialized cls).before args s' = true := vx_ot_at hW0 hvm.symm (hgood _ (List.mem_cons_of_mem _ List.mem_cons_self)) hini
  have hU' : vx_Zq Bundle.tN "UNASSIGNED_STACK" Bundle.steD A s' s'.heap := by rw [hhp]; exact vx_Zq.moved hW0.alike (hU.kept hS.2.1)
  have hN' : vx_Zq Bundle.tN "SUPPRESSED_SENTINEL" Bundle.listD A s' s'.heap := by rw [hhp]; exact vx_Zq.moved hW0.alike (hN.kept hS.2.1)
  have h : ∀ w ∈ Bundle.ownAtoms own ic cls names, w.before args s' = true := vx_own hat' (vx_isRefq hU'.1) (vx_isRefq hN'.1) hU'.2.word hN'.2.word
  have hown' : s'.vm.findClass own = some m.cls := by rw [hvm]; exact hown
  have hins : (Cond.instantiable cls 6).before args s' = true := h _ (by simp [Bundle.ownAtoms])
  obtain ⟨vm₁, cX, kX, hfX, hkX, -, -, X₁, st1⟩ := Y.newCold hexec (own := own) (C := cls) (index := ik) (n := 6) hown' hk' hins hini'
    (g := F0 m pc ls rest) rfl (by rw [hb]; exact d0) (Nat.le_refl _) (Nat.le_refl _)
  generalize hT1 : (T.setVm vm₁).pushCell { cls := cX, slots := kX.instanceTypes.map defaultValue, vm := .none } = T1 at X₁ st1
  have hcat : (Value.ref T.heap.size).category = 1 := rfl
  have hcellA : T1.heap[T.heap.size]? = some (freshCell cX kX) := by rw [← hT1]; exact State.heap_pushCell_size _ _
  have d3' : decode c.code (pc + 3) = .ok (.dup, 1) := by rw [hb]; exact d3
  have d4' : decode c.code (pc + 4) = .ok (.ldc is, 2) := by rw [hb]; exact d4
  have hstr' : vk_R own is text sa s' := vk_R.warm hW0 hstr
  obtain ⟨U, hsteps, hrun, hend, hW, hsame, ce, hce, hO⟩ := X₁.ctorThrowS hexec htr (own := own) (cls := cls) (names := names) (ic := ic) hown' hcls hnames h (fun x hx => nomatch hx) hfX hkX hcellA (by rw [hhp, hT]; exact Nat.le_refl _) (msg := .ref sa) rfl
    (g := { method := m, pc := pc + 6, locals := ls, stack := .ref sa :: .ref T.heap.size :: .ref T.heap.size :: rest, locked := none }) rfl hsize rfl rfl (rest := rest) rfl
    (by rw [hb]; exact d6) (by rw [hb]; exact d9) hout hRframes (by simp only [List.map_cons, List.sum_cons, hcat]; omega) hlocks
  obtain ⟨f1, f2⟩ := vx_frame hsame
  rw [hhp] at f1 f2
  have hWs : s.WarmedH U.vm := State.WarmedH.trans hW0 hW
  have hcl : s.vm.findClass cls = some ce.cls := by
    have h9 := hO.cls
    rw [hvm] at h9
    exact h9
  have hall : s.sameButNew ({ U with vm := s.vm } : State) locs mc ms := by
    subst hA
    obtain ⟨e1, e2⟩ := hsame
    rw [State.setFrames_setFrames] at e1
    have h2 : (T.setVm s.vm).sameButNew ({ U with vm := s.vm } : State) [] (0 + 1) (0 + 6) := ⟨e1, e2⟩
    have h3 := X.same.trans h2
    rw [List.append_nil] at h3
    exact h3.mono hc hs
  refine ⟨U, ?_, .threw T.heap.size, hrun, hend, Or.inr ⟨T.heap.size, rfl, cls, ce, locs, hx U hWs.alike f1 (fun q hq => f2 q hq (fun z hz => nomatch hz)), hce, hO.vm, hcl, hWs, hall, hf⟩⟩
  refine st1 _ ?_
  show Steps p.tables e below (T1.setTop { method := m, pc := pc + 3, locals := ls, stack := .ref T.heap.size :: rest, locked := none }) _
  jvm_step X₁.here [X₁.here.top, hexec, d3', Value.category]
  exact X₁.ldcString hexec (own := own) (text := text) (index := is) (a := sa) hown' hstr'.1 hstr'.2
    (g := { method := m, pc := pc + 4, locals := ls, stack := .ref T.heap.size :: .ref T.heap.size :: rest, locked := none }) rfl d4' _ hsteps
/-- 'throw new E("text")', the text by a wide index -/
theorem vx_throwSW {cc : ByteArray} {pc : Nat} (hexec : p.tables.exec = Jvm.exec) (hb : c.code = cc) (hl : l.stackTraces = false) {own cls text : String} {names : List String} {ik is ic mc ms sa : Nat} {A : Nat → Prop}
    (hown : s.vm.findClass own = some m.cls) (hcls : Bundle.fit cls = true) (hnames : ∀ n ∈ names, Bundle.fit n = true)
    (hk : (Cond.classLink own ik cls).before args s = true) (hini : (Cond.initialized cls).before args s = true) (hstr : vk_R own is text sa s) (hat : ∀ w ∈ vx_atS own ic cls names, w.before args s = true)
    (hgood : ∀ w ∈ Cond.classLink own ik cls :: Cond.initialized cls :: vx_atS own ic cls names, vx_ot w = true)
    (hU : vx_Zq Bundle.tN "UNASSIGNED_STACK" Bundle.steD A s s.heap) (hN : vx_Zq Bundle.tN "SUPPRESSED_SENTINEL" Bundle.listD A s s.heap) (hS : va_S A s.heap H locs) (hsize : ls.size = c.maxLocals)
    (d0 : decode cc pc = .ok (.new ik, 3)) (d3 : decode cc (pc + 3) = .ok (.dup, 1)) (d4 : decode cc (pc + 4) = .ok (.ldc_w is, 3)) (d7 : decode cc (pc + 7) = .ok (.invokespecial ic, 3)) (d10 : decode cc (pc + 10) = .ok (.athrow, 1))
    (hout : ∀ x ∈ c.exceptionTable.toList, covers x (pc + 10) = false)
    (hRframes : names.length + 3 < R.frames) (hRlocals : (rest.map fun v => v.category).sum + (13 * (names.length + 1) + 43) ≤ R.locals) (hRcells : cells + 1 ≤ R.cells) (hRslots : slots + 6 ≤ R.slots) (hlocks : meth.locks = false)
    (hx : ∀ t : State, s.vm.Alike t.vm → H.size ≤ t.heap.size → (∀ q : Nat, q < H.size → t.heap[q]? = H[q]?) → XC cls s t)
    (hf : ∀ z ∈ locs, free z.base) (hc : cells + 1 ≤ mc) (hs : slots + 6 ≤ ms) :
    W p l e R s m args below meth c H locs cells slots (vx_MQ below Qc XC args s mc ms free) (F0 m pc ls rest) := by
  intro T hT X
  have htr : e.platform.stackTraces = false := (show e.platform.stackTraces = l.stackTraces by rw [X.admits.platform]).trans hl
  have Y := vx_rebase X (R' := { frames := R.frames, locals := R.locals, cells := 1, slots := 6 }) (Nat.le_refl _) (Nat.le_refl _) hRcells hRslots
  obtain ⟨s', hA⟩ : ∃ z, z = (T.setVm s.vm).setFrames (.invoking m args :: below) := ⟨_, rfl⟩
  rw [← hA] at Y
  have hvm : s'.vm = s.vm := by rw [hA]; rfl
  have hhp : s'.heap = H := by rw [hA]; exact hT
  have hW0 : s.WarmedH s'.vm := by rw [hvm]; exact State.WarmedH.refl s
  have hat' : ∀ w ∈ vx_atS own ic cls names, w.before args s' = true := fun w hw => vx_ot_at hW0 hvm.symm (hgood w (List.mem_cons_of_mem _ (List.mem_cons_of_mem _ hw))) (hat w hw)
  have hk' : (Cond.classLink own ik cls).before args s' = true := vx_ot_at hW0 hvm.symm (hgood _ List.mem_cons_self) hk
  have hini' : (Cond.initialized cls).before args s' = true := vx_ot_at hW0 hvm.symm (hgood _ (List.mem_cons_of_mem _ List.mem_cons_self)) hini
  have hU' : vx_Zq Bundle.tN "UNASSIGNED_STACK" Bundle.steD A s' s'.heap := by rw [hhp]; exact vx_Zq.moved hW0.alike (hU.kept hS.2.1)
  have hN' : vx_Zq Bundle.tN "SUPPRESSED_SENTINEL" Bundle.listD A s' s'.heap := by rw [hhp]; exact vx_Zq.moved hW0.alike (hN.kept hS.2.1)
  have h : ∀ w ∈ Bundle.ownAtoms own ic cls names, w.before args s' = true := vx_own hat' (vx_isRefq hU'.1) (vx_isRefq hN'.1) hU'.2.word hN'.2.word
  have hown' : s'.vm.findClass own = some m.cls := by rw [hvm]; exact hown
  have hins : (Cond.instantiable cls 6).before args s' = true := h _ (by simp [Bundle.ownAtoms])
  obtain ⟨vm₁, cX, kX, hfX, hkX, -, -, X₁, st1⟩ := Y.newCold hexec (own := own) (C := cls) (index := ik) (n := 6) hown' hk' hins hini'
    (g := F0 m pc ls rest) rfl (by rw [hb]; exact d0) (Nat.le_refl _) (Nat.le_refl _)
  generalize hT1 : (T.setVm vm₁).pushCell { cls := cX, slots := kX.instanceTypes.map defaultValue, vm := .none } = T1 at X₁ st1
  have hcat : (Value.ref T.heap.size).category = 1 := rfl
  have hcellA : T1.heap[T.heap.size]? = some (freshCell cX kX) := by rw [← hT1]; exact State.heap_pushCell_size _ _
  have d3' : decode c.code (pc + 3) = .ok (.dup, 1) := by rw [hb]; exact d3
  have d4' : decode c.code (pc + 4) = .ok (.ldc_w is, 3) := by rw [hb]; exact d4
  have hstr' : vk_R own is text sa s' := vk_R.warm hW0 hstr
  obtain ⟨U, hsteps, hrun, hend, hW, hsame, ce, hce, hO⟩ := X₁.ctorThrowS hexec htr (own := own) (cls := cls) (names := names) (ic := ic) hown' hcls hnames h (fun x hx => nomatch hx) hfX hkX hcellA (by rw [hhp, hT]; exact Nat.le_refl _) (msg := .ref sa) rfl
    (g := { method := m, pc := pc + 7, locals := ls, stack := .ref sa :: .ref T.heap.size :: .ref T.heap.size :: rest, locked := none }) rfl hsize rfl rfl (rest := rest) rfl
    (by rw [hb]; exact d7) (by rw [hb]; exact d10) hout hRframes (by simp only [List.map_cons, List.sum_cons, hcat]; omega) hlocks
  obtain ⟨f1, f2⟩ := vx_frame hsame
  rw [hhp] at f1 f2
  have hWs : s.WarmedH U.vm := State.WarmedH.trans hW0 hW
  have hcl : s.vm.findClass cls = some ce.cls := by
    have h9 := hO.cls
    rw [hvm] at h9
    exact h9
  have hall : s.sameButNew ({ U with vm := s.vm } : State) locs mc ms := by
    subst hA
    obtain ⟨e1, e2⟩ := hsame
    rw [State.setFrames_setFrames] at e1
    have h2 : (T.setVm s.vm).sameButNew ({ U with vm := s.vm } : State) [] (0 + 1) (0 + 6) := ⟨e1, e2⟩
    have h3 := X.same.trans h2
    rw [List.append_nil] at h3
    exact h3.mono hc hs
  refine ⟨U, ?_, .threw T.heap.size, hrun, hend, Or.inr ⟨T.heap.size, rfl, cls, ce, locs, hx U hWs.alike f1 (fun q hq => f2 q hq (fun z hz => nomatch hz)), hce, hO.vm, hcl, hWs, hall, hf⟩⟩
  refine st1 _ ?_
  show Steps p.tables e below (T1.setTop { method := m, pc := pc + 3, locals := ls, stack := .ref T.heap.size :: rest, locked := none }) _
  jvm_step X₁.here [X₁.here.top, hexec, d3', Value.category]
  exact X₁.ldcStringW hexec (own := own) (text := text) (index := is) (a := sa) hown' hstr'.1 hstr'.2
    (g := { method := m, pc := pc + 4, locals := ls, stack := .ref T.heap.size :: .ref T.heap.size :: rest, locked := none }) rfl d4' _ hsteps
end Ends
section Bodies
variable {l : Launch}
theorem vx_ofW {y : MethodName} {ws ws' : List Cond} {rm : Room} {Pc : Array Value → State → Prop} {Qc : Array Value → State → Outcome → State → Prop} {XC : String → State → State → Prop} {mc ms : Nat} {free : Addr → Prop} {cc : ByteArray} {maxL : Nat} {ret : Option FieldType}
    (hy : plainName y.cls = true) (hw : ws = Cond.code y cc maxL ret :: ws')
    (body : ∀ p e s m args below meth c s₁, BodyLoose p l y (headSpec ws rm) cc maxL ret e s m args below meth c s₁ → c.maxLocals = maxL → (∀ x ∈ c.exceptionTable.toList, False) → Pc args s →
      W p l e (headSpec ws rm).room s m args below meth c s.heap [] 0 0 (vx_MQ below Qc XC args s mc ms free) (entryFrame m args maxL)) : vx_Met l y ws rm Pc Qc XC mc ms free := by
  refine MetFree.of_bodyS (code := cc) (maxLocals := maxL) (ret := ret) hy ?_ ?_
  · intro args s m h hn
    obtain ⟨meth, c, h1, h2, h3, h4, h5, h6, -, -⟩ := Cond.code_spec hn (atoms_spec (ws := ws) h _ (by rw [hw]; exact List.mem_cons_self))
    exact ⟨meth, c, h1, h2, h3, h4, h5, h6⟩
  · intro p e s m args below meth c s₁ B hml hP _
    have hh0 : s₁.heap = s.heap := by rw [B.state]; rfl
    have ht : ∀ x ∈ c.exceptionTable.toList, False := by
      obtain ⟨meth9, c9, h1, h2, -, -, -, -, h7, -⟩ := Cond.code_spec B.named (atoms_spec (ws := ws) B.pre _ (by rw [hw]; exact List.mem_cons_self))
      cases Option.some.inj (h1.symm.trans B.method)
      cases Option.some.inj (h2.symm.trans (Stand.of_body B).code)
      intro x hx
      rw [Array.isEmpty_iff.mp h7] at hx
      cases hx
    obtain ⟨t, a1, o, b1, b2, b3⟩ := body p e s m args below meth c s₁ B hml ht hP s₁ hh0 (Stand.of_body B)
    exact ⟨t, o, a1, b1, b2, b3⟩
/-- the table of a body with handlers -/
theorem vx_table {p : Program} {x y : MethodName} {S : Spec} {cc bytes : ByteArray} {maxL maxL' : Nat} {ret ret' : Option FieldType} {e : Env} {s s₁ : State} {m : MethodId} {args : Array Value} {below : List Frame} {meth : Method} {c : Code} {hh : List (Nat × Nat × Nat × Nat)}
    (B : BodyLoose p l y S cc maxL ret e s m args below meth c s₁) (h : (Cond.codeWith y bytes maxL' ret' hh).before args s = true) : c.exceptionTable.toList = tableOf hh := by
  obtain ⟨m9, meth9, c9, hn9, h1, h2, -, -, h6, -⟩ := Cond.codeWith_spec h
  cases Option.some.inj (hn9.symm.trans B.named)
  cases Option.some.inj (h1.symm.trans B.method)
  cases Option.some.inj (h2.symm.trans (Stand.of_body B).code)
  rw [← h6, table_eq]
end Bodies
end VXA
/-! ===== END ===== -/
/-! ===== BEGIN a static call of a method with an exception table ===== -/
section VXS
variable {p : Program} {l : Launch} {e : Env} {R : Room} {s : State} {m : MethodId} {args : Array Value} {below : List Frame} {meth : Method} {c : Code} {T : State} {H : Heap} {locs : List Loc} {cells slots : Nat}
abbrev vx_CSW (R : Room) (s : State) (args : Array Value) (own : String) (index : Nat) (y : MethodName) (bytes : ByteArray) (maxL : Nat) (ret : Option FieldType) (hh : List (Nat × Nat × Nat × Nat)) (ws : List Cond) (rm : Room) (mc ms n : Nat) : Prop :=
  (rm.cells = mc ∧ rm.slots = ms ∧ rm.frames + 1 ≤ R.frames ∧ 8 + (maxL + 11) + rm.locals ≤ R.locals ∧ (∀ w ∈ ws, ∀ (a' : Array Value) (U : State), s.WarmedH U.vm → w.before a' U = true) ∧ Cond.codeWith y bytes maxL ret hh ∈ ws) ∧
  (Cond.codeWith y bytes maxL ret hh).before args s = true ∧ (Cond.initialized y.cls).before args s = true ∧ (y.cls ≠ "java/lang/invoke/MethodHandle" ∧ y.cls ≠ "java/lang/invoke/VarHandle") ∧
  (∀ sig, parseMethodDescriptor y.desc = some sig → n = sig.parameters.length) ∧ (Cond.methodLink own index y).before args s = true ∧ (Cond.static y).before args s = true
theorem vx_cwSW {own : String} {index maxL mc ms : Nat} {y : MethodName} {bytes : ByteArray} {ret : Option FieldType} {hh : List (Nat × Nat × Nat × Nat)} {Ts ws ws' : List Cond} {rm : Room} (n : Nat) (ht : ∀ w ∈ Ts, w.before args s = true) (hT : GoodIn Ts (va_wsS own index y ws)) (hw : ws = Cond.codeWith y bytes maxL ret hh :: ws') (hrc : rm.cells = mc) (hrs : rm.slots = ms)
    (hd : y.cls ≠ "java/lang/invoke/MethodHandle" ∧ y.cls ≠ "java/lang/invoke/VarHandle" ∧ (parseMethodDescriptor y.desc).map (fun d => d.parameters.length) = some n) (hR : rm.frames + 1 ≤ R.frames ∧ 8 + (maxL + 11) + rm.locals ≤ R.locals) :
    vx_CSW R s args own index y bytes maxL ret hh ws rm mc ms n := by
  have ok : ∀ w ∈ va_wsS own index y ws, w.before args s = true := fun w h => ht w (hT w h).1
  have hG : GoodIn Ts ws := fun w h => hT w (by unfold va_wsS; exact List.mem_append_right _ h)
  have hc : Cond.codeWith y bytes maxL ret hh ∈ ws := by rw [hw]; exact List.mem_cons_self
  refine ⟨⟨hrc, hrs, hR.1, hR.2, pay_in ht hG, hc⟩, ht _ (hG _ hc).1, ok _ (by simp [va_wsS]), ⟨hd.1, hd.2.1⟩, fun sig h => ?_, ok _ (by simp [va_wsS]), ok _ (by simp [va_wsS])⟩
  have h2 := hd.2.2
  rw [h] at h2
  exact (Option.some.inj h2).symm
theorem vx_callSW (X : Stand p l e R s m args below meth c T locs cells slots) (hexec : p.tables.exec = Jvm.exec) {own : String} {index : Nat} {y : MethodName} {bytes : ByteArray} {maxL : Nat} {ret : Option FieldType} {hh : List (Nat × Nat × Nat × Nat)}
    (hown : s.vm.findClass own = some m.cls) (hlink : (Cond.methodLink own index y).before args s = true) (hstat : (Cond.static y).before args s = true) (hinit : (Cond.initialized y.cls).before args s = true)
    (hcode : (Cond.codeWith y bytes maxL ret hh).before args s = true) (hy : y.cls ≠ "java/lang/invoke/MethodHandle" ∧ y.cls ≠ "java/lang/invoke/VarHandle")
    {W9 : Nat} {Pre : Pt → Array Value → Prop} {Post : Pt → Array Value → Option Value → Pt → Prop} (hK : Back l R p e below s args y 3 W9 Pre Post)
    {g : JFrame} (hg : g.method = m) (hsize : g.locals.size = c.maxLocals) {argsL rest : List Value} (hlen : ∀ sig, parseMethodDescriptor y.desc = some sig → argsL.length = sig.parameters.length)
    (hstack : g.stack = argsL.reverse ++ rest) (hW : 2 * g.monitorRoom + (rest.map fun v => v.category).sum ≤ W9) (hdg : decode c.code g.pc = .ok (.invokestatic index, 3))
    (hpre : ∀ vm₁, s.WarmedH vm₁ → Pre ⟨T.setVm vm₁, locs, cells, slots⟩ argsL.toArray) :
    ∃ (v : Option Value) (vm₁ : Vm) (B : Pt), s.WarmedH vm₁ ∧ Stand p l e R s m args below meth c B.U B.locs B.cells B.slots ∧ Post ⟨T.setVm vm₁, locs, cells, slots⟩ argsL.toArray v B ∧
      ∀ target, Steps p.tables e below (B.U.setTop { g with pc := g.pc + 3, stack := v.toList ++ rest }) target → Steps p.tables e below (T.setTop g) target := by
  obtain ⟨mk, methM, cM, hnamed, hmethM, -, -, -, -, -, -, hsigM⟩ := Cond.codeWith_spec hcode
  have hstatic : methM.isStatic = true := Cond.static_spec hnamed hmethM hstat
  obtain ⟨kP, hkP, -⟩ := className_of_methodNamed hnamed
  have hinitP : kP.init = .initialized := Cond.initialized_spec (findClass_of_methodNamed hnamed) hkP hinit
  obtain ⟨vm₁, X₁, hstep₁⟩ := X.invokestatic hexec hown hlink hnamed hmethM hstatic hkP hinitP hy (g := g) hg (argsL := argsL) (rest := rest) (hlen _ hsigM) hstack hdg
  obtain ⟨v, B, X', hpost, hsteps⟩ := hK m meth c ⟨T.setVm vm₁, locs, cells, slots⟩ { g with stack := rest } (.invokestatic index) mk argsL.toArray X₁ hg hsize hdg hW (X₁.named hnamed) (hpre vm₁ X₁.warmed)
  exact ⟨v, vm₁, B, X₁.warmed, X', hpost, fun target h => hstep₁ _ fun acts => by rw [doInvoke_state]; exact hsteps.trans h⟩
theorem vx_runSW {y : MethodName} {bytes cc : ByteArray} {maxL nL mc ms n index : Nat} {ret : Option FieldType} {hh : List (Nat × Nat × Nat × Nat)} {ws : List Cond} {rm : Room} {Pc : Array Value → State → Prop} {Qc : Array Value → State → Outcome → State → Prop} {free : Addr → Prop} {Ts : List Cond} {own : String} {As rest : List Value} {g : JFrame}
    (S : CallFix p m c cc nL s args Ts own) (hM : Met l y ws rm Pc Qc mc ms free) (cw : vx_CSW R s args own index y bytes maxL ret hh ws rm mc ms n) (hp : PreS s H Pc As)
    (hg : g.method = m) (hn : As.length = n) (hsize : g.locals.size = nL) (hstack : g.stack = As.reverse ++ rest) (hW : 2 * g.monitorRoom + (rest.map fun v => v.category).sum ≤ 8) (hdg : decode cc g.pc = .ok (.invokestatic index, 3)) (hf : cells + mc ≤ R.cells ∧ slots + ms ≤ R.slots) :
    va_Run p l e R s m args below meth c H locs cells slots mc ms g rest (Qc As.toArray) (free) := by
  obtain ⟨⟨hrc, hrs, hfr, hlo, hws, hcw⟩, hcode, hini, hy, hlen, hl, hstt⟩ := cw
  have hK : Back l R p e below s args y 3 8 (PreOf R mc ms Pc) (PostOf Qc mc ms free) := va_backW (hh := hh) (bytes := bytes) (maxL := maxL) (ret := ret) hM hp.1 hrc hrs hfr hlo hws hcw (fun a' U hW => word_at hW (Or.inl (by first | rfl | simp [Cond.onTables, Cond.keeps, Cond.steady])) hini)
  obtain ⟨hx, hb, hml, ho, -⟩ := S
  intro T hT X
  obtain ⟨v, vm₁, ⟨U', l2, c2, s2⟩, hW₁, X', ⟨g', mk, t, L, e1, e2, hq, h1, hL, h2, h3⟩, st⟩ := vx_callSW X hx (hh := hh) (bytes := bytes) (maxL := maxL) (ret := ret) ho hl hstt hini hcode hy hK hg (hsize.trans hml.symm) (argsL := As) (rest := rest) (fun sig h => hn.trans (hlen sig h)) hstack hW (by rw [hb]; exact hdg)
    (fun vm₁ hW₁ => ⟨hf.1, hf.2, hp.2 (T.setVm vm₁) hT hW₁⟩)
  dsimp only [Pt.U, Pt.locs, Pt.cells, Pt.slots] at X' e1 e2 h1 h2 h3 st
  subst h1; subst h2; subst h3
  exact ⟨v, (T.setVm vm₁).calling g' mk As.toArray, t, U', L, hT, X', hL, e1, e2, hq, st⟩
/-- not caught here, past rows that name other classes: it goes on to the caller -/
theorem vx_outP {p : Program} {l : Launch} {e : Env} {R : Room} {s : State} {m : MethodId} {args : Array Value} {below : List Frame} {meth : Method} {c : Code} {H : Heap} {locs : List Loc} {cells slots : Nat} {free : Addr → Prop} {ls : Array Slot} {rest : List Value} {Qc : Array Value → State → Outcome → State → Prop} {XC : String → State → State → Prop}
    {pc : Nat} {own E : String} {ce : Cell} {q : Addr} {mc ms : Nat} (hown : s.vm.findClass own = some m.cls) (hlocks : meth.locks = false)
    (hpass : ∀ z ∈ c.exceptionTable.toList, covers z pc = false ∨ (z.catchType ≠ 0 ∧ ∃ nm : String, (Cond.classLink own z.catchType nm).before args s = true ∧ va_Nc E nm s)) (hcell : H[q]? = some ce) (hv : ce.vm = .none) (hcl : s.vm.findClass E = some ce.cls)
    (hx : ∀ t : State, t.heap = H → s.vm.Alike t.vm → XC E s t) (hf : ∀ z ∈ locs, free z.base) (hc : cells ≤ mc) (hs : slots ≤ ms) :
    vx_W p l e R s m args below meth c H locs cells slots (vx_MQ below Qc XC args s mc ms free) (F0 m pc ls rest) q := by
  intro T hT X
  have hpl : e.platform.magicAccessors = ({} : Platform).magicAccessors := by rw [X.admits.platform]
  obtain ⟨vm', hW', X', st⟩ := X.outThrough hlocks q (g := F0 m pc ls rest) rfl rfl rfl (cell := ce) (by rw [hT]; exact hcell) (by rw [hv]; rfl)
    (by obtain ⟨k9, h9, -⟩ := Vm.findClass_spec hcl; exact ⟨k9, h9⟩) (fun z hz => by
      rcases hpass z hz with h | ⟨hz0, nm, hl1, hn1⟩
      · exact Or.inl h
      · obtain ⟨c6, hc6, hcl6⟩ := Cond.classLink_spec hown hl1 e.platform hpl
        obtain ⟨a8, b8, h1, h2, h3⟩ := hn1
        cases Option.some.inj (h1.symm.trans hcl)
        cases Option.some.inj (h2.symm.trans hc6)
        exact Or.inr ⟨hz0, _, hcl6, h3⟩)
  obtain ⟨g₀, hfr⟩ := X'.frames_eq
  have hcell9 : ((T.setVm vm').setFrames (.throwing q :: below)).heap[q]? = some ce := by
    show T.heap[q]? = some ce
    rw [hT]; exact hcell
  have hend : Ended ((T.setVm vm').setFrames (.throwing q :: below)) below (.threw q) := State.frames_setFrames _ (State.cur_lt_of_frames hfr)
  refine ⟨(T.setVm vm').setFrames (.throwing q :: below), ?_, .threw q, X'.here.running, hend, Or.inr ⟨q, rfl, E, ce, locs, hx _ hT (X'.ends _).1.alike, hcell9, hv, hcl, (X'.ends _).1, (X'.ends _).2.mono hc hs, hf⟩⟩
  rw [X.pushThrowing_eq]
  exact st
/-- a thing of a world lies in the heap -/
theorem vx_lt {D : va_G} {cl : List vw_C} {ws : va_W} {H1 : Heap} (h : va_P D cl ws H1) {k : Nat} {q : Nat × va_E} (hk : ws[k]? = some q) : q.1 < H1.size := (h k q hk).lt
end VXS
/-! ===== END ===== -/
/-! ===== BEGIN methods with a table of their own: called by a name, returning or throwing ===== -/
section VXH
/-! vx_backW, vx_callVX, vx_callSX, vx_callVW, vx_runVW, vx_runVX, vx_runSX, vx_ofWH follow the same proofs as their sisters above (Free/Laws.lean, Shelf42/LK1.lean); vx_outP calls Shelf42/NT130.lean (outThrough). -/
section
variable {l : Launch} {R : Room} {p : Program} {e : Env} {below : List Frame} {s : State} {sargs : Array Value} {y : MethodName} {len W9 : Nat}
theorem vx_backW {ws : List Cond} {rm : Room} {Pc : Array Value → State → Prop} {Qc : Array Value → State → Outcome → State → Prop} {XC : String → State → State → Prop} {mc ms : Nat} {free : Addr → Prop} {bytes : ByteArray} {maxL : Nat} {ret : Option FieldType} {hh : List (Nat × Nat × Nat × Nat)}
    (hM : vx_Met l y ws rm Pc Qc XC mc ms free) (hblind : FrameBlind Pc) (hrc : rm.cells = mc) (hrs : rm.slots = ms)
    (hframes : rm.frames + 1 ≤ R.frames) (hlocals : W9 + (maxL + 11) + rm.locals ≤ R.locals)
    (hws : ∀ w ∈ ws, ∀ a' U, s.WarmedH U.vm → w.before a' U = true) (hcode : Cond.codeWith y bytes maxL ret hh ∈ ws) (hinit : ∀ a' U, s.WarmedH U.vm → (Cond.initialized y.cls).before a' U = true) :
    vx_Back l R p e below s sargs y len W9 (PreOf R mc ms Pc) (PostOf Qc mc ms free) (vx_Post XC mc ms free) := by
  intro m meth c A g ig mk a X hg hsize hdg hW hn hp
  have h1 : (headSpec ws rm).pre.before a A.U = true := atoms_intro fun w hw => hws w hw _ _ X.warmed
  have h2 : (Cond.codeWith y bytes maxL ret hh).before a A.U = true := hws _ hcode _ _ X.warmed
  have h3 : (Cond.initialized y.cls).before a A.U = true := hinit _ _ X.warmed
  have h4 : A.cells + (headSpec ws rm).room.cells ≤ R.cells := by rw [show (headSpec ws rm).room.cells = mc from hrc]; exact hp.1
  have h5 : A.slots + (headSpec ws rm).room.slots ≤ R.slots := by rw [show (headSpec ws rm).room.slots = ms from hrs]; exact hp.2.1
  have hPc : Pc a (A.U.calling g mk a) := hblind _ _ _ _ hp.2.2
  obtain ⟨U, Ls, c0, s0⟩ := A
  dsimp only [Pt.U, Pt.locs, Pt.cells, Pt.slots] at h1 h2 h3 h4 h5 X hn hPc ⊢
  obtain ⟨m9, methY, cY, hn9, hmY, hcY, -, hlY, -⟩ := Cond.codeWith_spec h2
  cases Option.some.inj (hn9.symm.trans hn)
  obtain ⟨kY, hkY, -⟩ := className_of_methodNamed hn
  have hinitY : kY.init = .initialized := Cond.initialized_spec (findClass_of_methodNamed hn) hkY h3
  have h : At U g.method c below := by rw [hg]; exact X.here
  have hlocals9 : W9 + (maxL + 11) + (headSpec ws rm).room.locals ≤ R.locals := hlocals
  have happ : (headSpec ws rm).appliesLoose y e.platform (U.calling g mk a) = true :=
    Spec.appliesLoose_calling (g := g) h hdg hn hkY hinitY
      (X.room_calling (g := g) (R' := (headSpec ws rm).room) hsize hmY hcY hframes (by rw [hlY]; omega) h4 h5) h1
  obtain ⟨mid, hmid⟩ := h.above
  have hfr : (U.setTop g).frames = (.java g :: mid) ++ below := by rw [State.frames_setTop' g h.top, hmid]; rfl
  obtain ⟨o, s₂, hsteps, -, hend, hq⟩ := Steps.callFree hM p X.admits X.cas X.clock (acts := []) hfr happ hPc trivial
  have hq' : vx_Q Qc XC mc ms free a (U.calling g mk a) o s₂ := hq
  rw [State.frames_setTop' g h.top] at hend
  obtain ⟨g₀, hg0⟩ := Option.isSome_iff_exists.mp h.top
  obtain ⟨r, hr⟩ := State.topJava?_eq_some.mp hg0
  have hr' : (({ U with heap := s₂.heap, slotsUsed := s₂.slotsUsed } : State).setVm s₂.vm).frames = .java g₀ :: r := hr
  rcases hq' with ⟨hqc, L, hfe, hL⟩ | ⟨q, rfl, E, ce, L, hx, hce, hcv, hcl, hW₂, hsm, hL⟩
  · obtain ⟨⟨v, rfl⟩, hW₂, e2, q2, q3, q4, q5, q6⟩ := id hfe
    have e3 : s₂ = ({ (U.calling g mk a).setFrames s₂.frames with heap := s₂.heap, slotsUsed := s₂.slotsUsed } : State).setVm s₂.vm := by
      have : s₂ = ({ s₂ with vm := (U.calling g mk a).vm } : State).setVm s₂.vm := rfl
      rw [e2] at this
      exact this
    obtain ⟨c₂, i₂, len₂, hc₂, hd₂, hf₂⟩ := hend
    have hW' : U.WarmedH s₂.vm := hW₂
    have hcc : c₂ = c := by
      have h1 : s₂.code? g.method = U.code? g.method := by
        rw [State.code?_eq, State.code?_eq, hW'.alike.method?]
      exact Option.some.inj (hc₂.symm.trans (h1.trans h.code))
    subst hcc
    have hlen : len₂ = len := by rw [hdg] at hd₂; cases hd₂; rfl
    subst hlen
    have hs₂ : s₂ = (({ U with heap := s₂.heap, slotsUsed := s₂.slotsUsed } : State).setVm s₂.vm).setTop { g with pc := g.pc + len₂, stack := v.toList ++ g.stack } := by
      refine e3.trans ?_
      rw [hf₂, State.calling_eq h.top, State.setFrames_setFrames, State.setTop_of_frames _ hr', hr]
      rfl
    have hsame : U.sameButNew ({ U with heap := s₂.heap, slotsUsed := s₂.slotsUsed } : State) L mc ms := by
      refine ⟨?_, q2, q3, q4, q5, q6⟩
      obtain ⟨t, ht, -⟩ := State.frames_cons hr
      show ({ U with heap := s₂.heap, slotsUsed := s₂.slotsUsed } : State) = { U.setFrames U.frames with heap := s₂.heap, slotsUsed := s₂.slotsUsed }
      rw [State.setFrames_self ht]
    subst hg
    refine Or.inl ⟨v, ⟨(({ U with heap := s₂.heap, slotsUsed := s₂.slotsUsed } : State).setVm s₂.vm), Ls ++ L, c0 + mc, s0 + ms⟩,
      ⟨X.admits, X.cas, X.clock, X.frames, X.room, X.hears, X.method, X.code, (X.here.setHeapUsed s₂.heap s₂.slotsUsed).setVm hW'.alike, X.tail, State.WarmedH.trans X.warmed hW', X.limits, X.bytes, X.same.trans (hsame.setVm s.vm)⟩,
      ⟨g, mk, s₂, L, rfl, rfl, hqc, rfl, hL, rfl, rfl⟩, ?_⟩
    show Steps p.tables e below _ ((({ U with heap := s₂.heap, slotsUsed := s₂.slotsUsed } : State).setVm s₂.vm).setTop { g with pc := g.pc + len₂, stack := v.toList ++ g.stack })
    rw [← hs₂]
    exact hsteps
  · obtain ⟨e2, q2, q3, q4, q5, q6⟩ := id hsm
    have e3 : s₂ = ({ (U.calling g mk a).setFrames s₂.frames with heap := s₂.heap, slotsUsed := s₂.slotsUsed } : State).setVm s₂.vm := by
      have : s₂ = ({ s₂ with vm := (U.calling g mk a).vm } : State).setVm s₂.vm := rfl
      rw [e2] at this
      exact this
    have hf₂ : s₂.frames = .throwing q :: .java g :: U.frames.tail := hend
    have hW' : U.WarmedH s₂.vm := hW₂
    have hs₂ : s₂ = ((({ U with heap := s₂.heap, slotsUsed := s₂.slotsUsed } : State).setVm s₂.vm).setTop g).pushFrame (.throwing q) := by
      refine e3.trans ?_
      rw [hf₂, State.calling_eq h.top, State.setFrames_setFrames, State.pushFrame, State.frames_setTop _ hr', State.setTop_of_frames _ hr', State.setFrames_setFrames, hr]
      rfl
    have hsame : U.sameButNew ({ U with heap := s₂.heap, slotsUsed := s₂.slotsUsed } : State) L mc ms := by
      refine ⟨?_, q2, q3, q4, q5, q6⟩
      obtain ⟨t, ht, -⟩ := State.frames_cons hr
      show ({ U with heap := s₂.heap, slotsUsed := s₂.slotsUsed } : State) = { U.setFrames U.frames with heap := s₂.heap, slotsUsed := s₂.slotsUsed }
      rw [State.setFrames_self ht]
    subst hg
    refine Or.inr ⟨q, ⟨(({ U with heap := s₂.heap, slotsUsed := s₂.slotsUsed } : State).setVm s₂.vm), Ls ++ L, c0 + mc, s0 + ms⟩,
      ⟨X.admits, X.cas, X.clock, X.frames, X.room, X.hears, X.method, X.code, (X.here.setHeapUsed s₂.heap s₂.slotsUsed).setVm hW'.alike, X.tail, State.WarmedH.trans X.warmed hW', X.limits, X.bytes, X.same.trans (hsame.setVm s.vm)⟩,
      ⟨g, mk, s₂, L, E, ce, rfl, rfl, hx, hce, hcv, hcl, rfl, hL, rfl, rfl⟩, ?_⟩
    show Steps p.tables e below _ (((({ U with heap := s₂.heap, slotsUsed := s₂.slotsUsed } : State).setVm s₂.vm).setTop g).pushFrame (.throwing q))
    rw [← hs₂]
    exact hsteps
end
variable {p : Program} {l : Launch} {e : Env} {R : Room} {s : State} {m : MethodId} {args : Array Value} {below : List Frame} {meth : Method} {c : Code} {T : State} {H : Heap} {locs : List Loc} {cells slots : Nat}
theorem vx_callVX (X : Stand p l e R s m args below meth c T locs cells slots) (hexec : p.tables.exec = Jvm.exec) {own C : String} {index : Nat} {y : MethodName} {bytes : ByteArray} {maxL : Nat} {ret : Option FieldType} {hh : List (Nat × Nat × Nat × Nat)}
    (hown : s.vm.findClass own = some m.cls) (hlink : (Cond.methodLink own index y).before args s = true) (hinst : (Cond.instanceMethod y).before args s = true) (hsel : (Cond.selects C y y).before args s = true)
    (hcode : (Cond.codeWith y bytes maxL ret hh).before args s = true) (hy : y.cls ≠ "java/lang/invoke/MethodHandle" ∧ y.cls ≠ "java/lang/invoke/VarHandle")
    {W9 : Nat} {Pre : Pt → Array Value → Prop} {Post : Pt → Array Value → Option Value → Pt → Prop} {PostX : Pt → Array Value → Addr → Pt → Prop} (hK : vx_Back l R p e below s args y 3 W9 Pre Post PostX)
    {b : Addr} {cellB : Cell} (hcell : T.heap[b]? = some cellB) (hobj : cellB.vm.isStatics = false) (hcls : s.vm.findClass C = some cellB.cls)
    {g : JFrame} (hg : g.method = m) (hsize : g.locals.size = c.maxLocals) {argsL rest : List Value} (hlen : ∀ sig, parseMethodDescriptor y.desc = some sig → argsL.length = sig.parameters.length)
    (hstack : g.stack = argsL.reverse ++ .ref b :: rest) (hW : 2 * g.monitorRoom + (rest.map fun v => v.category).sum ≤ W9) (hdg : decode c.code g.pc = .ok (.invokevirtual index, 3))
    (hpre : ∀ vm₁, s.WarmedH vm₁ → Pre ⟨T.setVm vm₁, locs, cells, slots⟩ (Value.ref b :: argsL).toArray) :
    (∃ (v : Option Value) (vm₁ : Vm) (B : Pt), s.WarmedH vm₁ ∧ Stand p l e R s m args below meth c B.U B.locs B.cells B.slots ∧ Post ⟨T.setVm vm₁, locs, cells, slots⟩ (Value.ref b :: argsL).toArray v B ∧
      ∀ target, Steps p.tables e below (B.U.setTop { g with pc := g.pc + 3, stack := v.toList ++ rest }) target → Steps p.tables e below (T.setTop g) target) ∨
    (∃ (q : Addr) (vm₁ : Vm) (B : Pt), s.WarmedH vm₁ ∧ Stand p l e R s m args below meth c B.U B.locs B.cells B.slots ∧ PostX ⟨T.setVm vm₁, locs, cells, slots⟩ (Value.ref b :: argsL).toArray q B ∧
      Steps p.tables e below (T.setTop g) ((B.U.setTop { g with stack := rest }).pushFrame (.throwing q))) := by
  obtain ⟨mk, methM, hnamed, hmethM, hstM, habM⟩ := Cond.instanceMethod_spec hinst
  obtain ⟨m8, methM', cM, hn8, hmethM', -, -, -, -, -, -, hsigM⟩ := Cond.codeWith_spec hcode
  cases Option.some.inj (hn8.symm.trans hnamed)
  cases hmethM.symm.trans hmethM'
  obtain ⟨c2, r2, m2, q1, q2, q3, q4, kP, hkP, hkPi⟩ := Cond.selects_spec hsel
  cases hcls.symm.trans q1
  cases (State.methodFound?_of_named hnamed hy).symm.trans q2
  cases hnamed.symm.trans q3
  have hselP : selectMethod e.platform s.vm cellB.cls mk = .method mk := by rw [Launch.admits_selectMethod X.admits]; exact q4
  obtain ⟨vm₁, X₁, hstep₁⟩ := X.invokevirtual hexec hown hlink hnamed hmethM hstM hkP hkPi hy (a := b) (cell := cellB) hcell
    (fun z h => by rw [h] at hobj; cases hobj) hselP hmethM habM hkP hkPi (g := g) hg (argsL := argsL) (rest := rest) (hlen _ hsigM) hstack hdg
  rcases hK m meth c ⟨T.setVm vm₁, locs, cells, slots⟩ { g with stack := rest } (.invokevirtual index) mk (Value.ref b :: argsL).toArray X₁ hg hsize hdg hW (X₁.named hnamed) (hpre vm₁ X₁.warmed) with ⟨v, B, X', hpost, hsteps⟩ | ⟨q, B, X', hpost, hsteps⟩
  · exact Or.inl ⟨v, vm₁, B, X₁.warmed, X', hpost, fun target h => hstep₁ _ fun acts => by rw [doInvoke_state]; exact hsteps.trans h⟩
  · exact Or.inr ⟨q, vm₁, B, X₁.warmed, X', hpost, hstep₁ _ fun acts => by rw [doInvoke_state]; exact hsteps⟩
theorem vx_callSX (X : Stand p l e R s m args below meth c T locs cells slots) (hexec : p.tables.exec = Jvm.exec) {own : String} {index : Nat} {y : MethodName} {bytes : ByteArray} {maxL : Nat} {ret : Option FieldType} {hh : List (Nat × Nat × Nat × Nat)}
    (hown : s.vm.findClass own = some m.cls) (hlink : (Cond.methodLink own index y).before args s = true) (hstat : (Cond.static y).before args s = true) (hinit : (Cond.initialized y.cls).before args s = true)
    (hcode : (Cond.codeWith y bytes maxL ret hh).before args s = true) (hy : y.cls ≠ "java/lang/invoke/MethodHandle" ∧ y.cls ≠ "java/lang/invoke/VarHandle")
    {W9 : Nat} {Pre : Pt → Array Value → Prop} {Post : Pt → Array Value → Option Value → Pt → Prop} {PostX : Pt → Array Value → Addr → Pt → Prop} (hK : vx_Back l R p e below s args y 3 W9 Pre Post PostX)
    {g : JFrame} (hg : g.method = m) (hsize : g.locals.size = c.maxLocals) {argsL rest : List Value} (hlen : ∀ sig, parseMethodDescriptor y.desc = some sig → argsL.length = sig.parameters.length)
    (hstack : g.stack = argsL.reverse ++ rest) (hW : 2 * g.monitorRoom + (rest.map fun v => v.category).sum ≤ W9) (hdg : decode c.code g.pc = .ok (.invokestatic index, 3))
    (hpre : ∀ vm₁, s.WarmedH vm₁ → Pre ⟨T.setVm vm₁, locs, cells, slots⟩ argsL.toArray) :
    (∃ (v : Option Value) (vm₁ : Vm) (B : Pt), s.WarmedH vm₁ ∧ Stand p l e R s m args below meth c B.U B.locs B.cells B.slots ∧ Post ⟨T.setVm vm₁, locs, cells, slots⟩ argsL.toArray v B ∧
      ∀ target, Steps p.tables e below (B.U.setTop { g with pc := g.pc + 3, stack := v.toList ++ rest }) target → Steps p.tables e below (T.setTop g) target) ∨
    (∃ (q : Addr) (vm₁ : Vm) (B : Pt), s.WarmedH vm₁ ∧ Stand p l e R s m args below meth c B.U B.locs B.cells B.slots ∧ PostX ⟨T.setVm vm₁, locs, cells, slots⟩ argsL.toArray q B ∧
      Steps p.tables e below (T.setTop g) ((B.U.setTop { g with stack := rest }).pushFrame (.throwing q))) := by
  obtain ⟨mk, methM, cM, hnamed, hmethM, -, -, -, -, -, -, hsigM⟩ := Cond.codeWith_spec hcode
  have hstatic : methM.isStatic = true := Cond.static_spec hnamed hmethM hstat
  obtain ⟨kP, hkP, -⟩ := className_of_methodNamed hnamed
  have hinitP : kP.init = .initialized := Cond.initialized_spec (findClass_of_methodNamed hnamed) hkP hinit
  obtain ⟨vm₁, X₁, hstep₁⟩ := X.invokestatic hexec hown hlink hnamed hmethM hstatic hkP hinitP hy (g := g) hg (argsL := argsL) (rest := rest) (hlen _ hsigM) hstack hdg
  rcases hK m meth c ⟨T.setVm vm₁, locs, cells, slots⟩ { g with stack := rest } (.invokestatic index) mk argsL.toArray X₁ hg hsize hdg hW (X₁.named hnamed) (hpre vm₁ X₁.warmed) with ⟨v, B, X', hpost, hsteps⟩ | ⟨q, B, X', hpost, hsteps⟩
  · exact Or.inl ⟨v, vm₁, B, X₁.warmed, X', hpost, fun target h => hstep₁ _ fun acts => by rw [doInvoke_state]; exact hsteps.trans h⟩
  · exact Or.inr ⟨q, vm₁, B, X₁.warmed, X', hpost, hstep₁ _ fun acts => by rw [doInvoke_state]; exact hsteps⟩
theorem vx_callVW (X : Stand p l e R s m args below meth c T locs cells slots) (hexec : p.tables.exec = Jvm.exec) {own C : String} {index : Nat} {y : MethodName} {bytes : ByteArray} {maxL : Nat} {ret : Option FieldType} {hh : List (Nat × Nat × Nat × Nat)}
    (hown : s.vm.findClass own = some m.cls) (hlink : (Cond.methodLink own index y).before args s = true) (hinst : (Cond.instanceMethod y).before args s = true) (hsel : (Cond.selects C y y).before args s = true)
    (hcode : (Cond.codeWith y bytes maxL ret hh).before args s = true) (hy : y.cls ≠ "java/lang/invoke/MethodHandle" ∧ y.cls ≠ "java/lang/invoke/VarHandle")
    {W9 : Nat} {Pre : Pt → Array Value → Prop} {Post : Pt → Array Value → Option Value → Pt → Prop} (hK : Back l R p e below s args y 3 W9 Pre Post)
    {b : Addr} {cellB : Cell} (hcell : T.heap[b]? = some cellB) (hobj : cellB.vm.isStatics = false) (hcls : s.vm.findClass C = some cellB.cls)
    {g : JFrame} (hg : g.method = m) (hsize : g.locals.size = c.maxLocals) {argsL rest : List Value} (hlen : ∀ sig, parseMethodDescriptor y.desc = some sig → argsL.length = sig.parameters.length)
    (hstack : g.stack = argsL.reverse ++ .ref b :: rest) (hW : 2 * g.monitorRoom + (rest.map fun v => v.category).sum ≤ W9) (hdg : decode c.code g.pc = .ok (.invokevirtual index, 3))
    (hpre : ∀ vm₁, s.WarmedH vm₁ → Pre ⟨T.setVm vm₁, locs, cells, slots⟩ (Value.ref b :: argsL).toArray) :
    ∃ (v : Option Value) (vm₁ : Vm) (B : Pt), s.WarmedH vm₁ ∧ Stand p l e R s m args below meth c B.U B.locs B.cells B.slots ∧ Post ⟨T.setVm vm₁, locs, cells, slots⟩ (Value.ref b :: argsL).toArray v B ∧
      ∀ target, Steps p.tables e below (B.U.setTop { g with pc := g.pc + 3, stack := v.toList ++ rest }) target → Steps p.tables e below (T.setTop g) target := by
  obtain ⟨mk, methM, hnamed, hmethM, hstM, habM⟩ := Cond.instanceMethod_spec hinst
  obtain ⟨m8, methM', cM, hn8, hmethM', -, -, -, -, -, -, hsigM⟩ := Cond.codeWith_spec hcode
  cases Option.some.inj (hn8.symm.trans hnamed)
  cases hmethM.symm.trans hmethM'
  obtain ⟨c2, r2, m2, q1, q2, q3, q4, kP, hkP, hkPi⟩ := Cond.selects_spec hsel
  cases hcls.symm.trans q1
  cases (State.methodFound?_of_named hnamed hy).symm.trans q2
  cases hnamed.symm.trans q3
  have hselP : selectMethod e.platform s.vm cellB.cls mk = .method mk := by rw [Launch.admits_selectMethod X.admits]; exact q4
  obtain ⟨vm₁, X₁, hstep₁⟩ := X.invokevirtual hexec hown hlink hnamed hmethM hstM hkP hkPi hy (a := b) (cell := cellB) hcell
    (fun z h => by rw [h] at hobj; cases hobj) hselP hmethM habM hkP hkPi (g := g) hg (argsL := argsL) (rest := rest) (hlen _ hsigM) hstack hdg
  obtain ⟨v, B, X', hpost, hsteps⟩ := hK m meth c ⟨T.setVm vm₁, locs, cells, slots⟩ { g with stack := rest } (.invokevirtual index) mk (Value.ref b :: argsL).toArray X₁ hg hsize hdg hW (X₁.named hnamed) (hpre vm₁ X₁.warmed)
  exact ⟨v, vm₁, B, X₁.warmed, X', hpost, fun target h => hstep₁ _ fun acts => by rw [doInvoke_state]; exact hsteps.trans h⟩
abbrev vx_CVW (R : Room) (s : State) (args : Array Value) (own C : String) (index : Nat) (y : MethodName) (bytes : ByteArray) (maxL : Nat) (ret : Option FieldType) (hh : List (Nat × Nat × Nat × Nat)) (ws : List Cond) (rm : Room) (mc ms n : Nat) : Prop :=
  (rm.cells = mc ∧ rm.slots = ms ∧ rm.frames + 1 ≤ R.frames ∧ 8 + (maxL + 11) + rm.locals ≤ R.locals ∧ (∀ w ∈ ws, ∀ (a' : Array Value) (U : State), s.WarmedH U.vm → w.before a' U = true) ∧ Cond.codeWith y bytes maxL ret hh ∈ ws) ∧
  (Cond.codeWith y bytes maxL ret hh).before args s = true ∧ (Cond.initialized y.cls).before args s = true ∧ (y.cls ≠ "java/lang/invoke/MethodHandle" ∧ y.cls ≠ "java/lang/invoke/VarHandle") ∧
  (∀ sig, parseMethodDescriptor y.desc = some sig → n = sig.parameters.length) ∧ (Cond.methodLink own index y).before args s = true ∧ (Cond.instanceMethod y).before args s = true ∧ (Cond.selects C y y).before args s = true
theorem vx_cwVW {own C : String} {index maxL mc ms : Nat} {y : MethodName} {bytes : ByteArray} {ret : Option FieldType} {hh : List (Nat × Nat × Nat × Nat)} {Ts ws ws' : List Cond} {rm : Room} (n : Nat) (ht : ∀ w ∈ Ts, w.before args s = true) (hT : GoodIn Ts (wsV own index C y ws)) (hw : ws = Cond.codeWith y bytes maxL ret hh :: ws') (hrc : rm.cells = mc) (hrs : rm.slots = ms)
    (hd : y.cls = C ∧ y.cls ≠ "java/lang/invoke/MethodHandle" ∧ y.cls ≠ "java/lang/invoke/VarHandle" ∧ (parseMethodDescriptor y.desc).map (fun d => d.parameters.length) = some n) (hR : rm.frames + 1 ≤ R.frames ∧ 8 + (maxL + 11) + rm.locals ≤ R.locals) :
    vx_CVW R s args own C index y bytes maxL ret hh ws rm mc ms n := by
  obtain ⟨hC, hd⟩ := hd
  subst hC
  have ok : ∀ w ∈ wsV own index y.cls y ws, w.before args s = true := fun w h => ht w (hT w h).1
  have hG : GoodIn Ts ws := fun w h => hT w (by unfold wsV; exact List.mem_append_right _ h)
  have hc : Cond.codeWith y bytes maxL ret hh ∈ ws := by rw [hw]; exact List.mem_cons_self
  refine ⟨⟨hrc, hrs, hR.1, hR.2, pay_in ht hG, hc⟩, ht _ (hG _ hc).1, ok _ (by simp [wsV]), ⟨hd.1, hd.2.1⟩, fun sig h => ?_, ok _ (by simp [wsV]), ok _ (by simp [wsV]), ok _ (by simp [wsV])⟩
  have h2 := hd.2.2
  rw [h] at h2
  exact (Option.some.inj h2).symm
theorem vx_runVW {y : MethodName} {bytes cc : ByteArray} {maxL nL mc ms n index : Nat} {ret : Option FieldType} {hh : List (Nat × Nat × Nat × Nat)} {ws : List Cond} {rm : Room} {Pc : Array Value → State → Prop} {Qc : Array Value → State → Outcome → State → Prop} {free : Addr → Prop} {Ts : List Cond} {own C : String} {b : Addr} {As rest : List Value} {g : JFrame}
    (S : CallFix p m c cc nL s args Ts own) (hM : Met l y ws rm Pc Qc mc ms free) (cw : vx_CVW R s args own C index y bytes maxL ret hh ws rm mc ms n) (hp : PreV s H C b Pc As)
    (hg : g.method = m) (hn : As.length = n) (hsize : g.locals.size = nL) (hstack : g.stack = As.reverse ++ .ref b :: rest) (hW : 2 * g.monitorRoom + (rest.map fun v => v.category).sum ≤ 8) (hdg : decode cc g.pc = .ok (.invokevirtual index, 3)) (hf : cells + mc ≤ R.cells ∧ slots + ms ≤ R.slots) :
    va_Run p l e R s m args below meth c H locs cells slots mc ms g rest (Qc (Value.ref b :: As).toArray) free := by
  obtain ⟨⟨hrc, hrs, hfr, hlo, hws, hcw⟩, hcode, hini, hy, hlen, hl, hin, hse⟩ := cw
  have hK : Back l R p e below s args y 3 8 (PreOf R mc ms Pc) (PostOf Qc mc ms free) := va_backW (hh := hh) (bytes := bytes) (maxL := maxL) (ret := ret) hM hp.1 hrc hrs hfr hlo hws hcw (fun a' U hW => word_at hW (Or.inl (by first | rfl | simp [Cond.onTables, Cond.keeps, Cond.steady])) hini)
  obtain ⟨hx, hb, hml, ho, -⟩ := S
  obtain ⟨-, ⟨cellB, hcB, hoB, hclB⟩, hPc⟩ := hp
  intro T hT X
  obtain ⟨v, vm₁, ⟨U', l2, c2, s2⟩, hW₁, X', ⟨g', mk, t, L, e1, e2, hq, h1, hL, h2, h3⟩, st⟩ := vx_callVW X hx (C := C) (hh := hh) (bytes := bytes) (maxL := maxL) (ret := ret) ho hl hin hse hcode hy hK (by rw [hT]; exact hcB) hoB hclB hg (hsize.trans hml.symm) (argsL := As) (rest := rest) (fun sig h => hn.trans (hlen sig h)) hstack hW (by rw [hb]; exact hdg)
    (fun vm₁ hW₁ => ⟨hf.1, hf.2, hPc (T.setVm vm₁) hT hW₁⟩)
  dsimp only [Pt.U, Pt.locs, Pt.cells, Pt.slots] at X' e1 e2 h1 h2 h3 st
  subst h1; subst h2; subst h3
  exact ⟨v, (T.setVm vm₁).calling g' mk (Value.ref b :: As).toArray, t, U', L, hT, X', hL, e1, e2, hq, st⟩
section
variable {y : MethodName} {bytes cc : ByteArray} {maxL nL mc ms n index : Nat} {ret : Option FieldType} {ws : List Cond} {rm : Room} {Pc : Array Value → State → Prop} {Qc : Array Value → State → Outcome → State → Prop} {XC : String → State → State → Prop} {free : Addr → Prop} {Ts : List Cond} {own C : String} {b : Addr} {As rest : List Value} {g : JFrame}
theorem vx_runVX {hh : List (Nat × Nat × Nat × Nat)} (S : CallFix p m c cc nL s args Ts own) (hM : vx_Met l y ws rm Pc Qc XC mc ms free) (cw : vx_CVW R s args own C index y bytes maxL ret hh ws rm mc ms n) (hp : PreV s H C b Pc As)
    (hg : g.method = m) (hn : As.length = n) (hsize : g.locals.size = nL) (hstack : g.stack = As.reverse ++ .ref b :: rest) (hW : 2 * g.monitorRoom + (rest.map fun v => v.category).sum ≤ 8) (hdg : decode cc g.pc = .ok (.invokevirtual index, 3)) (hf : cells + mc ≤ R.cells ∧ slots + ms ≤ R.slots) :
    vx_Run p l e R s m args below meth c H locs cells slots mc ms g rest (Qc (Value.ref b :: As).toArray) XC free := by
  obtain ⟨⟨hrc, hrs, hfr, hlo, hws, hcw⟩, hcode, hini, hy, hlen, hl, hin, hse⟩ := cw
  have hK : vx_Back l R p e below s args y 3 8 (PreOf R mc ms Pc) (PostOf Qc mc ms free) (vx_Post XC mc ms free) := vx_backW (hh := hh) (bytes := bytes) (maxL := maxL) (ret := ret) hM hp.1 hrc hrs hfr hlo hws hcw (fun a' U hW => word_at hW (Or.inl (by first | rfl | simp [Cond.onTables, Cond.keeps, Cond.steady])) hini)
  obtain ⟨hx, hb, hml, ho, -⟩ := S
  obtain ⟨-, ⟨cellB, hcB, hoB, hclB⟩, hPc⟩ := hp
  intro T hT X
  rcases vx_callVX X hx (C := C) (hh := hh) (bytes := bytes) (maxL := maxL) (ret := ret) ho hl hin hse hcode hy hK (by rw [hT]; exact hcB) hoB hclB hg (hsize.trans hml.symm) (argsL := As) (rest := rest) (fun sig h => hn.trans (hlen sig h)) hstack hW (by rw [hb]; exact hdg)
    (fun vm₁ hW₁ => ⟨hf.1, hf.2, hPc (T.setVm vm₁) hT hW₁⟩) with ⟨v, vm₁, ⟨U', l2, c2, s2⟩, hW₁, X', ⟨g', mk, t, L, e1, e2, hq, h1, hL, h2, h3⟩, st⟩ | ⟨q, vm₁, ⟨U', l2, c2, s2⟩, hW₁, X', ⟨g', mk, t, L, E, ce, e1, e2, hq, hce, hcv, hcl, h1, hL, h2, h3⟩, st⟩
  · dsimp only [Pt.U, Pt.locs, Pt.cells, Pt.slots] at X' e1 e2 h1 h2 h3 st
    subst h1; subst h2; subst h3
    exact Or.inl ⟨v, (T.setVm vm₁).calling g' mk (Value.ref b :: As).toArray, t, U', L, hT, X', hL, e1, e2, hq, st⟩
  · dsimp only [Pt.U, Pt.locs, Pt.cells, Pt.slots] at X' e1 e2 h1 h2 h3 st hcl
    subst h1; subst h2; subst h3
    exact Or.inr ⟨q, (T.setVm vm₁).calling g' mk (Value.ref b :: As).toArray, t, U', L, E, ce, hT, X', hL, e1, e2, hq, hce, hcv, vx_cls hW₁ hcl, st⟩
theorem vx_runSX {hh : List (Nat × Nat × Nat × Nat)} (S : CallFix p m c cc nL s args Ts own) (hM : vx_Met l y ws rm Pc Qc XC mc ms free) (cw : vx_CSW R s args own index y bytes maxL ret hh ws rm mc ms n) (hp : PreS s H Pc As)
    (hg : g.method = m) (hn : As.length = n) (hsize : g.locals.size = nL) (hstack : g.stack = As.reverse ++ rest) (hW : 2 * g.monitorRoom + (rest.map fun v => v.category).sum ≤ 8) (hdg : decode cc g.pc = .ok (.invokestatic index, 3)) (hf : cells + mc ≤ R.cells ∧ slots + ms ≤ R.slots) :
    vx_Run p l e R s m args below meth c H locs cells slots mc ms g rest (Qc As.toArray) XC free := by
  obtain ⟨⟨hrc, hrs, hfr, hlo, hws, hcw⟩, hcode, hini, hy, hlen, hl, hstt⟩ := cw
  have hK : vx_Back l R p e below s args y 3 8 (PreOf R mc ms Pc) (PostOf Qc mc ms free) (vx_Post XC mc ms free) := vx_backW (hh := hh) (bytes := bytes) (maxL := maxL) (ret := ret) hM hp.1 hrc hrs hfr hlo hws hcw (fun a' U hW => word_at hW (Or.inl (by first | rfl | simp [Cond.onTables, Cond.keeps, Cond.steady])) hini)
  obtain ⟨hx, hb, hml, ho, -⟩ := S
  intro T hT X
  rcases vx_callSX X hx (hh := hh) (bytes := bytes) (maxL := maxL) (ret := ret) ho hl hstt hini hcode hy hK hg (hsize.trans hml.symm) (argsL := As) (rest := rest) (fun sig h => hn.trans (hlen sig h)) hstack hW (by rw [hb]; exact hdg)
    (fun vm₁ hW₁ => ⟨hf.1, hf.2, hp.2 (T.setVm vm₁) hT hW₁⟩) with ⟨v, vm₁, ⟨U', l2, c2, s2⟩, hW₁, X', ⟨g', mk, t, L, e1, e2, hq, h1, hL, h2, h3⟩, st⟩ | ⟨q, vm₁, ⟨U', l2, c2, s2⟩, hW₁, X', ⟨g', mk, t, L, E, ce, e1, e2, hq, hce, hcv, hcl, h1, hL, h2, h3⟩, st⟩
  · dsimp only [Pt.U, Pt.locs, Pt.cells, Pt.slots] at X' e1 e2 h1 h2 h3 st
    subst h1; subst h2; subst h3
    exact Or.inl ⟨v, (T.setVm vm₁).calling g' mk As.toArray, t, U', L, hT, X', hL, e1, e2, hq, st⟩
  · dsimp only [Pt.U, Pt.locs, Pt.cells, Pt.slots] at X' e1 e2 h1 h2 h3 st hcl
    subst h1; subst h2; subst h3
    exact Or.inr ⟨q, (T.setVm vm₁).calling g' mk As.toArray, t, U', L, E, ce, hT, X', hL, e1, e2, hq, hce, hcv, vx_cls hW₁ hcl, st⟩
end
end VXH
theorem vx_ofWH {l : Launch} {y : MethodName} {ws ws' : List Cond} {rm : Room} {Pc : Array Value → State → Prop} {Qc : Array Value → State → Outcome → State → Prop} {XC : String → State → State → Prop} {mc ms : Nat} {free : Addr → Prop} {cc : ByteArray} {maxL : Nat} {ret : Option FieldType} {hh : List (Nat × Nat × Nat × Nat)}
    (hy : plainName y.cls = true) (hw : ws = Cond.codeWith y cc maxL ret hh :: ws')
    (body : ∀ p e s m args below meth c s₁, BodyLoose p l y (headSpec ws rm) cc maxL ret e s m args below meth c s₁ → c.maxLocals = maxL → Pc args s →
      W p l e (headSpec ws rm).room s m args below meth c s.heap [] 0 0 (vx_MQ below Qc XC args s mc ms free) (entryFrame m args maxL)) : vx_Met l y ws rm Pc Qc XC mc ms free := by
  refine MetFree.of_bodyS (code := cc) (maxLocals := maxL) (ret := ret) hy ?_ ?_
  · intro args s m h hn
    obtain ⟨m9, meth, c, hn9, h1, h2, h3, h4, -, h5, h6, -⟩ := Cond.codeWith_spec (atoms_spec (ws := ws) h _ (by rw [hw]; exact List.mem_cons_self))
    cases hn.symm.trans hn9
    exact ⟨meth, c, h1, h2, h3, h4, h5, h6⟩
  · intro p e s m args below meth c s₁ B hml hP _
    have hh0 : s₁.heap = s.heap := by rw [B.state]; rfl
    obtain ⟨t, a1, o, b1, b2, b3⟩ := body p e s m args below meth c s₁ B hml hP s₁ hh0 (Stand.of_body B)
    exact ⟨t, o, a1, b1, b2, b3⟩
/-! ===== END ===== -/
/-! ===== BEGIN what the machine throws by itself, no traces kept ===== -/
section VXM
set_option maxHeartbeats 1000000 in
/-- the machine throws cls with the message text, no traces kept: from its note over the frame g to 'throwing' over the same frame (follows the proofs of Stand.vmThrowsMessage, Shelf/KitTracedVmS.lean, and Stand.throwsMessageColdBareV, StandMessageColdV.lean, without the step out of the frame) -/
theorem vx_vmAt {p : Program} {l : Launch} {e : Env} {R : Room} {s : State} {m₀ : MethodId} {args : Array Value} {below : List Frame} {meth : Method} {c : Code} {W : State} {locs : List Loc} {cells slots : Nat}
    (X : Stand p l e R s m₀ args below meth c W locs cells slots) (hexec : p.tables.exec = Jvm.exec) (htr : e.platform.stackTraces = false) {cls : String} {names : List String} {text : String}
    (hcls : Bundle.fit cls = true) (hnames : ∀ n ∈ names, Bundle.fit n = true) (hsoe : (cls == "java/lang/StackOverflowError") = false) (hoom : (cls == "java/lang/OutOfMemoryError") = false)
    (h : ∀ a ∈ Bundle.messageArmAtoms cls names, a.before args s = true)
    (hlocs : ∀ x ∈ locs, ∀ cell, s.heap[x.base]? = some cell → cell.vm.isStatics = false)
    (htext : (text == notModelled) = false) (hlimit : ¬ (stringBytes (stringToUtf16 text)).size > e.platform.arrayLengthLimit) (hheap : ¬ (stringBytes (stringToUtf16 text)).size * componentBytes .byte > e.platform.maxHeapBytes)
    {g : JFrame} (hg : g.method = m₀) (hsize : g.locals.size = c.maxLocals)
    (hRframes : names.length + 4 < R.frames) (hRlocals : 2 * g.monitorRoom + (g.stack.map fun v => v.category).sum + 10240 ≤ R.locals) (hshort : 13 * names.length + 55 ≤ 10240)
    (hRcells : cells + 3 ≤ R.cells) (hRslots : slots + ((stringBytes (stringToUtf16 text)).size + 4 + 6) ≤ R.slots) (hlocks : meth.locks = false) :
    ∃ (S : State) (q : Addr) (ce : Cell), (∀ target, Steps p.tables e below ((S.setTop g).pushFrame (.throwing q)) target → Steps p.tables e below ((W.setTop g).pushFrame (.throwNew cls (some text) none)) target) ∧
      Stand p l e R s m₀ args below meth c S locs (cells + 3) (slots + ((stringBytes (stringToUtf16 text)).size + 4 + 6)) ∧ S.heap[q]? = some ce ∧ s.vm.findClass cls = some ce.cls ∧ ce.vm = .none := by
  have howns : e.platform.frameOwnsMonitors = true := by rw [X.admits.platform]
  have hfin : e.platform.finalization = false := by rw [X.admits.platform]
  have hpl : e.platform.magicAccessors = ({} : Platform).magicAccessors := by rw [X.admits.platform]
  have a : ∀ x, x ∈ Bundle.messageArmAtoms cls names → x.holds args s none s [] = true := fun x hx => h x hx
  obtain ⟨T, Z0, L, -, Y⟩ := ThrowableC.of_atoms (args := args) howns hfin hpl (fun x hx => h x (by simp [Bundle.messageArmAtoms, hx]))
  obtain ⟨Z, M, LZ, LM, hnZ⟩ := Init0T.ofS_atoms (args := args) hpl L Y (fun x hx => h x (by simp [Bundle.messageArmAtoms, hx]))
  obtain ⟨P1, Ps, hlen, L1, hL, hP1m, hlink1, hlink⟩ := Bundle.chainS (args := args) hpl hnZ names cls hcls hnames (fun x hx => h x (by simp [Bundle.messageArmAtoms, hx]))
  obtain ⟨Zs, LZs, hn4, hfitv, hfitc⟩ := StringT.of_atoms (args := args) (fun x hx => h x (by simp [Bundle.messageArmAtoms, hx]))
  have hfound : s.vm.findClass cls = some P1.m.cls := findClass_of_methodNamed hP1m
  obtain ⟨c1, kX, hc1, hk, hord, -, -, hn6⟩ := Cond.instantiable_spec (a (.instantiable cls 6) (by simp [Bundle.messageArmAtoms]))
  cases Option.some.inj (hc1.symm.trans hfound)
  have hinit := Cond.initialized_spec hfound hk (a (.initialized cls) (by simp [Bundle.messageArmAtoms]))
  have hctor : kX.findMethod "<init>" "(Ljava/lang/String;)V" = some P1.m.idx := findMethod_of_methodNamed hP1m hk
  have hsel0 : selectMethod e.platform s.vm P1.m.cls T.fill0 = .method T.fill0 := by
    obtain ⟨c2, r2, m2, q1, q2, q3, q4, -⟩ := Cond.selects_spec (a (.selects cls Bundle.tFill0 Bundle.tFill0) (by simp [Bundle.messageArmAtoms]))
    cases Option.some.inj (q1.symm.trans hfound)
    cases Option.some.inj (q2.symm.trans (State.methodFound?_of_named Y.fill0 (by decide)))
    cases Option.some.inj (q3.symm.trans Y.fill0)
    rw [Launch.admits_selectMethod X.admits]; exact q4
  have hselF : selectMethod e.platform s.vm P1.m.cls T.fill = .method T.fill := by
    obtain ⟨c2, r2, m2, q1, q2, q3, q4, -⟩ := Cond.selects_spec (a (.selects cls Bundle.tFill Bundle.tFill) (by simp [Bundle.messageArmAtoms]))
    cases Option.some.inj (q1.symm.trans hfound)
    cases Option.some.inj (q2.symm.trans (State.methodFound?_of_named Y.fill (by decide)))
    cases Option.some.inj (q3.symm.trans Y.fill)
    rw [Launch.admits_selectMethod X.admits]; exact q4
  obtain ⟨cellS0, hcS0, hiss⟩ := Y.statics
  obtain ⟨u0, hu0⟩ := Cond.staticRefV Y.unassigned L.unassignedStatic L.statics hcS0 hiss (a (.isRef (.static Bundle.tN "UNASSIGNED_STACK" Bundle.steD)) (by simp [Bundle.messageArmAtoms]))
  obtain ⟨sen, hsen⟩ := Cond.staticRefV Y.sentinel L.sentinelStatic L.statics hcS0 hiss (a (.isRef (.static Bundle.tN "SUPPRESSED_SENTINEL" Bundle.listD)) (by simp [Bundle.messageArmAtoms]))
  obtain ⟨ci198, i198, fB, hk198, hg198, ha198, hsB, -, hnB, htB, hffB⟩ := Cond.ownField (t := .object "java/lang/Object") Y.found L.cls (by decide +kernel) (a (.fieldLink Bundle.tN 198 Bundle.tN "backtrace" "Ljava/lang/Object;") (by simp [Bundle.messageArmAtoms])) (a (.lays Bundle.tN Bundle.tN "backtrace" "Ljava/lang/Object;") (by simp [Bundle.messageArmAtoms])) e.platform hpl
  obtain ⟨cellS, hcS', heS, -, hkeep⟩ := X.same.2.2.2.2.2 T.aS cellS0 hcS0
  have hcellS : W.heap[T.aS]? = some cellS := hcS'
  have hout' : ∀ i, (⟨T.aS, i⟩ : Loc) ∉ locs := fun i hmem => by
    have := hlocs _ hmem cellS0 hcS0
    rw [hiss] at this; cases this
  have hknownS : cellS.vm ≠ .unknown := by
    rw [heS]; intro hu
    rw [show cellS0.vm = .unknown from hu] at hiss
    cases hiss
  have hvU : cellS.slots[T.fUnassigned.slot]? = some u0.v := by rw [hkeep _ (hout' _)]; exact hu0
  have hvSen : cellS.slots[T.fSentinel.slot]? = some sen.v := by rw [hkeep _ (hout' _)]; exact hsen
  obtain ⟨iM, hffM⟩ := Y.msg
  obtain ⟨tyC, dC, hdC, hdnC⟩ := Cond.laysAt hfound hk Y.cause (a (.lays cls Bundle.tN "cause" "Ljava/lang/Throwable;") (by simp [Bundle.messageArmAtoms]))
  obtain ⟨tyS, dS, hdS, hdnS⟩ := Cond.laysAt hfound hk Y.stack (a (.lays cls Bundle.tN "stackTrace" Bundle.steD) (by simp [Bundle.messageArmAtoms]))
  obtain ⟨tyP, dP, hdP, hdnP⟩ := Cond.laysAt hfound hk Y.supp (a (.lays cls Bundle.tN "suppressedExceptions" Bundle.listD) (by simp [Bundle.messageArmAtoms]))
  obtain ⟨tyM, dM, hdM, hdnM⟩ := Cond.laysAt hfound hk hffM (a (.lays cls Bundle.tN "detailMessage" "Ljava/lang/String;") (by simp [Bundle.messageArmAtoms]))
  obtain ⟨tyB, dB, hdB, hdnB⟩ := Cond.laysAt hfound hk hffB (a (.lays cls Bundle.tN "backtrace" "Ljava/lang/Object;") (by simp [Bundle.messageArmAtoms]))
  have bC := Cond.laysApart hdB hdC hdnB hdnC (by rw [hnB, Y.causeName]; decide)
  have bS := Cond.laysApart hdB hdS hdnB hdnS (by rw [hnB, Y.stackName]; decide)
  have bP := Cond.laysApart hdB hdP hdnB hdnP (by rw [hnB, Y.suppName]; decide)
  have hbk : ((preparedCellV T.toThrowableT (freshCell P1.m.cls kX) (W.heap.size + 2) u0 sen).withEntry W.cur).slots[fB.slot]? = some .null := by
    have := fresh_default (c := P1.m.cls) tyB
    rw [htB] at this
    simpa [preparedCellV, Cell.setSlot, Cell.withEntry, Array.getElem?_setIfInBounds, bC, bS, bP, bC.symm, bS.symm, bP.symm, defaultValue] using this
  have tkC := Takes.of_laid (v := .ref (W.heap.size + 2)) hk hord tyC (by rw [Y.causeType]; rfl)
  have tkS := Takes.of_laid (v := u0.v) hk hord tyS (by rw [Y.stackType]; exact fits_refV_array _ u0)
  have tkP := Takes.of_laid (v := sen.v) hk hord tyP (by rw [Y.suppType]; exact fits_refV_object _ sen)
  have tkM := Takes.of_laid (v := .ref (W.heap.size + 1)) hk hord tyM (by rw [Y.msgType]; rfl)
  have hskip : SkipFacts T e.platform s (fun u => u) u0 ((preparedCellV T.toThrowableT (freshCell P1.m.cls kX) (W.heap.size + 2) u0 sen).withEntry W.cur) := ⟨{ ci198 := ci198, i198 := i198, fBack := fB }, ⟨hk198, hg198, ha198, hsB⟩, hbk, fun _ _ => rfl⟩
  have h0 : At W g.method c below := by rw [hg]; exact X.here
  obtain ⟨hbeyond, hfreeW⟩ := X.vmMayThrow hsize (.throwNew cls (some text) none) (fun f hf => by cases hf) rfl hRlocals
  have hfr' : W.frames.length + Ps.length + 4 < (e.platform.stackLimits W.me).1 := by have := X.framesAbove hRframes; omega
  have hwd' : (stackUse (.java g :: W.frames.tail)).2 + 13 * Ps.length + 55 ≤ (e.platform.stackLimits W.me).2 := by have := X.stackAbove hsize (K := 13 * Ps.length + 55) (by omega); omega
  have hslots : W.slotsUsed + (stringBytes (stringToUtf16 text)).size + Zs.kS.instanceTypes.size + kX.instanceTypes.size ≤ e.platform.maxSlots := by
    have := X.slotsAbove hRslots
    rw [hn4, hn6]
    omega
  obtain ⟨vm', hW', st⟩ := Steps.vmThrowsMessageColdByV p (s₀ := s) (S := W) (g := g) h0 hexec T L Z LZ M LM X.warmed (t := W.cur) rfl Zs LZs P1 L1 Ps hL hlink1 hlink hsoe hoom hfound hk hinit hord hctor
    (Launch.admits_hotImplicitExceptions X.admits) hbeyond hfreeW htext hlimit hheap (X.cellsAbove hRcells) hslots (hfitv _) (hfitc _)
    (Nn := fun u => u) heapOnly_id (fun _ _ => rfl) (fun _ => rfl) (fun u x y => setCell_twice _ _ _ _) (fun _ => Nat.le_refl _) (cN := ((preparedCellV T.toThrowableT (freshCell P1.m.cls kX) (W.heap.size + 2) u0 sen).withEntry W.cur))
    hsel0 hcellS hknownS hvU tkS (fun _ hu => hu) (fun _ hu => hu) rfl rfl rfl (by simp [preparedCellV, Cell.setSlot, Cell.withEntry]) hskip (fun _ _ hA hW _ hroom _ hrest => L.nativeOff p htr hA hW hroom hrest) hselF hvSen tkC tkP tkM Y.objLocals rfl hfr' hwd'
  rw [plainBareV_eq T.toThrowableT (W.heap.size + 2) u0 sen (.ref (W.heap.size + 1)) W.cur rfl rfl] at st
  obtain ⟨-, -, w3, w4, -, -, -⟩ := withThrown_facts e.platform W Zs text P1.m.cls kX
  have X3 := ((X.pushed (bytesOf Zs.cB (stringToUtf16 text))).pushed (stringAt Zs.cS Zs.kS Zs.fv Zs.fc (stringToUtf16 text) W.heap.size)).pushed (freshCell P1.m.cls kX)
  rw [← withString_eq] at X3
  have X4 := X3.noted hW'
  have ha : (W.heap.size + 2) < ((withThrown W Zs text P1.m.cls kX).setVm vm').heap.size := by show _ < (withThrown W Zs text P1.m.cls kX).heap.size; rw [w3]; omega
  have hcell : ((withThrown W Zs text P1.m.cls kX).setVm vm').heap[(W.heap.size + 2)]? = some (freshCell P1.m.cls kX) := w4
  have X5 := ((((X4.stored hcell T.fCause.slot (.ref (W.heap.size + 2))).storedAgain ha T.fStack.slot u0.v).storedAgain ha T.fSupp.slot sen.v).storedAgain ha T.fStack.slot u0.v).storedAgain ha T.fMsg.slot (.ref (W.heap.size + 1))
  obtain ⟨g₁, hfrM⟩ := X5.frames_eq
  have hU : ((((withThrown W Zs text P1.m.cls kX).setVm vm').setCell (W.heap.size + 2) (plainBareV T.toThrowableT (freshCell P1.m.cls kX) (W.heap.size + 2) u0 sen (.ref (W.heap.size + 1)))).setTop g).pushFrame (.throwing (W.heap.size + 2)) = (((withThrown W Zs text P1.m.cls kX).setVm vm').setCell (W.heap.size + 2) (plainBareV T.toThrowableT (freshCell P1.m.cls kX) (W.heap.size + 2) u0 sen (.ref (W.heap.size + 1)))).setFrames (.throwing (W.heap.size + 2) :: .java g :: below) := by
    rw [State.pushFrame, State.frames_setTop _ hfrM, State.setTop_of_frames _ hfrM, State.setFrames_setFrames]
  have b1 : (bytesOf Zs.cB (stringToUtf16 text)).slots.size = (stringBytes (stringToUtf16 text)).size := by
    rw [(Cell.writeAll_facts _ _).2.2]; simp [bytes0]
  have b2 : (stringAt Zs.cS Zs.kS Zs.fv Zs.fc (stringToUtf16 text) W.heap.size).slots.size = 4 := by simp [string0, Cell.setSlot, hn4]
  have b3 : (freshCell P1.m.cls kX).slots.size = 6 := by simp [hn6]
  rw [b1, b2, b3] at X5
  have e9 : slots + (stringBytes (stringToUtf16 text)).size + 4 + 6 = slots + ((stringBytes (stringToUtf16 text)).size + 4 + 6) := by omega
  rw [e9] at X5
  simp only [List.append_assoc, List.cons_append, List.nil_append] at X5
  refine ⟨((withThrown W Zs text P1.m.cls kX).setVm vm').setCell (W.heap.size + 2) (plainBareV T.toThrowableT (freshCell P1.m.cls kX) (W.heap.size + 2) u0 sen (.ref (W.heap.size + 1))), W.heap.size + 2, _, fun target ht => st _ (by rw [X.tail, ← hU]; exact ht),
    X5.forget (fun y hy => ?_), heapAt_setCell_self _ ha, hfound, rfl⟩
  simp only [List.mem_cons, List.not_mem_nil, or_false] at hy
  have hge : s.heap.size ≤ W.heap.size := X.same.2.1
  rcases hy with rfl | rfl | rfl | rfl | rfl <;> exact Nat.le_trans hge (Nat.le_add_right _ 2)
set_option maxHeartbeats 1000000 in
/-- the machine throws NullPointerException, no traces kept: from its note over the frame g to 'throwing' over the same frame (follows the proof of Stand.vmThrowsNpe, Shelf42/KT2.lean; throwsNpeColdBareVAt, Shelf42/NT91.lean, called) -/
theorem vx_npeAt {p : Program} {l : Launch} {e : Env} {R : Room} {s : State} {m₀ : MethodId} {args : Array Value} {below : List Frame} {meth : Method} {c : Code} {W : State} {locs : List Loc} {cells slots : Nat}
    (X : Stand p l e R s m₀ args below meth c W locs cells slots) (hexec : p.tables.exec = Jvm.exec) (htr : e.platform.stackTraces = false) {n : Nat}
    (h : ∀ a ∈ Bundle.npeArmAtoms n, a.before args s = true)
    (hlocs : ∀ x ∈ locs, ∀ cell, s.heap[x.base]? = some cell → cell.vm.isStatics = false)
    {g : JFrame} (hg : g.method = m₀) (hsize : g.locals.size = c.maxLocals)
    (hRframes : 7 < R.frames) (hRlocals : 2 * g.monitorRoom + (g.stack.map fun v => v.category).sum + 10240 ≤ R.locals)
    (hRcells : cells + 1 ≤ R.cells) (hRslots : slots + n ≤ R.slots) (hlocks : meth.locks = false) :
    ∃ (S : State) (q : Addr) (ce : Cell), (∀ target, Steps p.tables e below ((S.setTop g).pushFrame (.throwing q)) target → Steps p.tables e below ((W.setTop g).pushFrame (.throwNew "java/lang/NullPointerException" none none)) target) ∧
      Stand p l e R s m₀ args below meth c S locs (cells + 1) (slots + n) ∧ S.heap[q]? = some ce ∧ s.vm.findClass "java/lang/NullPointerException" = some ce.cls ∧ ce.vm = .none := by
  have howns : e.platform.frameOwnsMonitors = true := by rw [X.admits.platform]
  have hfin : e.platform.finalization = false := by rw [X.admits.platform]
  have hpl : e.platform.magicAccessors = ({} : Platform).magicAccessors := by rw [X.admits.platform]
  have hpl2 : e.platform.arrayCloneIsPublic = true := by rw [X.admits.platform]
  have a' : ∀ x, x ∈ Bundle.npeArmAtoms n → x.holds args s none s [] = true := fun x hx => h x hx
  obtain ⟨T, Z, L, LZ, Y⟩ := ThrowableC.of_atoms (args := args) howns hfin hpl (fun x hx => h x (by simp [Bundle.npeArmAtoms, hx]))
  obtain ⟨N, LN, hcN, hnNF, hordN, hffS⟩ := NpeC.of_atoms (args := args) hpl hpl2 L Y (fun x hx => h x (by simp [Bundle.npeArmAtoms, hx]))
  obtain ⟨P1, L1, hP1m, hP1s⟩ := PassC.of_atoms (args := args) (s := s) hpl (X := Bundle.nN) (Y := Bundle.rN) (by decide) (by decide) LibCode.NullPointerException.Init0.at_0 LibCode.NullPointerException.Init0.at_1 LibCode.NullPointerException.Init0.at_4 (fun x hx => h x (by simp [Bundle.npeArmAtoms, hx]))
  obtain ⟨PR, LR, hPRm, hPRs⟩ := PassC.of_atoms (args := args) (s := s) hpl (X := Bundle.rN) (Y := Bundle.eN) (by decide) (by decide) LibCode.RuntimeException.Init0.at_0 LibCode.RuntimeException.Init0.at_1 LibCode.RuntimeException.Init0.at_4 (fun x hx => h x (by simp [Bundle.npeArmAtoms, hx]))
  obtain ⟨PE, LEx, hPEm, hPEs⟩ := PassC.of_atoms (args := args) (s := s) hpl (X := Bundle.eN) (Y := Bundle.tN) (by decide) (by decide) LibCode.Exception.Init0.at_0 LibCode.Exception.Init0.at_1 LibCode.Exception.Init0.at_4 (fun x hx => h x (by simp [Bundle.npeArmAtoms, hx]))
  have hfound : s.vm.findClass Bundle.nN = some P1.m.cls := findClass_of_methodNamed hP1m
  have ecls : N.cN = P1.m.cls := Option.some.inj (hcN.symm.trans hfound)
  have hk : s.vm.classes[P1.m.cls]? = some N.kN := by rw [← ecls]; exact LN.cls
  have hinit := Cond.initialized_spec hfound hk (a' (.initialized Bundle.nN) (by simp [Bundle.npeArmAtoms]))
  have hctor : N.kN.findMethod "<init>" "()V" = some P1.m.idx := findMethod_of_methodNamed hP1m hk
  obtain ⟨c1, k1, hc1, hk1, -, -, -, hn⟩ := Cond.instantiable_spec (a' (.instantiable Bundle.nN n) (by simp [Bundle.npeArmAtoms]))
  cases Option.some.inj (hc1.symm.trans hfound)
  cases Option.some.inj (hk1.symm.trans hk)
  have hfsz : (freshCell P1.m.cls N.kN).slots.size = n := by simp [hn]
  have hlink1 : P1.sup = PR.m := Option.some.inj (hP1s.symm.trans hPRm)
  have hlinkR : PR.sup = PE.m := Option.some.inj (hPRs.symm.trans hPEm)
  have hlinkE : PE.sup = Z.m T.toThrowableT := Option.some.inj (hPEs.symm.trans Y.init0)
  have hLs : ∀ P, P ∈ [PR, PE] → P.Links0 e.platform s := fun P hP => by
    simp only [List.mem_cons, List.not_mem_nil, or_false] at hP
    rcases hP with rfl | rfl
    · exact LR
    · exact LEx
  have hsel0 : selectMethod e.platform s.vm P1.m.cls T.fill0 = .method T.fill0 := by
    obtain ⟨c2, r2, m2, q1, q2, q3, q4, -⟩ := Cond.selects_spec (a' (.selects Bundle.nN Bundle.tFill0 Bundle.tFill0) (by simp [Bundle.npeArmAtoms]))
    cases Option.some.inj (q1.symm.trans hfound)
    cases Option.some.inj (q2.symm.trans (State.methodFound?_of_named Y.fill0 (by decide)))
    cases Option.some.inj (q3.symm.trans Y.fill0)
    rw [Launch.admits_selectMethod X.admits]; exact q4
  have hselF : selectMethod e.platform s.vm P1.m.cls T.fill = .method N.fill := by
    obtain ⟨c2, r2, m2, q1, q2, q3, q4, -⟩ := Cond.selects_spec (a' (.selects Bundle.nN Bundle.tFill Bundle.nFill) (by simp [Bundle.npeArmAtoms]))
    cases Option.some.inj (q1.symm.trans hfound)
    cases Option.some.inj (q2.symm.trans (State.methodFound?_of_named Y.fill (by decide)))
    cases Option.some.inj (q3.symm.trans hnNF)
    rw [Launch.admits_selectMethod X.admits]; exact q4
  obtain ⟨cellS0, hcS0, hiss⟩ := Y.statics
  obtain ⟨u0, hu0⟩ := Cond.staticRefV Y.unassigned L.unassignedStatic L.statics hcS0 hiss (a' (.isRef (.static Bundle.tN "UNASSIGNED_STACK" Bundle.steD)) (by simp [Bundle.npeArmAtoms]))
  obtain ⟨sen, hsen⟩ := Cond.staticRefV Y.sentinel L.sentinelStatic L.statics hcS0 hiss (a' (.isRef (.static Bundle.tN "SUPPRESSED_SENTINEL" Bundle.listD)) (by simp [Bundle.npeArmAtoms]))
  obtain ⟨ci198, i198, fB, hk198, hg198, ha198, hsB, -, hnB, htB, hffB⟩ := Cond.ownField (t := .object "java/lang/Object") Y.found L.cls (by decide +kernel) (a' (.fieldLink Bundle.tN 198 Bundle.tN "backtrace" Bundle.objD) (by simp [Bundle.npeArmAtoms])) (a' (.lays Bundle.tN Bundle.tN "backtrace" Bundle.objD) (by simp [Bundle.npeArmAtoms])) e.platform hpl
  obtain ⟨cellS, hcS', heS, -, hkeep⟩ := X.same.2.2.2.2.2 T.aS cellS0 hcS0
  have hcellS : W.heap[T.aS]? = some cellS := hcS'
  have hout' : ∀ i, (⟨T.aS, i⟩ : Loc) ∉ locs := fun i hmem => by
    have := hlocs _ hmem cellS0 hcS0
    rw [hiss] at this; cases this
  have hknownS : cellS.vm ≠ .unknown := by
    rw [heS]; intro hu
    rw [show cellS0.vm = .unknown from hu] at hiss
    cases hiss
  have hvU : cellS.slots[T.fUnassigned.slot]? = some u0.v := by rw [hkeep _ (hout' _)]; exact hu0
  have hvSen : cellS.slots[T.fSentinel.slot]? = some sen.v := by rw [hkeep _ (hout' _)]; exact hsen
  obtain ⟨tyC, dC, hdC, hdnC⟩ := Cond.laysAt hfound hk Y.cause (a' (.lays Bundle.nN Bundle.tN "cause" "Ljava/lang/Throwable;") (by simp [Bundle.npeArmAtoms]))
  obtain ⟨tyS, dS, hdS, hdnS⟩ := Cond.laysAt hfound hk Y.stack (a' (.lays Bundle.nN Bundle.tN "stackTrace" Bundle.steD) (by simp [Bundle.npeArmAtoms]))
  obtain ⟨tyP, dP, hdP, hdnP⟩ := Cond.laysAt hfound hk Y.supp (a' (.lays Bundle.nN Bundle.tN "suppressedExceptions" Bundle.listD) (by simp [Bundle.npeArmAtoms]))
  obtain ⟨tyX, dX, hdX, hdnX⟩ := Cond.laysAt hfound hk hffS (a' (.lays Bundle.nN Bundle.nN "extendedMessageState" "I") (by simp [Bundle.npeArmAtoms, Bundle.npeAtoms]))
  obtain ⟨hnX, htX⟩ := State.fieldFound?_type hffS (t := .int) (by decide +kernel)
  have xC := Cond.laysApart hdC hdX hdnC hdnX (by rw [hnX, Y.causeName]; decide)
  have xS := Cond.laysApart hdS hdX hdnS hdnX (by rw [hnX, Y.stackName]; decide)
  have xP := Cond.laysApart hdP hdX hdnP hdnX (by rw [hnX, Y.suppName]; decide)
  have hv0 : (freshCell P1.m.cls N.kN).slots[N.fState.slot]? = some (.int 0) := by
    have := fresh_default (c := P1.m.cls) tyX
    rw [htX] at this; exact this
  obtain ⟨tyB, dB, hdB, hdnB⟩ := Cond.laysAt hfound hk hffB (a' (.lays Bundle.nN Bundle.tN "backtrace" Bundle.objD) (by simp [Bundle.npeArmAtoms]))
  have bC := Cond.laysApart hdB hdC hdnB hdnC (by rw [hnB, Y.causeName]; decide)
  have bS := Cond.laysApart hdB hdS hdnB hdnS (by rw [hnB, Y.stackName]; decide)
  have bP := Cond.laysApart hdB hdP hdnB hdnP (by rw [hnB, Y.suppName]; decide)
  have bX := Cond.laysApart hdB hdX hdnB hdnX (by rw [hnB, hnX]; decide)
  have hbk : ((npeCell N.toNpeT (preparedCellV T.toThrowableT (freshCell P1.m.cls N.kN) W.heap.size u0 sen) W.cur).withEntry W.cur).slots[fB.slot]? = some .null := by
    have := fresh_default (c := P1.m.cls) tyB
    rw [htB] at this
    simpa [npeCell, preparedCellV, Cell.setSlot, Cell.withEntry, Array.getElem?_setIfInBounds, bC, bS, bP, bX, bC.symm, bS.symm, bP.symm, bX.symm, defaultValue] using this
  have tkC := Takes.of_laid (v := .ref W.heap.size) hk hordN tyC (by rw [Y.causeType]; rfl)
  have tkS := Takes.of_laid (v := u0.v) hk hordN tyS (by rw [Y.stackType]; exact fits_refV_array _ u0)
  have tkP := Takes.of_laid (v := sen.v) hk hordN tyP (by rw [Y.suppType]; exact fits_refV_object _ sen)
  have tkX := Takes.of_laid (v := .int 1) hk hordN tyX (by rw [htX]; rfl)
  have hskip : SkipFacts T e.platform s (fun u => u) u0 ((npeCell N.toNpeT (preparedCellV T.toThrowableT (freshCell P1.m.cls N.kN) W.heap.size u0 sen) W.cur).withEntry W.cur) := ⟨{ ci198 := ci198, i198 := i198, fBack := fB }, ⟨hk198, hg198, ha198, hsB⟩, hbk, fun _ _ => rfl⟩
  obtain ⟨vm', X3, st, -⟩ := X.throwsNpeColdBareVAt hexec hg hsize T L Z LZ N LN P1 L1 [PR, PE] hLs hlink1 ⟨hlinkR, hlinkE, trivial⟩ hfound hk hinit hordN hctor hsel0 hselF hcellS hknownS hvU hvSen
    hv0 xC xS xP tkC tkS tkP tkX Y.objLocals hskip (fun _ _ hA hW _ hroom _ hrest => L.nativeOff p htr hA hW hroom hrest) (by simpa using hRframes) hRlocals (by simp) hRcells (by rw [hn]; exact hRslots)
  have hlt : W.heap.size < ((W.pushCell (freshCell P1.m.cls N.kN)).setVm vm').heap.size := by
    show W.heap.size < (W.pushCell (freshCell P1.m.cls N.kN)).heap.size
    rw [State.heap_size_pushCell]; omega
  rw [hfsz] at X3
  obtain ⟨g₁, hfrM⟩ := X3.frames_eq
  have hU : ((((W.pushCell (freshCell P1.m.cls N.kN)).setVm vm').setCell W.heap.size (npeBareV T.toThrowableT N.toNpeT (freshCell P1.m.cls N.kN) W.heap.size u0 sen)).setTop g).pushFrame (.throwing W.heap.size) = (((W.pushCell (freshCell P1.m.cls N.kN)).setVm vm').setCell W.heap.size (npeBareV T.toThrowableT N.toNpeT (freshCell P1.m.cls N.kN) W.heap.size u0 sen)).setFrames (.throwing W.heap.size :: .java g :: below) := by
    rw [State.pushFrame, State.frames_setTop _ hfrM, State.setTop_of_frames _ hfrM, State.setFrames_setFrames]
  refine ⟨_, W.heap.size, _, fun target ht => st.trans (by rw [← hU]; exact ht), X3.forget (fun y hy => ?_), heapAt_setCell_self _ hlt, hfound, rfl⟩
  simp only [List.mem_cons, List.not_mem_nil, or_false] at hy
  have hge : s.heap.size ≤ W.heap.size := X.same.2.1
  rcases hy with rfl | rfl | rfl | rfl | rfl <;> exact hge
/-- the words of a machine's NullPointerException, but the four that speak of the heap -/
def vx_atN (n : Nat) : List Cond := (Bundle.npeArmAtoms n).filter vx_no
/-- the words of a machine's throw with a message, but the four that speak of the heap -/
def vx_atM (X : String) (names : List String) : List Cond := (Bundle.messageArmAtoms X names).filter vx_no
section
variable {p : Program} {l : Launch} {e : Env} {R : Room} {s : State} {m : MethodId} {args : Array Value} {below : List Frame} {meth : Method} {c : Code} {H : Heap} {locs : List Loc} {cells slots : Nat}
/-- a frame seen from a rebased start, seen from the first start again -/
theorem vx_back9 {T S : State} {R' : Room} {k n : Nat} (X : Stand p l e R s m args below meth c T locs cells slots) (Y : Stand p l e R' ((T.setVm s.vm).setFrames (.invoking m args :: below)) m args below meth c T [] 0 0) (Z : Stand p l e R' ((T.setVm s.vm).setFrames (.invoking m args :: below)) m args below meth c S [] k n) :
    Stand p l e R s m args below meth c S locs (cells + k) (slots + n) := by
  have hW0 : s.WarmedH ((T.setVm s.vm).setFrames (.invoking m args :: below)).vm := State.WarmedH.refl s
  refine { admits := X.admits, cas := X.cas, clock := X.clock, frames := X.frames, room := X.room, hears := X.hears, method := X.method, code := X.code, here := Z.here, tail := Z.tail, warmed := State.WarmedH.trans hW0 Z.warmed, limits := Z.limits.trans (Y.limits.symm.trans X.limits), bytes := Z.bytes.trans (Y.bytes.symm.trans X.bytes), same := ?_ }
  obtain ⟨e1, e2⟩ := Z.same
  rw [State.setFrames_setFrames] at e1
  have h2 : (T.setVm s.vm).sameButNew (S.setVm s.vm) [] k n := ⟨e1, e2⟩
  have h3 := X.same.trans h2
  rw [List.append_nil] at h3
  exact h3
/-- from the machine's note that E is thrown here with this text -/
def vx_Note (p : Program) (l : Launch) (e : Env) (R : Room) (s : State) (m : MethodId) (args : Array Value) (below : List Frame) (meth : Method) (c : Code) (H : Heap) (locs : List Loc) (cells slots : Nat) (Q : State → Prop) (g : JFrame) (E text : String) : Prop :=
  ∀ T : State, T.heap = H → Stand p l e R s m args below meth c T locs cells slots → ∃ t, Steps p.tables e below ((T.setTop g).pushFrame (.throwNew E (some text) none)) t ∧ Q t
theorem vx_vm {pc : Nat} {ls : Array Slot} {rest : List Value} {Q : State → Prop} (hexec : p.tables.exec = Jvm.exec) (hl : l.stackTraces = false) {cls text : String} {names : List String} {nb : Nat} {A : Nat → Prop}
    (hcls : Bundle.fit cls = true) (hnames : ∀ n ∈ names, Bundle.fit n = true) (hsoe : (cls == "java/lang/StackOverflowError") = false) (hoom : (cls == "java/lang/OutOfMemoryError") = false)
    (hat : ∀ w ∈ vx_atM cls names, w.before args s = true) (hgood : ∀ w ∈ vx_atM cls names, vx_ot w = true)
    (hU : vx_Zq Bundle.tN "UNASSIGNED_STACK" Bundle.steD A s s.heap) (hN : vx_Zq Bundle.tN "SUPPRESSED_SENTINEL" Bundle.listD A s s.heap) (hS : va_S A s.heap H locs) (hsize : ls.size = c.maxLocals)
    (htext : (text == notModelled) = false) (hnb : (stringBytes (stringToUtf16 text)).size ≤ nb) (hnb1 : nb ≤ 1000)
    (hRframes : names.length + 4 < R.frames) (hRlocals : (rest.map fun v => v.category).sum + 10240 ≤ R.locals) (hshort : 13 * names.length + 55 ≤ 10240) (hRcells : cells + 3 ≤ R.cells) (hRslots : slots + (nb + 10) ≤ R.slots) (hlocks : meth.locks = false)
    (k : ∀ (H1 : Heap) (q9 : Addr) (ce : Cell), H.size ≤ H1.size → (∀ q : Nat, q < H.size → H1[q]? = H[q]?) → va_S A s.heap H1 locs → H1[q9]? = some ce → ce.vm = .none → s.vm.findClass cls = some ce.cls → vx_W p l e R s m args below meth c H1 locs (cells + 3) (slots + (nb + 10)) Q (F0 m pc ls rest) q9) :
    vx_Note p l e R s m args below meth c H locs cells slots Q (F0 m pc ls rest) cls text := by
  intro T hT X
  have htr : e.platform.stackTraces = false := (show e.platform.stackTraces = l.stackTraces by rw [X.admits.platform]).trans hl
  have Y := vx_rebase X (R' := { frames := R.frames, locals := R.locals, cells := 3, slots := nb + 10 }) (Nat.le_refl _) (Nat.le_refl _) hRcells hRslots
  have hhp : ((T.setVm s.vm).setFrames (.invoking m args :: below)).heap = H := hT
  have hW0 : s.WarmedH ((T.setVm s.vm).setFrames (.invoking m args :: below)).vm := State.WarmedH.refl s
  have hat' : ∀ w ∈ vx_atM cls names, w.before args ((T.setVm s.vm).setFrames (.invoking m args :: below)) = true := fun w hw => vx_ot_at hW0 rfl (hgood w hw) (hat w hw)
  have hU' : vx_Zq Bundle.tN "UNASSIGNED_STACK" Bundle.steD A ((T.setVm s.vm).setFrames (.invoking m args :: below)) ((T.setVm s.vm).setFrames (.invoking m args :: below)).heap := by rw [hhp]; exact vx_Zq.moved hW0.alike (hU.kept hS.2.1)
  have hN' : vx_Zq Bundle.tN "SUPPRESSED_SENTINEL" Bundle.listD A ((T.setVm s.vm).setFrames (.invoking m args :: below)) ((T.setVm s.vm).setFrames (.invoking m args :: below)).heap := by rw [hhp]; exact vx_Zq.moved hW0.alike (hN.kept hS.2.1)
  obtain ⟨S, q, ce, st, Z, hce, hcl', hv⟩ := vx_vmAt Y hexec htr (cls := cls) (names := names) (text := text) hcls hnames hsoe hoom (vx_own hat' (vx_isRefq hU'.1) (vx_isRefq hN'.1) hU'.2.word hN'.2.word) (fun x hx => nomatch hx) htext
    (by rw [Launch.admits_arrayLengthLimit X.admits]; omega) (by rw [Launch.admits_maxHeapBytes X.admits]; simp only [componentBytes]; omega)
    (g := F0 m pc ls rest) rfl hsize hRframes (by show 2 * 0 + (rest.map fun v => v.category).sum + 10240 ≤ R.locals; omega) hshort (by show 0 + 3 ≤ 3; omega) (by show 0 + (_ + 4 + 6) ≤ nb + 10; omega) hlocks
  obtain ⟨f1, f2⟩ := vx_frame Z.same
  have f1' : H.size ≤ S.heap.size := by rw [← hT]; exact f1
  have f2' : ∀ q : Nat, q < H.size → S.heap[q]? = H[q]? := fun q hq => by
    rw [← hT]
    exact f2 q (by rw [← hT] at hq; exact hq) (fun z hz => nomatch hz)
  have X5 := vx_back9 X Y Z
  have X6 : Stand p l e R s m args below meth c S locs (cells + 3) (slots + (nb + 10)) := { X5 with same := X5.same.mono (by omega) (by omega) }
  obtain ⟨t, a1, b1⟩ := k S.heap q ce f1' f2' ⟨Nat.le_trans hS.1 f1', fun q h1 h2 => (f2' q (Nat.lt_of_lt_of_le h1 hS.1)).trans (hS.2.1 q h1 h2), hS.2.2⟩ hce hv hcl' S rfl X6
  exact ⟨t, st t a1, b1⟩
/-- from the machine's note that NullPointerException is thrown here -/
def vx_NoteN (p : Program) (l : Launch) (e : Env) (R : Room) (s : State) (m : MethodId) (args : Array Value) (below : List Frame) (meth : Method) (c : Code) (H : Heap) (locs : List Loc) (cells slots : Nat) (Q : State → Prop) (g : JFrame) : Prop :=
  ∀ T : State, T.heap = H → Stand p l e R s m args below meth c T locs cells slots → ∃ t, Steps p.tables e below ((T.setTop g).pushFrame (.throwNew "java/lang/NullPointerException" none none)) t ∧ Q t
theorem vx_npe {pc : Nat} {ls : Array Slot} {rest : List Value} {Q : State → Prop} (hexec : p.tables.exec = Jvm.exec) (hl : l.stackTraces = false) {nb : Nat} {A : Nat → Prop}
    (hat : ∀ w ∈ vx_atN nb, w.before args s = true) (hgood : ∀ w ∈ vx_atN nb, vx_ot w = true)
    (hU : vx_Zq Bundle.tN "UNASSIGNED_STACK" Bundle.steD A s s.heap) (hN : vx_Zq Bundle.tN "SUPPRESSED_SENTINEL" Bundle.listD A s s.heap) (hS : va_S A s.heap H locs) (hsize : ls.size = c.maxLocals)
    (hRframes : 7 < R.frames) (hRlocals : (rest.map fun v => v.category).sum + 10240 ≤ R.locals) (hRcells : cells + 1 ≤ R.cells) (hRslots : slots + nb ≤ R.slots) (hlocks : meth.locks = false)
    (k : ∀ (H1 : Heap) (q9 : Addr) (ce : Cell), H.size ≤ H1.size → (∀ q : Nat, q < H.size → H1[q]? = H[q]?) → va_S A s.heap H1 locs → H1[q9]? = some ce → ce.vm = .none → s.vm.findClass "java/lang/NullPointerException" = some ce.cls → vx_W p l e R s m args below meth c H1 locs (cells + 1) (slots + nb) Q (F0 m pc ls rest) q9) :
    vx_NoteN p l e R s m args below meth c H locs cells slots Q (F0 m pc ls rest) := by
  intro T hT X
  have htr : e.platform.stackTraces = false := (show e.platform.stackTraces = l.stackTraces by rw [X.admits.platform]).trans hl
  have Y := vx_rebase X (R' := { frames := R.frames, locals := R.locals, cells := 1, slots := nb }) (Nat.le_refl _) (Nat.le_refl _) hRcells hRslots
  have hhp : ((T.setVm s.vm).setFrames (.invoking m args :: below)).heap = H := hT
  have hW0 : s.WarmedH ((T.setVm s.vm).setFrames (.invoking m args :: below)).vm := State.WarmedH.refl s
  have hat' : ∀ w ∈ vx_atN nb, w.before args ((T.setVm s.vm).setFrames (.invoking m args :: below)) = true := fun w hw => vx_ot_at hW0 rfl (hgood w hw) (hat w hw)
  have hU' : vx_Zq Bundle.tN "UNASSIGNED_STACK" Bundle.steD A ((T.setVm s.vm).setFrames (.invoking m args :: below)) ((T.setVm s.vm).setFrames (.invoking m args :: below)).heap := by rw [hhp]; exact vx_Zq.moved hW0.alike (hU.kept hS.2.1)
  have hN' : vx_Zq Bundle.tN "SUPPRESSED_SENTINEL" Bundle.listD A ((T.setVm s.vm).setFrames (.invoking m args :: below)) ((T.setVm s.vm).setFrames (.invoking m args :: below)).heap := by rw [hhp]; exact vx_Zq.moved hW0.alike (hN.kept hS.2.1)
  obtain ⟨S, q, ce, st, Z, hce, hcl', hv⟩ := vx_npeAt Y hexec htr (n := nb) (vx_own hat' (vx_isRefq hU'.1) (vx_isRefq hN'.1) hU'.2.word hN'.2.word) (fun x hx => nomatch hx)
    (g := F0 m pc ls rest) rfl hsize hRframes (by show 2 * 0 + (rest.map fun v => v.category).sum + 10240 ≤ R.locals; omega) (by show 0 + 1 ≤ 1; omega) (by show 0 + nb ≤ nb; omega) hlocks
  obtain ⟨f1, f2⟩ := vx_frame Z.same
  have f1' : H.size ≤ S.heap.size := by rw [← hT]; exact f1
  have f2' : ∀ q : Nat, q < H.size → S.heap[q]? = H[q]? := fun q hq => by
    rw [← hT]
    exact f2 q (by rw [← hT] at hq; exact hq) (fun z hz => nomatch hz)
  have X5 := vx_back9 X Y Z
  have X6 : Stand p l e R s m args below meth c S locs (cells + 1) (slots + nb) := { X5 with same := X5.same.mono (by omega) (by omega) }
  obtain ⟨t, a1, b1⟩ := k S.heap q ce f1' f2' ⟨Nat.le_trans hS.1 f1', fun q h1 h2 => (f2' q (Nat.lt_of_lt_of_le h1 hS.1)).trans (hS.2.1 q h1 h2), hS.2.2⟩ hce hv hcl' S rfl X6
  exact ⟨t, st t a1, b1⟩
variable {Q : State → Prop} {cc : ByteArray} {pc : Nat} {ls : Array Slot} {rest : List Value}
theorem vx_idivZ (hexec : p.tables.exec = Jvm.exec) (hb : c.code = cc) {a b : Int32} (h0 : b = 0) (d : decode cc pc = .ok (.idiv, 1)) (k : vx_Note p l e R s m args below meth c H locs cells slots Q (F0 m pc ls rest) "java/lang/ArithmeticException" "/ by zero") :
    W p l e R s m args below meth c H locs cells slots Q (F0 m pc ls (.int b :: .int a :: rest)) := by
  intro T hT X
  obtain ⟨t, st, q⟩ := k T hT X
  exact ⟨t, X.idivZero hexec (g := F0 m pc ls (.int b :: .int a :: rest)) rfl (a := a) (rest := rest) (by rw [h0]) (by rw [hb]; exact d) t st, q⟩
theorem vx_iremZ (hexec : p.tables.exec = Jvm.exec) (hb : c.code = cc) {a b : Int32} (h0 : b = 0) (d : decode cc pc = .ok (.irem, 1)) (k : vx_Note p l e R s m args below meth c H locs cells slots Q (F0 m pc ls rest) "java/lang/ArithmeticException" "/ by zero") :
    W p l e R s m args below meth c H locs cells slots Q (F0 m pc ls (.int b :: .int a :: rest)) := by
  intro T hT X
  obtain ⟨t, st, q⟩ := k T hT X
  exact ⟨t, X.iremZero hexec (g := F0 m pc ls (.int b :: .int a :: rest)) rfl (a := a) (rest := rest) (by rw [h0]) (by rw [hb]; exact d) t st, q⟩
theorem vx_ldivZ (hexec : p.tables.exec = Jvm.exec) (hb : c.code = cc) {a b : Int64} (h0 : b = 0) (d : decode cc pc = .ok (.ldiv, 1)) (k : vx_Note p l e R s m args below meth c H locs cells slots Q (F0 m pc ls rest) "java/lang/ArithmeticException" "/ by zero") :
    W p l e R s m args below meth c H locs cells slots Q (F0 m pc ls (.long b :: .long a :: rest)) := by
  intro T hT X
  obtain ⟨t, st, q⟩ := k T hT X
  exact ⟨t, X.ldivZero hexec (g := F0 m pc ls (.long b :: .long a :: rest)) rfl (a := a) (rest := rest) (by rw [h0]) (by rw [hb]; exact d) t st, q⟩
theorem vx_lremZ (hexec : p.tables.exec = Jvm.exec) (hb : c.code = cc) {a b : Int64} (h0 : b = 0) (d : decode cc pc = .ok (.lrem, 1)) (k : vx_Note p l e R s m args below meth c H locs cells slots Q (F0 m pc ls rest) "java/lang/ArithmeticException" "/ by zero") :
    W p l e R s m args below meth c H locs cells slots Q (F0 m pc ls (.long b :: .long a :: rest)) := by
  intro T hT X
  obtain ⟨t, st, q⟩ := k T hT X
  exact ⟨t, X.lremZero hexec (g := F0 m pc ls (.long b :: .long a :: rest)) rfl (a := a) (rest := rest) (by rw [h0]) (by rw [hb]; exact d) t st, q⟩
theorem vx_ialdZ {D : va_G} {cl : List vw_C} {ws : va_W} {tys : List (ClassId × FieldType)} {a : Nat} (hexec : p.tables.exec = Jvm.exec) (hb : c.code = cc) (hK : va_K D cl tys s) (hP : va_P D cl ws H) (q0 t0 : Nat) {cA : ClassId} {n : Nat} {f : Nat → Int32} (ha : ws[q0]? = some (a, .inl (cA, n, .inl f))) (ht : tys[t0]? = some (cA, .int)) {i : Int32} (hout : ¬ vp_in i n) (hdg : decode cc pc = .ok (.iaload, 1))
    (k : ∀ tx : String, tx = (toString "Index " ++ toString i ++ toString " out of bounds for length " ++ toString n : String) → vx_Note p l e R s m args below meth c H locs cells slots Q (F0 m pc ls rest) "java/lang/ArrayIndexOutOfBoundsException" tx) : W p l e R s m args below meth c H locs cells slots Q (F0 m pc ls (.int i :: .ref a :: rest)) := by
  intro T hT X
  obtain ⟨t, st, q⟩ := k _ rfl T hT X
  refine ⟨t, ?_, q⟩
  have h1 := X.ialoadOut hexec (by rw [hT]; exact hP q0 _ ha) ((hK.2 t0 _ ht).1 n (fun j => .int (f j))) (j := i) (by show (i < 0 ∨ (arrV _ _ _).slots.size ≤ _); rw [arrV_size]; exact Classical.byContradiction hout) (g := F0 m pc ls (.int i :: .ref a :: rest)) rfl (rest := rest) rfl (by rw [hb]; exact hdg) t
  simp only [arrV_size] at h1
  exact h1 st
theorem vx_iastZ {D : va_G} {cl : List vw_C} {ws : va_W} {tys : List (ClassId × FieldType)} {a : Nat} (hexec : p.tables.exec = Jvm.exec) (hb : c.code = cc) (hK : va_K D cl tys s) (hP : va_P D cl ws H) (q0 t0 : Nat) {cA : ClassId} {n : Nat} {f : Nat → Int32} (ha : ws[q0]? = some (a, .inl (cA, n, .inl f))) (ht : tys[t0]? = some (cA, .int)) {i : Int32} {x : Int32} (hout : ¬ vp_in i n) (hdg : decode cc pc = .ok (.iastore, 1))
    (k : ∀ tx : String, tx = (toString "Index " ++ toString i ++ toString " out of bounds for length " ++ toString n : String) → vx_Note p l e R s m args below meth c H locs cells slots Q (F0 m pc ls rest) "java/lang/ArrayIndexOutOfBoundsException" tx) : W p l e R s m args below meth c H locs cells slots Q (F0 m pc ls (.int x :: .int i :: .ref a :: rest)) := by
  intro T hT X
  obtain ⟨t, st, q⟩ := k _ rfl T hT X
  refine ⟨t, ?_, q⟩
  have h1 := X.iastoreOut hexec (by rw [hT]; exact hP q0 _ ha) ((hK.2 t0 _ ht).1 n (fun j => .int (f j))) (j := i) (by show (i < 0 ∨ (arrV _ _ _).slots.size ≤ _); rw [arrV_size]; exact Classical.byContradiction hout) (g := F0 m pc ls (.int x :: .int i :: .ref a :: rest)) rfl (rest := rest) rfl (by rw [hb]; exact hdg) t
  simp only [arrV_size] at h1
  exact h1 st
theorem vx_baldZ {D : va_G} {cl : List vw_C} {ws : va_W} {tys : List (ClassId × FieldType)} {a : Nat} (hexec : p.tables.exec = Jvm.exec) (hb : c.code = cc) (hK : va_K D cl tys s) (hP : va_P D cl ws H) (q0 t0 : Nat) {cA : ClassId} {n : Nat} {f : Nat → Int32} (ha : ws[q0]? = some (a, .inl (cA, n, .inl f))) (ht : tys[t0]? = some (cA, .byte)) {i : Int32} (hout : ¬ vp_in i n) (hdg : decode cc pc = .ok (.baload, 1))
    (k : ∀ tx : String, tx = (toString "Index " ++ toString i ++ toString " out of bounds for length " ++ toString n : String) → vx_Note p l e R s m args below meth c H locs cells slots Q (F0 m pc ls rest) "java/lang/ArrayIndexOutOfBoundsException" tx) : W p l e R s m args below meth c H locs cells slots Q (F0 m pc ls (.int i :: .ref a :: rest)) := by
  intro T hT X
  obtain ⟨t, st, q⟩ := k _ rfl T hT X
  refine ⟨t, ?_, q⟩
  have h1 := X.baloadOut hexec (by rw [hT]; exact hP q0 _ ha) ((hK.2 t0 _ ht).1 n (fun j => .int (f j))) (j := i) (by show (i < 0 ∨ (arrV _ _ _).slots.size ≤ _); rw [arrV_size]; exact Classical.byContradiction hout) (g := F0 m pc ls (.int i :: .ref a :: rest)) rfl (rest := rest) rfl (by rw [hb]; exact hdg) t
  simp only [arrV_size] at h1
  exact h1 st
theorem vx_bastZ {D : va_G} {cl : List vw_C} {ws : va_W} {tys : List (ClassId × FieldType)} {a : Nat} (hexec : p.tables.exec = Jvm.exec) (hb : c.code = cc) (hK : va_K D cl tys s) (hP : va_P D cl ws H) (q0 t0 : Nat) {cA : ClassId} {n : Nat} {f : Nat → Int32} (ha : ws[q0]? = some (a, .inl (cA, n, .inl f))) (ht : tys[t0]? = some (cA, .byte)) {i : Int32} {x : Int32} (hout : ¬ vp_in i n) (hdg : decode cc pc = .ok (.bastore, 1))
    (k : ∀ tx : String, tx = (toString "Index " ++ toString i ++ toString " out of bounds for length " ++ toString n : String) → vx_Note p l e R s m args below meth c H locs cells slots Q (F0 m pc ls rest) "java/lang/ArrayIndexOutOfBoundsException" tx) : W p l e R s m args below meth c H locs cells slots Q (F0 m pc ls (.int x :: .int i :: .ref a :: rest)) := by
  intro T hT X
  obtain ⟨t, st, q⟩ := k _ rfl T hT X
  refine ⟨t, ?_, q⟩
  have h1 := X.bastoreOut hexec (by rw [hT]; exact hP q0 _ ha) ((hK.2 t0 _ ht).1 n (fun j => .int (f j))) (j := i) (by show (i < 0 ∨ (arrV _ _ _).slots.size ≤ _); rw [arrV_size]; exact Classical.byContradiction hout) (g := F0 m pc ls (.int x :: .int i :: .ref a :: rest)) rfl (rest := rest) rfl (by rw [hb]; exact hdg) t
  simp only [arrV_size] at h1
  exact h1 st
theorem vx_zaldZ {D : va_G} {cl : List vw_C} {ws : va_W} {tys : List (ClassId × FieldType)} {a : Nat} (hexec : p.tables.exec = Jvm.exec) (hb : c.code = cc) (hK : va_K D cl tys s) (hP : va_P D cl ws H) (q0 t0 : Nat) {cA : ClassId} {n : Nat} {f : Nat → Int32} (ha : ws[q0]? = some (a, .inl (cA, n, .inl f))) (ht : tys[t0]? = some (cA, .boolean)) {i : Int32} (hout : ¬ vp_in i n) (hdg : decode cc pc = .ok (.baload, 1))
    (k : ∀ tx : String, tx = (toString "Index " ++ toString i ++ toString " out of bounds for length " ++ toString n : String) → vx_Note p l e R s m args below meth c H locs cells slots Q (F0 m pc ls rest) "java/lang/ArrayIndexOutOfBoundsException" tx) : W p l e R s m args below meth c H locs cells slots Q (F0 m pc ls (.int i :: .ref a :: rest)) := by
  intro T hT X
  obtain ⟨t, st, q⟩ := k _ rfl T hT X
  refine ⟨t, ?_, q⟩
  have h1 := X.baloadOut hexec (by rw [hT]; exact hP q0 _ ha) ((hK.2 t0 _ ht).1 n (fun j => .int (f j))) (j := i) (by show (i < 0 ∨ (arrV _ _ _).slots.size ≤ _); rw [arrV_size]; exact Classical.byContradiction hout) (g := F0 m pc ls (.int i :: .ref a :: rest)) rfl (rest := rest) rfl (by rw [hb]; exact hdg) t
  simp only [arrV_size] at h1
  exact h1 st
theorem vx_zastZ {D : va_G} {cl : List vw_C} {ws : va_W} {tys : List (ClassId × FieldType)} {a : Nat} (hexec : p.tables.exec = Jvm.exec) (hb : c.code = cc) (hK : va_K D cl tys s) (hP : va_P D cl ws H) (q0 t0 : Nat) {cA : ClassId} {n : Nat} {f : Nat → Int32} (ha : ws[q0]? = some (a, .inl (cA, n, .inl f))) (ht : tys[t0]? = some (cA, .boolean)) {i : Int32} {x : Int32} (hout : ¬ vp_in i n) (hdg : decode cc pc = .ok (.bastore, 1))
    (k : ∀ tx : String, tx = (toString "Index " ++ toString i ++ toString " out of bounds for length " ++ toString n : String) → vx_Note p l e R s m args below meth c H locs cells slots Q (F0 m pc ls rest) "java/lang/ArrayIndexOutOfBoundsException" tx) : W p l e R s m args below meth c H locs cells slots Q (F0 m pc ls (.int x :: .int i :: .ref a :: rest)) := by
  intro T hT X
  obtain ⟨t, st, q⟩ := k _ rfl T hT X
  refine ⟨t, ?_, q⟩
  have h1 := X.bastoreOut hexec (by rw [hT]; exact hP q0 _ ha) ((hK.2 t0 _ ht).1 n (fun j => .int (f j))) (j := i) (by show (i < 0 ∨ (arrV _ _ _).slots.size ≤ _); rw [arrV_size]; exact Classical.byContradiction hout) (g := F0 m pc ls (.int x :: .int i :: .ref a :: rest)) rfl (rest := rest) rfl (by rw [hb]; exact hdg) t
  simp only [arrV_size] at h1
  exact h1 st
theorem vx_caldZ {D : va_G} {cl : List vw_C} {ws : va_W} {tys : List (ClassId × FieldType)} {a : Nat} (hexec : p.tables.exec = Jvm.exec) (hb : c.code = cc) (hK : va_K D cl tys s) (hP : va_P D cl ws H) (q0 t0 : Nat) {cA : ClassId} {n : Nat} {f : Nat → Int32} (ha : ws[q0]? = some (a, .inl (cA, n, .inl f))) (ht : tys[t0]? = some (cA, .char)) {i : Int32} (hout : ¬ vp_in i n) (hdg : decode cc pc = .ok (.caload, 1))
    (k : ∀ tx : String, tx = (toString "Index " ++ toString i ++ toString " out of bounds for length " ++ toString n : String) → vx_Note p l e R s m args below meth c H locs cells slots Q (F0 m pc ls rest) "java/lang/ArrayIndexOutOfBoundsException" tx) : W p l e R s m args below meth c H locs cells slots Q (F0 m pc ls (.int i :: .ref a :: rest)) := by
  intro T hT X
  obtain ⟨t, st, q⟩ := k _ rfl T hT X
  refine ⟨t, ?_, q⟩
  have h1 := X.caloadOut hexec (by rw [hT]; exact hP q0 _ ha) ((hK.2 t0 _ ht).1 n (fun j => .int (f j))) (j := i) (by show (i < 0 ∨ (arrV _ _ _).slots.size ≤ _); rw [arrV_size]; exact Classical.byContradiction hout) (g := F0 m pc ls (.int i :: .ref a :: rest)) rfl (rest := rest) rfl (by rw [hb]; exact hdg) t
  simp only [arrV_size] at h1
  exact h1 st
theorem vx_castZ {D : va_G} {cl : List vw_C} {ws : va_W} {tys : List (ClassId × FieldType)} {a : Nat} (hexec : p.tables.exec = Jvm.exec) (hb : c.code = cc) (hK : va_K D cl tys s) (hP : va_P D cl ws H) (q0 t0 : Nat) {cA : ClassId} {n : Nat} {f : Nat → Int32} (ha : ws[q0]? = some (a, .inl (cA, n, .inl f))) (ht : tys[t0]? = some (cA, .char)) {i : Int32} {x : Int32} (hout : ¬ vp_in i n) (hdg : decode cc pc = .ok (.castore, 1))
    (k : ∀ tx : String, tx = (toString "Index " ++ toString i ++ toString " out of bounds for length " ++ toString n : String) → vx_Note p l e R s m args below meth c H locs cells slots Q (F0 m pc ls rest) "java/lang/ArrayIndexOutOfBoundsException" tx) : W p l e R s m args below meth c H locs cells slots Q (F0 m pc ls (.int x :: .int i :: .ref a :: rest)) := by
  intro T hT X
  obtain ⟨t, st, q⟩ := k _ rfl T hT X
  refine ⟨t, ?_, q⟩
  have h1 := X.castoreOut hexec (by rw [hT]; exact hP q0 _ ha) ((hK.2 t0 _ ht).1 n (fun j => .int (f j))) (j := i) (by show (i < 0 ∨ (arrV _ _ _).slots.size ≤ _); rw [arrV_size]; exact Classical.byContradiction hout) (g := F0 m pc ls (.int x :: .int i :: .ref a :: rest)) rfl (rest := rest) rfl (by rw [hb]; exact hdg) t
  simp only [arrV_size] at h1
  exact h1 st
theorem vx_saldZ {D : va_G} {cl : List vw_C} {ws : va_W} {tys : List (ClassId × FieldType)} {a : Nat} (hexec : p.tables.exec = Jvm.exec) (hb : c.code = cc) (hK : va_K D cl tys s) (hP : va_P D cl ws H) (q0 t0 : Nat) {cA : ClassId} {n : Nat} {f : Nat → Int32} (ha : ws[q0]? = some (a, .inl (cA, n, .inl f))) (ht : tys[t0]? = some (cA, .short)) {i : Int32} (hout : ¬ vp_in i n) (hdg : decode cc pc = .ok (.saload, 1))
    (k : ∀ tx : String, tx = (toString "Index " ++ toString i ++ toString " out of bounds for length " ++ toString n : String) → vx_Note p l e R s m args below meth c H locs cells slots Q (F0 m pc ls rest) "java/lang/ArrayIndexOutOfBoundsException" tx) : W p l e R s m args below meth c H locs cells slots Q (F0 m pc ls (.int i :: .ref a :: rest)) := by
  intro T hT X
  obtain ⟨t, st, q⟩ := k _ rfl T hT X
  refine ⟨t, ?_, q⟩
  have h1 := X.saloadOut hexec (by rw [hT]; exact hP q0 _ ha) ((hK.2 t0 _ ht).1 n (fun j => .int (f j))) (j := i) (by show (i < 0 ∨ (arrV _ _ _).slots.size ≤ _); rw [arrV_size]; exact Classical.byContradiction hout) (g := F0 m pc ls (.int i :: .ref a :: rest)) rfl (rest := rest) rfl (by rw [hb]; exact hdg) t
  simp only [arrV_size] at h1
  exact h1 st
theorem vx_sastZ {D : va_G} {cl : List vw_C} {ws : va_W} {tys : List (ClassId × FieldType)} {a : Nat} (hexec : p.tables.exec = Jvm.exec) (hb : c.code = cc) (hK : va_K D cl tys s) (hP : va_P D cl ws H) (q0 t0 : Nat) {cA : ClassId} {n : Nat} {f : Nat → Int32} (ha : ws[q0]? = some (a, .inl (cA, n, .inl f))) (ht : tys[t0]? = some (cA, .short)) {i : Int32} {x : Int32} (hout : ¬ vp_in i n) (hdg : decode cc pc = .ok (.sastore, 1))
    (k : ∀ tx : String, tx = (toString "Index " ++ toString i ++ toString " out of bounds for length " ++ toString n : String) → vx_Note p l e R s m args below meth c H locs cells slots Q (F0 m pc ls rest) "java/lang/ArrayIndexOutOfBoundsException" tx) : W p l e R s m args below meth c H locs cells slots Q (F0 m pc ls (.int x :: .int i :: .ref a :: rest)) := by
  intro T hT X
  obtain ⟨t, st, q⟩ := k _ rfl T hT X
  refine ⟨t, ?_, q⟩
  have h1 := X.sastoreOut hexec (by rw [hT]; exact hP q0 _ ha) ((hK.2 t0 _ ht).1 n (fun j => .int (f j))) (j := i) (by show (i < 0 ∨ (arrV _ _ _).slots.size ≤ _); rw [arrV_size]; exact Classical.byContradiction hout) (g := F0 m pc ls (.int x :: .int i :: .ref a :: rest)) rfl (rest := rest) rfl (by rw [hb]; exact hdg) t
  simp only [arrV_size] at h1
  exact h1 st
theorem vx_laldZ {D : va_G} {cl : List vw_C} {ws : va_W} {tys : List (ClassId × FieldType)} {a : Nat} (hexec : p.tables.exec = Jvm.exec) (hb : c.code = cc) (hK : va_K D cl tys s) (hP : va_P D cl ws H) (q0 t0 : Nat) {cA : ClassId} {n : Nat} {f : Nat → Int64} (ha : ws[q0]? = some (a, .inl (cA, n, .inr (.inl f)))) (ht : tys[t0]? = some (cA, .long)) {i : Int32} (hout : ¬ vp_in i n) (hdg : decode cc pc = .ok (.laload, 1))
    (k : ∀ tx : String, tx = (toString "Index " ++ toString i ++ toString " out of bounds for length " ++ toString n : String) → vx_Note p l e R s m args below meth c H locs cells slots Q (F0 m pc ls rest) "java/lang/ArrayIndexOutOfBoundsException" tx) : W p l e R s m args below meth c H locs cells slots Q (F0 m pc ls (.int i :: .ref a :: rest)) := by
  intro T hT X
  obtain ⟨t, st, q⟩ := k _ rfl T hT X
  refine ⟨t, ?_, q⟩
  have h1 := X.laloadOut hexec (by rw [hT]; exact hP q0 _ ha) ((hK.2 t0 _ ht).1 n (fun j => .long (f j))) (j := i) (by show (i < 0 ∨ (arrV _ _ _).slots.size ≤ _); rw [arrV_size]; exact Classical.byContradiction hout) (g := F0 m pc ls (.int i :: .ref a :: rest)) rfl (rest := rest) rfl (by rw [hb]; exact hdg) t
  simp only [arrV_size] at h1
  exact h1 st
theorem vx_lastZ {D : va_G} {cl : List vw_C} {ws : va_W} {tys : List (ClassId × FieldType)} {a : Nat} (hexec : p.tables.exec = Jvm.exec) (hb : c.code = cc) (hK : va_K D cl tys s) (hP : va_P D cl ws H) (q0 t0 : Nat) {cA : ClassId} {n : Nat} {f : Nat → Int64} (ha : ws[q0]? = some (a, .inl (cA, n, .inr (.inl f)))) (ht : tys[t0]? = some (cA, .long)) {i : Int32} {x : Int64} (hout : ¬ vp_in i n) (hdg : decode cc pc = .ok (.lastore, 1))
    (k : ∀ tx : String, tx = (toString "Index " ++ toString i ++ toString " out of bounds for length " ++ toString n : String) → vx_Note p l e R s m args below meth c H locs cells slots Q (F0 m pc ls rest) "java/lang/ArrayIndexOutOfBoundsException" tx) : W p l e R s m args below meth c H locs cells slots Q (F0 m pc ls (.long x :: .int i :: .ref a :: rest)) := by
  intro T hT X
  obtain ⟨t, st, q⟩ := k _ rfl T hT X
  refine ⟨t, ?_, q⟩
  have h1 := X.lastoreOut hexec (by rw [hT]; exact hP q0 _ ha) ((hK.2 t0 _ ht).1 n (fun j => .long (f j))) (j := i) (by show (i < 0 ∨ (arrV _ _ _).slots.size ≤ _); rw [arrV_size]; exact Classical.byContradiction hout) (g := F0 m pc ls (.long x :: .int i :: .ref a :: rest)) rfl (rest := rest) rfl (by rw [hb]; exact hdg) t
  simp only [arrV_size] at h1
  exact h1 st
theorem vx_faldZ {D : va_G} {cl : List vw_C} {ws : va_W} {tys : List (ClassId × FieldType)} {a : Nat} (hexec : p.tables.exec = Jvm.exec) (hb : c.code = cc) (hK : va_K D cl tys s) (hP : va_P D cl ws H) (q0 t0 : Nat) {cA : ClassId} {n : Nat} {f : Nat → UInt32} (ha : ws[q0]? = some (a, .inl (cA, n, .inr (.inr (.inl f))))) (ht : tys[t0]? = some (cA, .float)) {i : Int32} (hout : ¬ vp_in i n) (hdg : decode cc pc = .ok (.faload, 1))
    (k : ∀ tx : String, tx = (toString "Index " ++ toString i ++ toString " out of bounds for length " ++ toString n : String) → vx_Note p l e R s m args below meth c H locs cells slots Q (F0 m pc ls rest) "java/lang/ArrayIndexOutOfBoundsException" tx) : W p l e R s m args below meth c H locs cells slots Q (F0 m pc ls (.int i :: .ref a :: rest)) := by
  intro T hT X
  obtain ⟨t, st, q⟩ := k _ rfl T hT X
  refine ⟨t, ?_, q⟩
  have h1 := X.faloadOut hexec (by rw [hT]; exact hP q0 _ ha) ((hK.2 t0 _ ht).1 n (fun j => .float (f j))) (j := i) (by show (i < 0 ∨ (arrV _ _ _).slots.size ≤ _); rw [arrV_size]; exact Classical.byContradiction hout) (g := F0 m pc ls (.int i :: .ref a :: rest)) rfl (rest := rest) rfl (by rw [hb]; exact hdg) t
  simp only [arrV_size] at h1
  exact h1 st
theorem vx_fastZ {D : va_G} {cl : List vw_C} {ws : va_W} {tys : List (ClassId × FieldType)} {a : Nat} (hexec : p.tables.exec = Jvm.exec) (hb : c.code = cc) (hK : va_K D cl tys s) (hP : va_P D cl ws H) (q0 t0 : Nat) {cA : ClassId} {n : Nat} {f : Nat → UInt32} (ha : ws[q0]? = some (a, .inl (cA, n, .inr (.inr (.inl f))))) (ht : tys[t0]? = some (cA, .float)) {i : Int32} {x : UInt32} (hout : ¬ vp_in i n) (hdg : decode cc pc = .ok (.fastore, 1))
    (k : ∀ tx : String, tx = (toString "Index " ++ toString i ++ toString " out of bounds for length " ++ toString n : String) → vx_Note p l e R s m args below meth c H locs cells slots Q (F0 m pc ls rest) "java/lang/ArrayIndexOutOfBoundsException" tx) : W p l e R s m args below meth c H locs cells slots Q (F0 m pc ls (.float x :: .int i :: .ref a :: rest)) := by
  intro T hT X
  obtain ⟨t, st, q⟩ := k _ rfl T hT X
  refine ⟨t, ?_, q⟩
  have h1 := X.fastoreOut hexec (by rw [hT]; exact hP q0 _ ha) ((hK.2 t0 _ ht).1 n (fun j => .float (f j))) (j := i) (by show (i < 0 ∨ (arrV _ _ _).slots.size ≤ _); rw [arrV_size]; exact Classical.byContradiction hout) (g := F0 m pc ls (.float x :: .int i :: .ref a :: rest)) rfl (rest := rest) rfl (by rw [hb]; exact hdg) t
  simp only [arrV_size] at h1
  exact h1 st
theorem vx_daldZ {D : va_G} {cl : List vw_C} {ws : va_W} {tys : List (ClassId × FieldType)} {a : Nat} (hexec : p.tables.exec = Jvm.exec) (hb : c.code = cc) (hK : va_K D cl tys s) (hP : va_P D cl ws H) (q0 t0 : Nat) {cA : ClassId} {n : Nat} {f : Nat → UInt64} (ha : ws[q0]? = some (a, .inl (cA, n, .inr (.inr (.inr (.inl f)))))) (ht : tys[t0]? = some (cA, .double)) {i : Int32} (hout : ¬ vp_in i n) (hdg : decode cc pc = .ok (.daload, 1))
    (k : ∀ tx : String, tx = (toString "Index " ++ toString i ++ toString " out of bounds for length " ++ toString n : String) → vx_Note p l e R s m args below meth c H locs cells slots Q (F0 m pc ls rest) "java/lang/ArrayIndexOutOfBoundsException" tx) : W p l e R s m args below meth c H locs cells slots Q (F0 m pc ls (.int i :: .ref a :: rest)) := by
  intro T hT X
  obtain ⟨t, st, q⟩ := k _ rfl T hT X
  refine ⟨t, ?_, q⟩
  have h1 := X.daloadOut hexec (by rw [hT]; exact hP q0 _ ha) ((hK.2 t0 _ ht).1 n (fun j => .double (f j))) (j := i) (by show (i < 0 ∨ (arrV _ _ _).slots.size ≤ _); rw [arrV_size]; exact Classical.byContradiction hout) (g := F0 m pc ls (.int i :: .ref a :: rest)) rfl (rest := rest) rfl (by rw [hb]; exact hdg) t
  simp only [arrV_size] at h1
  exact h1 st
theorem vx_dastZ {D : va_G} {cl : List vw_C} {ws : va_W} {tys : List (ClassId × FieldType)} {a : Nat} (hexec : p.tables.exec = Jvm.exec) (hb : c.code = cc) (hK : va_K D cl tys s) (hP : va_P D cl ws H) (q0 t0 : Nat) {cA : ClassId} {n : Nat} {f : Nat → UInt64} (ha : ws[q0]? = some (a, .inl (cA, n, .inr (.inr (.inr (.inl f)))))) (ht : tys[t0]? = some (cA, .double)) {i : Int32} {x : UInt64} (hout : ¬ vp_in i n) (hdg : decode cc pc = .ok (.dastore, 1))
    (k : ∀ tx : String, tx = (toString "Index " ++ toString i ++ toString " out of bounds for length " ++ toString n : String) → vx_Note p l e R s m args below meth c H locs cells slots Q (F0 m pc ls rest) "java/lang/ArrayIndexOutOfBoundsException" tx) : W p l e R s m args below meth c H locs cells slots Q (F0 m pc ls (.double x :: .int i :: .ref a :: rest)) := by
  intro T hT X
  obtain ⟨t, st, q⟩ := k _ rfl T hT X
  refine ⟨t, ?_, q⟩
  have h1 := X.dastoreOut hexec (by rw [hT]; exact hP q0 _ ha) ((hK.2 t0 _ ht).1 n (fun j => .double (f j))) (j := i) (by show (i < 0 ∨ (arrV _ _ _).slots.size ≤ _); rw [arrV_size]; exact Classical.byContradiction hout) (g := F0 m pc ls (.double x :: .int i :: .ref a :: rest)) rfl (rest := rest) rfl (by rw [hb]; exact hdg) t
  simp only [arrV_size] at h1
  exact h1 st
theorem vx_arraylengthN (hexec : p.tables.exec = Jvm.exec) (hb : c.code = cc) (hdg : decode cc pc = .ok (.arraylength, 1)) (k : vx_NoteN p l e R s m args below meth c H locs cells slots Q (F0 m pc ls rest)) : W p l e R s m args below meth c H locs cells slots Q (F0 m pc ls (.null :: rest)) := by
  intro T hT X
  obtain ⟨t, st, q⟩ := k T hT X
  exact ⟨t, X.arraylengthNull hexec (g := F0 m pc ls (.null :: rest)) rfl (rest := rest) rfl (by rw [hb]; exact hdg) t st, q⟩
theorem vx_ialoadN (hexec : p.tables.exec = Jvm.exec) (hb : c.code = cc) {i : Int32} (hdg : decode cc pc = .ok (.iaload, 1)) (k : vx_NoteN p l e R s m args below meth c H locs cells slots Q (F0 m pc ls rest)) : W p l e R s m args below meth c H locs cells slots Q (F0 m pc ls (.int i :: .null :: rest)) := by
  intro T hT X
  obtain ⟨t, st, q⟩ := k T hT X
  exact ⟨t, X.ialoadNull hexec (g := F0 m pc ls (.int i :: .null :: rest)) rfl (rest := rest) rfl (by rw [hb]; exact hdg) t st, q⟩
theorem vx_laloadN (hexec : p.tables.exec = Jvm.exec) (hb : c.code = cc) {i : Int32} (hdg : decode cc pc = .ok (.laload, 1)) (k : vx_NoteN p l e R s m args below meth c H locs cells slots Q (F0 m pc ls rest)) : W p l e R s m args below meth c H locs cells slots Q (F0 m pc ls (.int i :: .null :: rest)) := by
  intro T hT X
  obtain ⟨t, st, q⟩ := k T hT X
  exact ⟨t, X.laloadNull hexec (g := F0 m pc ls (.int i :: .null :: rest)) rfl (rest := rest) rfl (by rw [hb]; exact hdg) t st, q⟩
theorem vx_faloadN (hexec : p.tables.exec = Jvm.exec) (hb : c.code = cc) {i : Int32} (hdg : decode cc pc = .ok (.faload, 1)) (k : vx_NoteN p l e R s m args below meth c H locs cells slots Q (F0 m pc ls rest)) : W p l e R s m args below meth c H locs cells slots Q (F0 m pc ls (.int i :: .null :: rest)) := by
  intro T hT X
  obtain ⟨t, st, q⟩ := k T hT X
  exact ⟨t, X.faloadNull hexec (g := F0 m pc ls (.int i :: .null :: rest)) rfl (rest := rest) rfl (by rw [hb]; exact hdg) t st, q⟩
theorem vx_daloadN (hexec : p.tables.exec = Jvm.exec) (hb : c.code = cc) {i : Int32} (hdg : decode cc pc = .ok (.daload, 1)) (k : vx_NoteN p l e R s m args below meth c H locs cells slots Q (F0 m pc ls rest)) : W p l e R s m args below meth c H locs cells slots Q (F0 m pc ls (.int i :: .null :: rest)) := by
  intro T hT X
  obtain ⟨t, st, q⟩ := k T hT X
  exact ⟨t, X.daloadNull hexec (g := F0 m pc ls (.int i :: .null :: rest)) rfl (rest := rest) rfl (by rw [hb]; exact hdg) t st, q⟩
theorem vx_aaloadN (hexec : p.tables.exec = Jvm.exec) (hb : c.code = cc) {i : Int32} (hdg : decode cc pc = .ok (.aaload, 1)) (k : vx_NoteN p l e R s m args below meth c H locs cells slots Q (F0 m pc ls rest)) : W p l e R s m args below meth c H locs cells slots Q (F0 m pc ls (.int i :: .null :: rest)) := by
  intro T hT X
  obtain ⟨t, st, q⟩ := k T hT X
  exact ⟨t, X.aaloadNull hexec (g := F0 m pc ls (.int i :: .null :: rest)) rfl (rest := rest) rfl (by rw [hb]; exact hdg) t st, q⟩
theorem vx_baloadN (hexec : p.tables.exec = Jvm.exec) (hb : c.code = cc) {i : Int32} (hdg : decode cc pc = .ok (.baload, 1)) (k : vx_NoteN p l e R s m args below meth c H locs cells slots Q (F0 m pc ls rest)) : W p l e R s m args below meth c H locs cells slots Q (F0 m pc ls (.int i :: .null :: rest)) := by
  intro T hT X
  obtain ⟨t, st, q⟩ := k T hT X
  exact ⟨t, X.baloadNull hexec (g := F0 m pc ls (.int i :: .null :: rest)) rfl (rest := rest) rfl (by rw [hb]; exact hdg) t st, q⟩
theorem vx_caloadN (hexec : p.tables.exec = Jvm.exec) (hb : c.code = cc) {i : Int32} (hdg : decode cc pc = .ok (.caload, 1)) (k : vx_NoteN p l e R s m args below meth c H locs cells slots Q (F0 m pc ls rest)) : W p l e R s m args below meth c H locs cells slots Q (F0 m pc ls (.int i :: .null :: rest)) := by
  intro T hT X
  obtain ⟨t, st, q⟩ := k T hT X
  exact ⟨t, X.caloadNull hexec (g := F0 m pc ls (.int i :: .null :: rest)) rfl (rest := rest) rfl (by rw [hb]; exact hdg) t st, q⟩
theorem vx_saloadN (hexec : p.tables.exec = Jvm.exec) (hb : c.code = cc) {i : Int32} (hdg : decode cc pc = .ok (.saload, 1)) (k : vx_NoteN p l e R s m args below meth c H locs cells slots Q (F0 m pc ls rest)) : W p l e R s m args below meth c H locs cells slots Q (F0 m pc ls (.int i :: .null :: rest)) := by
  intro T hT X
  obtain ⟨t, st, q⟩ := k T hT X
  exact ⟨t, X.saloadNull hexec (g := F0 m pc ls (.int i :: .null :: rest)) rfl (rest := rest) rfl (by rw [hb]; exact hdg) t st, q⟩
theorem vx_iastoreN (hexec : p.tables.exec = Jvm.exec) (hb : c.code = cc) {x : Int32} {i : Int32} (hdg : decode cc pc = .ok (.iastore, 1)) (k : vx_NoteN p l e R s m args below meth c H locs cells slots Q (F0 m pc ls rest)) : W p l e R s m args below meth c H locs cells slots Q (F0 m pc ls (.int x :: .int i :: .null :: rest)) := by
  intro T hT X
  obtain ⟨t, st, q⟩ := k T hT X
  exact ⟨t, X.iastoreNull hexec (g := F0 m pc ls (.int x :: .int i :: .null :: rest)) rfl (rest := rest) rfl (by rw [hb]; exact hdg) t st, q⟩
theorem vx_lastoreN (hexec : p.tables.exec = Jvm.exec) (hb : c.code = cc) {x : Int64} {i : Int32} (hdg : decode cc pc = .ok (.lastore, 1)) (k : vx_NoteN p l e R s m args below meth c H locs cells slots Q (F0 m pc ls rest)) : W p l e R s m args below meth c H locs cells slots Q (F0 m pc ls (.long x :: .int i :: .null :: rest)) := by
  intro T hT X
  obtain ⟨t, st, q⟩ := k T hT X
  exact ⟨t, X.lastoreNull hexec (g := F0 m pc ls (.long x :: .int i :: .null :: rest)) rfl (rest := rest) rfl (by rw [hb]; exact hdg) t st, q⟩
theorem vx_fastoreN (hexec : p.tables.exec = Jvm.exec) (hb : c.code = cc) {x : UInt32} {i : Int32} (hdg : decode cc pc = .ok (.fastore, 1)) (k : vx_NoteN p l e R s m args below meth c H locs cells slots Q (F0 m pc ls rest)) : W p l e R s m args below meth c H locs cells slots Q (F0 m pc ls (.float x :: .int i :: .null :: rest)) := by
  intro T hT X
  obtain ⟨t, st, q⟩ := k T hT X
  exact ⟨t, X.fastoreNull hexec (g := F0 m pc ls (.float x :: .int i :: .null :: rest)) rfl (rest := rest) rfl (by rw [hb]; exact hdg) t st, q⟩
theorem vx_dastoreN (hexec : p.tables.exec = Jvm.exec) (hb : c.code = cc) {x : UInt64} {i : Int32} (hdg : decode cc pc = .ok (.dastore, 1)) (k : vx_NoteN p l e R s m args below meth c H locs cells slots Q (F0 m pc ls rest)) : W p l e R s m args below meth c H locs cells slots Q (F0 m pc ls (.double x :: .int i :: .null :: rest)) := by
  intro T hT X
  obtain ⟨t, st, q⟩ := k T hT X
  exact ⟨t, X.dastoreNull hexec (g := F0 m pc ls (.double x :: .int i :: .null :: rest)) rfl (rest := rest) rfl (by rw [hb]; exact hdg) t st, q⟩
theorem vx_bastoreN (hexec : p.tables.exec = Jvm.exec) (hb : c.code = cc) {x : Int32} {i : Int32} (hdg : decode cc pc = .ok (.bastore, 1)) (k : vx_NoteN p l e R s m args below meth c H locs cells slots Q (F0 m pc ls rest)) : W p l e R s m args below meth c H locs cells slots Q (F0 m pc ls (.int x :: .int i :: .null :: rest)) := by
  intro T hT X
  obtain ⟨t, st, q⟩ := k T hT X
  exact ⟨t, X.bastoreNull hexec (g := F0 m pc ls (.int x :: .int i :: .null :: rest)) rfl (rest := rest) rfl (by rw [hb]; exact hdg) t st, q⟩
theorem vx_castoreN (hexec : p.tables.exec = Jvm.exec) (hb : c.code = cc) {x : Int32} {i : Int32} (hdg : decode cc pc = .ok (.castore, 1)) (k : vx_NoteN p l e R s m args below meth c H locs cells slots Q (F0 m pc ls rest)) : W p l e R s m args below meth c H locs cells slots Q (F0 m pc ls (.int x :: .int i :: .null :: rest)) := by
  intro T hT X
  obtain ⟨t, st, q⟩ := k T hT X
  exact ⟨t, X.castoreNull hexec (g := F0 m pc ls (.int x :: .int i :: .null :: rest)) rfl (rest := rest) rfl (by rw [hb]; exact hdg) t st, q⟩
theorem vx_sastoreN (hexec : p.tables.exec = Jvm.exec) (hb : c.code = cc) {x : Int32} {i : Int32} (hdg : decode cc pc = .ok (.sastore, 1)) (k : vx_NoteN p l e R s m args below meth c H locs cells slots Q (F0 m pc ls rest)) : W p l e R s m args below meth c H locs cells slots Q (F0 m pc ls (.int x :: .int i :: .null :: rest)) := by
  intro T hT X
  obtain ⟨t, st, q⟩ := k T hT X
  exact ⟨t, X.sastoreNull hexec (g := F0 m pc ls (.int x :: .int i :: .null :: rest)) rfl (rest := rest) rfl (by rw [hb]; exact hdg) t st, q⟩
theorem vx_invokeN {own C : String} {index maxL : Nat} {y : MethodName} {bytes : ByteArray} {ret : Option FieldType} (hexec : p.tables.exec = Jvm.exec) (hb : c.code = cc) (hown : s.vm.findClass own = some m.cls) (hlink : (Cond.methodLink own index y).before args s = true) (hinst : (Cond.instanceMethod y).before args s = true) (hcode : (Cond.code y bytes maxL ret).before args s = true) (hsel : (Cond.selects C y y).before args s = true)
    (hx : y.cls ≠ "java/lang/invoke/MethodHandle" ∧ y.cls ≠ "java/lang/invoke/VarHandle") {As : List Value} (hlen : (parseMethodDescriptor y.desc).map (fun d => d.parameters.length) = some As.length) (hdg : decode cc pc = .ok (.invokevirtual index, 3))
    (k : vx_NoteN p l e R s m args below meth c H locs cells slots Q (F0 m pc ls rest)) {st0 : List Value} (hst : st0 = As.reverse ++ .null :: rest) : W p l e R s m args below meth c H locs cells slots Q (F0 m pc ls st0) := by
  intro T hT X
  obtain ⟨r0, r, hn, hrm, hstR, hsigR⟩ := va_Decl.of hinst hcode
  obtain ⟨c2, r2, m2, q1, q2, q3, q4, kP, hkP, hkPi⟩ := Cond.selects_spec hsel
  cases hn.symm.trans q3
  have hl9 : As.length = r.sig.parameters.length := by
    rw [hsigR] at hlen
    exact (Option.some.inj hlen).symm
  obtain ⟨vm', X1, st1⟩ := X.invokevirtualNull hexec hown hlink hn hrm hstR hkP hkPi hx (g := F0 m pc ls st0) rfl (argsL := As) (rest := rest) hl9 hst (by rw [hb]; exact hdg)
  obtain ⟨t, st, q⟩ := k (T.setVm vm') hT X1
  exact ⟨t, st1 t st, q⟩
theorem vx_newarrayZ {atype : ArrayType} (hexec : p.tables.exec = Jvm.exec) (hb : c.code = cc) {n : Int32} (h0 : n < 0) (hdg : decode cc pc = .ok (.newarray atype, 2)) (k : ∀ tx : String, tx = toString n → vx_Note p l e R s m args below meth c H locs cells slots Q (F0 m pc ls rest) "java/lang/NegativeArraySizeException" tx) : W p l e R s m args below meth c H locs cells slots Q (F0 m pc ls (.int n :: rest)) := by
  intro T hT X
  obtain ⟨t, st, q⟩ := k _ rfl T hT X
  exact ⟨t, X.newarrayNegative hexec (g := F0 m pc ls (.int n :: rest)) rfl h0 (rest := rest) rfl (by rw [hb]; exact hdg) t st, q⟩
end
end VXM
/-! ===== END ===== -/
/-! ===== BEGIN an exception as an object: made, kept, thrown later (no traces kept) ===== -/
section VXK
variable {p : Program} {l : Launch} {e : Env} {R : Room} {s : State} {m₀ : MethodId} {args : Array Value} {below : List Frame} {meth : Method} {c : Code} {W : State} {locs : List Loc} {cells slots : Nat}
set_option maxHeartbeats 1000000 in
theorem vx_ctorMadeS (X : Stand p l e R s m₀ args below meth c W locs cells slots) (hexec : p.tables.exec = Jvm.exec) (htr : e.platform.stackTraces = false) {own cls : String} {names : List String} {ic : Nat}
    (hown : s.vm.findClass own = some m₀.cls) (hcls : Bundle.fit cls = true) (hnames : ∀ n ∈ names, Bundle.fit n = true)
    (h : ∀ a ∈ Bundle.ownAtoms own ic cls names, a.before args s = true)
    (hlocs : ∀ x ∈ locs, ∀ cell, s.heap[x.base]? = some cell → cell.vm.isStatics = false)
    {a : Addr} {cX : ClassId} {kX : Class} (hfoundX : s.vm.findClass cls = some cX) (hkX : s.vm.classes[cX]? = some kX) (hcell : W.heap[a]? = some (freshCell cX kX)) (hnew : s.heap.size ≤ a)
    {msg : Value} (hmsg : msg.isRef = true)
    {g : JFrame} (hg : g.method = m₀) (hsize : g.locals.size = c.maxLocals) {rest : List Value} (hstack : g.stack = msg :: .ref a :: .ref a :: rest)
    (hd6 : decode c.code g.pc = .ok (.invokespecial ic, 3))
    (hRframes : names.length + 3 < R.frames) (hRlocals : 2 * g.monitorRoom + ((Value.ref a :: rest).map fun v => v.category).sum + (13 * (names.length + 1) + 42) ≤ R.locals) :
    ∃ (V : State) (ce : Cell) (L : List Loc), Stand p l e R s m₀ args below meth c (V.setCell a ce) (locs ++ L) cells slots ∧ (∀ y ∈ L, y.base = a) ∧ a < V.heap.size ∧ ce.cls = cX ∧ ce.vm = .none ∧
      ∀ target, Steps p.tables e below ((V.setCell a ce).setTop { g with stack := .ref a :: rest, pc := g.pc + 3 }) target → Steps p.tables e below (W.setTop g) target := by
  have howns : e.platform.frameOwnsMonitors = true := by rw [X.admits.platform]
  have hfin : e.platform.finalization = false := by rw [X.admits.platform]
  have hpl : e.platform.magicAccessors = ({} : Platform).magicAccessors := by rw [X.admits.platform]
  have a' : ∀ x, x ∈ Bundle.ownAtoms own ic cls names → x.holds args s none s [] = true := fun x hx => h x hx
  obtain ⟨T, Z0, L, -, Y⟩ := ThrowableC.of_atoms (args := args) howns hfin hpl (fun x hx => h x (by simp [Bundle.ownAtoms, hx]))
  obtain ⟨Z, M, LZ, LM, hnZ⟩ := Init0T.ofS_atoms (args := args) hpl L Y (fun x hx => h x (by simp [Bundle.ownAtoms, hx]))
  obtain ⟨P1, Ps, hlen, L1, hL, hP1m, hlink1, hlink⟩ := Bundle.chainS (args := args) hpl hnZ names cls hcls hnames (fun x hx => h x (by simp [Bundle.ownAtoms, hx]))
  have hfound : s.vm.findClass cls = some P1.m.cls := findClass_of_methodNamed hP1m
  cases Option.some.inj (hfoundX.symm.trans hfound)
  obtain ⟨c1, kX', hc1, hk, hord, -, -, hn6⟩ := Cond.instantiable_spec (a' (.instantiable cls 6) (by simp [Bundle.ownAtoms]))
  cases Option.some.inj (hc1.symm.trans hfound)
  cases Option.some.inj (hkX.symm.trans hk)
  have hsel0 : selectMethod e.platform s.vm P1.m.cls T.fill0 = .method T.fill0 := by
    obtain ⟨c2, r2, m2, q1, q2, q3, q4, -⟩ := Cond.selects_spec (a' (.selects cls Bundle.tFill0 Bundle.tFill0) (by simp [Bundle.ownAtoms]))
    cases Option.some.inj (q1.symm.trans hfound)
    cases Option.some.inj (q2.symm.trans (State.methodFound?_of_named Y.fill0 (by decide)))
    cases Option.some.inj (q3.symm.trans Y.fill0)
    rw [Launch.admits_selectMethod X.admits]; exact q4
  have hselF : selectMethod e.platform s.vm P1.m.cls T.fill = .method T.fill := by
    obtain ⟨c2, r2, m2, q1, q2, q3, q4, -⟩ := Cond.selects_spec (a' (.selects cls Bundle.tFill Bundle.tFill) (by simp [Bundle.ownAtoms]))
    cases Option.some.inj (q1.symm.trans hfound)
    cases Option.some.inj (q2.symm.trans (State.methodFound?_of_named Y.fill (by decide)))
    cases Option.some.inj (q3.symm.trans Y.fill)
    rw [Launch.admits_selectMethod X.admits]; exact q4
  obtain ⟨cellS0, hcS0, hiss⟩ := Y.statics
  obtain ⟨u0, hu0⟩ := Cond.staticRefV Y.unassigned L.unassignedStatic L.statics hcS0 hiss (a' (.isRef (.static Bundle.tN "UNASSIGNED_STACK" Bundle.steD)) (by simp [Bundle.ownAtoms]))
  obtain ⟨sen, hsen⟩ := Cond.staticRefV Y.sentinel L.sentinelStatic L.statics hcS0 hiss (a' (.isRef (.static Bundle.tN "SUPPRESSED_SENTINEL" Bundle.listD)) (by simp [Bundle.ownAtoms]))
  obtain ⟨ci198, i198, fB, hk198, hg198, ha198, hsB, -, hnB, htB, hffB⟩ := Cond.ownField (t := .object "java/lang/Object") Y.found L.cls (by decide +kernel) (a' (.fieldLink Bundle.tN 198 Bundle.tN "backtrace" "Ljava/lang/Object;") (by simp [Bundle.ownAtoms])) (a' (.lays Bundle.tN Bundle.tN "backtrace" "Ljava/lang/Object;") (by simp [Bundle.ownAtoms])) e.platform hpl
  obtain ⟨cellS, hcS', heS, -, hkeep⟩ := X.same.2.2.2.2.2 T.aS cellS0 hcS0
  have hcellS : W.heap[T.aS]? = some cellS := hcS'
  have hout' : ∀ i, (⟨T.aS, i⟩ : Loc) ∉ locs := fun i hmem => by
    have := hlocs _ hmem cellS0 hcS0
    rw [hiss] at this; cases this
  have hknownS : cellS.vm ≠ .unknown := by
    rw [heS]; intro hu
    rw [show cellS0.vm = .unknown from hu] at hiss
    cases hiss
  have hneS : T.aS ≠ a := Nat.ne_of_lt (Nat.lt_of_lt_of_le (Array.getElem?_eq_some_iff.mp hcS0).1 hnew)
  obtain ⟨iM, hffM⟩ := Y.msg
  obtain ⟨tyC, dC, hdC, hdnC⟩ := Cond.laysAt hfound hk Y.cause (a' (.lays cls Bundle.tN "cause" "Ljava/lang/Throwable;") (by simp [Bundle.ownAtoms]))
  obtain ⟨tyS, dS, hdS, hdnS⟩ := Cond.laysAt hfound hk Y.stack (a' (.lays cls Bundle.tN "stackTrace" Bundle.steD) (by simp [Bundle.ownAtoms]))
  obtain ⟨tyP, dP, hdP, hdnP⟩ := Cond.laysAt hfound hk Y.supp (a' (.lays cls Bundle.tN "suppressedExceptions" Bundle.listD) (by simp [Bundle.ownAtoms]))
  obtain ⟨tyM, dM, hdM, hdnM⟩ := Cond.laysAt hfound hk hffM (a' (.lays cls Bundle.tN "detailMessage" "Ljava/lang/String;") (by simp [Bundle.ownAtoms]))
  obtain ⟨tyB, dB, hdB, hdnB⟩ := Cond.laysAt hfound hk hffB (a' (.lays cls Bundle.tN "backtrace" "Ljava/lang/Object;") (by simp [Bundle.ownAtoms]))
  have bC := Cond.laysApart hdB hdC hdnB hdnC (by rw [hnB, Y.causeName]; decide)
  have bS := Cond.laysApart hdB hdS hdnB hdnS (by rw [hnB, Y.stackName]; decide)
  have bP := Cond.laysApart hdB hdP hdnB hdnP (by rw [hnB, Y.suppName]; decide)
  have hskip : SkipFacts T e.platform s (fun u => u) u0 ((preparedCellV T.toThrowableT (freshCell P1.m.cls kX) a u0 sen).withEntry W.cur) :=
    ⟨{ ci198 := ci198, i198 := i198, fBack := fB }, ⟨hk198, hg198, ha198, hsB⟩, by
      have := fresh_default (c := P1.m.cls) tyB
      rw [htB] at this
      simpa [preparedCellV, Cell.setSlot, Cell.withEntry, Array.getElem?_setIfInBounds, bC, bS, bP, bC.symm, bS.symm, bP.symm, defaultValue] using this, fun _ _ => rfl⟩
  obtain ⟨tm, methC, cdC, kC, vm₁, hnC, -, -, -, -, -, -, -, hW₁, st1⟩ := Steps.initColdS (tb := p.tables) (e := e) (below := below) (s := s) (U := W) X.here hexec X.warmed hpl hown (t := Bundle.initS cls) rfl rfl (Bundle.fit_spec hcls).2
    (a' (.methodLink own ic (Bundle.initS cls)) (by simp [Bundle.ownAtoms])) (h (.instanceMethod (Bundle.initS cls)) (by cases names <;> simp [Bundle.ownAtoms, Bundle.chainSAtoms, Bundle.passSAtoms])) (bytes := Bundle.six) (maxL := 2) (h (.code (Bundle.initS cls) Bundle.six 2 none) (by cases names <;> simp [Bundle.ownAtoms, Bundle.chainSAtoms, Bundle.passSAtoms]))
    (f := g) hg (a := a) (msg := msg) (rest := .ref a :: rest) hstack hd6
  cases Option.some.inj (hnC.symm.trans hP1m)
  have X₁ := X.noted hW₁
  obtain ⟨vm₂, X₂, st2⟩ := X₁.ctorMessageOffV hexec (g := { g with stack := .ref a :: rest }) hg hsize T L Z LZ M LM (P1 :: Ps)
    (fun P hP => by rcases List.mem_cons.mp hP with rfl | hP; exact L1; exact hL P hP) ⟨hlink1, hlink⟩ (u0 := u0) (sen := sen) (self := a) hmsg (cell := freshCell P1.m.cls kX) (cellS := cellS)
    hcell (fun _ => by simp) (by simp) rfl rfl hsel0 hselF hcellS hneS hknownS (by rw [hkeep _ (hout' _)]; exact hu0) (by rw [hkeep _ (hout' _)]; exact hsen)
    (Takes.of_laid hk hord tyC (by rw [Y.causeType]; rfl)) (Takes.of_laid hk hord tyS (by rw [Y.stackType]; exact fits_refV_array _ u0)) (Takes.of_laid hk hord tyP (by rw [Y.suppType]; exact fits_refV_object _ sen))
    (Takes.of_laid hk hord tyM (by rw [Y.msgType]; exact fits_refV_object _ ⟨msg, hmsg⟩)) Y.objLocals hskip htr [] hd6
    (by simp only [List.length_cons, hlen]; omega) (by simp only [List.length_cons, hlen]; exact hRlocals)
  have hlt : a < ((W.setVm vm₁).setVm vm₂).heap.size := (Array.getElem?_eq_some_iff.mp hcell).1
  refine ⟨(W.setVm vm₁).setVm vm₂, _, _, X₂, fun y hy => ?_, hlt, rfl, rfl, fun target hwalk => st1 _ (fun acts => ?_)⟩
  · simp only [List.mem_cons, List.not_mem_nil, or_false] at hy
    rcases hy with rfl | rfl | rfl | rfl | rfl <;> rfl
  · rw [doInvoke_state]
    exact st2 _ hwalk
set_option maxHeartbeats 1000000 in
theorem vx_ctorMade0 (X : Stand p l e R s m₀ args below meth c W locs cells slots) (hexec : p.tables.exec = Jvm.exec) (htr : e.platform.stackTraces = false) {own cls : String} {names : List String} {ic : Nat}
    (hown : s.vm.findClass own = some m₀.cls) (hcls : Bundle.fit cls = true) (hnames : ∀ n ∈ names, Bundle.fit n = true)
    (h : ∀ a ∈ Bundle.ownAtoms0 own ic cls names, a.before args s = true)
    (hlocs : ∀ x ∈ locs, ∀ cell, s.heap[x.base]? = some cell → cell.vm.isStatics = false)
    {a : Addr} {cX : ClassId} {kX : Class} (hfoundX : s.vm.findClass cls = some cX) (hkX : s.vm.classes[cX]? = some kX) (hcell : W.heap[a]? = some (freshCell cX kX)) (hnew : s.heap.size ≤ a)
    {g : JFrame} (hg : g.method = m₀) (hsize : g.locals.size = c.maxLocals) {rest : List Value} (hstack : g.stack = .ref a :: .ref a :: rest)
    (hd6 : decode c.code g.pc = .ok (.invokespecial ic, 3))
    (hRframes : names.length + 3 < R.frames) (hRlocals : 2 * g.monitorRoom + ((Value.ref a :: rest).map fun v => v.category).sum + (13 * (names.length + 1) + 41) ≤ R.locals) :
    ∃ (V : State) (ce : Cell) (L : List Loc), Stand p l e R s m₀ args below meth c (V.setCell a ce) (locs ++ L) cells slots ∧ (∀ y ∈ L, y.base = a) ∧ a < V.heap.size ∧ ce.cls = cX ∧ ce.vm = .none ∧
      ∀ target, Steps p.tables e below ((V.setCell a ce).setTop { g with stack := .ref a :: rest, pc := g.pc + 3 }) target → Steps p.tables e below (W.setTop g) target := by
  have howns : e.platform.frameOwnsMonitors = true := by rw [X.admits.platform]
  have hfin : e.platform.finalization = false := by rw [X.admits.platform]
  have hpl : e.platform.magicAccessors = ({} : Platform).magicAccessors := by rw [X.admits.platform]
  have a' : ∀ x, x ∈ Bundle.ownAtoms0 own ic cls names → x.holds args s none s [] = true := fun x hx => h x hx
  obtain ⟨T, Z, L, LZ, Y⟩ := ThrowableC.of_atoms (args := args) howns hfin hpl (fun x hx => h x (by simp [Bundle.ownAtoms0, hx]))
  obtain ⟨P1, Ps, hlen, L1, hL, hP1m, hlink1, hlink⟩ := Bundle.chain0 (args := args) hpl Y.init0 names cls hcls hnames (fun x hx => h x (by simp [Bundle.ownAtoms0, hx]))
  have hfound : s.vm.findClass cls = some P1.m.cls := findClass_of_methodNamed hP1m
  cases Option.some.inj (hfoundX.symm.trans hfound)
  obtain ⟨c1, kX', hc1, hk, hord, -, -, hn6⟩ := Cond.instantiable_spec (a' (.instantiable cls 6) (by simp [Bundle.ownAtoms0]))
  cases Option.some.inj (hc1.symm.trans hfound)
  cases Option.some.inj (hkX.symm.trans hk)
  have hsel0 : selectMethod e.platform s.vm P1.m.cls T.fill0 = .method T.fill0 := by
    obtain ⟨c2, r2, m2, q1, q2, q3, q4, -⟩ := Cond.selects_spec (a' (.selects cls Bundle.tFill0 Bundle.tFill0) (by simp [Bundle.ownAtoms0]))
    cases Option.some.inj (q1.symm.trans hfound)
    cases Option.some.inj (q2.symm.trans (State.methodFound?_of_named Y.fill0 (by decide)))
    cases Option.some.inj (q3.symm.trans Y.fill0)
    rw [Launch.admits_selectMethod X.admits]; exact q4
  have hselF : selectMethod e.platform s.vm P1.m.cls T.fill = .method T.fill := by
    obtain ⟨c2, r2, m2, q1, q2, q3, q4, -⟩ := Cond.selects_spec (a' (.selects cls Bundle.tFill Bundle.tFill) (by simp [Bundle.ownAtoms0]))
    cases Option.some.inj (q1.symm.trans hfound)
    cases Option.some.inj (q2.symm.trans (State.methodFound?_of_named Y.fill (by decide)))
    cases Option.some.inj (q3.symm.trans Y.fill)
    rw [Launch.admits_selectMethod X.admits]; exact q4
  obtain ⟨cellS0, hcS0, hiss⟩ := Y.statics
  obtain ⟨u0, hu0⟩ := Cond.staticRefV Y.unassigned L.unassignedStatic L.statics hcS0 hiss (a' (.isRef (.static Bundle.tN "UNASSIGNED_STACK" Bundle.steD)) (by simp [Bundle.ownAtoms0]))
  obtain ⟨sen, hsen⟩ := Cond.staticRefV Y.sentinel L.sentinelStatic L.statics hcS0 hiss (a' (.isRef (.static Bundle.tN "SUPPRESSED_SENTINEL" Bundle.listD)) (by simp [Bundle.ownAtoms0]))
  obtain ⟨ci198, i198, fB, hk198, hg198, ha198, hsB, -, hnB, htB, hffB⟩ := Cond.ownField (t := .object "java/lang/Object") Y.found L.cls (by decide +kernel) (a' (.fieldLink Bundle.tN 198 Bundle.tN "backtrace" "Ljava/lang/Object;") (by simp [Bundle.ownAtoms0])) (a' (.lays Bundle.tN Bundle.tN "backtrace" "Ljava/lang/Object;") (by simp [Bundle.ownAtoms0])) e.platform hpl
  obtain ⟨cellS, hcS', heS, -, hkeep⟩ := X.same.2.2.2.2.2 T.aS cellS0 hcS0
  have hcellS : W.heap[T.aS]? = some cellS := hcS'
  have hout' : ∀ i, (⟨T.aS, i⟩ : Loc) ∉ locs := fun i hmem => by
    have := hlocs _ hmem cellS0 hcS0
    rw [hiss] at this; cases this
  have hknownS : cellS.vm ≠ .unknown := by
    rw [heS]; intro hu
    rw [show cellS0.vm = .unknown from hu] at hiss
    cases hiss
  have hneS : T.aS ≠ a := Nat.ne_of_lt (Nat.lt_of_lt_of_le (Array.getElem?_eq_some_iff.mp hcS0).1 hnew)
  obtain ⟨iM, hffM⟩ := Y.msg
  obtain ⟨tyC, dC, hdC, hdnC⟩ := Cond.laysAt hfound hk Y.cause (a' (.lays cls Bundle.tN "cause" "Ljava/lang/Throwable;") (by simp [Bundle.ownAtoms0]))
  obtain ⟨tyS, dS, hdS, hdnS⟩ := Cond.laysAt hfound hk Y.stack (a' (.lays cls Bundle.tN "stackTrace" Bundle.steD) (by simp [Bundle.ownAtoms0]))
  obtain ⟨tyP, dP, hdP, hdnP⟩ := Cond.laysAt hfound hk Y.supp (a' (.lays cls Bundle.tN "suppressedExceptions" Bundle.listD) (by simp [Bundle.ownAtoms0]))
  obtain ⟨tyM, dM, hdM, hdnM⟩ := Cond.laysAt hfound hk hffM (a' (.lays cls Bundle.tN "detailMessage" "Ljava/lang/String;") (by simp [Bundle.ownAtoms0]))
  obtain ⟨tyB, dB, hdB, hdnB⟩ := Cond.laysAt hfound hk hffB (a' (.lays cls Bundle.tN "backtrace" "Ljava/lang/Object;") (by simp [Bundle.ownAtoms0]))
  have bC := Cond.laysApart hdB hdC hdnB hdnC (by rw [hnB, Y.causeName]; decide)
  have bS := Cond.laysApart hdB hdS hdnB hdnS (by rw [hnB, Y.stackName]; decide)
  have bP := Cond.laysApart hdB hdP hdnB hdnP (by rw [hnB, Y.suppName]; decide)
  have hskip : SkipFacts T e.platform s (fun u => u) u0 ((preparedCellV T.toThrowableT (freshCell P1.m.cls kX) a u0 sen).withEntry W.cur) :=
    ⟨{ ci198 := ci198, i198 := i198, fBack := fB }, ⟨hk198, hg198, ha198, hsB⟩, by
      have := fresh_default (c := P1.m.cls) tyB
      rw [htB] at this
      simpa [preparedCellV, Cell.setSlot, Cell.withEntry, Array.getElem?_setIfInBounds, bC, bS, bP, bC.symm, bS.symm, bP.symm, defaultValue] using this, fun _ _ => rfl⟩
  obtain ⟨tm, methC, cdC, kC, vm₁, hnC, -, -, -, -, -, -, -, hW₁, st1⟩ := Steps.initCold (tb := p.tables) (e := e) (below := below) (s := s) (U := W) X.here hexec X.warmed hpl hown (t := Bundle.init0 cls) rfl rfl (Bundle.fit_spec hcls).2
    (a' (.methodLink own ic (Bundle.init0 cls)) (by simp [Bundle.ownAtoms0])) (h (.instanceMethod (Bundle.init0 cls)) (by cases names <;> simp [Bundle.ownAtoms0, Bundle.chain0Atoms, Bundle.passAtoms])) (bytes := Bundle.five) (maxL := 1) (h (.code (Bundle.init0 cls) Bundle.five 1 none) (by cases names <;> simp [Bundle.ownAtoms0, Bundle.chain0Atoms, Bundle.passAtoms]))
    (f := g) hg (a := a) (rest := .ref a :: rest) hstack hd6
  cases Option.some.inj (hnC.symm.trans hP1m)
  have X₁ := X.noted hW₁
  obtain ⟨vm₂, X₂, st2⟩ := X₁.ctorPlainOffV hexec (g := { g with stack := .ref a :: rest }) hg hsize T L Z LZ (P1 :: Ps)
    (fun P hP => by rcases List.mem_cons.mp hP with rfl | hP; exact L1; exact hL P hP) ⟨hlink1, hlink⟩ (u0 := u0) (sen := sen) (self := a) (cell := freshCell P1.m.cls kX) (cellS := cellS)
    hcell (fun _ => by simp) (by simp) rfl rfl hsel0 hselF hcellS hneS hknownS (by rw [hkeep _ (hout' _)]; exact hu0) (by rw [hkeep _ (hout' _)]; exact hsen)
    (Takes.of_laid hk hord tyC (by rw [Y.causeType]; rfl)) (Takes.of_laid hk hord tyS (by rw [Y.stackType]; exact fits_refV_array _ u0)) (Takes.of_laid hk hord tyP (by rw [Y.suppType]; exact fits_refV_object _ sen)) Y.objLocals hskip htr [] hd6
    (by simp only [List.length_cons, hlen]; omega) (by simp only [List.length_cons, hlen]; exact hRlocals)
  have hlt : a < ((W.setVm vm₁).setVm vm₂).heap.size := (Array.getElem?_eq_some_iff.mp hcell).1
  refine ⟨(W.setVm vm₁).setVm vm₂, _, _, X₂, fun y hy => ?_, hlt, rfl, rfl, fun target hwalk => st1 _ (fun acts => ?_)⟩
  · simp only [List.mem_cons, List.not_mem_nil, or_false] at hy
    rcases hy with rfl | rfl | rfl | rfl <;> rfl
  · rw [doInvoke_state]
    exact st2 _ hwalk
end VXK
section VXK2
variable {p : Program} {l : Launch} {e : Env} {R : Room} {s : State} {m : MethodId} {args : Array Value} {below : List Frame} {meth : Method} {c : Code} {H : Heap} {locs : List Loc} {cells slots : Nat} {Q : State → Prop}
variable {ls : Array Slot} {rest : List Value} {D : va_G} {cl : List vw_C} {tys : List (ClassId × FieldType)} {ws : va_W}
/-- 'new E("text")' that isn't thrown at once: the object goes on the stack -/
theorem vx_makeS {cc : ByteArray} {pc : Nat} (hexec : p.tables.exec = Jvm.exec) (hb : c.code = cc) (hl : l.stackTraces = false) {own cls text : String} {names : List String} {ik is ic sa ci : Nat} {A : Nat → Prop} {T0 : u_T}
    (hown : s.vm.findClass own = some m.cls) (hcls : Bundle.fit cls = true) (hnames : ∀ n ∈ names, Bundle.fit n = true)
    (hk : (Cond.classLink own ik cls).before args s = true) (hini : (Cond.initialized cls).before args s = true) (hstr : vk_R own is text sa s) (hat : ∀ w ∈ vx_atS own ic cls names, w.before args s = true)
    (hgood : ∀ w ∈ Cond.classLink own ik cls :: Cond.initialized cls :: vx_atS own ic cls names, vx_ot w = true)
    (hU : vx_Zq Bundle.tN "UNASSIGNED_STACK" Bundle.steD A s s.heap) (hN : vx_Zq Bundle.tN "SUPPRESSED_SENTINEL" Bundle.listD A s s.heap) (hS : va_S A s.heap H locs) (hsize : ls.size = c.maxLocals)
    (d0 : decode cc pc = .ok (.new ik, 3)) (d3 : decode cc (pc + 3) = .ok (.dup, 1)) (d4 : decode cc (pc + 4) = .ok (.ldc is, 2)) (d6 : decode cc (pc + 6) = .ok (.invokespecial ic, 3))
    (hK : va_K D cl tys s) (hP : va_P D cl ws H) (hD : va_D A ws) (hA : ∀ q, s.heap.size ≤ q → A q) (hc : cl[ci]? = some (cls, T0, 0))
    (hRframes : names.length + 3 < R.frames) (hRlocals : (rest.map fun v => v.category).sum + (13 * (names.length + 1) + 43) ≤ R.locals) (hRcells : cells + 1 ≤ R.cells) (hRslots : slots + 6 ≤ R.slots)
    (kk : ∀ (q : Nat) (H1 : Heap), va_P D cl (ws ++ [(q, .inr (ci, []))]) H1 → va_D A (ws ++ [(q, .inr (ci, []))]) → va_S A s.heap H1 locs → W p l e R s m args below meth c H1 locs (cells + 1) (slots + 6) Q (F0 m (pc + 9) ls (.ref q :: rest))) :
    W p l e R s m args below meth c H locs cells slots Q (F0 m pc ls rest) := by
  intro T hT X
  subst hT
  have htr : e.platform.stackTraces = false := (show e.platform.stackTraces = l.stackTraces by rw [X.admits.platform]).trans hl
  have Y := vx_rebase X (R' := { frames := R.frames, locals := R.locals, cells := 1, slots := 6 }) (Nat.le_refl _) (Nat.le_refl _) hRcells hRslots
  obtain ⟨s', hA'⟩ : ∃ z, z = (T.setVm s.vm).setFrames (.invoking m args :: below) := ⟨_, rfl⟩
  rw [← hA'] at Y
  have hvm : s'.vm = s.vm := by rw [hA']; rfl
  have hhp : s'.heap = T.heap := by rw [hA']; rfl
  have hW0 : s.WarmedH s'.vm := by rw [hvm]; exact State.WarmedH.refl s
  have hat' : ∀ w ∈ vx_atS own ic cls names, w.before args s' = true := fun w hw => vx_ot_at hW0 hvm.symm (hgood w (List.mem_cons_of_mem _ (List.mem_cons_of_mem _ hw))) (hat w hw)
  have hk' : (Cond.classLink own ik cls).before args s' = true := vx_ot_at hW0 hvm.symm (hgood _ List.mem_cons_self) hk
  have hini' : (Cond.initialized cls).before args s' = true := vx_ot_at hW0 hvm.symm (hgood _ (List.mem_cons_of_mem _ List.mem_cons_self)) hini
  have hU' : vx_Zq Bundle.tN "UNASSIGNED_STACK" Bundle.steD A s' s'.heap := by rw [hhp]; exact vx_Zq.moved hW0.alike (hU.kept hS.2.1)
  have hN' : vx_Zq Bundle.tN "SUPPRESSED_SENTINEL" Bundle.listD A s' s'.heap := by rw [hhp]; exact vx_Zq.moved hW0.alike (hN.kept hS.2.1)
  have h : ∀ w ∈ Bundle.ownAtoms own ic cls names, w.before args s' = true := vx_own hat' (vx_isRefq hU'.1) (vx_isRefq hN'.1) hU'.2.word hN'.2.word
  have hown' : s'.vm.findClass own = some m.cls := by rw [hvm]; exact hown
  have hins : (Cond.instantiable cls 6).before args s' = true := h _ (by simp [Bundle.ownAtoms])
  obtain ⟨vm₁, cX, kX, hfX, hkX, -, -, X₁, st1⟩ := Y.newCold hexec (own := own) (C := cls) (index := ik) (n := 6) hown' hk' hins hini'
    (g := F0 m pc ls rest) rfl (by rw [hb]; exact d0) (Nat.le_refl _) (Nat.le_refl _)
  generalize hT1 : (T.setVm vm₁).pushCell { cls := cX, slots := kX.instanceTypes.map defaultValue, vm := .none } = T1 at X₁ st1
  have hcat : (Value.ref T.heap.size).category = 1 := rfl
  have hcellA : T1.heap[T.heap.size]? = some (freshCell cX kX) := by rw [← hT1]; exact State.heap_pushCell_size _ _
  have d3' : decode c.code (pc + 3) = .ok (.dup, 1) := by rw [hb]; exact d3
  have d4' : decode c.code (pc + 4) = .ok (.ldc is, 2) := by rw [hb]; exact d4
  have hstr' : vk_R own is text sa s' := vk_R.warm hW0 hstr
  obtain ⟨V, ce, L, Z, hL, hlt, hcl9, hvm9, st⟩ := vx_ctorMadeS X₁ hexec htr (own := own) (cls := cls) (names := names) (ic := ic) hown' hcls hnames h (fun x hx => nomatch hx) hfX hkX hcellA (by rw [hhp]; exact Nat.le_refl _) (msg := .ref sa) rfl
    (g := { method := m, pc := pc + 6, locals := ls, stack := .ref sa :: .ref T.heap.size :: .ref T.heap.size :: rest, locked := none }) rfl hsize (rest := rest) rfl
    (by rw [hb]; exact d6) hRframes (by simp only [List.map_cons, List.sum_cons, hcat]; omega)
  have Z0 := Stand.forget (locs := []) Z (fun y hy => by rw [hL y hy, hhp]; exact Nat.le_refl _)
  obtain ⟨f1, f2⟩ := vx_frame Z0.same
  rw [hhp] at f1 f2
  have hcid : ce.cls = D.1 ci := by
    rw [hcl9]
    have h1 := (hK.1 ci _ hc).2.1
    rw [hvm] at hfX
    exact Option.some.inj (hfX.symm.trans h1)
  have hh : (V.setCell T.heap.size ce).heap[T.heap.size]? = some ce := heapAt_setCell_self (s := V) ce hlt
  subst hA'
  have X5 := vx_back9 X Y Z0
  have X6 : Stand p l e R s m args below meth c (V.setCell T.heap.size ce) locs (cells + 1) (slots + 6) := { X5 with same := X5.same.mono (by omega) (by omega) }
  have hk9 : ∀ (k : Nat) (x : Nat × va_E), ws[k]? = some x → (V.setCell T.heap.size ce).heap[x.1]? = T.heap[x.1]? := fun k x hx => f2 x.1 ((hP k x hx).lt) (fun z hz => nomatch hz)
  obtain ⟨t, a1, b1⟩ := kk T.heap.size (V.setCell T.heap.size ce).heap ((hP.kept hk9).app (fun k x hx => by
      have hz : k < 1 := (List.getElem?_eq_some_iff.mp hx).1
      rw [show k = 0 by omega] at hx
      cases hx
      exact ⟨_, hc, ce, hh, hcid, hvm9, fun k hk => absurd hk (Nat.not_lt_zero k)⟩)) (hD.push hP rfl (hA _ hS.1)) ⟨Nat.le_trans hS.1 f1, fun q h1 h2 => (f2 q (Nat.lt_of_lt_of_le h1 hS.1) (fun z hz => nomatch hz)).trans (hS.2.1 q h1 h2), hS.2.2⟩ _ rfl X6
  refine ⟨t, st1 _ ?_, b1⟩
  show Steps p.tables e below (T1.setTop { method := m, pc := pc + 3, locals := ls, stack := .ref T.heap.size :: rest, locked := none }) _
  jvm_step X₁.here [X₁.here.top, hexec, d3', Value.category]
  exact X₁.ldcString hexec (own := own) (text := text) (index := is) (a := sa) hown' hstr'.1 hstr'.2
    (g := { method := m, pc := pc + 4, locals := ls, stack := .ref T.heap.size :: .ref T.heap.size :: rest, locked := none }) rfl d4' _ (st _ a1)
/-- 'new E()' that isn't thrown at once: the object goes on the stack -/
theorem vx_make0 {cc : ByteArray} {pc : Nat} (hexec : p.tables.exec = Jvm.exec) (hb : c.code = cc) (hl : l.stackTraces = false) {own cls : String} {names : List String} {ik ic ci : Nat} {A : Nat → Prop} {T0 : u_T}
    (hown : s.vm.findClass own = some m.cls) (hcls : Bundle.fit cls = true) (hnames : ∀ n ∈ names, Bundle.fit n = true)
    (hk : (Cond.classLink own ik cls).before args s = true) (hini : (Cond.initialized cls).before args s = true) (hat : ∀ w ∈ vx_at0 own ic cls names, w.before args s = true)
    (hgood : ∀ w ∈ Cond.classLink own ik cls :: Cond.initialized cls :: vx_at0 own ic cls names, vx_ot w = true)
    (hU : vx_Zq Bundle.tN "UNASSIGNED_STACK" Bundle.steD A s s.heap) (hN : vx_Zq Bundle.tN "SUPPRESSED_SENTINEL" Bundle.listD A s s.heap) (hS : va_S A s.heap H locs) (hsize : ls.size = c.maxLocals)
    (d0 : decode cc pc = .ok (.new ik, 3)) (d3 : decode cc (pc + 3) = .ok (.dup, 1)) (d4 : decode cc (pc + 4) = .ok (.invokespecial ic, 3))
    (hK : va_K D cl tys s) (hP : va_P D cl ws H) (hD : va_D A ws) (hA : ∀ q, s.heap.size ≤ q → A q) (hc : cl[ci]? = some (cls, T0, 0))
    (hRframes : names.length + 3 < R.frames) (hRlocals : (rest.map fun v => v.category).sum + (13 * (names.length + 1) + 42) ≤ R.locals) (hRcells : cells + 1 ≤ R.cells) (hRslots : slots + 6 ≤ R.slots)
    (kk : ∀ (q : Nat) (H1 : Heap), va_P D cl (ws ++ [(q, .inr (ci, []))]) H1 → va_D A (ws ++ [(q, .inr (ci, []))]) → va_S A s.heap H1 locs → W p l e R s m args below meth c H1 locs (cells + 1) (slots + 6) Q (F0 m (pc + 7) ls (.ref q :: rest))) :
    W p l e R s m args below meth c H locs cells slots Q (F0 m pc ls rest) := by
  intro T hT X
  subst hT
  have htr : e.platform.stackTraces = false := (show e.platform.stackTraces = l.stackTraces by rw [X.admits.platform]).trans hl
  have Y := vx_rebase X (R' := { frames := R.frames, locals := R.locals, cells := 1, slots := 6 }) (Nat.le_refl _) (Nat.le_refl _) hRcells hRslots
  obtain ⟨s', hA'⟩ : ∃ z, z = (T.setVm s.vm).setFrames (.invoking m args :: below) := ⟨_, rfl⟩
  rw [← hA'] at Y
  have hvm : s'.vm = s.vm := by rw [hA']; rfl
  have hhp : s'.heap = T.heap := by rw [hA']; rfl
  have hW0 : s.WarmedH s'.vm := by rw [hvm]; exact State.WarmedH.refl s
  have hat' : ∀ w ∈ vx_at0 own ic cls names, w.before args s' = true := fun w hw => vx_ot_at hW0 hvm.symm (hgood w (List.mem_cons_of_mem _ (List.mem_cons_of_mem _ hw))) (hat w hw)
  have hk' : (Cond.classLink own ik cls).before args s' = true := vx_ot_at hW0 hvm.symm (hgood _ List.mem_cons_self) hk
  have hini' : (Cond.initialized cls).before args s' = true := vx_ot_at hW0 hvm.symm (hgood _ (List.mem_cons_of_mem _ List.mem_cons_self)) hini
  have hU' : vx_Zq Bundle.tN "UNASSIGNED_STACK" Bundle.steD A s' s'.heap := by rw [hhp]; exact vx_Zq.moved hW0.alike (hU.kept hS.2.1)
  have hN' : vx_Zq Bundle.tN "SUPPRESSED_SENTINEL" Bundle.listD A s' s'.heap := by rw [hhp]; exact vx_Zq.moved hW0.alike (hN.kept hS.2.1)
  have h : ∀ w ∈ Bundle.ownAtoms0 own ic cls names, w.before args s' = true := vx_own hat' (vx_isRefq hU'.1) (vx_isRefq hN'.1) hU'.2.word hN'.2.word
  have hown' : s'.vm.findClass own = some m.cls := by rw [hvm]; exact hown
  have hins : (Cond.instantiable cls 6).before args s' = true := h _ (by simp [Bundle.ownAtoms0])
  obtain ⟨vm₁, cX, kX, hfX, hkX, -, -, X₁, st1⟩ := Y.newCold hexec (own := own) (C := cls) (index := ik) (n := 6) hown' hk' hins hini'
    (g := F0 m pc ls rest) rfl (by rw [hb]; exact d0) (Nat.le_refl _) (Nat.le_refl _)
  generalize hT1 : (T.setVm vm₁).pushCell { cls := cX, slots := kX.instanceTypes.map defaultValue, vm := .none } = T1 at X₁ st1
  have hcat : (Value.ref T.heap.size).category = 1 := rfl
  have hcellA : T1.heap[T.heap.size]? = some (freshCell cX kX) := by rw [← hT1]; exact State.heap_pushCell_size _ _
  have d3' : decode c.code (pc + 3) = .ok (.dup, 1) := by rw [hb]; exact d3
  obtain ⟨V, ce, L, Z, hL, hlt, hcl9, hvm9, st⟩ := vx_ctorMade0 X₁ hexec htr (own := own) (cls := cls) (names := names) (ic := ic) hown' hcls hnames h (fun x hx => nomatch hx) hfX hkX hcellA (by rw [hhp]; exact Nat.le_refl _)
    (g := { method := m, pc := pc + 4, locals := ls, stack := .ref T.heap.size :: .ref T.heap.size :: rest, locked := none }) rfl hsize (rest := rest) rfl
    (by rw [hb]; exact d4) hRframes (by simp only [List.map_cons, List.sum_cons, hcat]; omega)
  have Z0 := Stand.forget (locs := []) Z (fun y hy => by rw [hL y hy, hhp]; exact Nat.le_refl _)
  obtain ⟨f1, f2⟩ := vx_frame Z0.same
  rw [hhp] at f1 f2
  have hcid : ce.cls = D.1 ci := by
    rw [hcl9]
    have h1 := (hK.1 ci _ hc).2.1
    rw [hvm] at hfX
    exact Option.some.inj (hfX.symm.trans h1)
  have hh : (V.setCell T.heap.size ce).heap[T.heap.size]? = some ce := heapAt_setCell_self (s := V) ce hlt
  subst hA'
  have X5 := vx_back9 X Y Z0
  have X6 : Stand p l e R s m args below meth c (V.setCell T.heap.size ce) locs (cells + 1) (slots + 6) := { X5 with same := X5.same.mono (by omega) (by omega) }
  have hk9 : ∀ (k : Nat) (x : Nat × va_E), ws[k]? = some x → (V.setCell T.heap.size ce).heap[x.1]? = T.heap[x.1]? := fun k x hx => f2 x.1 ((hP k x hx).lt) (fun z hz => nomatch hz)
  obtain ⟨t, a1, b1⟩ := kk T.heap.size (V.setCell T.heap.size ce).heap ((hP.kept hk9).app (fun k x hx => by
      have hz : k < 1 := (List.getElem?_eq_some_iff.mp hx).1
      rw [show k = 0 by omega] at hx
      cases hx
      exact ⟨_, hc, ce, hh, hcid, hvm9, fun k hk => absurd hk (Nat.not_lt_zero k)⟩)) (hD.push hP rfl (hA _ hS.1)) ⟨Nat.le_trans hS.1 f1, fun q h1 h2 => (f2 q (Nat.lt_of_lt_of_le h1 hS.1) (fun z hz => nomatch hz)).trans (hS.2.1 q h1 h2), hS.2.2⟩ _ rfl X6
  refine ⟨t, st1 _ ?_, b1⟩
  show Steps p.tables e below (T1.setTop { method := m, pc := pc + 3, locals := ls, stack := .ref T.heap.size :: rest, locked := none }) _
  jvm_step X₁.here [X₁.here.top, hexec, d3', Value.category]
  exact st _ a1
/-- 'throw x' of an object that was made before -/
theorem vx_athrow {cc : ByteArray} {pc : Nat} (hexec : p.tables.exec = Jvm.exec) (hb : c.code = cc) {q : Addr} (hdg : decode cc pc = .ok (.athrow, 1)) (k : vx_W p l e R s m args below meth c H locs cells slots Q (F0 m pc ls rest) q) : W p l e R s m args below meth c H locs cells slots Q (F0 m pc ls (.ref q :: rest)) := by
  intro T hT X
  obtain ⟨t, st, hq⟩ := k T hT X
  refine ⟨t, ?_, hq⟩
  have hdg' : decode c.code pc = .ok (.athrow, 1) := by rw [hb]; exact hdg
  jvm_step X.here [X.here.top, hexec, hdg', athrow.wp_sem]
  exact st
end VXK2
/-! ===== END ===== -/
/-! ===== BEGIN a constructor that throws (launches without stack traces) ===== -/
section VXIA
variable {p : Program} {l : Launch} {e : Env} {R : Room} {s : State} {m : MethodId} {args : Array Value} {below : List Frame} {meth : Method} {c : Code} {T : State} {locs : List Loc} {cells slots : Nat}
theorem vx_callI (X : Stand p l e R s m args below meth c T locs cells slots) (hexec : p.tables.exec = Jvm.exec) {own : String} {index : Nat} {y : MethodName} {bytes : ByteArray} {maxL : Nat}
    (hown : s.vm.findClass own = some m.cls) (hy1 : y.name = "<init>") (hlink : (Cond.methodLink own index y).before args s = true) (hinst : (Cond.instanceMethod y).before args s = true)
    (hcode : (Cond.code y bytes maxL none).before args s = true) (hy : y.cls ≠ "java/lang/invoke/MethodHandle" ∧ y.cls ≠ "java/lang/invoke/VarHandle")
    {W9 : Nat} {Pre : Pt → Array Value → Prop} {Post : Pt → Array Value → Option Value → Pt → Prop} {PostX : Pt → Array Value → Addr → Pt → Prop} (hK : vx_Back l R p e below s args y 3 W9 Pre Post PostX)
    {g : JFrame} (hg : g.method = m) (hsize : g.locals.size = c.maxLocals) {a : Addr} {argsL rest : List Value} (hlen : ∀ sig, parseMethodDescriptor y.desc = some sig → argsL.length = sig.parameters.length)
    (hstack : g.stack = argsL.reverse ++ .ref a :: rest) (hW : 2 * g.monitorRoom + (rest.map fun v => v.category).sum ≤ W9) (hdg : decode c.code g.pc = .ok (.invokespecial index, 3))
    (hpre : ∀ vm₁, s.WarmedH vm₁ → Pre ⟨T.setVm vm₁, locs, cells, slots⟩ (Value.ref a :: argsL).toArray) :
    (∃ (v : Option Value) (vm₁ : Vm) (B : Pt), s.WarmedH vm₁ ∧ Stand p l e R s m args below meth c B.U B.locs B.cells B.slots ∧ Post ⟨T.setVm vm₁, locs, cells, slots⟩ (Value.ref a :: argsL).toArray v B ∧
      ∀ target, Steps p.tables e below (B.U.setTop { g with pc := g.pc + 3, stack := v.toList ++ rest }) target → Steps p.tables e below (T.setTop g) target) ∨
    (∃ (q : Addr) (vm₁ : Vm) (B : Pt), s.WarmedH vm₁ ∧ Stand p l e R s m args below meth c B.U B.locs B.cells B.slots ∧ PostX ⟨T.setVm vm₁, locs, cells, slots⟩ (Value.ref a :: argsL).toArray q B ∧
      Steps p.tables e below (T.setTop g) ((B.U.setTop { g with stack := rest }).pushFrame (.throwing q))) := by
  subst hg
  have hpl : e.platform.magicAccessors = ({} : Platform).magicAccessors := by rw [X.admits.platform]
  obtain ⟨mk, methM, cM, kP, vm₁, hnamed, hmethM, hcodeM, -, hlocalsM, -, hkP, -, hW₁, hstep₁⟩ := Steps.initColdArgs (e := e) X.here hexec X.warmed hpl hown hy1 hy hlink hinst hcode (f := g) rfl hlen hstack hdg
  have X₁ := X.noted hW₁
  rcases hK g.method meth c ⟨T.setVm vm₁, locs, cells, slots⟩ { g with stack := rest } (.invokespecial index) mk (Value.ref a :: argsL).toArray X₁ rfl hsize hdg hW (X₁.named hnamed) (hpre vm₁ X₁.warmed) with ⟨v, B, X', hpost, hsteps⟩ | ⟨q, B, X', hpost, hsteps⟩
  · exact Or.inl ⟨v, vm₁, B, X₁.warmed, X', hpost, fun target h => hstep₁ _ fun acts => by rw [doInvoke_state]; exact hsteps.trans h⟩
  · exact Or.inr ⟨q, vm₁, B, X₁.warmed, X', hpost, hstep₁ _ fun acts => by rw [doInvoke_state]; exact hsteps⟩
end VXIA
section VXIB
variable {p : Program} {l : Launch} {e : Env} {R : Room} {s : State} {m : MethodId} {args : Array Value} {below : List Frame} {meth : Method} {c : Code} {H : Heap} {locs : List Loc} {cells slots : Nat}
variable {y : MethodName} {bytes cc : ByteArray} {maxL nL mc ms n index : Nat} {ret : Option FieldType} {ws : List Cond} {rm : Room} {Pc : Array Value → State → Prop} {Qc : Array Value → State → Outcome → State → Prop} {XC : String → State → State → Prop} {free : Addr → Prop} {Ts : List Cond} {own C : String} {b : Addr} {As rest : List Value} {g : JFrame}
theorem vx_runI (S : CallFix p m c cc nL s args Ts own) (hM : vx_Met l y ws rm Pc Qc XC mc ms free) (cw : CallB R s args own index y bytes maxL none ws rm mc ms n ∧ y.name = "<init>" ∧ (Cond.instanceMethod y).before args s = true) (hp : PreS s H Pc (.ref b :: As))
    (hg : g.method = m) (hn : As.length = n) (hsize : g.locals.size = nL) (hstack : g.stack = As.reverse ++ .ref b :: rest) (hW : 2 * g.monitorRoom + (rest.map fun v => v.category).sum ≤ 8) (hdg : decode cc g.pc = .ok (.invokespecial index, 3)) (hf : cells + mc ≤ R.cells ∧ slots + ms ≤ R.slots) :
    vx_Run p l e R s m args below meth c H locs cells slots mc ms g rest (Qc (Value.ref b :: As).toArray) XC free := by
  have hK : vx_Back l R p e below s args y 3 8 (PreOf R mc ms Pc) (PostOf Qc mc ms free) (vx_Post XC mc ms free) := vx_callBack cw.1 hM hp.1
  obtain ⟨⟨-, -, -, -, -, -, hcode, -, hy, hlen, hl⟩, hy1, hin⟩ := cw
  obtain ⟨hx, hb, hml, ho, -⟩ := S
  have hPc := hp.2
  intro T hT X
  rcases vx_callI X hx (bytes := bytes) (maxL := maxL) ho hy1 hl hin hcode hy hK hg (hsize.trans hml.symm) (a := b) (argsL := As) (rest := rest) (fun sig h => hn.trans (hlen sig h)) hstack hW (by rw [hb]; exact hdg)
    (fun vm₁ hW₁ => ⟨hf.1, hf.2, hPc (T.setVm vm₁) hT hW₁⟩) with ⟨v, vm₁, ⟨U', l2, c2, s2⟩, hW₁, X', ⟨g', mk, t, L, e1, e2, hq, h1, hL, h2, h3⟩, st⟩ | ⟨q, vm₁, ⟨U', l2, c2, s2⟩, hW₁, X', ⟨g', mk, t, L, E, ce, e1, e2, hq, hce, hcv, hcl, h1, hL, h2, h3⟩, st⟩
  · dsimp only [Pt.U, Pt.locs, Pt.cells, Pt.slots] at X' e1 e2 h1 h2 h3 st
    subst h1; subst h2; subst h3
    exact Or.inl ⟨v, (T.setVm vm₁).calling g' mk (Value.ref b :: As).toArray, t, U', L, hT, X', hL, e1, e2, hq, st⟩
  · dsimp only [Pt.U, Pt.locs, Pt.cells, Pt.slots] at X' e1 e2 h1 h2 h3 st hcl
    subst h1; subst h2; subst h3
    exact Or.inr ⟨q, (T.setVm vm₁).calling g' mk (Value.ref b :: As).toArray, t, U', L, E, ce, hT, X', hL, e1, e2, hq, hce, hcv, vx_cls hW₁ hcl, st⟩
end VXIB
/-! ===== END ===== -/
/-! ===== BEGIN a private constructor of a nest mate that throws ===== -/
section VXIC
variable {p : Program} {l : Launch} {e : Env} {R : Room} {s : State} {m : MethodId} {args : Array Value} {below : List Frame} {meth : Method} {c : Code} {T : State} {locs : List Loc} {cells slots : Nat}
theorem vx_callIN (X : Stand p l e R s m args below meth c T locs cells slots) (hexec : p.tables.exec = Jvm.exec) {own : String} {index : Nat} {host : String} {y : MethodName} {bytes : ByteArray} {maxL : Nat}
    (hown : s.vm.findClass own = some m.cls) (hy1 : y.name = "<init>") (hlink : (Cond.methodLinkNest own index y host).before args s = true) (hinst : (Cond.instanceMethod y).before args s = true)
    (hcode : (Cond.code y bytes maxL none).before args s = true) (hy : y.cls ≠ "java/lang/invoke/MethodHandle" ∧ y.cls ≠ "java/lang/invoke/VarHandle")
    {W9 : Nat} {Pre : Pt → Array Value → Prop} {Post : Pt → Array Value → Option Value → Pt → Prop} {PostX : Pt → Array Value → Addr → Pt → Prop} (hK : vx_Back l R p e below s args y 3 W9 Pre Post PostX)
    {g : JFrame} (hg : g.method = m) (hsize : g.locals.size = c.maxLocals) {a : Addr} {argsL rest : List Value} (hlen : ∀ sig, parseMethodDescriptor y.desc = some sig → argsL.length = sig.parameters.length)
    (hstack : g.stack = argsL.reverse ++ .ref a :: rest) (hW : 2 * g.monitorRoom + (rest.map fun v => v.category).sum ≤ W9) (hdg : decode c.code g.pc = .ok (.invokespecial index, 3))
    (hpre : ∀ vm₁, s.WarmedH vm₁ → Pre ⟨T.setVm vm₁, locs, cells, slots⟩ (Value.ref a :: argsL).toArray) :
    (∃ (v : Option Value) (vm₁ : Vm) (B : Pt), s.WarmedH vm₁ ∧ Stand p l e R s m args below meth c B.U B.locs B.cells B.slots ∧ Post ⟨T.setVm vm₁, locs, cells, slots⟩ (Value.ref a :: argsL).toArray v B ∧
      ∀ target, Steps p.tables e below (B.U.setTop { g with pc := g.pc + 3, stack := v.toList ++ rest }) target → Steps p.tables e below (T.setTop g) target) ∨
    (∃ (q : Addr) (vm₁ : Vm) (B : Pt), s.WarmedH vm₁ ∧ Stand p l e R s m args below meth c B.U B.locs B.cells B.slots ∧ PostX ⟨T.setVm vm₁, locs, cells, slots⟩ (Value.ref a :: argsL).toArray q B ∧
      Steps p.tables e below (T.setTop g) ((B.U.setTop { g with stack := rest }).pushFrame (.throwing q))) := by
  subst hg
  have hpl : e.platform.magicAccessors = ({} : Platform).magicAccessors := by rw [X.admits.platform]
  obtain ⟨mk, methM, cM, kP, vm₁, hnamed, hmethM, hcodeM, -, hlocalsM, -, hkP, -, hW₁, hstep₁⟩ := Steps.initColdArgsNest (e := e) X.here hexec X.warmed hpl hown hy1 hy hlink hinst hcode (f := g) rfl hlen hstack hdg
  have X₁ := X.noted hW₁
  rcases hK g.method meth c ⟨T.setVm vm₁, locs, cells, slots⟩ { g with stack := rest } (.invokespecial index) mk (Value.ref a :: argsL).toArray X₁ rfl hsize hdg hW (X₁.named hnamed) (hpre vm₁ X₁.warmed) with ⟨v, B, X', hpost, hsteps⟩ | ⟨q, B, X', hpost, hsteps⟩
  · exact Or.inl ⟨v, vm₁, B, X₁.warmed, X', hpost, fun target h => hstep₁ _ fun acts => by rw [doInvoke_state]; exact hsteps.trans h⟩
  · exact Or.inr ⟨q, vm₁, B, X₁.warmed, X', hpost, hstep₁ _ fun acts => by rw [doInvoke_state]; exact hsteps⟩
end VXIC
section VXID
variable {p : Program} {l : Launch} {e : Env} {R : Room} {s : State} {m : MethodId} {args : Array Value} {below : List Frame} {meth : Method} {c : Code} {H : Heap} {locs : List Loc} {cells slots : Nat}
theorem vx_runIN {y : MethodName} {bytes cc : ByteArray} {maxL nL mc ms n index : Nat} {ws : List Cond} {rm : Room} {Pc : Array Value → State → Prop} {Qc : Array Value → State → Outcome → State → Prop} {XC : String → State → State → Prop} {free : Addr → Prop} {Ts : List Cond} {own host : String} {b : Addr} {As rest : List Value} {g : JFrame}
    (S : CallFix p m c cc nL s args Ts own) (hM : vx_Met l y ws rm Pc Qc XC mc ms free) (cw : va_CN R s args own index y host bytes maxL none ws rm mc ms n ∧ y.name = "<init>" ∧ (Cond.instanceMethod y).before args s = true) (hp : PreS s H Pc (.ref b :: As))
    (hg : g.method = m) (hn : As.length = n) (hsize : g.locals.size = nL) (hstack : g.stack = As.reverse ++ .ref b :: rest) (hW : 2 * g.monitorRoom + (rest.map fun v => v.category).sum ≤ 8) (hdg : decode cc g.pc = .ok (.invokespecial index, 3)) (hf : cells + mc ≤ R.cells ∧ slots + ms ≤ R.slots) :
    vx_Run p l e R s m args below meth c H locs cells slots mc ms g rest (Qc (Value.ref b :: As).toArray) XC free := by
  obtain ⟨⟨⟨hrc, hrs, hfr, hlo, hws, hcw⟩, hcode, hini, hy, hlen, hl⟩, hx1, hx2⟩ := cw
  have hK : vx_Back l R p e below s args y 3 8 (PreOf R mc ms Pc) (PostOf Qc mc ms free) (vx_Post XC mc ms free) := vx_back (bytes := bytes) (maxL := maxL) (ret := none) hM hp.1 hrc hrs hfr hlo hws hcw (fun a' U hW => word_at hW (Or.inl (by first | rfl | simp [Cond.onTables, Cond.keeps, Cond.steady])) hini)
  obtain ⟨hx, hb, hml, ho, -⟩ := S
  have hPc := hp.2
  intro T hT X
  rcases vx_callIN X hx (bytes := bytes) (maxL := maxL) ho hx1 hl hx2 hcode hy hK hg (hsize.trans hml.symm) (a := b) (argsL := As) (rest := rest) (fun sig h => hn.trans (hlen sig h)) hstack hW (by rw [hb]; exact hdg)
    (fun vm₁ hW₁ => ⟨hf.1, hf.2, hPc (T.setVm vm₁) hT hW₁⟩) with ⟨v, vm₁, ⟨U', l2, c2, s2⟩, hW₁, X', ⟨g', mk, t, L, e1, e2, hq, h1, hL, h2, h3⟩, st⟩ | ⟨q, vm₁, ⟨U', l2, c2, s2⟩, hW₁, X', ⟨g', mk, t, L, E, ce, e1, e2, hq, hce, hcv, hcl, h1, hL, h2, h3⟩, st⟩
  · dsimp only [Pt.U, Pt.locs, Pt.cells, Pt.slots] at X' e1 e2 h1 h2 h3 st
    subst h1; subst h2; subst h3
    exact Or.inl ⟨v, (T.setVm vm₁).calling g' mk (Value.ref b :: As).toArray, t, U', L, hT, X', hL, e1, e2, hq, st⟩
  · dsimp only [Pt.U, Pt.locs, Pt.cells, Pt.slots] at X' e1 e2 h1 h2 h3 st hcl
    subst h1; subst h2; subst h3
    exact Or.inr ⟨q, (T.setVm vm₁).calling g' mk (Value.ref b :: As).toArray, t, U', L, E, ce, hT, X', hL, e1, e2, hq, hce, hcv, vx_cls hW₁ hcl, st⟩
end VXID
/-! ===== END ===== -/
/-! ===== BEGIN a method of a class above, found by the receiver, that may throw (follows va_callVU, va_runU of this kit) ===== -/
section
variable {p : Program} {l : Launch} {e : Env} {R : Room} {s : State} {m : MethodId} {args : Array Value} {below : List Frame} {meth : Method} {c : Code} {H : Heap} {locs : List Loc} {cells slots : Nat}
theorem vx_callVU {T : State} {locs : List Loc} {cells slots : Nat} (X : Stand p l e R s m args below meth c T locs cells slots) (hexec : p.tables.exec = Jvm.exec) {own C owner : String} {index : Nat} {x y : MethodName} {bytes : ByteArray} {maxL : Nat} {ret : Option FieldType}
    (hown : s.vm.findClass own = some m.cls) (hlink : (Cond.methodLink own index x).before args s = true) (hsame : (Cond.sameMethod x.cls owner x.name x.desc).before args s = true)
    (hd0 : va_Decl s ⟨owner, x.name, x.desc⟩) (howner : owner ≠ "java/lang/invoke/MethodHandle" ∧ owner ≠ "java/lang/invoke/VarHandle")
    (hsel : (Cond.selects C x y).before args s = true) (hinst : (Cond.instanceMethod y).before args s = true) (hcode : (Cond.code y bytes maxL ret).before args s = true)
    {W : Nat} {Pre : Pt → Array Value → Prop} {Post : Pt → Array Value → Option Value → Pt → Prop} {PostX : Pt → Array Value → Addr → Pt → Prop} (hK : vx_Back l R p e below s args y 3 W Pre Post PostX)
    {b : Addr} {cellB : Cell} (hcell : T.heap[b]? = some cellB) (hobj : cellB.vm.isStatics = false) (hcls : s.vm.findClass C = some cellB.cls)
    {g : JFrame} (hg : g.method = m) (hsize : g.locals.size = c.maxLocals) {argsL rest : List Value} (hlen : ∀ sig, parseMethodDescriptor x.desc = some sig → argsL.length = sig.parameters.length)
    (hstack : g.stack = argsL.reverse ++ .ref b :: rest) (hW : 2 * g.monitorRoom + (rest.map fun v => v.category).sum ≤ W) (hdg : decode c.code g.pc = .ok (.invokevirtual index, 3))
    (hpre : ∀ vm₁, s.WarmedH vm₁ → Pre ⟨T.setVm vm₁, locs, cells, slots⟩ (Value.ref b :: argsL).toArray) :
    (∃ (v : Option Value) (vm₁ : Vm) (B : Pt), s.WarmedH vm₁ ∧ Stand p l e R s m args below meth c B.U B.locs B.cells B.slots ∧ Post ⟨T.setVm vm₁, locs, cells, slots⟩ (Value.ref b :: argsL).toArray v B ∧
      ∀ target, Steps p.tables e below (B.U.setTop { g with pc := g.pc + 3, stack := v.toList ++ rest }) target → Steps p.tables e below (T.setTop g) target) ∨
    (∃ (q : Addr) (vm₁ : Vm) (B : Pt), s.WarmedH vm₁ ∧ Stand p l e R s m args below meth c B.U B.locs B.cells B.slots ∧ PostX ⟨T.setVm vm₁, locs, cells, slots⟩ (Value.ref b :: argsL).toArray q B ∧
      Steps p.tables e below (T.setTop g) ((B.U.setTop { g with stack := rest }).pushFrame (.throwing q))) := by
  obtain ⟨r0, r, hn, hrm, hstR, hsigR⟩ := hd0
  obtain ⟨cn, ck, r1, hcn, hck, hni, hf, hn1⟩ := Cond.sameMethod_found hsame
  cases hn.symm.trans hn1
  obtain ⟨mk, methM, hnamed, hmethM, -, habM⟩ := Cond.instanceMethod_spec hinst
  obtain ⟨c2, r2, m2, q1, q2, q3, q4, kP, hkP, hkPi⟩ := Cond.selects_spec hsel
  cases hcls.symm.trans q1
  cases hf.symm.trans q2
  cases hnamed.symm.trans q3
  have hselP : selectMethod e.platform s.vm cellB.cls r0 = .method mk := by rw [Launch.admits_selectMethod X.admits]; exact q4
  obtain ⟨vm₁, X₁, hstep₁⟩ := X.invokevirtualUp hexec hown hlink hsame howner hn hrm hstR (a := b) (cell := cellB) hcell
    (fun z h => by rw [h] at hobj; cases hobj) hselP hmethM habM hkP hkPi (g := g) hg (argsL := argsL) (rest := rest) (hlen _ hsigR) hstack hdg
  rcases hK m meth c ⟨T.setVm vm₁, locs, cells, slots⟩ { g with stack := rest } (.invokevirtual index) mk (Value.ref b :: argsL).toArray X₁ hg hsize hdg hW (X₁.named hnamed) (hpre vm₁ X₁.warmed) with ⟨v, B, X', hpost, hsteps⟩ | ⟨q, B, X', hpost, hsteps⟩
  · exact Or.inl ⟨v, vm₁, B, X₁.warmed, X', hpost, fun target h => hstep₁ _ fun acts => by rw [doInvoke_state]; exact hsteps.trans h⟩
  · exact Or.inr ⟨q, vm₁, B, X₁.warmed, X', hpost, hstep₁ _ fun acts => by rw [doInvoke_state]; exact hsteps⟩
theorem vx_runU {x y : MethodName} {bytes cc : ByteArray} {maxL nL mc ms n index : Nat} {ret : Option FieldType} {ws : List Cond} {rm : Room} {Pc : Array Value → State → Prop} {Qc : Array Value → State → Outcome → State → Prop} {XC : String → State → State → Prop} {free : Addr → Prop} {Ts : List Cond} {own C owner : String} {b : Addr} {As rest : List Value} {g : JFrame}
    (S : CallFix p m c cc nL s args Ts own) (hM : vx_Met l y ws rm Pc Qc XC mc ms free) (cw : va_CU R s args own C owner index x y bytes maxL ret ws rm mc ms n) (hp : PreV s H C b Pc As)
    (hg : g.method = m) (hn : As.length = n) (hsize : g.locals.size = nL) (hstack : g.stack = As.reverse ++ .ref b :: rest) (hW : 2 * g.monitorRoom + (rest.map fun v => v.category).sum ≤ 8) (hdg : decode cc g.pc = .ok (.invokevirtual index, 3)) (hf : cells + mc ≤ R.cells ∧ slots + ms ≤ R.slots) :
    vx_Run p l e R s m args below meth c H locs cells slots mc ms g rest (Qc (Value.ref b :: As).toArray) XC free := by
  obtain ⟨hrc, hrs, hfr, hlo, hws, hcw⟩ := cw.back
  have hini := cw.init
  have hK : vx_Back l R p e below s args y 3 8 (PreOf R mc ms Pc) (PostOf Qc mc ms free) (vx_Post XC mc ms free) := vx_back (bytes := bytes) (maxL := maxL) (ret := ret) hM hp.1 hrc hrs hfr hlo hws hcw (fun a' U hW => word_at hW (Or.inl (by first | rfl | simp [Cond.onTables, Cond.keeps, Cond.steady])) hini)
  obtain ⟨hx, hb, hml, ho, -⟩ := S
  obtain ⟨-, ⟨cellB, hcB, hoB, hclB⟩, hPc⟩ := hp
  intro T hT X
  rcases vx_callVU X hx (C := C) (owner := owner) (bytes := bytes) (maxL := maxL) (ret := ret) ho cw.link cw.same cw.decl cw.notMH cw.sel cw.inst cw.code hK (by rw [hT]; exact hcB) hoB hclB hg (hsize.trans hml.symm) (argsL := As) (rest := rest) (fun sig h => hn.trans (cw.len sig h)) hstack hW (by rw [hb]; exact hdg)
    (fun vm₁ hW₁ => ⟨hf.1, hf.2, hPc (T.setVm vm₁) hT hW₁⟩) with ⟨v, vm₁, ⟨U', l2, c2, s2⟩, hW₁, X', ⟨g', mk, t, L, e1, e2, hq, h1, hL, h2, h3⟩, st⟩ | ⟨q, vm₁, ⟨U', l2, c2, s2⟩, hW₁, X', ⟨g', mk, t, L, E, ce, e1, e2, hq, hce, hcv, hcl, h1, hL, h2, h3⟩, st⟩
  · dsimp only [Pt.U, Pt.locs, Pt.cells, Pt.slots] at X' e1 e2 h1 h2 h3 st
    subst h1; subst h2; subst h3
    exact Or.inl ⟨v, (T.setVm vm₁).calling g' mk (Value.ref b :: As).toArray, t, U', L, hT, X', hL, e1, e2, hq, st⟩
  · dsimp only [Pt.U, Pt.locs, Pt.cells, Pt.slots] at X' e1 e2 h1 h2 h3 st hcl
    subst h1; subst h2; subst h3
    exact Or.inr ⟨q, (T.setVm vm₁).calling g' mk (Value.ref b :: As).toArray, t, U', L, E, ce, hT, X', hL, e1, e2, hq, hce, hcv, vx_cls hW₁ hcl, st⟩
end
/-! ===== END ===== -/
/-! ===== BEGIN super.m(..) that may throw (follows va_callSU, va_runSU) ===== -/
section
variable {p : Program} {l : Launch} {e : Env} {R : Room} {s : State} {m : MethodId} {args : Array Value} {below : List Frame} {meth : Method} {c : Code} {H : Heap} {locs : List Loc} {cells slots : Nat}
theorem vx_callSU {T : State} {locs : List Loc} {cells slots : Nat} (X : Stand p l e R s m args below meth c T locs cells slots) (hexec : p.tables.exec = Jvm.exec) {own : String} {index : Nat} {y : MethodName} {bytes : ByteArray} {maxL : Nat} {ret : Option FieldType}
    (hown : s.vm.findClass own = some m.cls) (hlink : (Cond.methodLink own index y).before args s = true) (hsame : (Cond.sameMethod y.cls y.cls y.name y.desc).before args s = true) (hsup : (Cond.superclass own y.cls).before args s = true)
    (hinst : (Cond.instanceMethod y).before args s = true) (hcode : (Cond.code y bytes maxL ret).before args s = true) (hno : y.name ≠ "<init>")
    {W : Nat} {Pre : Pt → Array Value → Prop} {Post : Pt → Array Value → Option Value → Pt → Prop} {PostX : Pt → Array Value → Addr → Pt → Prop} (hK : vx_Back l R p e below s args y 3 W Pre Post PostX)
    {b : Addr} {cellB : Cell} {kB : Class} (hcell : T.heap[b]? = some cellB) (hobj : cellB.vm.isStatics = false) (hkB : s.vm.classes[cellB.cls]? = some kB)
    {g : JFrame} (hg : g.method = m) (hsize : g.locals.size = c.maxLocals) {argsL rest : List Value} (hlen : ∀ sig, parseMethodDescriptor y.desc = some sig → argsL.length = sig.parameters.length)
    (hstack : g.stack = argsL.reverse ++ .ref b :: rest) (hW : 2 * g.monitorRoom + (rest.map fun v => v.category).sum ≤ W) (hdg : decode c.code g.pc = .ok (.invokespecial index, 3))
    (hpre : ∀ vm₁, s.WarmedH vm₁ → Pre ⟨T.setVm vm₁, locs, cells, slots⟩ (Value.ref b :: argsL).toArray) :
    (∃ (v : Option Value) (vm₁ : Vm) (B : Pt), s.WarmedH vm₁ ∧ Stand p l e R s m args below meth c B.U B.locs B.cells B.slots ∧ Post ⟨T.setVm vm₁, locs, cells, slots⟩ (Value.ref b :: argsL).toArray v B ∧
      ∀ target, Steps p.tables e below (B.U.setTop { g with pc := g.pc + 3, stack := v.toList ++ rest }) target → Steps p.tables e below (T.setTop g) target) ∨
    (∃ (q : Addr) (vm₁ : Vm) (B : Pt), s.WarmedH vm₁ ∧ Stand p l e R s m args below meth c B.U B.locs B.cells B.slots ∧ PostX ⟨T.setVm vm₁, locs, cells, slots⟩ (Value.ref b :: argsL).toArray q B ∧
      Steps p.tables e below (T.setTop g) ((B.U.setTop { g with stack := rest }).pushFrame (.throwing q))) := by
  obtain ⟨mk, methM, hnamed, hmethM, hstM, habM⟩ := Cond.instanceMethod_spec hinst
  obtain ⟨methM', cM, hmethM', -, -, -, -, -, -, hsigM⟩ := Cond.code_spec hnamed hcode
  cases hmethM.symm.trans hmethM'
  obtain ⟨ps, dk, kp, hps, hdk, hkp, hsuper, -, -, hnid⟩ := Cond.superclass_spec hown hsup
  have hn : s.methodNamed? ⟨y.cls, y.name, y.desc⟩ = some mk := hnamed
  have hpm : ps = mk.cls := Option.some.inj (hps.symm.trans (findClass_of_methodNamed hnamed))
  have hsub : s.vm.isSubclass ps mk.cls = true := by rw [hpm]; simp [Vm.isSubclass, Vm.isSubclassAux]
  obtain ⟨vm₁, X₁, hstep₁⟩ := X.invokespecialUp hexec hown hlink hsame hn hmethM hstM habM hno hdk hnid hps hsuper hsub (a := b) (cell := cellB) hcell
    (fun z h => by rw [h] at hobj; cases hobj) hkB (g := g) hg (argsL := argsL) (rest := rest) (hlen _ hsigM) hstack hdg
  rcases hK m meth c ⟨T.setVm vm₁, locs, cells, slots⟩ { g with stack := rest } (.invokespecial index) mk (Value.ref b :: argsL).toArray X₁ hg hsize hdg hW (X₁.named hnamed) (hpre vm₁ X₁.warmed) with ⟨v, B, X', hpost, hsteps⟩ | ⟨q, B, X', hpost, hsteps⟩
  · exact Or.inl ⟨v, vm₁, B, X₁.warmed, X', hpost, fun target h => hstep₁ _ (by rw [doInvoke_state]; exact hsteps.trans h)⟩
  · exact Or.inr ⟨q, vm₁, B, X₁.warmed, X', hpost, hstep₁ _ (by rw [doInvoke_state]; exact hsteps)⟩
theorem vx_runSU {y : MethodName} {bytes cc : ByteArray} {maxL nL mc ms n index : Nat} {ret : Option FieldType} {ws : List Cond} {rm : Room} {Pc : Array Value → State → Prop} {Qc : Array Value → State → Outcome → State → Prop} {XC : String → State → State → Prop} {free : Addr → Prop} {Ts : List Cond} {own C : String} {cC : ClassId} {b : Addr} {As rest : List Value} {g : JFrame}
    (hat : ClassAt s C cC) (S : CallFix p m c cc nL s args Ts own) (hM : vx_Met l y ws rm Pc Qc XC mc ms free) (cw : va_CS R s args own index y bytes maxL ret ws rm mc ms n) (hp : PreV s H C b Pc As)
    (hg : g.method = m) (hn : As.length = n) (hsize : g.locals.size = nL) (hstack : g.stack = As.reverse ++ .ref b :: rest) (hW : 2 * g.monitorRoom + (rest.map fun v => v.category).sum ≤ 8) (hdg : decode cc g.pc = .ok (.invokespecial index, 3)) (hf : cells + mc ≤ R.cells ∧ slots + ms ≤ R.slots) :
    vx_Run p l e R s m args below meth c H locs cells slots mc ms g rest (Qc (Value.ref b :: As).toArray) XC free := by
  obtain ⟨⟨hrc, hrs, hfr, hlo, hws, hcw⟩, hl1, hl2, hl3, hl4, hini, hcode, hno, hlen⟩ := cw
  have hK : vx_Back l R p e below s args y 3 8 (PreOf R mc ms Pc) (PostOf Qc mc ms free) (vx_Post XC mc ms free) := vx_back (bytes := bytes) (maxL := maxL) (ret := ret) hM hp.1 hrc hrs hfr hlo hws hcw (fun a' U hW => word_at hW (Or.inl (by first | rfl | simp [Cond.onTables, Cond.keeps, Cond.steady])) hini)
  obtain ⟨hx, hb, hml, ho, -⟩ := S
  obtain ⟨-, ⟨cellB, hcB, hoB, hclB⟩, hPc⟩ := hp
  obtain ⟨hfc, kB, hkB, -⟩ := hat
  cases hfc.symm.trans hclB
  intro T hT X
  rcases vx_callSU X hx (bytes := bytes) (maxL := maxL) (ret := ret) ho hl1 hl2 hl3 hl4 hcode hno hK (by rw [hT]; exact hcB) hoB hkB hg (hsize.trans hml.symm) (argsL := As) (rest := rest) (fun sig h => hn.trans (hlen sig h)) hstack hW (by rw [hb]; exact hdg)
    (fun vm₁ hW₁ => ⟨hf.1, hf.2, hPc (T.setVm vm₁) hT hW₁⟩) with ⟨v, vm₁, ⟨U', l2, c2, s2⟩, hW₁, X', ⟨g', mk, t, L, e1, e2, hq, h1, hL, h2, h3⟩, st⟩ | ⟨q, vm₁, ⟨U', l2, c2, s2⟩, hW₁, X', ⟨g', mk, t, L, E, ce, e1, e2, hq, hce, hcv, hcl, h1, hL, h2, h3⟩, st⟩
  · dsimp only [Pt.U, Pt.locs, Pt.cells, Pt.slots] at X' e1 e2 h1 h2 h3 st
    subst h1; subst h2; subst h3
    exact Or.inl ⟨v, (T.setVm vm₁).calling g' mk (Value.ref b :: As).toArray, t, U', L, hT, X', hL, e1, e2, hq, st⟩
  · dsimp only [Pt.U, Pt.locs, Pt.cells, Pt.slots] at X' e1 e2 h1 h2 h3 st hcl
    subst h1; subst h2; subst h3
    exact Or.inr ⟨q, (T.setVm vm₁).calling g' mk (Value.ref b :: As).toArray, t, U', L, E, ce, hT, X', hL, e1, e2, hq, hce, hcv, vx_cls hW₁ hcl, st⟩
end
/-! ===== END ===== -/
/-! ===== BEGIN a private method of a nest mate that may throw (follows va_callVN, va_callSN, va_runVN, va_runSN) ===== -/
section
variable {p : Program} {l : Launch} {e : Env} {R : Room} {s : State} {m : MethodId} {args : Array Value} {below : List Frame} {meth : Method} {c : Code} {H : Heap} {locs : List Loc} {cells slots : Nat}
variable {T : State}
theorem vx_callVN (X : Stand p l e R s m args below meth c T locs cells slots) (hexec : p.tables.exec = Jvm.exec) {own C : String} {index : Nat} {host : String} {y : MethodName} {bytes : ByteArray} {maxL : Nat} {ret : Option FieldType}
    (hown : s.vm.findClass own = some m.cls) (hlink : (Cond.methodLinkNest own index y host).before args s = true) (hinst : (Cond.instanceMethod y).before args s = true) (hsel : (Cond.selects C y y).before args s = true)
    (hcode : (Cond.code y bytes maxL ret).before args s = true) (hy : y.cls ≠ "java/lang/invoke/MethodHandle" ∧ y.cls ≠ "java/lang/invoke/VarHandle")
    {W : Nat} {Pre : Pt → Array Value → Prop} {Post : Pt → Array Value → Option Value → Pt → Prop} {PostX : Pt → Array Value → Addr → Pt → Prop} (hK : vx_Back l R p e below s args y 3 W Pre Post PostX)
    {b : Addr} {cellB : Cell} (hcell : T.heap[b]? = some cellB) (hobj : cellB.vm.isStatics = false) (hcls : s.vm.findClass C = some cellB.cls)
    {g : JFrame} (hg : g.method = m) (hsize : g.locals.size = c.maxLocals) {argsL rest : List Value} (hlen : ∀ sig, parseMethodDescriptor y.desc = some sig → argsL.length = sig.parameters.length)
    (hstack : g.stack = argsL.reverse ++ .ref b :: rest) (hW : 2 * g.monitorRoom + (rest.map fun v => v.category).sum ≤ W) (hdg : decode c.code g.pc = .ok (.invokevirtual index, 3))
    (hpre : ∀ vm₁, s.WarmedH vm₁ → Pre ⟨T.setVm vm₁, locs, cells, slots⟩ (Value.ref b :: argsL).toArray) :
    (∃ (v : Option Value) (vm₁ : Vm) (B : Pt), s.WarmedH vm₁ ∧ Stand p l e R s m args below meth c B.U B.locs B.cells B.slots ∧ Post ⟨T.setVm vm₁, locs, cells, slots⟩ (Value.ref b :: argsL).toArray v B ∧
      ∀ target, Steps p.tables e below (B.U.setTop { g with pc := g.pc + 3, stack := v.toList ++ rest }) target → Steps p.tables e below (T.setTop g) target) ∨
    (∃ (q : Addr) (vm₁ : Vm) (B : Pt), s.WarmedH vm₁ ∧ Stand p l e R s m args below meth c B.U B.locs B.cells B.slots ∧ PostX ⟨T.setVm vm₁, locs, cells, slots⟩ (Value.ref b :: argsL).toArray q B ∧
      Steps p.tables e below (T.setTop g) ((B.U.setTop { g with stack := rest }).pushFrame (.throwing q))) := by
  obtain ⟨mk, methM, hnamed, hmethM, hstM, habM⟩ := Cond.instanceMethod_spec hinst
  obtain ⟨methM', cM, hmethM', -, -, -, -, -, -, hsigM⟩ := Cond.code_spec hnamed hcode
  cases hmethM.symm.trans hmethM'
  obtain ⟨c2, r2, m2, q1, q2, q3, q4, kP, hkP, hkPi⟩ := Cond.selects_spec hsel
  cases hcls.symm.trans q1
  cases (State.methodFound?_of_named hnamed hy).symm.trans q2
  cases hnamed.symm.trans q3
  have hselP : selectMethod e.platform s.vm cellB.cls mk = .method mk := by rw [Launch.admits_selectMethod X.admits]; exact q4
  obtain ⟨vm₁, X₁, hstep₁⟩ := X.invokevirtualNest hexec hown hlink hnamed hmethM hstM hkP hkPi hy (a := b) (cell := cellB) hcell
    (fun z h => by rw [h] at hobj; cases hobj) hselP hmethM habM hkP hkPi (g := g) hg (argsL := argsL) (rest := rest) (hlen _ hsigM) hstack hdg
  rcases hK m meth c ⟨T.setVm vm₁, locs, cells, slots⟩ { g with stack := rest } (.invokevirtual index) mk (Value.ref b :: argsL).toArray X₁ hg hsize hdg hW (X₁.named hnamed) (hpre vm₁ X₁.warmed) with ⟨v, B, X', hpost, hsteps⟩ | ⟨q, B, X', hpost, hsteps⟩
  · exact Or.inl ⟨v, vm₁, B, X₁.warmed, X', hpost, fun target h => hstep₁ _ fun acts => by rw [doInvoke_state]; exact hsteps.trans h⟩
  · exact Or.inr ⟨q, vm₁, B, X₁.warmed, X', hpost, hstep₁ _ fun acts => by rw [doInvoke_state]; exact hsteps⟩
theorem vx_callSN (X : Stand p l e R s m args below meth c T locs cells slots) (hexec : p.tables.exec = Jvm.exec) {own : String} {index : Nat} {host : String} {y : MethodName} {bytes : ByteArray} {maxL : Nat} {ret : Option FieldType}
    (hown : s.vm.findClass own = some m.cls) (hlink : (Cond.methodLinkNest own index y host).before args s = true) (hstat : (Cond.static y).before args s = true) (hinit : (Cond.initialized y.cls).before args s = true)
    (hcode : (Cond.code y bytes maxL ret).before args s = true) (hy : y.cls ≠ "java/lang/invoke/MethodHandle" ∧ y.cls ≠ "java/lang/invoke/VarHandle")
    {W : Nat} {Pre : Pt → Array Value → Prop} {Post : Pt → Array Value → Option Value → Pt → Prop} {PostX : Pt → Array Value → Addr → Pt → Prop} (hK : vx_Back l R p e below s args y 3 W Pre Post PostX)
    {g : JFrame} (hg : g.method = m) (hsize : g.locals.size = c.maxLocals) {argsL rest : List Value} (hlen : ∀ sig, parseMethodDescriptor y.desc = some sig → argsL.length = sig.parameters.length)
    (hstack : g.stack = argsL.reverse ++ rest) (hW : 2 * g.monitorRoom + (rest.map fun v => v.category).sum ≤ W) (hdg : decode c.code g.pc = .ok (.invokestatic index, 3))
    (hpre : ∀ vm₁, s.WarmedH vm₁ → Pre ⟨T.setVm vm₁, locs, cells, slots⟩ argsL.toArray) :
    (∃ (v : Option Value) (vm₁ : Vm) (B : Pt), s.WarmedH vm₁ ∧ Stand p l e R s m args below meth c B.U B.locs B.cells B.slots ∧ Post ⟨T.setVm vm₁, locs, cells, slots⟩ argsL.toArray v B ∧
      ∀ target, Steps p.tables e below (B.U.setTop { g with pc := g.pc + 3, stack := v.toList ++ rest }) target → Steps p.tables e below (T.setTop g) target) ∨
    (∃ (q : Addr) (vm₁ : Vm) (B : Pt), s.WarmedH vm₁ ∧ Stand p l e R s m args below meth c B.U B.locs B.cells B.slots ∧ PostX ⟨T.setVm vm₁, locs, cells, slots⟩ argsL.toArray q B ∧
      Steps p.tables e below (T.setTop g) ((B.U.setTop { g with stack := rest }).pushFrame (.throwing q))) := by
  obtain ⟨mk, hnamed⟩ := Cond.code_named hcode
  obtain ⟨methM, cM, hmethM, -, -, -, -, -, -, hsigM⟩ := Cond.code_spec hnamed hcode
  have hstatic : methM.isStatic = true := Cond.static_spec hnamed hmethM hstat
  obtain ⟨kP, hkP, -⟩ := className_of_methodNamed hnamed
  have hinitP : kP.init = .initialized := Cond.initialized_spec (findClass_of_methodNamed hnamed) hkP hinit
  obtain ⟨vm₁, X₁, hstep₁⟩ := X.invokestaticNest hexec hown hlink hnamed hmethM hstatic hkP hinitP hy (g := g) hg (argsL := argsL) (rest := rest) (hlen _ hsigM) hstack hdg
  rcases hK m meth c ⟨T.setVm vm₁, locs, cells, slots⟩ { g with stack := rest } (.invokestatic index) mk argsL.toArray X₁ hg hsize hdg hW (X₁.named hnamed) (hpre vm₁ X₁.warmed) with ⟨v, B, X', hpost, hsteps⟩ | ⟨q, B, X', hpost, hsteps⟩
  · exact Or.inl ⟨v, vm₁, B, X₁.warmed, X', hpost, fun target h => hstep₁ _ fun acts => by rw [doInvoke_state]; exact hsteps.trans h⟩
  · exact Or.inr ⟨q, vm₁, B, X₁.warmed, X', hpost, hstep₁ _ fun acts => by rw [doInvoke_state]; exact hsteps⟩
theorem vx_runVN {y : MethodName} {bytes cc : ByteArray} {maxL nL mc ms n index : Nat} {ret : Option FieldType} {ws : List Cond} {rm : Room} {Pc : Array Value → State → Prop} {Qc : Array Value → State → Outcome → State → Prop} {XC : String → State → State → Prop} {free : Addr → Prop} {Ts : List Cond} {own C host : String} {b : Addr} {As rest : List Value} {g : JFrame}
    (S : CallFix p m c cc nL s args Ts own) (hM : vx_Met l y ws rm Pc Qc XC mc ms free) (cw : va_CN R s args own index y host bytes maxL ret ws rm mc ms n ∧ (Cond.instanceMethod y).before args s = true ∧ (Cond.selects C y y).before args s = true) (hp : PreV s H C b Pc As)
    (hg : g.method = m) (hn : As.length = n) (hsize : g.locals.size = nL) (hstack : g.stack = As.reverse ++ .ref b :: rest) (hW : 2 * g.monitorRoom + (rest.map fun v => v.category).sum ≤ 8) (hdg : decode cc g.pc = .ok (.invokevirtual index, 3)) (hf : cells + mc ≤ R.cells ∧ slots + ms ≤ R.slots) :
    vx_Run p l e R s m args below meth c H locs cells slots mc ms g rest (Qc (Value.ref b :: As).toArray) XC free := by
  obtain ⟨⟨⟨hrc, hrs, hfr, hlo, hws, hcw⟩, hcode, hini, hy, hlen, hl⟩, hx1, hx2⟩ := cw
  have hK : vx_Back l R p e below s args y 3 8 (PreOf R mc ms Pc) (PostOf Qc mc ms free) (vx_Post XC mc ms free) := vx_back (bytes := bytes) (maxL := maxL) (ret := ret) hM hp.1 hrc hrs hfr hlo hws hcw (fun a' U hW => word_at hW (Or.inl (by first | rfl | simp [Cond.onTables, Cond.keeps, Cond.steady])) hini)
  obtain ⟨hx, hb, hml, ho, -⟩ := S
  obtain ⟨-, ⟨cellB, hcB, hoB, hclB⟩, hPc⟩ := hp
  intro T hT X
  rcases vx_callVN X hx (C := C) (bytes := bytes) (maxL := maxL) (ret := ret) ho hl hx1 hx2 hcode hy hK (by rw [hT]; exact hcB) hoB hclB hg (hsize.trans hml.symm) (argsL := As) (rest := rest) (fun sig h => hn.trans (hlen sig h)) hstack hW (by rw [hb]; exact hdg)
    (fun vm₁ hW₁ => ⟨hf.1, hf.2, hPc (T.setVm vm₁) hT hW₁⟩) with ⟨v, vm₁, ⟨U', l2, c2, s2⟩, hW₁, X', ⟨g', mk, t, L, e1, e2, hq, h1, hL, h2, h3⟩, st⟩ | ⟨q, vm₁, ⟨U', l2, c2, s2⟩, hW₁, X', ⟨g', mk, t, L, E, ce, e1, e2, hq, hce, hcv, hcl, h1, hL, h2, h3⟩, st⟩
  · dsimp only [Pt.U, Pt.locs, Pt.cells, Pt.slots] at X' e1 e2 h1 h2 h3 st
    subst h1; subst h2; subst h3
    exact Or.inl ⟨v, (T.setVm vm₁).calling g' mk (Value.ref b :: As).toArray, t, U', L, hT, X', hL, e1, e2, hq, st⟩
  · dsimp only [Pt.U, Pt.locs, Pt.cells, Pt.slots] at X' e1 e2 h1 h2 h3 st hcl
    subst h1; subst h2; subst h3
    exact Or.inr ⟨q, (T.setVm vm₁).calling g' mk (Value.ref b :: As).toArray, t, U', L, E, ce, hT, X', hL, e1, e2, hq, hce, hcv, vx_cls hW₁ hcl, st⟩
theorem vx_runSN {y : MethodName} {bytes cc : ByteArray} {maxL nL mc ms n index : Nat} {ret : Option FieldType} {ws : List Cond} {rm : Room} {Pc : Array Value → State → Prop} {Qc : Array Value → State → Outcome → State → Prop} {XC : String → State → State → Prop} {free : Addr → Prop} {Ts : List Cond} {own host : String} {As rest : List Value} {g : JFrame}
    (S : CallFix p m c cc nL s args Ts own) (hM : vx_Met l y ws rm Pc Qc XC mc ms free) (cw : va_CN R s args own index y host bytes maxL ret ws rm mc ms n ∧ (Cond.static y).before args s = true ∧ True) (hp : PreS s H Pc As)
    (hg : g.method = m) (hn : As.length = n) (hsize : g.locals.size = nL) (hstack : g.stack = As.reverse ++ rest) (hW : 2 * g.monitorRoom + (rest.map fun v => v.category).sum ≤ 8) (hdg : decode cc g.pc = .ok (.invokestatic index, 3)) (hf : cells + mc ≤ R.cells ∧ slots + ms ≤ R.slots) :
    vx_Run p l e R s m args below meth c H locs cells slots mc ms g rest (Qc As.toArray) XC free := by
  obtain ⟨⟨⟨hrc, hrs, hfr, hlo, hws, hcw⟩, hcode, hini, hy, hlen, hl⟩, hx1, hx2⟩ := cw
  have hK : vx_Back l R p e below s args y 3 8 (PreOf R mc ms Pc) (PostOf Qc mc ms free) (vx_Post XC mc ms free) := vx_back (bytes := bytes) (maxL := maxL) (ret := ret) hM hp.1 hrc hrs hfr hlo hws hcw (fun a' U hW => word_at hW (Or.inl (by first | rfl | simp [Cond.onTables, Cond.keeps, Cond.steady])) hini)
  obtain ⟨hx, hb, hml, ho, -⟩ := S
  have hPc := hp.2
  intro T hT X
  rcases vx_callSN X hx (bytes := bytes) (maxL := maxL) (ret := ret) ho hl hx1 hini hcode hy hK hg (hsize.trans hml.symm) (argsL := As) (rest := rest) (fun sig h => hn.trans (hlen sig h)) hstack hW (by rw [hb]; exact hdg)
    (fun vm₁ hW₁ => ⟨hf.1, hf.2, hPc (T.setVm vm₁) hT hW₁⟩) with ⟨v, vm₁, ⟨U', l2, c2, s2⟩, hW₁, X', ⟨g', mk, t, L, e1, e2, hq, h1, hL, h2, h3⟩, st⟩ | ⟨q, vm₁, ⟨U', l2, c2, s2⟩, hW₁, X', ⟨g', mk, t, L, E, ce, e1, e2, hq, hce, hcv, hcl, h1, hL, h2, h3⟩, st⟩
  · dsimp only [Pt.U, Pt.locs, Pt.cells, Pt.slots] at X' e1 e2 h1 h2 h3 st
    subst h1; subst h2; subst h3
    exact Or.inl ⟨v, (T.setVm vm₁).calling g' mk As.toArray, t, U', L, hT, X', hL, e1, e2, hq, st⟩
  · dsimp only [Pt.U, Pt.locs, Pt.cells, Pt.slots] at X' e1 e2 h1 h2 h3 st hcl
    subst h1; subst h2; subst h3
    exact Or.inr ⟨q, (T.setVm vm₁).calling g' mk As.toArray, t, U', L, E, ce, hT, X', hL, e1, e2, hq, hce, hcv, vx_cls hW₁ hcl, st⟩
end
/-! ===== END ===== -/
/-! ===== BEGIN calls by an interface of methods that may throw (vx_callIF, vx_runF follow va_callIF, va_runF of this kit) ===== -/
section
variable {p : Program} {l : Launch} {e : Env} {R : Room} {s : State} {m : MethodId} {args : Array Value} {below : List Frame} {meth : Method} {c : Code} {H : Heap} {locs : List Loc} {cells slots : Nat} {Q : State → Prop}
variable {mc ms : Nat} {free : Addr → Prop} {A0 A1 : Nat → Prop} {H0 : Heap} {a : Array Value} {pc : Nat} {ls : Array Slot} {st0 rest : List Value}
def vx_Run5 (p : Program) (l : Launch) (e : Env) (R : Room) (s : State) (m : MethodId) (args : Array Value) (below : List Frame) (meth : Method) (c : Code) (H : Heap) (locs : List Loc) (cells slots mc ms : Nat) (g : JFrame) (rest : List Value) (Qa : State → Outcome → State → Prop) (XC : String → State → State → Prop) (free : Addr → Prop) : Prop :=
  ∀ T : State, T.heap = H → Stand p l e R s m args below meth c T locs cells slots →
    (∃ (v : Option Value) (st₀ t T' : State) (L : List Loc), st₀.heap = H ∧ Stand p l e R s m args below meth c T' (locs ++ L) (cells + mc) (slots + ms) ∧ (∀ q ∈ L, free q.base) ∧ T'.heap = t.heap ∧ T'.vm = t.vm ∧ Qa st₀ (.returned v) t ∧
      Goes p e below T g T' { g with pc := g.pc + 5, stack := v.toList ++ rest }) ∨
    (∃ (q : Addr) (st₀ t T' : State) (L : List Loc) (E : String) (ce : Cell), st₀.heap = H ∧ Stand p l e R s m args below meth c T' (locs ++ L) (cells + mc) (slots + ms) ∧ (∀ z ∈ L, free z.base) ∧ T'.heap = t.heap ∧ T'.vm = t.vm ∧ XC E st₀ t ∧ t.heap[q]? = some ce ∧ ce.vm = .none ∧ s.vm.findClass E = some ce.cls ∧
      Steps p.tables e below (T.setTop g) ((T'.setTop { g with stack := rest }).pushFrame (.throwing q)))
theorem vx_callIF {T : State} (X : Stand p l e R s m args below meth c T locs cells slots) (hexec : p.tables.exec = Jvm.exec) {own C : String} {index count : Nat} {x y : MethodName} {bytes : ByteArray} {maxL : Nat} {ret : Option FieldType}
    (hown : s.vm.findClass own = some m.cls) (hlink : (Cond.methodLink own index x).before args s = true) (hdecl : (Cond.declares x).before args s = true) (hface : (Cond.interfaceMethod x.cls x.cls x.name x.desc).before args s = true)
    (hsel : (Cond.selects C x y).before args s = true) (hinst : (Cond.instanceMethod y).before args s = true) (hpub : (Cond.publicMethod y).before args s = true) (hunh : (Cond.unhidden C x.name x.desc).before args s = true)
    (hcast : (Cond.castable C x.cls).before args s = true) (hcode : (Cond.code y bytes maxL ret).before args s = true) (hx : x.cls ≠ "java/lang/invoke/MethodHandle" ∧ x.cls ≠ "java/lang/invoke/VarHandle")
    {W9 : Nat} {Pre : Pt → Array Value → Prop} {Post : Pt → Array Value → Option Value → Pt → Prop} {PostX : Pt → Array Value → Addr → Pt → Prop} (hK : vx_Back l R p e below s args y 5 W9 Pre Post PostX)
    {b : Addr} {cellB : Cell} {kB : Class} (hcell : T.heap[b]? = some cellB) (hobj : cellB.vm.isStatics = false) (hcls : s.vm.findClass C = some cellB.cls) (hkB : s.vm.classes[cellB.cls]? = some kB)
    {g : JFrame} (hg : g.method = m) (hsize : g.locals.size = c.maxLocals) {argsL rest : List Value} (hlen : ∀ sig, parseMethodDescriptor x.desc = some sig → argsL.length = sig.parameters.length)
    (hstack : g.stack = argsL.reverse ++ .ref b :: rest) (hW : 2 * g.monitorRoom + (rest.map fun v => v.category).sum ≤ W9) (hdg : decode c.code g.pc = .ok (.invokeinterface index count, 5))
    (hpre : ∀ vm₁, s.WarmedH vm₁ → Pre ⟨T.setVm vm₁, locs, cells, slots⟩ (Value.ref b :: argsL).toArray) :
    (∃ (v : Option Value) (vm₁ : Vm) (B : Pt), s.WarmedH vm₁ ∧ Stand p l e R s m args below meth c B.U B.locs B.cells B.slots ∧ Post ⟨T.setVm vm₁, locs, cells, slots⟩ (Value.ref b :: argsL).toArray v B ∧
      ∀ target, Steps p.tables e below (B.U.setTop { g with pc := g.pc + 5, stack := v.toList ++ rest }) target → Steps p.tables e below (T.setTop g) target) ∨
    (∃ (q : Addr) (vm₁ : Vm) (B : Pt), s.WarmedH vm₁ ∧ Stand p l e R s m args below meth c B.U B.locs B.cells B.slots ∧ PostX ⟨T.setVm vm₁, locs, cells, slots⟩ (Value.ref b :: argsL).toArray q B ∧
      Steps p.tables e below (T.setTop g) ((B.U.setTop { g with stack := rest }).pushFrame (.throwing q))) := by
  obtain ⟨r0, r, hn, hrm, hstR, hsigR⟩ := Cond.declares_spec hdecl
  obtain ⟨cL, kL, r1, hcL, hkL, hiL, hfoundL, hn1⟩ := Cond.interfaceMethod_spec hface
  cases hn.symm.trans hn1
  have hr0cls : r0.cls = cL := Option.some.inj ((findClass_of_methodNamed hn).symm.trans hcL)
  obtain ⟨hnameR, hdescR⟩ := name_of_methodNamed hn hrm
  obtain ⟨mk, methM, hnamed, hmethM, -, habM⟩ := Cond.instanceMethod_spec hinst
  obtain ⟨c2, r2, m2, q1, q2, q3, q4, -⟩ := Cond.selects_spec hsel
  cases hcls.symm.trans q1
  cases hfoundL.symm.trans q2
  cases hnamed.symm.trans q3
  have hselP : selectMethod e.platform s.vm cellB.cls r0 = .method mk := by rw [Launch.admits_selectMethod X.admits]; exact q4
  have hpubM : hasFlag methM.accessFlags Acc.public_ = true := Cond.publicMethod_spec hnamed hmethM hpub
  have hway : ((cellB.cls :: s.vm.superclasses cellB.cls).any fun k => (declaredIn s.vm r.name r.desc k).any fun (_, z) => z.isPrivate || z.isStatic) = false := by
    rw [hnameR, hdescR]; exact Cond.unhidden_spec hcls hunh
  obtain ⟨c3, t3, w1, w2, w3⟩ := Cond.castable_spec hcast
  cases hcls.symm.trans w1
  cases hcL.symm.trans w2
  obtain ⟨vm₁, X₁, hstep₁⟩ := X.invokeinterface hexec hown hlink hn hrm hstR (by rw [hr0cls]; exact hkL) hiL hx (a := b) (cell := cellB) (kcell := kB) hcell
    (fun z h => by rw [h] at hobj; cases hobj) hkB (by rw [hr0cls]; exact w3) hselP hmethM hway hpubM habM (g := g) hg (argsL := argsL) (rest := rest) (hlen _ hsigR) hstack hdg
  rcases hK m meth c ⟨T.setVm vm₁, locs, cells, slots⟩ { g with stack := rest } (.invokeinterface index count) mk (Value.ref b :: argsL).toArray X₁ hg hsize hdg hW (X₁.named hnamed) (hpre vm₁ X₁.warmed) with ⟨v, B, X', hpost, hsteps⟩ | ⟨q, B, X', hpost, hsteps⟩
  · exact Or.inl ⟨v, vm₁, B, X₁.warmed, X', hpost, fun target h => hstep₁ _ fun acts => by rw [doInvoke_state]; exact hsteps.trans h⟩
  · exact Or.inr ⟨q, vm₁, B, X₁.warmed, X', hpost, hstep₁ _ fun acts => by rw [doInvoke_state]; exact hsteps⟩
theorem vx_runF {x y : MethodName} {bytes cc : ByteArray} {maxL nL mc ms n index count : Nat} {ret : Option FieldType} {ws : List Cond} {rm : Room} {Pc : Array Value → State → Prop} {Qc : Array Value → State → Outcome → State → Prop} {XC : String → State → State → Prop} {free : Addr → Prop} {Ts : List Cond} {own C : String} {cC : ClassId} {b : Addr} {As rest : List Value} {g : JFrame}
    (hat : ClassAt s C cC) (S : CallFix p m c cc nL s args Ts own) (hM : vx_Met l y ws rm Pc Qc XC mc ms free) (cw : va_CI R s args own C index x y bytes maxL ret ws rm mc ms n) (hp : PreV s H C b Pc As)
    (hg : g.method = m) (hn : As.length = n) (hsize : g.locals.size = nL) (hstack : g.stack = As.reverse ++ .ref b :: rest) (hW : 2 * g.monitorRoom + (rest.map fun v => v.category).sum ≤ 8) (hdg : decode cc g.pc = .ok (.invokeinterface index count, 5)) (hf : cells + mc ≤ R.cells ∧ slots + ms ≤ R.slots) :
    vx_Run5 p l e R s m args below meth c H locs cells slots mc ms g rest (Qc (Value.ref b :: As).toArray) XC free := by
  obtain ⟨hrc, hrs, hfr, hlo, hws, hcw⟩ := cw.back
  have hini := cw.init
  have hK : vx_Back l R p e below s args y 5 8 (PreOf R mc ms Pc) (PostOf Qc mc ms free) (vx_Post XC mc ms free) := vx_back (bytes := bytes) (maxL := maxL) (ret := ret) hM hp.1 hrc hrs hfr hlo hws hcw (fun a' U hW => word_at hW (Or.inl (by first | rfl | simp [Cond.onTables, Cond.keeps, Cond.steady])) hini)
  obtain ⟨hx, hb, hml, ho, -⟩ := S
  obtain ⟨-, ⟨cellB, hcB, hoB, hclB⟩, hPc⟩ := hp
  obtain ⟨hfc, kB, hkB, -⟩ := hat
  cases hfc.symm.trans hclB
  intro T hT X
  rcases vx_callIF X hx (C := C) (bytes := bytes) (maxL := maxL) (ret := ret) ho cw.link cw.decl cw.face cw.sel cw.inst cw.pub cw.unh cw.cast cw.code cw.notMH hK (by rw [hT]; exact hcB) hoB hclB hkB hg (hsize.trans hml.symm) (argsL := As) (rest := rest) (fun sig h => hn.trans (cw.len sig h)) hstack hW (by rw [hb]; exact hdg)
    (fun vm₁ hW₁ => ⟨hf.1, hf.2, hPc (T.setVm vm₁) hT hW₁⟩) with ⟨v, vm₁, ⟨U', l2, c2, s2⟩, hW₁, X', ⟨g', mk, t, L, e1, e2, hq, h1, hL, h2, h3⟩, st⟩ | ⟨q, vm₁, ⟨U', l2, c2, s2⟩, hW₁, X', ⟨g', mk, t, L, E, ce, e1, e2, hq, hce, hcv, hcl, h1, hL, h2, h3⟩, st⟩
  · dsimp only [Pt.U, Pt.locs, Pt.cells, Pt.slots] at X' e1 e2 h1 h2 h3 st
    subst h1; subst h2; subst h3
    exact Or.inl ⟨v, (T.setVm vm₁).calling g' mk (Value.ref b :: As).toArray, t, U', L, hT, X', hL, e1, e2, hq, st⟩
  · dsimp only [Pt.U, Pt.locs, Pt.cells, Pt.slots] at X' e1 e2 h1 h2 h3 st hcl
    subst h1; subst h2; subst h3
    exact Or.inr ⟨q, (T.setVm vm₁).calling g' mk (Value.ref b :: As).toArray, t, U', L, E, ce, hT, X', hL, e1, e2, hq, hce, hcv, vx_cls hW₁ hcl, st⟩
theorem vx_callFv {S SX : Type} {post : S → Prop} {px : SX → Prop} {B : S → State → Prop} {BX : String → SX → State → Prop} {AX : Nat → Prop} (hr : vx_Run5 p l e R s m args below meth c H locs cells slots mc ms (F0 m pc ls st0) rest (va_Qv post B A1 a) (vx_X px BX AX) free) (hS : va_S A0 H0 H locs) (hA : ∀ q, q < H.size → A1 q → A0 q) (hf : ∀ q, free q → A0 q) (hAX : ∀ q, q < H.size → AX q → A0 q)
    (kx : ∀ (E : String) (ce : Cell) (q9 : Addr) (u : SX) (t : State) (H1 : Heap) (locs1 : List Loc), t.heap = H1 → s.vm.Alike t.vm → px u → BX E u t → H.size ≤ H1.size → (∀ q : Nat, q < H.size → ¬ AX q → H1[q]? = H[q]?) → va_S A0 H0 H1 locs1 → H1[q9]? = some ce → ce.vm = .none → s.vm.findClass E = some ce.cls → vx_W p l e R s m args below meth c H1 locs1 (cells + mc) (slots + ms) Q (F0 m pc ls rest) q9)
    (kk : ∀ (u : S) (t : State) (H1 : Heap) (locs1 : List Loc), t.heap = H1 → s.vm.Alike t.vm → post u → B u t → H.size ≤ H1.size → (∀ q : Nat, q < H.size → ¬ A1 q → H1[q]? = H[q]?) → va_S A0 H0 H1 locs1 → W p l e R s m args below meth c H1 locs1 (cells + mc) (slots + ms) Q (F0 m (pc + 5) ls (rest))) : W p l e R s m args below meth c H locs cells slots Q (F0 m pc ls st0) := by
  intro T hT X
  rcases hr T hT X with ⟨v, st₀, t, T', L, h0, X', hL, e1, e2, ⟨⟨u, hv, hp, hb⟩, hF⟩, st⟩ | ⟨q, st₀, t, T', L, E, ce, h0, X', hL, e1, e2, ⟨u, hp, hb, hF⟩, hce, hcv, hcl, st⟩
  · cases hv
    obtain ⟨k1, k2, k3⟩ := vx_keep h0 e1 hS hA hf hL hF
    obtain ⟨t2, a1, b1⟩ := kk u t T'.heap (locs ++ L) e1.symm (by rw [← e2]; exact X'.warmed.alike) hp hb k1 k2 k3 T' rfl X'
    exact ⟨t2, st t2 a1, b1⟩
  · obtain ⟨k1, k2, k3⟩ := vx_keep h0 e1 hS hAX hf hL hF
    obtain ⟨t2, a1, b1⟩ := kx E ce q u t T'.heap (locs ++ L) e1.symm (by rw [← e2]; exact X'.warmed.alike) hp hb k1 k2 k3 (by rw [e1]; exact hce) hcv hcl T' rfl X'
    exact ⟨t2, st.trans a1, b1⟩
theorem vx_callFi {S SX : Type} {post : Int32 → S → Prop} {px : SX → Prop} {B : S → State → Prop} {BX : String → SX → State → Prop} {AX : Nat → Prop} (hr : vx_Run5 p l e R s m args below meth c H locs cells slots mc ms (F0 m pc ls st0) rest (va_Qi post B A1 a) (vx_X px BX AX) free) (hS : va_S A0 H0 H locs) (hA : ∀ q, q < H.size → A1 q → A0 q) (hf : ∀ q, free q → A0 q) (hAX : ∀ q, q < H.size → AX q → A0 q)
    (kx : ∀ (E : String) (ce : Cell) (q9 : Addr) (u : SX) (t : State) (H1 : Heap) (locs1 : List Loc), t.heap = H1 → s.vm.Alike t.vm → px u → BX E u t → H.size ≤ H1.size → (∀ q : Nat, q < H.size → ¬ AX q → H1[q]? = H[q]?) → va_S A0 H0 H1 locs1 → H1[q9]? = some ce → ce.vm = .none → s.vm.findClass E = some ce.cls → vx_W p l e R s m args below meth c H1 locs1 (cells + mc) (slots + ms) Q (F0 m pc ls rest) q9)
    (kk : ∀ (r : Int32) (u : S) (t : State) (H1 : Heap) (locs1 : List Loc), t.heap = H1 → s.vm.Alike t.vm → post r u → B u t → H.size ≤ H1.size → (∀ q : Nat, q < H.size → ¬ A1 q → H1[q]? = H[q]?) → va_S A0 H0 H1 locs1 → W p l e R s m args below meth c H1 locs1 (cells + mc) (slots + ms) Q (F0 m (pc + 5) ls (.int r :: rest))) : W p l e R s m args below meth c H locs cells slots Q (F0 m pc ls st0) := by
  intro T hT X
  rcases hr T hT X with ⟨v, st₀, t, T', L, h0, X', hL, e1, e2, ⟨⟨r, u, hv, hp, hb⟩, hF⟩, st⟩ | ⟨q, st₀, t, T', L, E, ce, h0, X', hL, e1, e2, ⟨u, hp, hb, hF⟩, hce, hcv, hcl, st⟩
  · cases hv
    obtain ⟨k1, k2, k3⟩ := vx_keep h0 e1 hS hA hf hL hF
    obtain ⟨t2, a1, b1⟩ := kk r u t T'.heap (locs ++ L) e1.symm (by rw [← e2]; exact X'.warmed.alike) hp hb k1 k2 k3 T' rfl X'
    exact ⟨t2, st t2 a1, b1⟩
  · obtain ⟨k1, k2, k3⟩ := vx_keep h0 e1 hS hAX hf hL hF
    obtain ⟨t2, a1, b1⟩ := kx E ce q u t T'.heap (locs ++ L) e1.symm (by rw [← e2]; exact X'.warmed.alike) hp hb k1 k2 k3 (by rw [e1]; exact hce) hcv hcl T' rfl X'
    exact ⟨t2, st.trans a1, b1⟩
theorem vx_callFl {S SX : Type} {post : Int64 → S → Prop} {px : SX → Prop} {B : S → State → Prop} {BX : String → SX → State → Prop} {AX : Nat → Prop} (hr : vx_Run5 p l e R s m args below meth c H locs cells slots mc ms (F0 m pc ls st0) rest (va_Ql post B A1 a) (vx_X px BX AX) free) (hS : va_S A0 H0 H locs) (hA : ∀ q, q < H.size → A1 q → A0 q) (hf : ∀ q, free q → A0 q) (hAX : ∀ q, q < H.size → AX q → A0 q)
    (kx : ∀ (E : String) (ce : Cell) (q9 : Addr) (u : SX) (t : State) (H1 : Heap) (locs1 : List Loc), t.heap = H1 → s.vm.Alike t.vm → px u → BX E u t → H.size ≤ H1.size → (∀ q : Nat, q < H.size → ¬ AX q → H1[q]? = H[q]?) → va_S A0 H0 H1 locs1 → H1[q9]? = some ce → ce.vm = .none → s.vm.findClass E = some ce.cls → vx_W p l e R s m args below meth c H1 locs1 (cells + mc) (slots + ms) Q (F0 m pc ls rest) q9)
    (kk : ∀ (r : Int64) (u : S) (t : State) (H1 : Heap) (locs1 : List Loc), t.heap = H1 → s.vm.Alike t.vm → post r u → B u t → H.size ≤ H1.size → (∀ q : Nat, q < H.size → ¬ A1 q → H1[q]? = H[q]?) → va_S A0 H0 H1 locs1 → W p l e R s m args below meth c H1 locs1 (cells + mc) (slots + ms) Q (F0 m (pc + 5) ls (.long r :: rest))) : W p l e R s m args below meth c H locs cells slots Q (F0 m pc ls st0) := by
  intro T hT X
  rcases hr T hT X with ⟨v, st₀, t, T', L, h0, X', hL, e1, e2, ⟨⟨r, u, hv, hp, hb⟩, hF⟩, st⟩ | ⟨q, st₀, t, T', L, E, ce, h0, X', hL, e1, e2, ⟨u, hp, hb, hF⟩, hce, hcv, hcl, st⟩
  · cases hv
    obtain ⟨k1, k2, k3⟩ := vx_keep h0 e1 hS hA hf hL hF
    obtain ⟨t2, a1, b1⟩ := kk r u t T'.heap (locs ++ L) e1.symm (by rw [← e2]; exact X'.warmed.alike) hp hb k1 k2 k3 T' rfl X'
    exact ⟨t2, st t2 a1, b1⟩
  · obtain ⟨k1, k2, k3⟩ := vx_keep h0 e1 hS hAX hf hL hF
    obtain ⟨t2, a1, b1⟩ := kx E ce q u t T'.heap (locs ++ L) e1.symm (by rw [← e2]; exact X'.warmed.alike) hp hb k1 k2 k3 (by rw [e1]; exact hce) hcv hcl T' rfl X'
    exact ⟨t2, st.trans a1, b1⟩
theorem vx_callFf {S SX : Type} {post : UInt32 → S → Prop} {px : SX → Prop} {B : S → State → Prop} {BX : String → SX → State → Prop} {AX : Nat → Prop} (hr : vx_Run5 p l e R s m args below meth c H locs cells slots mc ms (F0 m pc ls st0) rest (va_Qf post B A1 a) (vx_X px BX AX) free) (hS : va_S A0 H0 H locs) (hA : ∀ q, q < H.size → A1 q → A0 q) (hf : ∀ q, free q → A0 q) (hAX : ∀ q, q < H.size → AX q → A0 q)
    (kx : ∀ (E : String) (ce : Cell) (q9 : Addr) (u : SX) (t : State) (H1 : Heap) (locs1 : List Loc), t.heap = H1 → s.vm.Alike t.vm → px u → BX E u t → H.size ≤ H1.size → (∀ q : Nat, q < H.size → ¬ AX q → H1[q]? = H[q]?) → va_S A0 H0 H1 locs1 → H1[q9]? = some ce → ce.vm = .none → s.vm.findClass E = some ce.cls → vx_W p l e R s m args below meth c H1 locs1 (cells + mc) (slots + ms) Q (F0 m pc ls rest) q9)
    (kk : ∀ (r : UInt32) (u : S) (t : State) (H1 : Heap) (locs1 : List Loc), t.heap = H1 → s.vm.Alike t.vm → post r u → B u t → H.size ≤ H1.size → (∀ q : Nat, q < H.size → ¬ A1 q → H1[q]? = H[q]?) → va_S A0 H0 H1 locs1 → W p l e R s m args below meth c H1 locs1 (cells + mc) (slots + ms) Q (F0 m (pc + 5) ls (.float r :: rest))) : W p l e R s m args below meth c H locs cells slots Q (F0 m pc ls st0) := by
  intro T hT X
  rcases hr T hT X with ⟨v, st₀, t, T', L, h0, X', hL, e1, e2, ⟨⟨r, u, hv, hp, hb⟩, hF⟩, st⟩ | ⟨q, st₀, t, T', L, E, ce, h0, X', hL, e1, e2, ⟨u, hp, hb, hF⟩, hce, hcv, hcl, st⟩
  · cases hv
    obtain ⟨k1, k2, k3⟩ := vx_keep h0 e1 hS hA hf hL hF
    obtain ⟨t2, a1, b1⟩ := kk r u t T'.heap (locs ++ L) e1.symm (by rw [← e2]; exact X'.warmed.alike) hp hb k1 k2 k3 T' rfl X'
    exact ⟨t2, st t2 a1, b1⟩
  · obtain ⟨k1, k2, k3⟩ := vx_keep h0 e1 hS hAX hf hL hF
    obtain ⟨t2, a1, b1⟩ := kx E ce q u t T'.heap (locs ++ L) e1.symm (by rw [← e2]; exact X'.warmed.alike) hp hb k1 k2 k3 (by rw [e1]; exact hce) hcv hcl T' rfl X'
    exact ⟨t2, st.trans a1, b1⟩
theorem vx_callFd {S SX : Type} {post : UInt64 → S → Prop} {px : SX → Prop} {B : S → State → Prop} {BX : String → SX → State → Prop} {AX : Nat → Prop} (hr : vx_Run5 p l e R s m args below meth c H locs cells slots mc ms (F0 m pc ls st0) rest (va_Qd post B A1 a) (vx_X px BX AX) free) (hS : va_S A0 H0 H locs) (hA : ∀ q, q < H.size → A1 q → A0 q) (hf : ∀ q, free q → A0 q) (hAX : ∀ q, q < H.size → AX q → A0 q)
    (kx : ∀ (E : String) (ce : Cell) (q9 : Addr) (u : SX) (t : State) (H1 : Heap) (locs1 : List Loc), t.heap = H1 → s.vm.Alike t.vm → px u → BX E u t → H.size ≤ H1.size → (∀ q : Nat, q < H.size → ¬ AX q → H1[q]? = H[q]?) → va_S A0 H0 H1 locs1 → H1[q9]? = some ce → ce.vm = .none → s.vm.findClass E = some ce.cls → vx_W p l e R s m args below meth c H1 locs1 (cells + mc) (slots + ms) Q (F0 m pc ls rest) q9)
    (kk : ∀ (r : UInt64) (u : S) (t : State) (H1 : Heap) (locs1 : List Loc), t.heap = H1 → s.vm.Alike t.vm → post r u → B u t → H.size ≤ H1.size → (∀ q : Nat, q < H.size → ¬ A1 q → H1[q]? = H[q]?) → va_S A0 H0 H1 locs1 → W p l e R s m args below meth c H1 locs1 (cells + mc) (slots + ms) Q (F0 m (pc + 5) ls (.double r :: rest))) : W p l e R s m args below meth c H locs cells slots Q (F0 m pc ls st0) := by
  intro T hT X
  rcases hr T hT X with ⟨v, st₀, t, T', L, h0, X', hL, e1, e2, ⟨⟨r, u, hv, hp, hb⟩, hF⟩, st⟩ | ⟨q, st₀, t, T', L, E, ce, h0, X', hL, e1, e2, ⟨u, hp, hb, hF⟩, hce, hcv, hcl, st⟩
  · cases hv
    obtain ⟨k1, k2, k3⟩ := vx_keep h0 e1 hS hA hf hL hF
    obtain ⟨t2, a1, b1⟩ := kk r u t T'.heap (locs ++ L) e1.symm (by rw [← e2]; exact X'.warmed.alike) hp hb k1 k2 k3 T' rfl X'
    exact ⟨t2, st t2 a1, b1⟩
  · obtain ⟨k1, k2, k3⟩ := vx_keep h0 e1 hS hAX hf hL hF
    obtain ⟨t2, a1, b1⟩ := kx E ce q u t T'.heap (locs ++ L) e1.symm (by rw [← e2]; exact X'.warmed.alike) hp hb k1 k2 k3 (by rw [e1]; exact hce) hcv hcl T' rfl X'
    exact ⟨t2, st.trans a1, b1⟩
end
/-! ===== END ===== -/
/-! ===== BEGIN by an interface, a method with a table of its own that may throw (follows va_callIFW, va_runFW) ===== -/
section
variable {p : Program} {l : Launch} {e : Env} {R : Room} {s : State} {m : MethodId} {args : Array Value} {below : List Frame} {meth : Method} {c : Code} {H : Heap} {locs : List Loc} {cells slots : Nat}
theorem vx_callIFW {T : State} (X : Stand p l e R s m args below meth c T locs cells slots) (hexec : p.tables.exec = Jvm.exec) {own C : String} {index count : Nat} {x y : MethodName} {bytes : ByteArray} {maxL : Nat} {ret : Option FieldType} {hh : List (Nat × Nat × Nat × Nat)}
    (hown : s.vm.findClass own = some m.cls) (hlink : (Cond.methodLink own index x).before args s = true) (hdecl : (Cond.declares x).before args s = true) (hface : (Cond.interfaceMethod x.cls x.cls x.name x.desc).before args s = true)
    (hsel : (Cond.selects C x y).before args s = true) (hinst : (Cond.instanceMethod y).before args s = true) (hpub : (Cond.publicMethod y).before args s = true) (hunh : (Cond.unhidden C x.name x.desc).before args s = true)
    (hcast : (Cond.castable C x.cls).before args s = true) (hcode : (Cond.codeWith y bytes maxL ret hh).before args s = true) (hx : x.cls ≠ "java/lang/invoke/MethodHandle" ∧ x.cls ≠ "java/lang/invoke/VarHandle")
    {W : Nat} {Pre : Pt → Array Value → Prop} {Post : Pt → Array Value → Option Value → Pt → Prop} {PostX : Pt → Array Value → Addr → Pt → Prop} (hK : vx_Back l R p e below s args y 5 W Pre Post PostX)
    {b : Addr} {cellB : Cell} {kB : Class} (hcell : T.heap[b]? = some cellB) (hobj : cellB.vm.isStatics = false) (hcls : s.vm.findClass C = some cellB.cls) (hkB : s.vm.classes[cellB.cls]? = some kB)
    {g : JFrame} (hg : g.method = m) (hsize : g.locals.size = c.maxLocals) {argsL rest : List Value} (hlen : ∀ sig, parseMethodDescriptor x.desc = some sig → argsL.length = sig.parameters.length)
    (hstack : g.stack = argsL.reverse ++ .ref b :: rest) (hW : 2 * g.monitorRoom + (rest.map fun v => v.category).sum ≤ W) (hdg : decode c.code g.pc = .ok (.invokeinterface index count, 5))
    (hpre : ∀ vm₁, s.WarmedH vm₁ → Pre ⟨T.setVm vm₁, locs, cells, slots⟩ (Value.ref b :: argsL).toArray) :
    (∃ (v : Option Value) (vm₁ : Vm) (B : Pt), s.WarmedH vm₁ ∧ Stand p l e R s m args below meth c B.U B.locs B.cells B.slots ∧ Post ⟨T.setVm vm₁, locs, cells, slots⟩ (Value.ref b :: argsL).toArray v B ∧
      ∀ target, Steps p.tables e below (B.U.setTop { g with pc := g.pc + 5, stack := v.toList ++ rest }) target → Steps p.tables e below (T.setTop g) target) ∨
    (∃ (q : Addr) (vm₁ : Vm) (B : Pt), s.WarmedH vm₁ ∧ Stand p l e R s m args below meth c B.U B.locs B.cells B.slots ∧ PostX ⟨T.setVm vm₁, locs, cells, slots⟩ (Value.ref b :: argsL).toArray q B ∧
      Steps p.tables e below (T.setTop g) ((B.U.setTop { g with stack := rest }).pushFrame (.throwing q))) := by
  obtain ⟨r0, r, hn, hrm, hstR, hsigR⟩ := Cond.declares_spec hdecl
  obtain ⟨cL, kL, r1, hcL, hkL, hiL, hfoundL, hn1⟩ := Cond.interfaceMethod_spec hface
  cases hn.symm.trans hn1
  have hr0cls : r0.cls = cL := Option.some.inj ((findClass_of_methodNamed hn).symm.trans hcL)
  obtain ⟨hnameR, hdescR⟩ := name_of_methodNamed hn hrm
  obtain ⟨mk, methM, hnamed, hmethM, -, habM⟩ := Cond.instanceMethod_spec hinst
  obtain ⟨c2, r2, m2, q1, q2, q3, q4, -⟩ := Cond.selects_spec hsel
  cases hcls.symm.trans q1
  cases hfoundL.symm.trans q2
  cases hnamed.symm.trans q3
  have hselP : selectMethod e.platform s.vm cellB.cls r0 = .method mk := by rw [Launch.admits_selectMethod X.admits]; exact q4
  have hpubM : hasFlag methM.accessFlags Acc.public_ = true := Cond.publicMethod_spec hnamed hmethM hpub
  have hway : ((cellB.cls :: s.vm.superclasses cellB.cls).any fun k => (declaredIn s.vm r.name r.desc k).any fun (_, z) => z.isPrivate || z.isStatic) = false := by
    rw [hnameR, hdescR]; exact Cond.unhidden_spec hcls hunh
  obtain ⟨c3, t3, w1, w2, w3⟩ := Cond.castable_spec hcast
  cases hcls.symm.trans w1
  cases hcL.symm.trans w2
  obtain ⟨vm₁, X₁, hstep₁⟩ := X.invokeinterface hexec hown hlink hn hrm hstR (by rw [hr0cls]; exact hkL) hiL hx (a := b) (cell := cellB) (kcell := kB) hcell
    (fun z h => by rw [h] at hobj; cases hobj) hkB (by rw [hr0cls]; exact w3) hselP hmethM hway hpubM habM (g := g) hg (argsL := argsL) (rest := rest) (hlen _ hsigR) hstack hdg
  rcases hK m meth c ⟨T.setVm vm₁, locs, cells, slots⟩ { g with stack := rest } (.invokeinterface index count) mk (Value.ref b :: argsL).toArray X₁ hg hsize hdg hW (X₁.named hnamed) (hpre vm₁ X₁.warmed) with ⟨v, B, X', hpost, hsteps⟩ | ⟨q, B, X', hpost, hsteps⟩
  · exact Or.inl ⟨v, vm₁, B, X₁.warmed, X', hpost, fun target h => hstep₁ _ fun acts => by rw [doInvoke_state]; exact hsteps.trans h⟩
  · exact Or.inr ⟨q, vm₁, B, X₁.warmed, X', hpost, hstep₁ _ fun acts => by rw [doInvoke_state]; exact hsteps⟩
theorem vx_runFW {x y : MethodName} {bytes cc : ByteArray} {maxL nL mc ms n index count : Nat} {ret : Option FieldType} {hh : List (Nat × Nat × Nat × Nat)} {ws : List Cond} {rm : Room} {Pc : Array Value → State → Prop} {Qc : Array Value → State → Outcome → State → Prop} {XC : String → State → State → Prop} {free : Addr → Prop} {Ts : List Cond} {own C : String} {cC : ClassId} {b : Addr} {As rest : List Value} {g : JFrame}
    (hat : ClassAt s C cC) (S : CallFix p m c cc nL s args Ts own) (hM : vx_Met l y ws rm Pc Qc XC mc ms free) (cw : va_CIW R s args own C index x y bytes maxL ret hh ws rm mc ms n) (hp : PreV s H C b Pc As)
    (hg : g.method = m) (hn : As.length = n) (hsize : g.locals.size = nL) (hstack : g.stack = As.reverse ++ .ref b :: rest) (hW : 2 * g.monitorRoom + (rest.map fun v => v.category).sum ≤ 8) (hdg : decode cc g.pc = .ok (.invokeinterface index count, 5)) (hf : cells + mc ≤ R.cells ∧ slots + ms ≤ R.slots) :
    vx_Run5 p l e R s m args below meth c H locs cells slots mc ms g rest (Qc (Value.ref b :: As).toArray) XC free := by
  obtain ⟨hrc, hrs, hfr, hlo, hws, hcw⟩ := cw.back
  have hini := cw.init
  have hK : vx_Back l R p e below s args y 5 8 (PreOf R mc ms Pc) (PostOf Qc mc ms free) (vx_Post XC mc ms free) := vx_backW (hh := hh) (bytes := bytes) (maxL := maxL) (ret := ret) hM hp.1 hrc hrs hfr hlo hws hcw (fun a' U hW => word_at hW (Or.inl (by first | rfl | simp [Cond.onTables, Cond.keeps, Cond.steady])) hini)
  obtain ⟨hx, hb, hml, ho, -⟩ := S
  obtain ⟨-, ⟨cellB, hcB, hoB, hclB⟩, hPc⟩ := hp
  obtain ⟨hfc, kB, hkB, -⟩ := hat
  cases hfc.symm.trans hclB
  intro T hT X
  rcases vx_callIFW X hx (C := C) (hh := hh) (bytes := bytes) (maxL := maxL) (ret := ret) ho cw.link cw.decl cw.face cw.sel cw.inst cw.pub cw.unh cw.cast cw.code cw.notMH hK (by rw [hT]; exact hcB) hoB hclB hkB hg (hsize.trans hml.symm) (argsL := As) (rest := rest) (fun sig h => hn.trans (cw.len sig h)) hstack hW (by rw [hb]; exact hdg)
    (fun vm₁ hW₁ => ⟨hf.1, hf.2, hPc (T.setVm vm₁) hT hW₁⟩) with ⟨v, vm₁, ⟨U', l2, c2, s2⟩, hW₁, X', ⟨g', mk, t, L, e1, e2, hq, h1, hL, h2, h3⟩, st⟩ | ⟨q, vm₁, ⟨U', l2, c2, s2⟩, hW₁, X', ⟨g', mk, t, L, E, ce, e1, e2, hq, hce, hcv, hcl, h1, hL, h2, h3⟩, st⟩
  · dsimp only [Pt.U, Pt.locs, Pt.cells, Pt.slots] at X' e1 e2 h1 h2 h3 st
    subst h1; subst h2; subst h3
    exact Or.inl ⟨v, (T.setVm vm₁).calling g' mk (Value.ref b :: As).toArray, t, U', L, hT, X', hL, e1, e2, hq, st⟩
  · dsimp only [Pt.U, Pt.locs, Pt.cells, Pt.slots] at X' e1 e2 h1 h2 h3 st hcl
    subst h1; subst h2; subst h3
    exact Or.inr ⟨q, (T.setVm vm₁).calling g' mk (Value.ref b :: As).toArray, t, U', L, E, ce, hT, X', hL, e1, e2, hq, hce, hcv, vx_cls hW₁ hcl, st⟩
end
/-! ===== END ===== -/
/-! ===== BEGIN .. of methods that hand back an object of the pool ===== -/
section
variable {p : Program} {l : Launch} {e : Env} {R : Room} {s : State} {m : MethodId} {args : Array Value} {below : List Frame} {meth : Method} {c : Code} {H : Heap} {locs : List Loc} {cells slots : Nat} {Q : State → Prop}
variable {mc ms : Nat} {free : Addr → Prop} {A0 A1 : Nat → Prop} {H0 : Heap} {a : Array Value} {pc : Nat} {ls : Array Slot} {st0 rest : List Value}
theorem vx_callq {S SX : Type} {post : Option Nat → S → Prop} {px : SX → Prop} {B : S → State → Prop} {BX : String → SX → State → Prop} {AX : Nat → Prop} (hr : vx_Run p l e R s m args below meth c H locs cells slots mc ms (F0 m pc ls st0) rest (va_Qq post B A1 a) (vx_X px BX AX) free) (hS : va_S A0 H0 H locs) (hA : ∀ q, q < H.size → A1 q → A0 q) (hf : ∀ q, free q → A0 q) (hAX : ∀ q, q < H.size → AX q → A0 q)
    (kx : ∀ (E : String) (ce : Cell) (q9 : Addr) (u : SX) (t : State) (H1 : Heap) (locs1 : List Loc), t.heap = H1 → s.vm.Alike t.vm → px u → BX E u t → H.size ≤ H1.size → (∀ q : Nat, q < H.size → ¬ AX q → H1[q]? = H[q]?) → va_S A0 H0 H1 locs1 → H1[q9]? = some ce → ce.vm = .none → s.vm.findClass E = some ce.cls → vx_W p l e R s m args below meth c H1 locs1 (cells + mc) (slots + ms) Q (F0 m pc ls rest) q9)
    (kk : ∀ (r : Option Nat) (u : S) (t : State) (H1 : Heap) (locs1 : List Loc), t.heap = H1 → s.vm.Alike t.vm → post r u → B u t → H.size ≤ H1.size → (∀ q : Nat, q < H.size → ¬ A1 q → H1[q]? = H[q]?) → va_S A0 H0 H1 locs1 → W p l e R s m args below meth c H1 locs1 (cells + mc) (slots + ms) Q (F0 m (pc + 3) ls (va_rf r :: rest))) : W p l e R s m args below meth c H locs cells slots Q (F0 m pc ls st0) := by
  intro T hT X
  rcases hr T hT X with ⟨v, st₀, t, T', L, h0, X', hL, e1, e2, ⟨⟨r, u, hv, hp, hb⟩, hF⟩, st⟩ | ⟨q, st₀, t, T', L, E, ce, h0, X', hL, e1, e2, ⟨u, hp, hb, hF⟩, hce, hcv, hcl, st⟩
  · cases hv
    obtain ⟨k1, k2, k3⟩ := vx_keep h0 e1 hS hA hf hL hF
    obtain ⟨t2, a1, b1⟩ := kk r u t T'.heap (locs ++ L) e1.symm (by rw [← e2]; exact X'.warmed.alike) hp hb k1 k2 k3 T' rfl X'
    exact ⟨t2, st t2 a1, b1⟩
  · obtain ⟨k1, k2, k3⟩ := vx_keep h0 e1 hS hAX hf hL hF
    obtain ⟨t2, a1, b1⟩ := kx E ce q u t T'.heap (locs ++ L) e1.symm (by rw [← e2]; exact X'.warmed.alike) hp hb k1 k2 k3 (by rw [e1]; exact hce) hcv hcl T' rfl X'
    exact ⟨t2, st.trans a1, b1⟩
end
/-! ===== END ===== -/
/-! ===== BEGIN .. a constant ===== -/
section
variable {p : Program} {l : Launch} {e : Env} {R : Room} {s : State} {m : MethodId} {args : Array Value} {below : List Frame} {meth : Method} {c : Code} {H : Heap} {locs : List Loc} {cells slots : Nat} {Q : State → Prop}
variable {mc ms : Nat} {free : Addr → Prop} {A0 A1 : Nat → Prop} {H0 : Heap} {a : Array Value} {pc : Nat} {ls : Array Slot} {st0 rest : List Value}
theorem vx_calle {ad : Nat → Nat} {S SX : Type} {post : Option Nat → S → Prop} {px : SX → Prop} {B : S → State → Prop} {BX : String → SX → State → Prop} {AX : Nat → Prop} (hr : vx_Run p l e R s m args below meth c H locs cells slots mc ms (F0 m pc ls st0) rest (va_Qe ad post B A1 a) (vx_X px BX AX) free) (hS : va_S A0 H0 H locs) (hA : ∀ q, q < H.size → A1 q → A0 q) (hf : ∀ q, free q → A0 q) (hAX : ∀ q, q < H.size → AX q → A0 q)
    (kx : ∀ (E : String) (ce : Cell) (q9 : Addr) (u : SX) (t : State) (H1 : Heap) (locs1 : List Loc), t.heap = H1 → s.vm.Alike t.vm → px u → BX E u t → H.size ≤ H1.size → (∀ q : Nat, q < H.size → ¬ AX q → H1[q]? = H[q]?) → va_S A0 H0 H1 locs1 → H1[q9]? = some ce → ce.vm = .none → s.vm.findClass E = some ce.cls → vx_W p l e R s m args below meth c H1 locs1 (cells + mc) (slots + ms) Q (F0 m pc ls rest) q9)
    (kk : ∀ (r : Option Nat) (u : S) (t : State) (H1 : Heap) (locs1 : List Loc), t.heap = H1 → s.vm.Alike t.vm → post r u → B u t → H.size ≤ H1.size → (∀ q : Nat, q < H.size → ¬ A1 q → H1[q]? = H[q]?) → va_S A0 H0 H1 locs1 → W p l e R s m args below meth c H1 locs1 (cells + mc) (slots + ms) Q (F0 m (pc + 3) ls (va_re ad r :: rest))) : W p l e R s m args below meth c H locs cells slots Q (F0 m pc ls st0) := by
  intro T hT X
  rcases hr T hT X with ⟨v, st₀, t, T', L, h0, X', hL, e1, e2, ⟨⟨r, u, hv, hp, hb⟩, hF⟩, st⟩ | ⟨q, st₀, t, T', L, E, ce, h0, X', hL, e1, e2, ⟨u, hp, hb, hF⟩, hce, hcv, hcl, st⟩
  · cases hv
    obtain ⟨k1, k2, k3⟩ := vx_keep h0 e1 hS hA hf hL hF
    obtain ⟨t2, a1, b1⟩ := kk r u t T'.heap (locs ++ L) e1.symm (by rw [← e2]; exact X'.warmed.alike) hp hb k1 k2 k3 T' rfl X'
    exact ⟨t2, st t2 a1, b1⟩
  · obtain ⟨k1, k2, k3⟩ := vx_keep h0 e1 hS hAX hf hL hF
    obtain ⟨t2, a1, b1⟩ := kx E ce q u t T'.heap (locs ++ L) e1.symm (by rw [← e2]; exact X'.warmed.alike) hp hb k1 k2 k3 (by rw [e1]; exact hce) hcv hcl T' rfl X'
    exact ⟨t2, st.trans a1, b1⟩
end
/-! ===== END ===== -/
/-! ===== BEGIN .. by an interface, an object ===== -/
section
variable {p : Program} {l : Launch} {e : Env} {R : Room} {s : State} {m : MethodId} {args : Array Value} {below : List Frame} {meth : Method} {c : Code} {H : Heap} {locs : List Loc} {cells slots : Nat} {Q : State → Prop}
variable {mc ms : Nat} {free : Addr → Prop} {A0 A1 : Nat → Prop} {H0 : Heap} {a : Array Value} {pc : Nat} {ls : Array Slot} {st0 rest : List Value}
theorem vx_callFq {S SX : Type} {post : Option Nat → S → Prop} {px : SX → Prop} {B : S → State → Prop} {BX : String → SX → State → Prop} {AX : Nat → Prop} (hr : vx_Run5 p l e R s m args below meth c H locs cells slots mc ms (F0 m pc ls st0) rest (va_Qq post B A1 a) (vx_X px BX AX) free) (hS : va_S A0 H0 H locs) (hA : ∀ q, q < H.size → A1 q → A0 q) (hf : ∀ q, free q → A0 q) (hAX : ∀ q, q < H.size → AX q → A0 q)
    (kx : ∀ (E : String) (ce : Cell) (q9 : Addr) (u : SX) (t : State) (H1 : Heap) (locs1 : List Loc), t.heap = H1 → s.vm.Alike t.vm → px u → BX E u t → H.size ≤ H1.size → (∀ q : Nat, q < H.size → ¬ AX q → H1[q]? = H[q]?) → va_S A0 H0 H1 locs1 → H1[q9]? = some ce → ce.vm = .none → s.vm.findClass E = some ce.cls → vx_W p l e R s m args below meth c H1 locs1 (cells + mc) (slots + ms) Q (F0 m pc ls rest) q9)
    (kk : ∀ (r : Option Nat) (u : S) (t : State) (H1 : Heap) (locs1 : List Loc), t.heap = H1 → s.vm.Alike t.vm → post r u → B u t → H.size ≤ H1.size → (∀ q : Nat, q < H.size → ¬ A1 q → H1[q]? = H[q]?) → va_S A0 H0 H1 locs1 → W p l e R s m args below meth c H1 locs1 (cells + mc) (slots + ms) Q (F0 m (pc + 5) ls (va_rf r :: rest))) : W p l e R s m args below meth c H locs cells slots Q (F0 m pc ls st0) := by
  intro T hT X
  rcases hr T hT X with ⟨v, st₀, t, T', L, h0, X', hL, e1, e2, ⟨⟨r, u, hv, hp, hb⟩, hF⟩, st⟩ | ⟨q, st₀, t, T', L, E, ce, h0, X', hL, e1, e2, ⟨u, hp, hb, hF⟩, hce, hcv, hcl, st⟩
  · cases hv
    obtain ⟨k1, k2, k3⟩ := vx_keep h0 e1 hS hA hf hL hF
    obtain ⟨t2, a1, b1⟩ := kk r u t T'.heap (locs ++ L) e1.symm (by rw [← e2]; exact X'.warmed.alike) hp hb k1 k2 k3 T' rfl X'
    exact ⟨t2, st t2 a1, b1⟩
  · obtain ⟨k1, k2, k3⟩ := vx_keep h0 e1 hS hAX hf hL hF
    obtain ⟨t2, a1, b1⟩ := kx E ce q u t T'.heap (locs ++ L) e1.symm (by rw [← e2]; exact X'.warmed.alike) hp hb k1 k2 k3 (by rw [e1]; exact hce) hcv hcl T' rfl X'
    exact ⟨t2, st.trans a1, b1⟩
end
/-! ===== END ===== -/
/-! ===== BEGIN .. by an interface, a constant ===== -/
section
variable {p : Program} {l : Launch} {e : Env} {R : Room} {s : State} {m : MethodId} {args : Array Value} {below : List Frame} {meth : Method} {c : Code} {H : Heap} {locs : List Loc} {cells slots : Nat} {Q : State → Prop}
variable {mc ms : Nat} {free : Addr → Prop} {A0 A1 : Nat → Prop} {H0 : Heap} {a : Array Value} {pc : Nat} {ls : Array Slot} {st0 rest : List Value}
theorem vx_callFe {ad : Nat → Nat} {S SX : Type} {post : Option Nat → S → Prop} {px : SX → Prop} {B : S → State → Prop} {BX : String → SX → State → Prop} {AX : Nat → Prop} (hr : vx_Run5 p l e R s m args below meth c H locs cells slots mc ms (F0 m pc ls st0) rest (va_Qe ad post B A1 a) (vx_X px BX AX) free) (hS : va_S A0 H0 H locs) (hA : ∀ q, q < H.size → A1 q → A0 q) (hf : ∀ q, free q → A0 q) (hAX : ∀ q, q < H.size → AX q → A0 q)
    (kx : ∀ (E : String) (ce : Cell) (q9 : Addr) (u : SX) (t : State) (H1 : Heap) (locs1 : List Loc), t.heap = H1 → s.vm.Alike t.vm → px u → BX E u t → H.size ≤ H1.size → (∀ q : Nat, q < H.size → ¬ AX q → H1[q]? = H[q]?) → va_S A0 H0 H1 locs1 → H1[q9]? = some ce → ce.vm = .none → s.vm.findClass E = some ce.cls → vx_W p l e R s m args below meth c H1 locs1 (cells + mc) (slots + ms) Q (F0 m pc ls rest) q9)
    (kk : ∀ (r : Option Nat) (u : S) (t : State) (H1 : Heap) (locs1 : List Loc), t.heap = H1 → s.vm.Alike t.vm → post r u → B u t → H.size ≤ H1.size → (∀ q : Nat, q < H.size → ¬ A1 q → H1[q]? = H[q]?) → va_S A0 H0 H1 locs1 → W p l e R s m args below meth c H1 locs1 (cells + mc) (slots + ms) Q (F0 m (pc + 5) ls (va_re ad r :: rest))) : W p l e R s m args below meth c H locs cells slots Q (F0 m pc ls st0) := by
  intro T hT X
  rcases hr T hT X with ⟨v, st₀, t, T', L, h0, X', hL, e1, e2, ⟨⟨r, u, hv, hp, hb⟩, hF⟩, st⟩ | ⟨q, st₀, t, T', L, E, ce, h0, X', hL, e1, e2, ⟨u, hp, hb, hF⟩, hce, hcv, hcl, st⟩
  · cases hv
    obtain ⟨k1, k2, k3⟩ := vx_keep h0 e1 hS hA hf hL hF
    obtain ⟨t2, a1, b1⟩ := kk r u t T'.heap (locs ++ L) e1.symm (by rw [← e2]; exact X'.warmed.alike) hp hb k1 k2 k3 T' rfl X'
    exact ⟨t2, st t2 a1, b1⟩
  · obtain ⟨k1, k2, k3⟩ := vx_keep h0 e1 hS hAX hf hL hF
    obtain ⟨t2, a1, b1⟩ := kx E ce q u t T'.heap (locs ++ L) e1.symm (by rw [← e2]; exact X'.warmed.alike) hp hb k1 k2 k3 (by rw [e1]; exact hce) hcv hcl T' rfl X'
    exact ⟨t2, st.trans a1, b1⟩
end
/-! ===== END ===== -/
/-! ===== BEGIN what the machine throws by itself: null at a field, at athrow ===== -/
section VXM2
variable {p : Program} {l : Launch} {e : Env} {R : Room} {s : State} {m : MethodId} {args : Array Value} {below : List Frame} {meth : Method} {c : Code} {H : Heap} {locs : List Loc} {cells slots : Nat}
variable {Q : State → Prop} {cc : ByteArray} {pc : Nat} {ls : Array Slot} {rest : List Value}
theorem vx_getfN {D cl tys} {own ref C : String} {T : u_T} {N ci index : Nat} {Ts : List Cond} (hexec : p.tables.exec = Jvm.exec) (hb : c.code = cc) (hts : ∀ w ∈ Ts, w.before args s = true) (hin : ∀ w ∈ u_ws C T N, w ∈ Ts) (hown : s.vm.findClass own = some m.cls) (hK : va_K D cl tys s) (hc : cl[ci]? = some (C, T, N)) (k : Nat) (hk : k < N) (hlink : (Cond.fieldLink own index ref (T k).2.1 (T k).2.2.1).before args s = true) (hsame : ∀ x, s.fieldFound? (T k).1 (T k).2.1 (T k).2.2.1 = some x → s.fieldFound? ref (T k).2.1 (T k).2.2.1 = some x) (hdg : decode cc pc = .ok (.getfield index, 3)) (kk : vx_NoteN p l e R s m args below meth c H locs cells slots Q (F0 m pc ls rest)) : W p l e R s m args below meth c H locs cells slots Q (F0 m pc ls (.null :: rest)) := by
  obtain ⟨hS, hfc, kC, hkC, -⟩ := hK.1 ci _ hc
  obtain ⟨cf, kf, fi, f, hi, -⟩ := hS k hk
  intro U hU X
  obtain ⟨vm', X1, st1⟩ := X.getfieldNull hexec hown hlink (hsame _ hi) (u_facts hfc hkC (u_lays hts hin hk) hi).1 (g := F0 m pc ls (.null :: rest)) rfl (rest := rest) rfl (by rw [hb]; exact hdg)
  obtain ⟨t, st, q⟩ := kk (U.setVm vm') hU X1
  exact ⟨t, st1 t st, q⟩
theorem vx_getfNN {D cl tys} {own ref C host : String} {T : u_T} {N ci index : Nat} {Ts : List Cond} (hexec : p.tables.exec = Jvm.exec) (hb : c.code = cc) (hts : ∀ w ∈ Ts, w.before args s = true) (hin : ∀ w ∈ u_ws C T N, w ∈ Ts) (hown : s.vm.findClass own = some m.cls) (hK : va_K D cl tys s) (hc : cl[ci]? = some (C, T, N)) (k : Nat) (hk : k < N) (hlink : (Cond.fieldLinkNest own index ref (T k).2.1 (T k).2.2.1 host).before args s = true) (hsame : ∀ x, s.fieldFound? (T k).1 (T k).2.1 (T k).2.2.1 = some x → s.fieldFound? ref (T k).2.1 (T k).2.2.1 = some x) (hdg : decode cc pc = .ok (.getfield index, 3)) (kk : vx_NoteN p l e R s m args below meth c H locs cells slots Q (F0 m pc ls rest)) : W p l e R s m args below meth c H locs cells slots Q (F0 m pc ls (.null :: rest)) := by
  obtain ⟨hS, hfc, kC, hkC, -⟩ := hK.1 ci _ hc
  obtain ⟨cf, kf, fi, f, hi, -⟩ := hS k hk
  intro U hU X
  obtain ⟨vm', X1, st1⟩ := X.getfieldNullNest hexec hown hlink (hsame _ hi) (u_facts hfc hkC (u_lays hts hin hk) hi).1 (g := F0 m pc ls (.null :: rest)) rfl (rest := rest) rfl (by rw [hb]; exact hdg)
  obtain ⟨t, st, q⟩ := kk (U.setVm vm') hU X1
  exact ⟨t, st1 t st, q⟩
theorem vx_putfN {D cl tys} {own ref C : String} {T : u_T} {N ci index : Nat} {Ts : List Cond} (hexec : p.tables.exec = Jvm.exec) (hb : c.code = cc) (hts : ∀ w ∈ Ts, w.before args s = true) (hin : ∀ w ∈ u_ws C T N, w ∈ Ts) (hown : s.vm.findClass own = some m.cls) (hK : va_K D cl tys s) (hc : cl[ci]? = some (C, T, N)) (k : Nat) (hk : k < N) (hlink : (Cond.fieldLink own index ref (T k).2.1 (T k).2.2.1).before args s = true) (hsame : ∀ x, s.fieldFound? (T k).1 (T k).2.1 (T k).2.2.1 = some x → s.fieldFound? ref (T k).2.1 (T k).2.2.1 = some x) (hfin : (T k).2.2.2 = false) {v : Value} (hdg : decode cc pc = .ok (.putfield index, 3)) (kk : vx_NoteN p l e R s m args below meth c H locs cells slots Q (F0 m pc ls rest)) : W p l e R s m args below meth c H locs cells slots Q (F0 m pc ls (v :: .null :: rest)) := by
  obtain ⟨hS, hfc, kC, hkC, -⟩ := hK.1 ci _ hc
  obtain ⟨cf, kf, fi, f, hi, -⟩ := hS k hk
  have hlay := hts _ (hin _ (u_in_lay hk))
  unfold u_lay at hlay
  rw [if_neg (by rw [hfin]; decide)] at hlay
  obtain ⟨c9, k9, cf9, kf9, fi9, f9, -, -, hi9, hst9, hnf9, -⟩ := Cond.lays_spec hlay
  cases hi.symm.trans hi9
  intro U hU X
  obtain ⟨vm', X1, st1⟩ := X.putfieldNull hexec hown hlink (hsame _ hi) hst9 hnf9 (g := F0 m pc ls (v :: .null :: rest)) rfl (v := v) (rest := rest) rfl (by rw [hb]; exact hdg)
  obtain ⟨t, st, q⟩ := kk (U.setVm vm') hU X1
  exact ⟨t, st1 t st, q⟩
theorem vx_putfNN {D cl tys} {own ref C host : String} {T : u_T} {N ci index : Nat} {Ts : List Cond} (hexec : p.tables.exec = Jvm.exec) (hb : c.code = cc) (hts : ∀ w ∈ Ts, w.before args s = true) (hin : ∀ w ∈ u_ws C T N, w ∈ Ts) (hown : s.vm.findClass own = some m.cls) (hK : va_K D cl tys s) (hc : cl[ci]? = some (C, T, N)) (k : Nat) (hk : k < N) (hlink : (Cond.fieldLinkNest own index ref (T k).2.1 (T k).2.2.1 host).before args s = true) (hsame : ∀ x, s.fieldFound? (T k).1 (T k).2.1 (T k).2.2.1 = some x → s.fieldFound? ref (T k).2.1 (T k).2.2.1 = some x) (hfin : (T k).2.2.2 = false) {v : Value} (hdg : decode cc pc = .ok (.putfield index, 3)) (kk : vx_NoteN p l e R s m args below meth c H locs cells slots Q (F0 m pc ls rest)) : W p l e R s m args below meth c H locs cells slots Q (F0 m pc ls (v :: .null :: rest)) := by
  obtain ⟨hS, hfc, kC, hkC, -⟩ := hK.1 ci _ hc
  obtain ⟨cf, kf, fi, f, hi, -⟩ := hS k hk
  have hlay := hts _ (hin _ (u_in_lay hk))
  unfold u_lay at hlay
  rw [if_neg (by rw [hfin]; decide)] at hlay
  obtain ⟨c9, k9, cf9, kf9, fi9, f9, -, -, hi9, hst9, hnf9, -⟩ := Cond.lays_spec hlay
  cases hi.symm.trans hi9
  intro U hU X
  obtain ⟨vm', X1, st1⟩ := X.putfieldNullNest hexec hown hlink (hsame _ hi) hst9 hnf9 (g := F0 m pc ls (v :: .null :: rest)) rfl (v := v) (rest := rest) rfl (by rw [hb]; exact hdg)
  obtain ⟨t, st, q⟩ := kk (U.setVm vm') hU X1
  exact ⟨t, st1 t st, q⟩
theorem vx_athrowN (hexec : p.tables.exec = Jvm.exec) (hb : c.code = cc) (hdg : decode cc pc = .ok (.athrow, 1)) (k : vx_NoteN p l e R s m args below meth c H locs cells slots Q (F0 m pc ls rest)) : W p l e R s m args below meth c H locs cells slots Q (F0 m pc ls (.null :: rest)) := by
  intro T hT X
  obtain ⟨t, st, q⟩ := k T hT X
  exact ⟨t, X.athrowNull hexec (g := F0 m pc ls (.null :: rest)) rfl (rest := rest) rfl (by rw [hb]; exact hdg) t st, q⟩
end VXM2
/-! ===== END ===== -/
end
section
/-! THE ABSTRACT MACHINE: a flat memory of typed cells (kinds, ints, longs, references by number), values whose references are numbers of cells (0: null), a predicate transformer am_one for one instruction (of a resolved code), am_W its least fixpoint, am_C the calls by depth. What it says is tied to the machine in part 05. -/
/-- memory: kind (1,ci) object of class ci; (2,n) int[]; (3,n) byte[]; (6,n) Graph[]; (7,n) int[][]; ints; longs; references; next cell (cells made), slots made -/
abbrev am_H : Type := (Nat → Nat × Nat) × (Nat → Nat → Int32) × (Nat → Nat → Int64) × (Nat → Nat → Nat) × Nat × Nat
def am_k (h : am_H) (a : Nat) : Nat × Nat := h.1 a
def am_i (h : am_H) (a k : Nat) : Int32 := h.2.1 a k
def am_l (h : am_H) (a k : Nat) : Int64 := h.2.2.1 a k
def am_r (h : am_H) (a k : Nat) : Nat := h.2.2.2.1 a k
def am_n (h : am_H) : Nat := h.2.2.2.2.1
def am_cs (h : am_H) : Nat := h.2.2.2.2.2
def am_pi (h : am_H) (a k : Nat) (v : Int32) : am_H := (h.1, va_up h.2.1 a (upd (h.2.1 a) k v), h.2.2)
def am_pl (h : am_H) (a k : Nat) (v : Int64) : am_H := (h.1, h.2.1, va_up h.2.2.1 a (vp_updL (h.2.2.1 a) k v), h.2.2.2)
def am_pr (h : am_H) (a k : Nat) (v : Nat) : am_H := (h.1, h.2.1, h.2.2.1, va_up h.2.2.2.1 a (va_up (h.2.2.2.1 a) k v), h.2.2.2.2)
def am_clo (h : am_H) (a : Nat) : am_H := (va_up h.1 (am_n h) (h.1 a), va_up h.2.1 (am_n h) (h.2.1 a), va_up h.2.2.1 (am_n h) (fun _ => 0), va_up h.2.2.2.1 (am_n h) (fun _ => 0), am_n h + 1, am_cs h + (h.1 a).2)
def am_mul (h : am_H) (n k : Nat) : am_H := (fun q => if q = am_n h then (7, n) else if am_n h < q ∧ q ≤ am_n h + n then (2, k) else h.1 q, fun q => if am_n h ≤ q ∧ q ≤ am_n h + n then (fun _ => 0) else h.2.1 q, fun q => if am_n h ≤ q ∧ q ≤ am_n h + n then (fun _ => 0) else h.2.2.1 q, fun q => if q = am_n h then (fun j => if j < n then am_n h + 1 + j else 0) else if am_n h < q ∧ q ≤ am_n h + n then (fun _ => 0) else h.2.2.2.1 q, am_n h + 1 + n, am_cs h + n + n * k)
def am_cp (h : am_H) (b sp a dp n : Nat) : am_H := (h.1, va_up h.2.1 a (va_cpy (h.2.1 b) (h.2.1 a) sp dp n), h.2.2)
def am_new (h : am_H) (t n w : Nat) : am_H := (va_up h.1 (am_n h) (t, n), va_up h.2.1 (am_n h) (fun _ => 0), va_up h.2.2.1 (am_n h) (fun _ => 0), va_up h.2.2.2.1 (am_n h) (fun _ => 0), am_n h + 1, am_cs h + w)
def am_thr (h : am_H) : am_H := (h.1, h.2.1, h.2.2.1, h.2.2.2.1, am_n h + 1, am_cs h + 6)
/-- numbers from here on aren't cells: String constants, the script -/
abbrev am_top : Nat := 1000000
abbrev am_S0 : Nat := 2000000
abbrev am_scr : Nat := 3000000
abbrev am_J : Value := .retAddr 0
abbrev am_R : Type := Option Value ⊕ Nat
abbrev am_Q : Type := am_R → am_H → Prop
abbrev am_K : Type := Nat → List Value → List Value → am_H → Prop
abbrev am_Cal : Type := Nat → List Value → am_H → am_Q → Prop
def am_set (L : List Value) (i : Nat) (v : Value) : List Value :=
  match i with
  | 0 => L.set 0 v
  | j + 1 => match L[j]? with
    | some (.long _) => (L.set j am_J).set (j + 1) v
    | some (.double _) => (L.set j am_J).set (j + 1) v
    | _ => L.set (j + 1) v
def am_set2 (L : List Value) (i : Nat) (v : Value) : List Value := (am_set L i v).set (i + 1) am_J
def am_strs : List (List Nat) := [[103, 114, 97, 112, 104], [116, 101, 114, 109, 105, 110, 97, 108], [101, 100, 103, 101], [108, 111, 97, 100], [99, 111, 115, 116], [119, 101, 105, 103, 104, 116], [108, 111, 119], [104, 105, 103, 104], [103, 114, 97, 112, 104, 32], [59], [108, 111, 97, 100, 32], [116, 101, 114, 109, 105, 110, 97, 108, 32], [101, 100, 103, 101, 32], [32], [99, 111, 115, 116, 32, 119, 101, 105, 103, 104, 116, 32, 42, 32, 50, 32, 43, 32, 108, 111, 119, 32, 45, 32, 104, 105, 103, 104, 59]]
/-- cells that are read in the JDK's own methods, the constants among them: string j at am_S0 + j, its bytes at am_S0 + 1000 + j, Integer's two tables at am_S0 + 2000, 2001 -/
def am_k2 (h : am_H) (a : Nat) : Nat × Nat := if a < am_S0 then am_k h a else if a - am_S0 < 15 then (1, 10) else if 1000 ≤ a - am_S0 ∧ a - am_S0 < 1015 then (3, (am_strs.getD (a - am_S0 - 1000) []).length) else if a - am_S0 = 2000 ∨ a - am_S0 = 2001 then (3, 100) else (0, 0)
def am_i2 (h : am_H) (a k : Nat) : Int32 := if a < am_S0 then am_i h a k else if a - am_S0 < 1000 then 0 else if a - am_S0 < 2000 then nI ((am_strs.getD (a - am_S0 - 1000) []).getD k 0) else if a - am_S0 = 2000 then nI (48 + k % 10) else nI (48 + k / 10)
def am_r2 (h : am_H) (a : Nat) : Nat := if a < am_S0 then am_r h a 0 else a + 1000
def am_cp2 (h : am_H) (b sp a dp n : Nat) : am_H := (h.1, va_up h.2.1 a (va_cpy (am_i2 h b) (h.2.1 a) sp dp n), h.2.2)
def am_cond (c : Jvm.ClassFile.Cond) (x y : Int32) : Prop := match c with
  | .eq => x = y
  | .ne => x ≠ y
  | .lt => x < y
  | .ge => y ≤ x
  | .gt => y < x
  | .le => x ≤ y
def am_inc (x : Int32) (n : Int) : Int32 := match n with
  | .ofNat k => x + nI k
  | .negSucc k => x - nI (k + 1)
def am_tsw (d lo hi : Int) (offs : Array Int) (x : Int32) : Nat := if x.toInt < lo ∨ hi < x.toInt then d.toNat else (offs.getD (x.toInt - lo).toNat 0).toNat
def am_arr (h : am_H) (a t : Nat) (i : Int32) : Prop := (am_k h a).1 = t ∧ vp_in i (am_k h a).2
/-- what an instruction does that touches no local: next; check and next; branch; end; call -/
abbrev am_SC : Type := Nat × List Value × am_H
abbrev am_SO : Type := Option (am_SC ⊕ (Prop × am_SC) ⊕ (Prop × Nat × Nat × List Value) ⊕ (Prop × am_R × am_H) ⊕ (Prop × Nat × List Value × List Value))
abbrev am_nx (p : Nat) (S : List Value) (h : am_H) : am_SO := some (.inl (p, S, h))
abbrev am_ck (c : Prop) (p : Nat) (S : List Value) (h : am_H) : am_SO := some (.inr (.inl (c, p, S, h)))
abbrev am_br (c : Prop) (p q : Nat) (S : List Value) : am_SO := some (.inr (.inr (.inl (c, p, q, S))))
abbrev am_end (c : Prop) (r : am_R) (h : am_H) : am_SO := some (.inr (.inr (.inr (.inl (c, r, h)))))
abbrev am_call (c : Prop) (m : Nat) (as rest : List Value) : am_SO := some (.inr (.inr (.inr (.inr (c, m, as, rest)))))
/-- the script: its length and its ints -/
abbrev am_X : Type := Nat × (Nat → Int32)
/-- at most four values, or six of one slot each -/
def am_s1 (v : Value) : Bool := match v with
  | .long _ => false
  | .double _ => false
  | _ => true
def am_sh (S : List Value) : Bool := match S with
  | a :: b :: c :: d :: e :: S => am_s1 a && am_s1 b && am_s1 c && am_s1 d && am_s1 e && (match S with
    | [] => true
    | [f] => am_s1 f
    | _ => false)
  | _ => true
def am_stp (xs : am_X) (op : Instr) (nx : Nat) (S : List Value) (h : am_H) : am_SO :=
  match op with
  | .nop => am_nx nx S h
  | .ldc k => am_nx nx (.int (nI k) :: S) h
  | .ldc_w k => am_nx nx (.int (-nI k) :: S) h
  | .ldc2_w k => am_nx nx (.long (lN k) :: S) h
  | .goto_w k => am_nx nx (.long (Int64.ofInt k) :: S) h
  | .invokedynamic k => am_nx nx (.float (UInt32.ofNat k) :: S) h
  | .invokeinterface j _ => am_nx nx (.ref (am_S0 + j) :: S) h
  | .aconst_null => am_nx nx (.ref 0 :: S) h
  | .iadd => match S with | .int y :: .int x :: S => am_nx nx (.int (x + y) :: S) h | _ => none
  | .isub => match S with | .int y :: .int x :: S => am_nx nx (.int (x - y) :: S) h | _ => none
  | .imul => match S with | .int y :: .int x :: S => am_nx nx (.int (x * y) :: S) h | _ => none
  | .idiv => match S with | .int y :: .int x :: S => am_ck (¬ y = 0) nx (.int (x / y) :: S) h | _ => none
  | .irem => match S with | .int y :: .int x :: S => am_ck (¬ y = 0) nx (.int (x - x / y * y) :: S) h | _ => none
  | .iand => match S with | .int y :: .int x :: S => am_nx nx (.int (x &&& y) :: S) h | _ => none
  | .ior => match S with | .int y :: .int x :: S => am_nx nx (.int (x ||| y) :: S) h | _ => none
  | .ixor => match S with | .int y :: .int x :: S => am_nx nx (.int (x ^^^ y) :: S) h | _ => none
  | .ishl => match S with | .int y :: .int x :: S => am_nx nx (.int (x <<< (y &&& 31)) :: S) h | _ => none
  | .ishr => match S with | .int y :: .int x :: S => am_nx nx (.int (x >>> (y &&& 31)) :: S) h | _ => none
  | .iushr => match S with | .int y :: .int x :: S => am_nx nx (.int ((x.toUInt32 >>> (y.toUInt32 &&& Int32.toUInt32 31)).toInt32) :: S) h | _ => none
  | .i2l => match S with | .int x :: S => am_nx nx (.long x.toInt64 :: S) h | _ => none
  | .l2i => match S with | .long x :: S => am_nx nx (.int x.toInt32 :: S) h | _ => none
  | .i2b => match S with | .int x :: S => am_nx nx (.int x.toInt8.toInt32 :: S) h | _ => none
  | .i2f => match S with | .int x :: S => am_nx nx (.float (FP.i2f x) :: S) h | _ => none
  | .ladd => match S with | .long y :: .long x :: S => am_nx nx (.long (x + y) :: S) h | _ => none
  | .lsub => match S with | .long y :: .long x :: S => am_nx nx (.long (x - y) :: S) h | _ => none
  | .lmul => match S with | .long y :: .long x :: S => am_nx nx (.long (x * y) :: S) h | _ => none
  | .ldiv => match S with | .long y :: .long x :: S => am_ck (¬ y = 0) nx (.long (x / y) :: S) h | _ => none
  | .lneg => match S with | .long x :: S => am_nx nx (.long (-x) :: S) h | _ => none
  | .lcmp => match S with | .long y :: .long x :: S => am_nx nx (.int (lg_cmp x y) :: S) h | _ => none
  | .fadd => match S with | .float y :: .float x :: S => am_ck (vf_n32 (FP.fadd x y)) nx (.float (FP.fadd x y) :: S) h | _ => none
  | .fmul => match S with | .float y :: .float x :: S => am_ck (vf_n32 (FP.fmul x y)) nx (.float (FP.fmul x y) :: S) h | _ => none
  | .fdiv => match S with | .float y :: .float x :: S => am_ck (vf_n32 (FP.fdiv x y)) nx (.float (FP.fdiv x y) :: S) h | _ => none
  | .f2d => match S with | .float x :: S => am_ck (vf_n64 (FP.f2d x)) nx (.double (FP.f2d x) :: S) h | _ => none
  | .dcmp c => match S with | .double y :: .double x :: S => am_nx nx (.int (Op.cmpValue (FP.dcmp x y) c) :: S) h | _ => none
  | .dup => match S with
    | .int x :: S => am_nx nx (.int x :: .int x :: S) h
    | .ref x :: S => am_nx nx (.ref x :: .ref x :: S) h
    | _ => none
  | .dup2 => match S with | .int x :: .ref y :: S => am_nx nx (.int x :: .ref y :: .int x :: .ref y :: S) h | _ => none
  | .pop => match S with
    | .int _ :: S => am_nx nx S h
    | .ref _ :: S => am_nx nx S h
    | _ => none
  | .ineg => match S with | .int x :: S => am_nx nx (.int (-x) :: S) h | _ => none
  | .i2c => match S with | .int x :: S => am_nx nx (.int (x.toUInt32 % 65536).toInt32 :: S) h | _ => none
  | .dup_x1 => match S with | .int x :: .ref y :: S => am_nx nx (.int x :: .ref y :: .int x :: S) h | _ => none
  | .ifnonnull t => match S with | .ref a :: S => am_br (a ≠ 0) t.toNat nx S | _ => none
  | .frem => match S with | .int n :: .int i :: S => bif am_sh S then am_ck (¬ i < 0 ∧ i < n) nx S h else none | _ => none
  | .jsr_w _ => match S with | .ref a :: S => am_ck (am_k2 h a = (1, 10)) nx (.int (am_i2 h a 1) :: S) h | _ => none
  | .ret _ => match S with | .ref a :: S => am_ck (am_k2 h a = (1, 10)) nx (.ref (am_r2 h a) :: S) h | _ => none
  | .fneg => match S with | .ref a :: S => am_ck ((am_k2 h a).1 = 3) nx (.int (nI (am_k2 h a).2) :: S) h | _ => none
  | .faload => match S with | .int i :: .ref a :: S => am_ck ((am_k2 h a).1 = 3 ∧ vp_in i (am_k2 h a).2) nx (.int (am_i2 h a i.toNatClampNeg) :: S) h | _ => none
  | .fastore => match S with
    | .int n :: .int dp :: .ref a :: .int sp :: .ref b :: S => bif am_sh S then am_ck (((am_k h a).1 = 3 ∧ (am_k2 h b).1 = 3) ∧ (¬ sp < 0 ∧ ¬ dp < 0 ∧ ¬ n < 0) ∧ sp.toNatClampNeg + n.toNatClampNeg ≤ (am_k2 h b).2 ∧ dp.toNatClampNeg + n.toNatClampNeg ≤ (am_k h a).2) nx S (am_cp2 h b sp.toNatClampNeg a dp.toNatClampNeg n.toNatClampNeg) else none
    | _ => none
  | .dneg => match S with | .ref a :: S => bif am_sh S then am_ck ((am_k h a).1 = 2 ∧ am_n h < am_top) nx (.ref (am_n h) :: S) (am_clo h a) else none | _ => none
  | .drem => match S with | .ref a :: S => bif am_sh S then am_ck ((am_k h a).1 = 3 ∧ am_n h < am_top) nx (.ref (am_n h) :: S) (am_clo h a) else none | _ => none
  | .lushr => match S with | .int k :: .int n :: S => am_ck ((¬ n < 0 ∧ ¬ k < 0 ∧ n.toNatClampNeg ≤ 1000 ∧ k.toNatClampNeg ≤ 1000) ∧ am_n h + n.toNatClampNeg < am_top) nx (.ref (am_n h) :: S) (am_mul h n.toNatClampNeg k.toNatClampNeg) | _ => none
  | .dastore => match S with | .int i :: .ref a :: S => am_ck (am_arr h a 7 i) nx (.ref (am_r h a i.toNatClampNeg) :: S) h | _ => none
  | .f2i => match S with | [.int x] => am_end (0 ≤ x ∧ x < 65536) (.inl (some (.int x))) h | _ => none
  | .lookupswitch e _ => match S.drop (e.toNat % 16) with
    | .ref a :: S' => bif am_sh S' then am_call (am_k2 h a = (1, e.toNat / 8192)) (e.toNat / 16 % 512) (.ref a :: (S.take (e.toNat % 16)).reverse) S' else none
    | _ => none
  | .pop2 => match S with | [.ref a] => am_ck (a ≠ 0) nx [] h | _ => none
  | .dadd => match S with | .int y :: .int x :: S => bif am_sh S then am_nx nx (.int (if x < y then y else x) :: S) h else none | _ => none
  | .dsub => match S with | .int y :: .int x :: S => bif am_sh S then am_nx nx (.int (if y < x then y else x) :: S) h else none | _ => none
  | .dmul => match S with | .long y :: .long x :: S => bif am_sh S then am_nx nx (.long (if y < x then x else y) :: S) h else none | _ => none
  | .ddiv => match S with | .long y :: .long x :: S => bif am_sh S then am_nx nx (.long (if y < x then y else x) :: S) h else none | _ => none
  | .goto t => am_nx t.toNat S h
  | .if_icmp c t => match S with | .int y :: .int x :: S => am_br (am_cond c x y) t.toNat nx S | _ => none
  | .ifCond c t => match S with | .int x :: S => am_br (am_cond c x 0) t.toNat nx S | _ => none
  | .ifnull t => match S with | .ref a :: S => am_br (a = 0) t.toNat nx S | _ => none
  | .tableswitch d lo hi offs => match S with | .int x :: S => am_nx (am_tsw d lo hi offs x) S h | _ => none
  | .getfield e => match S with | .ref a :: S => am_ck (am_k h a = (1, e / 64)) nx (.int (am_i h a (e % 64)) :: S) h | _ => none
  | .getstatic e => match S with | .ref a :: S => am_ck (am_k h a = (1, e / 64)) nx (.ref (am_r h a (e % 64)) :: S) h | _ => none
  | .putfield e => match S with | .int x :: .ref a :: S => am_ck (am_k h a = (1, e / 64)) nx S (am_pi h a (e % 64) x) | _ => none
  | .putstatic e => match S with | .int x :: .ref a :: S => am_ck (am_k h a = (1, e / 64) ∧ (x = 0 ∨ x = 1)) nx S (am_pi h a (e % 64) x) | _ => none
  | .checkcast e => match S with | .ref b :: .ref a :: S => am_ck (am_k h a = (1, e / 64)) nx S (am_pr h a (e % 64) b) | _ => none
  | .iaload => match S with | .int i :: .ref a :: S => am_ck (am_arr h a 2 i) nx (.int (am_i h a i.toNatClampNeg) :: S) h | _ => none
  | .baload => match S with | .int i :: .ref a :: S => am_ck (am_arr h a 3 i) nx (.int (am_i h a i.toNatClampNeg) :: S) h | _ => none
  | .saload => match S with | .int i :: .ref a :: S => am_ck (am_arr h a 4 i) nx (.int (am_i h a i.toNatClampNeg) :: S) h | _ => none
  | .laload => match S with | .int i :: .ref a :: S => am_ck (am_arr h a 5 i) nx (.long (am_l h a i.toNatClampNeg) :: S) h | _ => none
  | .aaload => match S with | .int i :: .ref a :: S => am_ck (am_arr h a 6 i) nx (.ref (am_r h a i.toNatClampNeg) :: S) h | _ => none
  | .daload => match S with | .int i :: .ref a :: S => am_ck (a = am_scr ∧ vp_in i xs.1) nx (.int (xs.2 i.toNatClampNeg) :: S) h | _ => none
  | .monitorenter => match S with | .ref a :: S => am_ck (a = am_scr) nx (.int (nI xs.1) :: S) h | _ => none
  | .iastore => match S with | .int x :: .int i :: .ref a :: S => am_ck (am_arr h a 2 i) nx S (am_pi h a i.toNatClampNeg x) | _ => none
  | .bastore => match S with | .int x :: .int i :: .ref a :: S => am_ck (am_arr h a 3 i) nx S (am_pi h a i.toNatClampNeg (vp_nar .byte x)) | _ => none
  | .sastore => match S with | .int x :: .int i :: .ref a :: S => am_ck (am_arr h a 4 i) nx S (am_pi h a i.toNatClampNeg (vp_nar .boolean x)) | _ => none
  | .lastore => match S with | .long x :: .int i :: .ref a :: S => am_ck (am_arr h a 5 i) nx S (am_pl h a i.toNatClampNeg x) | _ => none
  | .aastore => match S with | .ref b :: .int i :: .ref a :: S => am_ck (am_arr h a 6 i ∧ am_k h b = (1, 2)) nx S (am_pr h a i.toNatClampNeg b) | _ => none
  | .arraylength => match S with | .ref a :: S => am_ck (2 ≤ (am_k h a).1 ∧ (am_k h a).1 ≤ 6) nx (.int (nI (am_k h a).2) :: S) h | _ => none
  | .new e => am_ck (am_n h < am_top) nx (.ref (am_n h) :: S) (am_new h 1 (e / 64) (e % 64))
  | .anewarray t => match S with | .int n :: S => am_ck (am_n h < am_top ∧ ¬ n < 0 ∧ n.toNatClampNeg ≤ 100000) nx (.ref (am_n h) :: S) (am_new h t n.toNatClampNeg n.toNatClampNeg) | _ => none
  | .multianewarray _ _ => match S with
    | .int n :: .int dp :: .ref a :: .int sp :: .ref b :: S => bif am_sh S then am_ck (((am_k h a).1 = 2 ∧ (am_k h b).1 = 2) ∧ (¬ sp < 0 ∧ ¬ dp < 0 ∧ ¬ n < 0) ∧ sp.toNatClampNeg + n.toNatClampNeg ≤ (am_k h b).2 ∧ dp.toNatClampNeg + n.toNatClampNeg ≤ (am_k h a).2) nx S (am_cp h b sp.toNatClampNeg a dp.toNatClampNeg n.toNatClampNeg) else none
    | _ => none
  | .monitorexit => match S with | .ref a :: S => bif am_sh S then am_ck (am_S0 ≤ a ∧ a - am_S0 < am_strs.length) nx (.int (nI (am_strs.getD (a - am_S0) []).length) :: S) h else none | _ => none
  | .instanceof _ => match S with | .int i :: .ref a :: S => bif am_sh S then am_ck ((am_S0 ≤ a ∧ a - am_S0 < am_strs.length) ∧ vp_in i (am_strs.getD (a - am_S0) []).length) nx (.int (nI ((am_strs.getD (a - am_S0) []).getD i.toNatClampNeg 0)) :: S) h else none | _ => none
  | .ireturn => match S with | [.int x] => am_end True (.inl (some (.int x))) h | _ => none
  | .areturn => match S with | [.int x] => am_end (x = 0 ∨ x = 1) (.inl (some (.int x))) h | _ => none
  | .dreturn => match S with | [.ref x] => am_end True (.inl (some (.ref x))) h | _ => none
  | .lreturn => match S with | [.long x] => am_end True (.inl (some (.long x))) h | _ => none
  | .freturn => match S with | [.float x] => am_end True (.inl (some (.float x))) h | _ => none
  | .return_ => match S with | [] => am_end True (.inl none) h | _ => none
  | .jsr k => bif am_sh S then am_end (am_n h < am_top) (.inr k.toNat) (am_thr h) else none
  | .invokestatic e => bif am_sh (S.drop (e % 16)) && Nat.beq (S.take (e % 16)).length (e % 16) then am_call True (e / 16) (S.take (e % 16)).reverse (S.drop (e % 16)) else none
  | .invokevirtual e => match S.drop (e % 16) with
    | .ref a :: S' => bif am_sh S' then am_call (am_k h a = (1, e / 8192)) (e / 16 % 512) (.ref a :: (S.take (e % 16)).reverse) S' else none
    | _ => none
  | _ => none
def am_out (rec : am_K) (cal : am_Cal) (hdl : Nat → Nat → Option (Nat × Nat)) (Q : am_Q) (pc nx : Nat) (L : List Value) (h : am_H) (o : am_SO) : Prop :=
  match o with
  | none => False
  | some (.inl (p, S, h)) => rec p L S h
  | some (.inr (.inl (c, p, S, h))) => c ∧ rec p L S h
  | some (.inr (.inr (.inl (c, p, q, S)))) => (c → rec p L S h) ∧ (¬ c → rec q L S h)
  | some (.inr (.inr (.inr (.inl (c, r, h))))) => c ∧ Q r h
  | some (.inr (.inr (.inr (.inr (c, m, as, S))))) => c ∧ cal m as h (fun r h => match r with
    | .inl none => rec nx L S h
    | .inl (some v) => rec nx L (v :: S) h
    | .inr E => match hdl pc E with
      | none => Q (.inr E) h
      | some (p, i) => rec p (am_set L i am_J) [] h)
/-- what an instruction does that touches the locals (none: another one; some none: it doesn't go) -/
def am_lop (op : Instr) (L S : List Value) : Option (Option (List Value × List Value)) :=
  match op with
  | .iload i => some (match L[i]? with | some (.int x) => some (L, .int x :: S) | _ => none)
  | .aload i => some (match L[i]? with | some (.ref x) => some (L, .ref x :: S) | _ => none)
  | .lload i => some (match L[i]? with | some (.long x) => some (L, .long x :: S) | _ => none)
  | .fload i => some (match L[i]? with | some (.float x) => some (L, .float x :: S) | _ => none)
  | .dload i => some (match L[i]? with | some (.double x) => some (L, .double x :: S) | _ => none)
  | .istore i => some (match S, L[i]? with | .int x :: S, some _ => some (am_set L i (.int x), S) | _, _ => none)
  | .astore i => some (match S, L[i]? with | .ref x :: S, some _ => some (am_set L i (.ref x), S) | _, _ => none)
  | .fstore i => some (match S, L[i]? with | .float x :: S, some _ => some (am_set L i (.float x), S) | _, _ => none)
  | .lstore i => some (match S, L[i + 1]? with | .long x :: S, some _ => some (am_set2 L i (.long x), S) | _, _ => none)
  | .dstore i => some (match S, L[i + 1]? with | .double x :: S, some _ => some (am_set2 L i (.double x), S) | _, _ => none)
  | .iinc i n => some (match L[i]? with | some (.int x) => some (am_set L i (.int (am_inc x n)), S) | _ => none)
  | _ => none
/-- one instruction -/
def am_one (xs : am_X) (code : Nat → Option (Instr × Nat)) (hdl : Nat → Nat → Option (Nat × Nat)) (rec : am_K) (cal : am_Cal) (Q : am_Q) : am_K := fun pc L S h =>
  match code pc with
  | none => False
  | some (op, nx) => match am_lop op L S with
    | some (some (L', S')) => rec nx L' S' h
    | some none => False
    | none => am_out rec cal hdl Q pc nx L h (am_stp xs op nx S h)
/-- its least fixpoint -/
def am_W (xs : am_X) (code : Nat → Option (Instr × Nat)) (hdl : Nat → Nat → Option (Nat × Nat)) (cal : am_Cal) (Q : am_Q) : am_K := fun pc L S h =>
  ∀ P : am_K, (∀ pc L S h, am_one xs code hdl P cal Q pc L S h → P pc L S h) → P pc L S h
def am_pad : List Value → List Value
  | [] => []
  | .long x :: l => .long x :: am_J :: am_pad l
  | .double x :: l => .double x :: am_J :: am_pad l
  | v :: l => v :: am_pad l
def am_loc (args : List Value) (n : Nat) : List Value := am_pad args ++ List.replicate (n - (am_pad args).length) am_J
abbrev am_P : Type := Nat → Option ((Nat → Option (Instr × Nat)) × (Nat → Nat → Option (Nat × Nat)) × Nat)
/-- a call at depth d: the method's code from its entry -/
def am_C (xs : am_X) (P : am_P) : Nat → am_Cal
  | 0 => fun _ _ _ _ => False
  | d + 1 => fun m as h Q => match P m with
    | none => False
    | some (code, hdl, n) => Nat.ble (am_pad as).length n = true ∧ am_W xs code hdl (am_C xs P d) Q 0 (am_loc as n) [] h
/-- code as chunks of 16 bytes -/
abbrev am_T : Type := List (List (Nat × Instr × Nat))
def am_find : List (Nat × Instr × Nat) → Nat → Option (Instr × Nat)
  | [], _ => none
  | (q, x) :: l, pc => bif Nat.beq q pc then some x else am_find l pc
def am_code (t : am_T) (pc : Nat) : Option (Instr × Nat) := match t[pc / 16]? with
  | none => none
  | some l => am_find l pc
/-- the same up to some stops, there a continuation -/
def am_ev (xs : am_X) (code : Nat → Option (Instr × Nat)) (hdl : Nat → Nat → Option (Nat × Nat)) (stop : Nat → Bool) (K : am_K) (cal : am_Cal) (Q : am_Q) : Nat → am_K
  | 0 => fun _ _ _ _ => False
  | n + 1 => fun pc L S h => bif stop pc then K pc L S h else am_one xs code hdl (am_ev xs code hdl stop K cal Q n) cal Q pc L S h
end
section
/-! rules of the abstract machine -/
theorem am_out_mono {hdl : Nat → Nat → Option (Nat × Nat)} {rec1 rec2 : am_K} {cal1 cal2 : am_Cal} {Q1 Q2 : am_Q} (hr : ∀ pc L S h, rec1 pc L S h → rec2 pc L S h) (hc : ∀ m as h (q1 q2 : am_Q), (∀ r h, q1 r h → q2 r h) → cal1 m as h q1 → cal2 m as h q2) (hQ : ∀ r h, Q1 r h → Q2 r h) (pc nx : Nat) (L : List Value) (h : am_H) (o : am_SO) (H : am_out rec1 cal1 hdl Q1 pc nx L h o) : am_out rec2 cal2 hdl Q2 pc nx L h o := by
  match o, H with
  | some (.inl (p, S, h)), H => exact hr _ _ _ _ H
  | some (.inr (.inl (c, p, S, h))), H => exact ⟨H.1, hr _ _ _ _ H.2⟩
  | some (.inr (.inr (.inl (c, p, q, S)))), H => exact ⟨fun hc => hr _ _ _ _ (H.1 hc), fun hc => hr _ _ _ _ (H.2 hc)⟩
  | some (.inr (.inr (.inr (.inl (c, r, h))))), H => exact ⟨H.1, hQ _ _ H.2⟩
  | some (.inr (.inr (.inr (.inr (c, m, as, S))))), H =>
    refine ⟨H.1, hc _ _ _ _ _ (fun r h' k => ?_) H.2⟩
    match r, k with
    | .inl none, k => exact hr _ _ _ _ k
    | .inl (some v), k => exact hr _ _ _ _ k
    | .inr E, k =>
      dsimp only at k ⊢
      cases e : hdl pc E with
      | none => rw [e] at k; exact hQ _ _ k
      | some z => rw [e] at k; exact hr _ _ _ _ k
theorem am_one_mono {xs : am_X} {code : Nat → Option (Instr × Nat)} {hdl : Nat → Nat → Option (Nat × Nat)} {rec1 rec2 : am_K} {cal1 cal2 : am_Cal} {Q1 Q2 : am_Q} (hr : ∀ pc L S h, rec1 pc L S h → rec2 pc L S h) (hc : ∀ m as h (q1 q2 : am_Q), (∀ r h, q1 r h → q2 r h) → cal1 m as h q1 → cal2 m as h q2) (hQ : ∀ r h, Q1 r h → Q2 r h) (pc : Nat) (L S : List Value) (h : am_H) (H : am_one xs code hdl rec1 cal1 Q1 pc L S h) : am_one xs code hdl rec2 cal2 Q2 pc L S h := by
  unfold am_one at H ⊢
  cases e : code pc with
  | none => rw [e] at H; exact H
  | some z =>
    rw [e] at H
    dsimp only at H ⊢
    cases e2 : am_lop z.1 L S with
    | none => rw [e2] at H; exact am_out_mono hr hc hQ _ _ _ _ _ H
    | some y =>
      rw [e2] at H
      cases y with
      | none => exact H
      | some w => exact hr _ _ _ _ H
theorem am_W_fold {xs : am_X} {code : Nat → Option (Instr × Nat)} {hdl : Nat → Nat → Option (Nat × Nat)} {cal : am_Cal} {Q : am_Q} (hc : ∀ m as h (q1 q2 : am_Q), (∀ r h, q1 r h → q2 r h) → cal m as h q1 → cal m as h q2) {pc : Nat} {L S : List Value} {h : am_H} (H : am_one xs code hdl (am_W xs code hdl cal Q) cal Q pc L S h) : am_W xs code hdl cal Q pc L S h :=
  fun P hP => hP _ _ _ _ (am_one_mono (fun _ _ _ _ w => w P hP) hc (fun _ _ q => q) _ _ _ _ H)
theorem am_W_mono {xs : am_X} {code : Nat → Option (Instr × Nat)} {hdl : Nat → Nat → Option (Nat × Nat)} {cal1 cal2 : am_Cal} {Q1 Q2 : am_Q} (hc : ∀ m as h (q1 q2 : am_Q), (∀ r h, q1 r h → q2 r h) → cal1 m as h q1 → cal2 m as h q2) (hQ : ∀ r h, Q1 r h → Q2 r h) {pc : Nat} {L S : List Value} {h : am_H} (H : am_W xs code hdl cal1 Q1 pc L S h) : am_W xs code hdl cal2 Q2 pc L S h :=
  fun P hP => H P (fun _ _ _ _ k => hP _ _ _ _ (am_one_mono (fun _ _ _ _ w => w) hc hQ _ _ _ _ k))
theorem am_C_eq (xs : am_X) (P : am_P) (d m : Nat) (as : List Value) (h : am_H) (Q : am_Q) : am_C xs P (d + 1) m as h Q = (match P m with | none => False | some (code, hdl, n) => Nat.ble (am_pad as).length n = true ∧ am_W xs code hdl (am_C xs P d) Q 0 (am_loc as n) [] h) := rfl
theorem am_C_mono {xs : am_X} {P : am_P} : ∀ (d m : Nat) (as : List Value) (h : am_H) (q1 q2 : am_Q), (∀ r h, q1 r h → q2 r h) → am_C xs P d m as h q1 → am_C xs P d m as h q2
  | 0, _, _, _, _, _, _, H => H
  | d + 1, m, as, h, q1, q2, hq, H => by
    unfold am_C at H ⊢
    cases e : P m with
    | none => rw [e] at H; exact H
    | some z => rw [e] at H; exact ⟨H.1, am_W_mono (am_C_mono d) hq H.2⟩
theorem am_C_up {xs : am_X} {P : am_P} : ∀ (d m : Nat) (as : List Value) (h : am_H) (q1 q2 : am_Q), (∀ r h, q1 r h → q2 r h) → am_C xs P d m as h q1 → am_C xs P (d + 1) m as h q2
  | 0, _, _, _, _, _, _, H => H.elim
  | d + 1, m, as, h, q1, q2, hq, H => by
    rw [am_C_eq] at H ⊢
    cases e : P m with
    | none => rw [e] at H; exact H
    | some z => rw [e] at H; exact ⟨H.1, am_W_mono (am_C_up d) hq H.2⟩
theorem am_C_le {xs : am_X} {P : am_P} {d e m : Nat} {as : List Value} {h : am_H} {q1 q2 : am_Q} (hde : d ≤ e) (H : am_C xs P d m as h q1) (hq : ∀ r h, q1 r h → q2 r h) : am_C xs P e m as h q2 := by
  induction hde with
  | refl => exact am_C_mono _ _ _ _ _ _ hq H
  | step _ ih => exact am_C_up _ _ _ _ _ _ (fun _ _ k => k) ih
theorem am_ev_W {xs : am_X} {P : am_P} {d : Nat} {code : Nat → Option (Instr × Nat)} {hdl : Nat → Nat → Option (Nat × Nat)} {Q : am_Q} {stop : Nat → Bool} : ∀ (n pc : Nat) (L S : List Value) (h : am_H), am_ev xs code hdl stop (am_W xs code hdl (am_C xs P d) Q) (am_C xs P d) Q n pc L S h → am_W xs code hdl (am_C xs P d) Q pc L S h
  | 0, _, _, _, _, H => H.elim
  | n + 1, pc, L, S, h, H => by
    rw [am_ev] at H
    cases e : stop pc with
    | true => rw [e] at H; exact H
    | false =>
      rw [e] at H
      exact am_W_fold (am_C_mono d) (am_one_mono (am_ev_W n) (am_C_mono d) (fun _ _ q => q) _ _ _ _ H)
/-- walk from here up to the stops -/
theorem am_go {xs : am_X} {P : am_P} {d : Nat} {code : Nat → Option (Instr × Nat)} {hdl : Nat → Nat → Option (Nat × Nat)} {Q : am_Q} (stop : Nat → Bool) {pc : Nat} {L S : List Value} {h : am_H}
    (H : ∀ (K : am_K) (cal : am_Cal) (Q' : am_Q), (∀ pc L S h, am_W xs code hdl (am_C xs P d) Q pc L S h → K pc L S h) → (∀ m as h q, am_C xs P d m as h q → cal m as h q) → (∀ r h, Q r h → Q' r h) → am_one xs code hdl (am_ev xs code hdl stop K cal Q' 2000) cal Q' pc L S h) : am_W xs code hdl (am_C xs P d) Q pc L S h :=
  am_W_fold (am_C_mono d) (am_one_mono (am_ev_W 2000) (am_C_mono d) (fun _ _ q => q) _ _ _ _ (H _ _ _ (fun _ _ _ _ w => w) (fun _ _ _ _ w => w) (fun _ _ q => q)))
theorem am_enter {xs : am_X} {P : am_P} {d m n : Nat} {code : Nat → Option (Instr × Nat)} {hdl : Nat → Nat → Option (Nat × Nat)} {Q : am_Q} {as : List Value} {h : am_H} (e : P m = some (code, hdl, n)) (hb : Nat.ble (am_pad as).length n = true) (H : am_W xs code hdl (am_C xs P d) Q 0 (am_loc as n) [] h) : am_C xs P (d + 1) m as h Q := by
  rw [am_C_eq, e]
  exact ⟨hb, H⟩
theorem am_use {xs : am_X} {P : am_P} {d e m : Nat} {as : List Value} {h : am_H} {q1 q2 : am_Q} {cal : am_Cal} (hC : ∀ m as h q, am_C xs P d m as h q → cal m as h q) (H : am_C xs P e m as h q1) (hde : e ≤ d) (k : ∀ r h, q1 r h → q2 r h) : cal m as h q2 := hC _ _ _ _ (am_C_le hde H k)
/-- forgetting locals -/
def am_fg : List Value → List Value → Prop
  | [], [] => True
  | x :: l, y :: k => (x = am_J ∨ x = y) ∧ am_fg l k
  | _, _ => False
end
section
/-! THE NAMES: classes, their fields, the links of the constant pools by number; written by wip/p43/gen.py out of the printed claim -/
def RX1 : String := "MultiwayCut$ExactSearch"
def TX1 : u_T := fun k => match k with
  | 0 => ("MultiwayCut$ExactSearch", "best", "[I", true)
  | 1 => ("MultiwayCut$ExactSearch", "bestCost", "I", false)
  | _ => ("MultiwayCut$ExactSearch", "trial", "[I", true)
def tyX1 : Nat → FieldType := fun k => match k with
  | 0 => .array .int
  | 1 => .int
  | _ => .array .int
theorem nmX1 : ∀ a, a < 3 → ∀ b, b < 3 → a ≠ b → (TX1 a).2.1 ≠ (TX1 b).2.1 := by decide +kernel
theorem tyX1_ok : ∀ k, k < 3 → parseFieldDescriptor (TX1 k).2.2.1 = some (tyX1 k) := by decide +kernel
def RX2 : String := "MultiwayCut$Formula"
def TX2 : u_T := fun k => match k with
  | 0 => ("MultiwayCut$Formula", "codes", "[I", true)
  | _ => ("MultiwayCut$Formula", "waiting", "[I", true)
def tyX2 : Nat → FieldType := fun k => match k with
  | 0 => .array .int
  | _ => .array .int
theorem nmX2 : ∀ a, a < 2 → ∀ b, b < 2 → a ≠ b → (TX2 a).2.1 ≠ (TX2 b).2.1 := by decide +kernel
theorem tyX2_ok : ∀ k, k < 2 → parseFieldDescriptor (TX2 k).2.2.1 = some (tyX2 k) := by decide +kernel
def RX3 : String := "MultiwayCut$Graph"
def TX3 : u_T := fun k => match k with
  | 0 => ("MultiwayCut$Graph", "vertexTotal", "I", false)
  | 1 => ("MultiwayCut$Graph", "edgeTotal", "I", false)
  | 2 => ("MultiwayCut$Graph", "terminalSet", "I", false)
  | 3 => ("MultiwayCut$Graph", "loads", "[I", true)
  | 4 => ("MultiwayCut$Graph", "labels", "[I", true)
  | 5 => ("MultiwayCut$Graph", "lowEnds", "[I", true)
  | 6 => ("MultiwayCut$Graph", "highEnds", "[I", true)
  | 7 => ("MultiwayCut$Graph", "weights", "[I", true)
  | 8 => ("MultiwayCut$Graph", "costs", "[I", true)
  | _ => ("MultiwayCut$Graph", "formula", "LMultiwayCut$Formula;", false)
def tyX3 : Nat → FieldType := fun k => match k with
  | 0 => .int
  | 1 => .int
  | 2 => .int
  | 3 => .array .int
  | 4 => .array .int
  | 5 => .array .int
  | 6 => .array .int
  | 7 => .array .int
  | 8 => .array .int
  | _ => .object "MultiwayCut$Formula"
theorem nmX3 : ∀ a, a < 10 → ∀ b, b < 10 → a ≠ b → (TX3 a).2.1 ≠ (TX3 b).2.1 := by decide +kernel
theorem tyX3_ok : ∀ k, k < 10 → parseFieldDescriptor (TX3 k).2.2.1 = some (tyX3 k) := by decide +kernel
def RX4 : String := "MultiwayCut$Grouping"
def TX4 : u_T := fun k => match k with
  | 0 => ("MultiwayCut$Grouping", "made", "I", false)
  | _ => ("MultiwayCut$Grouping", "groups", "[I", true)
def tyX4 : Nat → FieldType := fun k => match k with
  | 0 => .int
  | _ => .array .int
theorem nmX4 : ∀ a, a < 2 → ∀ b, b < 2 → a ≠ b → (TX4 a).2.1 ≠ (TX4 b).2.1 := by decide +kernel
theorem tyX4_ok : ∀ k, k < 2 → parseFieldDescriptor (TX4 k).2.2.1 = some (tyX4 k) := by decide +kernel
def RX5 : String := "MultiwayCut$History"
def TX5 : u_T := fun k => match k with
  | 0 => ("MultiwayCut$History", "saved", "[LMultiwayCut$Graph;", true)
  | 1 => ("MultiwayCut$History", "next", "I", false)
  | _ => ("MultiwayCut$History", "count", "I", false)
def tyX5 : Nat → FieldType := fun k => match k with
  | 0 => .array (.object "MultiwayCut$Graph")
  | 1 => .int
  | _ => .int
theorem nmX5 : ∀ a, a < 3 → ∀ b, b < 3 → a ≠ b → (TX5 a).2.1 ≠ (TX5 b).2.1 := by decide +kernel
theorem tyX5_ok : ∀ k, k < 3 → parseFieldDescriptor (TX5 k).2.2.1 = some (tyX5 k) := by decide +kernel
def RX6 : String := "MultiwayCut$MoveSearch"
def TX6 : u_T := fun k => match k with
  | 0 => ("MultiwayCut$MoveSearch", "vertex", "I", false)
  | 1 => ("MultiwayCut$MoveSearch", "terminal", "I", false)
  | _ => ("MultiwayCut$MoveSearch", "costThen", "I", false)
def tyX6 : Nat → FieldType := fun k => match k with
  | 0 => .int
  | 1 => .int
  | _ => .int
theorem nmX6 : ∀ a, a < 3 → ∀ b, b < 3 → a ≠ b → (TX6 a).2.1 ≠ (TX6 b).2.1 := by decide +kernel
theorem tyX6_ok : ∀ k, k < 3 → parseFieldDescriptor (TX6 k).2.2.1 = some (tyX6 k) := by decide +kernel
def RX7 : String := "MultiwayCut$NearestSearch"
def TX7 : u_T := fun k => match k with
  | 0 => ("MultiwayCut$NearestSearch", "goals", "[I", true)
  | _ => ("MultiwayCut$NearestSearch", "lengths", "[I", true)
def tyX7 : Nat → FieldType := fun k => match k with
  | 0 => .array .int
  | _ => .array .int
theorem nmX7 : ∀ a, a < 2 → ∀ b, b < 2 → a ≠ b → (TX7 a).2.1 ≠ (TX7 b).2.1 := by decide +kernel
theorem tyX7_ok : ∀ k, k < 2 → parseFieldDescriptor (TX7 k).2.2.1 = some (tyX7 k) := by decide +kernel
def RX8 : String := "MultiwayCut$SetupReader"
def TX8 : u_T := fun k => match k with
  | 0 => ("MultiwayCut$SetupReader", "graph", "LMultiwayCut$Graph;", true)
  | 1 => ("MultiwayCut$SetupReader", "errorCode", "I", false)
  | 2 => ("MultiwayCut$SetupReader", "errorStart", "I", false)
  | 3 => ("MultiwayCut$SetupReader", "text", "[B", false)
  | 4 => ("MultiwayCut$SetupReader", "length", "I", false)
  | 5 => ("MultiwayCut$SetupReader", "tokenKind", "I", false)
  | 6 => ("MultiwayCut$SetupReader", "tokenStart", "I", false)
  | 7 => ("MultiwayCut$SetupReader", "tokenEnd", "I", false)
  | 8 => ("MultiwayCut$SetupReader", "tokenValue", "I", false)
  | 9 => ("MultiwayCut$SetupReader", "loadedSet", "I", false)
  | 10 => ("MultiwayCut$SetupReader", "costSeen", "Z", false)
  | 11 => ("MultiwayCut$SetupReader", "codes", "[I", true)
  | _ => ("MultiwayCut$SetupReader", "codeTotal", "I", false)
def tyX8 : Nat → FieldType := fun k => match k with
  | 0 => .object "MultiwayCut$Graph"
  | 1 => .int
  | 2 => .int
  | 3 => .array .byte
  | 4 => .int
  | 5 => .int
  | 6 => .int
  | 7 => .int
  | 8 => .int
  | 9 => .int
  | 10 => .boolean
  | 11 => .array .int
  | _ => .int
theorem nmX8 : ∀ a, a < 13 → ∀ b, b < 13 → a ≠ b → (TX8 a).2.1 ≠ (TX8 b).2.1 := by decide +kernel
theorem tyX8_ok : ∀ k, k < 13 → parseFieldDescriptor (TX8 k).2.2.1 = some (tyX8 k) := by decide +kernel
def RX9 : String := "MultiwayCut"
def TX9 : u_T := fun k => match k with
  | 0 => ("MultiwayCut", "buffer", "[B", true)
  | 1 => ("MultiwayCut", "bufferLength", "I", false)
  | 2 => ("MultiwayCut", "errorAt", "I", false)
  | 3 => ("MultiwayCut", "graph", "LMultiwayCut$Graph;", true)
  | 4 => ("MultiwayCut", "history", "LMultiwayCut$History;", true)
  | 5 => ("MultiwayCut", "reader", "LMultiwayCut$SetupReader;", true)
  | 6 => ("MultiwayCut", "grouping", "LMultiwayCut$Grouping;", true)
  | 7 => ("MultiwayCut", "exactSearch", "LMultiwayCut$ExactSearch;", true)
  | 8 => ("MultiwayCut", "nearestSearch", "LMultiwayCut$NearestSearch;", true)
  | _ => ("MultiwayCut", "moveSearch", "LMultiwayCut$MoveSearch;", true)
def tyX9 : Nat → FieldType := fun k => match k with
  | 0 => .array .byte
  | 1 => .int
  | 2 => .int
  | 3 => .object "MultiwayCut$Graph"
  | 4 => .object "MultiwayCut$History"
  | 5 => .object "MultiwayCut$SetupReader"
  | 6 => .object "MultiwayCut$Grouping"
  | 7 => .object "MultiwayCut$ExactSearch"
  | 8 => .object "MultiwayCut$NearestSearch"
  | _ => .object "MultiwayCut$MoveSearch"
theorem nmX9 : ∀ a, a < 10 → ∀ b, b < 10 → a ≠ b → (TX9 a).2.1 ≠ (TX9 b).2.1 := by decide +kernel
theorem tyX9_ok : ∀ k, k < 10 → parseFieldDescriptor (TX9 k).2.2.1 = some (tyX9 k) := by decide +kernel
def RL : String := "MultiwayCutLaw"
def TL : u_T := fun k => match k with
  | 0 => ("MultiwayCutLaw", "n", "I", false)
  | 1 => ("MultiwayCutLaw", "terms", "I", false)
  | 2 => ("MultiwayCutLaw", "costs", "[[I", true)
  | 3 => ("MultiwayCutLaw", "labels", "[I", false)
  | _ => ("MultiwayCutLaw", "best", "I", false)
def tyL : Nat → FieldType := fun k => match k with
  | 0 => .int
  | 1 => .int
  | 2 => .array (.array .int)
  | 3 => .array .int
  | _ => .int
theorem nmL : ∀ a, a < 5 → ∀ b, b < 5 → a ≠ b → (TL a).2.1 ≠ (TL b).2.1 := by decide +kernel
theorem tyL_ok : ∀ k, k < 5 → parseFieldDescriptor (TL k).2.2.1 = some (tyL k) := by decide +kernel
def RJ0 : String := "java/lang/String"
def TJ0 : u_T := fun k => match k with
  | 0 => ("java/lang/String", "value", "[B", true)
  | 1 => ("java/lang/String", "coder", "B", true)
  | 2 => ("java/lang/String", "hash", "I", false)
  | _ => ("java/lang/String", "hashIsZero", "Z", false)
def tyJ0 : Nat → FieldType := fun k => match k with
  | 0 => .array .byte
  | 1 => .byte
  | 2 => .int
  | _ => .boolean
theorem nmJ0 : ∀ a, a < 4 → ∀ b, b < 4 → a ≠ b → (TJ0 a).2.1 ≠ (TJ0 b).2.1 := by decide +kernel
theorem tyJ0_ok : ∀ k, k < 4 → parseFieldDescriptor (TJ0 k).2.2.1 = some (tyJ0 k) := by decide +kernel
def RJ4 : String := "java/lang/StringBuilder"
def TJ4 : u_T := fun k => match k with
  | 0 => ("java/lang/AbstractStringBuilder", "value", "[B", false)
  | 1 => ("java/lang/AbstractStringBuilder", "coder", "B", false)
  | 2 => ("java/lang/AbstractStringBuilder", "maybeLatin1", "Z", false)
  | _ => ("java/lang/AbstractStringBuilder", "count", "I", false)
def tyJ4 : Nat → FieldType := fun k => match k with
  | 0 => .array .byte
  | 1 => .byte
  | 2 => .boolean
  | _ => .int
theorem nmJ4 : ∀ a, a < 4 → ∀ b, b < 4 → a ≠ b → (TJ4 a).2.1 ≠ (TJ4 b).2.1 := by decide +kernel
theorem tyJ4_ok : ∀ k, k < 4 → parseFieldDescriptor (TJ4 k).2.2.1 = some (tyJ4 k) := by decide +kernel
abbrev am_cl : List vw_C := [(RX1, TX1, 3), (RX2, TX2, 2), (RX3, TX3, 10), (RX4, TX4, 2), (RX5, TX5, 3), (RX6, TX6, 3), (RX7, TX7, 2), (RX8, TX8, 13), (RX9, TX9, 10), (RL, TL, 5), (RJ0, TJ0, 4), (RJ4, TJ4, 4)]
def am_cn (k : Nat) : String := match k with
  | 0 => "MultiwayCut$ExactSearch"
  | 1 => "MultiwayCut$Formula"
  | 2 => "MultiwayCut$Graph"
  | 3 => "MultiwayCut$Grouping"
  | 4 => "MultiwayCut$History"
  | 5 => "MultiwayCut$MoveSearch"
  | 6 => "MultiwayCut$NearestSearch"
  | 7 => "MultiwayCut$SetupReader"
  | 8 => "MultiwayCut"
  | 9 => "MultiwayCutLaw"
  | 10 => "java/lang/String"
  | 11 => "java/lang/StringBuilder"
  | 12 => "MultiwayCut$Cuts"
  | 13 => "java/lang/Integer"
  | 14 => "java/util/Arrays"
  | 15 => "java/lang/AbstractStringBuilder"
  | 16 => "java/lang/StringLatin1"
  | _ => "jdk/internal/util/ArraysSupport"
def am_tf (k : Nat) : u_T := match k with
  | 0 => TX1
  | 1 => TX2
  | 2 => TX3
  | 3 => TX4
  | 4 => TX5
  | 5 => TX6
  | 6 => TX7
  | 7 => TX8
  | 8 => TX9
  | 9 => TL
  | 10 => TJ0
  | _ => TJ4
def am_ty (k : Nat) : Nat → FieldType := match k with
  | 0 => tyX1
  | 1 => tyX2
  | 2 => tyX3
  | 3 => tyX4
  | 4 => tyX5
  | 5 => tyX6
  | 6 => tyX7
  | 7 => tyX8
  | 8 => tyX9
  | 9 => tyL
  | 10 => tyJ0
  | _ => tyJ4
def am_nf (k : Nat) : Nat := match k with
  | 0 => 3
  | 1 => 2
  | 2 => 10
  | 3 => 2
  | 4 => 3
  | 5 => 3
  | 6 => 2
  | 7 => 13
  | 8 => 10
  | 9 => 5
  | 10 => 4
  | _ => 4
/-- the words that hold in every method: the tables' that are kept -/
def am_TT : List Cond := lw_tbl.filter goodWord
theorem am_TT_of {w : Cond} (h : w ∈ lw_tbl) (g : goodWord w = true) : w ∈ am_TT := List.mem_filter.mpr ⟨h, g⟩
def am_fl_ : List (Nat × Nat × Nat) := [(0, 9, 0), (0, 15, 2), (0, 18, 1), (0, 35, 128), (0, 50, 129), (0, 53, 134), (0, 56, 133), (0, 59, 136), (1, 11, 65), (1, 15, 64), (2, 9, 131), (2, 15, 132), (2, 18, 133), (2, 21, 134), (2, 24, 135), (2, 27, 136), (2, 30, 128), (2, 34, 129), (2, 37, 130), (2, 40, 137), (3, 9, 193), (4, 11, 256), (4, 18, 257), (4, 26, 258), (6, 9, 384), (6, 15, 385), (6, 24, 128), (6, 28, 129), (6, 31, 133), (6, 34, 134), (7, 12, 448), (7, 18, 451), (7, 22, 459), (7, 35, 452), (7, 39, 455), (7, 42, 457), (7, 45, 458), (7, 49, 460), (7, 59, 453), (7, 83, 137), (7, 87, 128), (7, 90, 132), (7, 96, 129), (7, 137, 130), (7, 158, 131), (7, 176, 456), (7, 179, 454), (7, 190, 449), (7, 193, 450), (8, 9, 512), (8, 13, 514), (8, 20, 515), (8, 27, 516), (8, 34, 517), (8, 41, 518), (8, 48, 519), (8, 55, 520), (8, 62, 521), (8, 66, 513), (8, 84, 450), (8, 87, 449), (8, 94, 448), (8, 98, 129), (8, 101, 128), (8, 104, 130), (8, 191, 1), (8, 194, 0), (8, 198, 384), (8, 201, 385), (8, 204, 132), (9, 9, 578), (9, 35, 576), (9, 47, 579), (9, 51, 580), (9, 63, 577), (10, 9, 640), (10, 15, 641), (10, 1048, 706), (12, 9, 128), (12, 21, 130), (15, 15, 704), (15, 22, 705), (15, 79, 707)]
def am_cl_ : List (Nat × Nat × Nat) := [(4, 9, 138), (7, 9, 138), (7, 72, 66), (8, 17, 138), (8, 24, 259), (8, 31, 461), (8, 38, 194), (8, 45, 3), (8, 52, 386), (8, 59, 323), (9, 10, 581), (9, 26, 522), (9, 108, 708), (11, 18, 644)]
def am_ml_ : List (Nat × Nat × Nat) := [(0, 22, 108), (0, 31, 6), (0, 46, 7), (1, 18, 11), (1, 22, 10), (2, 44, 108), (2, 56, 15), (2, 60, 19), (2, 73, 9), (2, 79, 24), (2, 82, 25), (2, 85, 27), (4, 22, 14), (6, 18, 16), (6, 37, 20), (6, 41, 35), (7, 26, 13), (7, 52, 54), (7, 55, 39), (7, 62, 40), (7, 65, 49), (7, 69, 38), (7, 74, 110), (7, 80, 8), (7, 93, 16), (7, 99, 22), (7, 104, 52), (7, 108, 53), (7, 111, 51), (7, 116, 41), (7, 121, 42), (7, 126, 43), (7, 131, 44), (7, 134, 45), (7, 140, 90), (7, 146, 50), (7, 150, 18), (7, 154, 21), (7, 161, 46), (7, 164, 48), (7, 167, 47), (7, 182, 92), (7, 186, 93), (8, 26, 30), (8, 69, 57), (8, 80, 37), (8, 90, 31), (8, 95, 14), (8, 107, 73), (8, 135, 17), (8, 141, 26), (8, 152, 74), (8, 155, 2), (8, 159, 1), (8, 162, 16), (8, 166, 75), (8, 169, 3), (8, 188, 5), (8, 197, 34), (8, 207, 28), (8, 236, 23), (8, 283, 15), (9, 15, 92), (9, 21, 93), (9, 25, 56), (9, 31, 58), (9, 39, 119), (9, 43, 121), (9, 59, 122), (9, 68, 120), (9, 71, 61), (9, 74, 62), (9, 77, 60), (9, 80, 63), (9, 83, 64), (9, 93, 68), (9, 96, 69), (9, 99, 55), (9, 100, 115), (9, 101, 116), (9, 105, 117), (9, 110, 98), (9, 113, 100), (9, 116, 102), (9, 121, 103), (9, 125, 99), (9, 130, 101), (9, 141, 118), (9, 145, 59), (9, 148, 124), (9, 152, 125), (9, 155, 123), (9, 158, 65), (9, 161, 66), (9, 162, 67), (9, 165, 70), (9, 167, 71), (9, 170, 72), (10, 54, 112), (10, 335, 96), (10, 489, 95), (10, 492, 97), (10, 495, 106), (10, 549, 78), (10, 552, 84), (10, 1047, 85), (11, 1, 76), (11, 7, 77), (11, 23, 100), (11, 29, 81), (11, 50, 82), (11, 53, 83), (11, 137, 91), (11, 343, 78), (12, 24, 16), (12, 35, 26), (12, 38, 90), (12, 43, 17), (12, 47, 0), (12, 51, 1), (12, 55, 2), (14, 339, 113), (14, 343, 111), (15, 32, 92), (15, 40, 96), (15, 43, 81), (15, 83, 85), (15, 100, 79), (15, 104, 80), (15, 108, 109), (15, 114, 114), (15, 191, 107), (15, 208, 87), (15, 245, 89), (15, 248, 88), (15, 397, 86), (15, 399, 94)]
def am_nl_ : List (Nat × Nat × Nat) := [(4, 17, 12), (7, 11, 12), (8, 19, 12), (8, 33, 36), (8, 40, 29), (8, 47, 4), (8, 54, 33), (8, 61, 32)]
def am_ol_ : List (Nat × Nat) := [(0, 3), (1, 3), (2, 3), (3, 3), (4, 3), (5, 3), (6, 3), (7, 3), (8, 1), (9, 1), (10, 1), (15, 3)]
def am_il_ : List (Nat × Nat × Int) := [(0, 30, 2147483647), (7, 196, 100000), (9, 14, 2147483647), (9, 86, 100000000), (13, 265, 1431655765), (13, 266, 858993459), (13, 267, 252645135), (15, 38, 2147483631), (15, 39, 2147483647), (17, 200, 2147483639)]
def am_ll_ : List (Nat × Nat × Int) := [(1, 26, -1000000), (1, 28, 1000000)]
def am_ff_ : List (Nat × Nat × Nat) := []
abbrev am_I : Type := MethodName × Nat × ByteArray × Nat × Option FieldType × List (Nat × Nat × Nat × Nat) × Nat
def am_i_Cu_cheapestSet : am_I := (⟨"MultiwayCut$Cuts", "cheapestSet", "(LMultiwayCut$Graph;IIZ)I"⟩, 12, prog_2_method_4_code, 10, (some .int), [], 1)
def am_i_Cu_setOf : am_I := (⟨"MultiwayCut$Cuts", "setOf", "(LMultiwayCut$Graph;I)I"⟩, 12, prog_2_method_5_code, 3, (some .int), [], 1)
def am_i_Cu_valueOf : am_I := (⟨"MultiwayCut$Cuts", "valueOf", "(LMultiwayCut$Graph;I)I"⟩, 12, prog_2_method_6_code, 2, (some .int), [], 1)
def am_i_Cu_dearestOf : am_I := (⟨"MultiwayCut$Cuts", "dearestOf", "(LMultiwayCut$Graph;)I"⟩, 12, prog_2_method_7_code, 5, (some .int), [], 1)
def am_i_Ex_init : am_I := (⟨"MultiwayCut$ExactSearch", "<init>", "()V"⟩, 0, prog_3_method_1_code, 1, none, [], 2)
def am_i_Ex_run : am_I := (⟨"MultiwayCut$ExactSearch", "run", "(LMultiwayCut$Graph;I)V"⟩, 0, prog_3_method_2_code, 3, none, [], 0)
def am_i_Ex_extend : am_I := (⟨"MultiwayCut$ExactSearch", "extend", "(LMultiwayCut$ExactSearch;LMultiwayCut$Graph;III)V"⟩, 0, prog_3_method_3_code, 8, none, [], 1)
def am_i_Ex_costToEarlier : am_I := (⟨"MultiwayCut$ExactSearch", "costToEarlier", "(LMultiwayCut$Graph;I)I"⟩, 0, prog_3_method_4_code, 5, (some .int), [], 0)
def am_i_Fo_init : am_I := (⟨"MultiwayCut$Formula", "<init>", "([I)V"⟩, 1, prog_4_method_1_code, 2, none, [], 2)
def am_i_Fo_evaluate : am_I := (⟨"MultiwayCut$Formula", "evaluate", "(III)I"⟩, 1, prog_4_method_2_code, 7, (some .int), [], 0)
def am_i_Fo_operand : am_I := (⟨"MultiwayCut$Formula", "operand", "(IIII)I"⟩, 1, prog_4_method_3_code, 4, (some .int), [], 1)
def am_i_Fo_combine : am_I := (⟨"MultiwayCut$Formula", "combine", "(III)I"⟩, 1, prog_4_method_4_code, 5, (some .int), [], 1)
def am_i_Gr_init : am_I := (⟨"MultiwayCut$Graph", "<init>", "()V"⟩, 2, prog_5_method_1_code, 1, none, [], 2)
def am_i_Gr_clear : am_I := (⟨"MultiwayCut$Graph", "clear", "()V"⟩, 2, prog_5_method_2_code, 1, none, [], 0)
def am_i_Gr_copyFrom : am_I := (⟨"MultiwayCut$Graph", "copyFrom", "(LMultiwayCut$Graph;)V"⟩, 2, prog_5_method_3_code, 2, none, [], 0)
def am_i_Gr_hasVertex : am_I := (⟨"MultiwayCut$Graph", "hasVertex", "(I)Z"⟩, 2, prog_5_method_4_code, 2, (some .boolean), [], 0)
def am_i_Gr_isTerminal : am_I := (⟨"MultiwayCut$Graph", "isTerminal", "(I)Z"⟩, 2, prog_5_method_5_code, 2, (some .boolean), [], 0)
def am_i_Gr_allVertices : am_I := (⟨"MultiwayCut$Graph", "allVertices", "()I"⟩, 2, prog_5_method_6_code, 1, (some .int), [], 0)
def am_i_Gr_hasEdgeBetween : am_I := (⟨"MultiwayCut$Graph", "hasEdgeBetween", "(II)Z"⟩, 2, prog_5_method_7_code, 5, (some .boolean), [], 0)
def am_i_Gr_endsOf : am_I := (⟨"MultiwayCut$Graph", "endsOf", "(I)I"⟩, 2, prog_5_method_8_code, 2, (some .int), [], 0)
def am_i_Gr_lengthOf : am_I := (⟨"MultiwayCut$Graph", "lengthOf", "(I)I"⟩, 2, prog_5_method_9_code, 2, (some .int), [], 0)
def am_i_Gr_putEdge : am_I := (⟨"MultiwayCut$Graph", "putEdge", "(III)V"⟩, 2, prog_5_method_10_code, 4, none, [], 0)
def am_i_Gr_updateCost : am_I := (⟨"MultiwayCut$Graph", "updateCost", "(I)V"⟩, 2, prog_5_method_11_code, 3, none, [], 0)
def am_i_Gr_takeLabels : am_I := (⟨"MultiwayCut$Graph", "takeLabels", "([I)V"⟩, 2, prog_5_method_15_code, 3, none, [], 0)
def am_i_Gr_borderOf : am_I := (⟨"MultiwayCut$Graph", "borderOf", "(I)I"⟩, 2, prog_5_method_16_code, 4, (some .int), [], 0)
def am_i_Gr_costOfEdges : am_I := (⟨"MultiwayCut$Graph", "costOfEdges", "(I)I"⟩, 2, prog_5_method_17_code, 4, (some .int), [], 0)
def am_i_Gr_costOfSet : am_I := (⟨"MultiwayCut$Graph", "costOfSet", "(I)I"⟩, 2, prog_5_method_18_code, 2, (some .int), [], 0)
def am_i_Gr_presentCut : am_I := (⟨"MultiwayCut$Graph", "presentCut", "()I"⟩, 2, prog_5_method_19_code, 3, (some .int), [], 0)
def am_i_Gr_presentCost : am_I := (⟨"MultiwayCut$Graph", "presentCost", "()I"⟩, 2, prog_5_method_20_code, 1, (some .int), [], 0)
def am_i_Gp_init : am_I := (⟨"MultiwayCut$Grouping", "<init>", "()V"⟩, 3, prog_6_method_1_code, 1, none, [], 2)
def am_i_Hi_init : am_I := (⟨"MultiwayCut$History", "<init>", "()V"⟩, 4, prog_7_method_1_code, 2, none, [], 2)
def am_i_Hi_save : am_I := (⟨"MultiwayCut$History", "save", "(LMultiwayCut$Graph;)V"⟩, 4, prog_7_method_2_code, 2, none, [], 0)
def am_i_Mv_init : am_I := (⟨"MultiwayCut$MoveSearch", "<init>", "()V"⟩, 5, prog_8_method_1_code, 1, none, [], 2)
def am_i_Ne_init : am_I := (⟨"MultiwayCut$NearestSearch", "<init>", "()V"⟩, 6, prog_9_method_1_code, 1, none, [], 2)
def am_i_Ne_run : am_I := (⟨"MultiwayCut$NearestSearch", "run", "(LMultiwayCut$Graph;)V"⟩, 6, prog_9_method_2_code, 4, none, [], 0)
def am_i_Ne_offer : am_I := (⟨"MultiwayCut$NearestSearch", "offer", "(III)V"⟩, 6, prog_9_method_3_code, 6, none, [], 0)
def am_i_Rd_init : am_I := (⟨"MultiwayCut$SetupReader", "<init>", "()V"⟩, 7, prog_10_method_1_code, 1, none, [], 2)
def am_i_Rd_read : am_I := (⟨"MultiwayCut$SetupReader", "read", "([BI)Z"⟩, 7, prog_10_method_2_code, 5, (some .boolean), [], 0)
def am_i_Rd_finish : am_I := (⟨"MultiwayCut$SetupReader", "finish", "()V"⟩, 7, prog_10_method_3_code, 2, none, [], 0)
def am_i_Rd_readGraph : am_I := (⟨"MultiwayCut$SetupReader", "readGraph", "()Z"⟩, 7, prog_10_method_4_code, 2, (some .boolean), [], 0)
def am_i_Rd_readStatement : am_I := (⟨"MultiwayCut$SetupReader", "readStatement", "()Z"⟩, 7, prog_10_method_5_code, 1, (some .boolean), [], 0)
def am_i_Rd_readTerminal : am_I := (⟨"MultiwayCut$SetupReader", "readTerminal", "()Z"⟩, 7, prog_10_method_6_code, 2, (some .boolean), [], 0)
def am_i_Rd_readEdge : am_I := (⟨"MultiwayCut$SetupReader", "readEdge", "()Z"⟩, 7, prog_10_method_7_code, 4, (some .boolean), [], 0)
def am_i_Rd_readLoad : am_I := (⟨"MultiwayCut$SetupReader", "readLoad", "()Z"⟩, 7, prog_10_method_8_code, 3, (some .boolean), [], 0)
def am_i_Rd_startCost : am_I := (⟨"MultiwayCut$SetupReader", "startCost", "()Z"⟩, 7, prog_10_method_9_code, 1, (some .boolean), [], 0)
def am_i_Rd_readSum : am_I := (⟨"MultiwayCut$SetupReader", "readSum", "(I)Z"⟩, 7, prog_10_method_10_code, 5, (some .boolean), [], 0)
def am_i_Rd_readTerm : am_I := (⟨"MultiwayCut$SetupReader", "readTerm", "(I)Z"⟩, 7, prog_10_method_11_code, 5, (some .boolean), [], 0)
def am_i_Rd_readFactor : am_I := (⟨"MultiwayCut$SetupReader", "readFactor", "(I)Z"⟩, 7, prog_10_method_12_code, 3, (some .boolean), [], 0)
def am_i_Rd_putCode : am_I := (⟨"MultiwayCut$SetupReader", "putCode", "(I)V"⟩, 7, prog_10_method_13_code, 2, none, [], 0)
def am_i_Rd_readSymbol : am_I := (⟨"MultiwayCut$SetupReader", "readSymbol", "(I)Z"⟩, 7, prog_10_method_14_code, 2, (some .boolean), [], 0)
def am_i_Rd_vertexHere : am_I := (⟨"MultiwayCut$SetupReader", "vertexHere", "()I"⟩, 7, prog_10_method_15_code, 1, (some .int), [], 0)
def am_i_Rd_numberHere : am_I := (⟨"MultiwayCut$SetupReader", "numberHere", "(II)I"⟩, 7, prog_10_method_16_code, 3, (some .int), [], 0)
def am_i_Rd_isWord : am_I := (⟨"MultiwayCut$SetupReader", "isWord", "(Ljava/lang/String;)Z"⟩, 7, prog_10_method_17_code, 3, (some .boolean), [], 0)
def am_i_Rd_fail : am_I := (⟨"MultiwayCut$SetupReader", "fail", "(I)Z"⟩, 7, prog_10_method_18_code, 2, (some .boolean), [], 0)
def am_i_Rd_advance : am_I := (⟨"MultiwayCut$SetupReader", "advance", "()V"⟩, 7, prog_10_method_19_code, 2, none, [], 0)
def am_i_Mc_init : am_I := (⟨"MultiwayCut", "<init>", "()V"⟩, 8, prog_1_method_1_code, 1, none, [], 2)
def am_i_Mc_append : am_I := (⟨"MultiwayCut", "append", "(IIIII)I"⟩, 8, prog_1_method_2_code, 6, (some .int), [], 0)
def am_i_Mc_putWord : am_I := (⟨"MultiwayCut", "putWord", "(I)V"⟩, 8, prog_1_method_3_code, 3, none, [], 0)
def am_i_Mc_load : am_I := (⟨"MultiwayCut", "load", "(I)I"⟩, 8, prog_1_method_4_code, 3, (some .int), [], 0)
def am_i_Mc_terminals : am_I := (⟨"MultiwayCut", "terminals", "()I"⟩, 8, prog_1_method_8_code, 1, (some .int), [], 0)
def am_i_Mc_cutCost : am_I := (⟨"MultiwayCut", "cutCost", "(I)I"⟩, 8, prog_1_method_11_code, 2, (some .int), [], 0)
def am_i_Mc_isolatingValue : am_I := (⟨"MultiwayCut", "isolatingValue", "(I)I"⟩, 8, prog_1_method_13_code, 2, (some .int), [], 0)
def am_i_Mc_isolatingSet : am_I := (⟨"MultiwayCut", "isolatingSet", "(I)I"⟩, 8, prog_1_method_14_code, 2, (some .int), [], 0)
def am_i_Mc_lowerBound : am_I := (⟨"MultiwayCut", "lowerBound", "()I"⟩, 8, prog_1_method_15_code, 3, (some .int), [], 0)
def am_i_Mc_dearest : am_I := (⟨"MultiwayCut", "dearest", "()I"⟩, 8, prog_1_method_16_code, 1, (some .int), [], 0)
def am_i_Mc_exactCost : am_I := (⟨"MultiwayCut", "exactCost", "()I"⟩, 8, prog_1_method_21_code, 1, (some .int), [], 0)
def am_i_Mc_exact : am_I := (⟨"MultiwayCut", "exact", "(I)I"⟩, 8, prog_1_method_22_code, 2, (some .int), [], 0)
def am_i_Mc_price : am_I := (⟨"MultiwayCut", "price", "(I)I"⟩, 8, prog_1_method_23_code, 3, (some .int), [], 0)
def am_i_Mc_nearest : am_I := (⟨"MultiwayCut", "nearest", "(I)I"⟩, 8, prog_1_method_24_code, 2, (some .int), [], 0)
def am_i_Mc_distance : am_I := (⟨"MultiwayCut", "distance", "(I)I"⟩, 8, prog_1_method_25_code, 2, (some .int), [], 0)
def am_i_Mc_cost : am_I := (⟨"MultiwayCut", "cost", "()I"⟩, 8, prog_1_method_27_code, 1, (some .int), [], 0)
def am_i_Mc_setLabel : am_I := (⟨"MultiwayCut", "setLabel", "(II)I"⟩, 8, prog_1_method_32_code, 3, (some .int), [], 0)
def am_i_Mc_useExact : am_I := (⟨"MultiwayCut", "useExact", "()I"⟩, 8, prog_1_method_35_code, 1, (some .int), [], 0)
def am_i_Mc_requireVertex : am_I := (⟨"MultiwayCut", "requireVertex", "(I)V"⟩, 8, prog_1_method_43_code, 2, none, [], 0)
def am_i_Mc_requireTerminal : am_I := (⟨"MultiwayCut", "requireTerminal", "(I)V"⟩, 8, prog_1_method_45_code, 2, none, [], 0)
def am_i_Mc_requireSomeTerminal : am_I := (⟨"MultiwayCut", "requireSomeTerminal", "()V"⟩, 8, prog_1_method_46_code, 1, none, [], 0)
def am_i_As_init : am_I := (⟨"java/lang/AbstractStringBuilder", "<init>", "(I)V"⟩, 15, prog_13_method_2_code, 2, none, [], 2)
def am_i_As_initS : am_I := (⟨"java/lang/AbstractStringBuilder", "<init>", "(Ljava/lang/String;)V"⟩, 15, prog_13_method_3_code, 5, none, [], 2)
def am_i_As_length : am_I := (⟨"java/lang/AbstractStringBuilder", "length", "()I"⟩, 15, prog_13_method_6_code, 1, (some .int), [], 0)
def am_i_As_ensure : am_I := (⟨"java/lang/AbstractStringBuilder", "ensureCapacityInternal", "(I)V"⟩, 15, prog_13_method_9_code, 3, none, [], 0)
def am_i_As_newCap : am_I := (⟨"java/lang/AbstractStringBuilder", "newCapacity", "(I)I"⟩, 15, prog_13_method_10_code, 6, (some .int), [], 0)
def am_i_As_appS : am_I := (⟨"java/lang/AbstractStringBuilder", "append", "(Ljava/lang/String;)Ljava/lang/AbstractStringBuilder;"⟩, 15, prog_13_method_22_code, 3, (some (.object "java/lang/AbstractStringBuilder")), [], 0)
def am_i_As_appC : am_I := (⟨"java/lang/AbstractStringBuilder", "append", "(C)Ljava/lang/AbstractStringBuilder;"⟩, 15, prog_13_method_31_code, 2, (some (.object "java/lang/AbstractStringBuilder")), [], 0)
def am_i_As_appI : am_I := (⟨"java/lang/AbstractStringBuilder", "append", "(I)Ljava/lang/AbstractStringBuilder;"⟩, 15, prog_13_method_32_code, 4, (some (.object "java/lang/AbstractStringBuilder")), [], 0)
def am_i_As_getValue : am_I := (⟨"java/lang/AbstractStringBuilder", "getValue", "()[B"⟩, 15, prog_13_method_64_code, 1, (some (.array .byte)), [], 0)
def am_i_As_isLatin1 : am_I := (⟨"java/lang/AbstractStringBuilder", "isLatin1", "()Z"⟩, 15, prog_13_method_68_code, 1, (some .boolean), [], 0)
def am_i_As_inflIf : am_I := (⟨"java/lang/AbstractStringBuilder", "inflateIfNeededFor", "(Ljava/lang/String;)V"⟩, 15, prog_13_method_71_code, 2, none, [], 0)
def am_i_As_putStr : am_I := (⟨"java/lang/AbstractStringBuilder", "putStringAt", "(ILjava/lang/String;)V"⟩, 15, prog_13_method_73_code, 3, none, [], 0)
def am_i_JI_getChars : am_I := (⟨"java/lang/Integer", "getChars", "(II[B)I"⟩, 13, prog_19_method_12_code, 7, (some .int), [], 1)
def am_i_JI_stringSize : am_I := (⟨"java/lang/Integer", "stringSize", "(I)I"⟩, 13, prog_19_method_13_code, 4, (some .int), [], 1)
def am_i_JI_bitCount : am_I := (⟨"java/lang/Integer", "bitCount", "(I)I"⟩, 13, prog_19_method_49_code, 1, (some .int), [], 1)
def am_i_St_init : am_I := (⟨"java/lang/String", "<init>", "(Ljava/lang/StringBuilder;)V"⟩, 10, prog_23_method_53_code, 2, none, [], 2)
def am_i_St_length : am_I := (⟨"java/lang/String", "length", "()I"⟩, 10, prog_23_method_54_code, 1, (some .int), [], 0)
def am_i_St_charAt : am_I := (⟨"java/lang/String", "charAt", "(I)C"⟩, 10, prog_23_method_56_code, 2, (some .char), [], 0)
def am_i_St_getBytes : am_I := (⟨"java/lang/String", "getBytes", "([BIB)V"⟩, 10, prog_23_method_147_code, 4, none, [], 0)
def am_i_St_initA : am_I := (⟨"java/lang/String", "<init>", "(Ljava/lang/AbstractStringBuilder;Ljava/lang/Void;)V"⟩, 10, prog_23_method_150_code, 5, none, [], 2)
def am_i_St_coder : am_I := (⟨"java/lang/String", "coder", "()B"⟩, 10, prog_23_method_152_code, 1, (some .byte), [], 0)
def am_i_St_isLatin1 : am_I := (⟨"java/lang/String", "isLatin1", "()Z"⟩, 10, prog_23_method_154_code, 1, (some .boolean), [], 0)
def am_i_Sb_init : am_I := (⟨"java/lang/StringBuilder", "<init>", "()V"⟩, 11, prog_24_method_1_code, 1, none, [], 2)
def am_i_Sb_initS : am_I := (⟨"java/lang/StringBuilder", "<init>", "(Ljava/lang/String;)V"⟩, 11, prog_24_method_3_code, 2, none, [], 2)
def am_i_Sb_appS : am_I := (⟨"java/lang/StringBuilder", "append", "(Ljava/lang/String;)Ljava/lang/StringBuilder;"⟩, 11, prog_24_method_7_code, 2, (some (.object "java/lang/StringBuilder")), [], 0)
def am_i_Sb_appC : am_I := (⟨"java/lang/StringBuilder", "append", "(C)Ljava/lang/StringBuilder;"⟩, 11, prog_24_method_14_code, 2, (some (.object "java/lang/StringBuilder")), [], 0)
def am_i_Sb_appI : am_I := (⟨"java/lang/StringBuilder", "append", "(I)Ljava/lang/StringBuilder;"⟩, 11, prog_24_method_15_code, 2, (some (.object "java/lang/StringBuilder")), [], 0)
def am_i_Sb_toString : am_I := (⟨"java/lang/StringBuilder", "toString", "()Ljava/lang/String;"⟩, 11, prog_24_method_42_code, 1, (some (.object "java/lang/String")), [], 0)
def am_i_Sb_appA : am_I := (⟨"java/lang/StringBuilder", "append", "(Ljava/lang/String;)Ljava/lang/AbstractStringBuilder;"⟩, 11, prog_24_method_80_code, 2, (some (.object "java/lang/AbstractStringBuilder")), [], 0)
def am_i_Sb_length : am_I := (⟨"java/lang/StringBuilder", "length", "()I"⟩, 11, prog_24_method_93_code, 1, (some .int), [], 0)
def am_i_L1_charAt : am_I := (⟨"java/lang/StringLatin1", "charAt", "([BI)C"⟩, 16, prog_25_method_2_code, 2, (some .char), [], 1)
def am_i_L1_canEncode : am_I := (⟨"java/lang/StringLatin1", "canEncode", "(C)Z"⟩, 16, prog_25_method_3_code, 1, (some .boolean), [], 1)
def am_i_JA_fill : am_I := (⟨"java/util/Arrays", "fill", "([II)V"⟩, 14, prog_29_method_103_code, 4, none, [], 1)
def am_i_JA_copyOfB : am_I := (⟨"java/util/Arrays", "copyOf", "([BI)[B"⟩, 14, prog_29_method_121_code, 3, (some (.array .byte)), [], 1)
def am_i_JA_copyOf : am_I := (⟨"java/util/Arrays", "copyOf", "([II)[I"⟩, 14, prog_29_method_123_code, 3, (some (.array .int)), [], 1)
def am_i_JA_checkLength : am_I := (⟨"java/util/Arrays", "checkLength", "(II)V"⟩, 14, prog_29_method_131_code, 2, none, [], 1)
def am_i_JA_copyOfRange : am_I := (⟨"java/util/Arrays", "copyOfRange", "([BII)[B"⟩, 14, prog_29_method_132_code, 3, (some (.array .byte)), [], 1)
def am_i_JA_copyORB : am_I := (⟨"java/util/Arrays", "copyOfRangeByte", "([BII)[B"⟩, 14, prog_29_method_133_code, 5, (some (.array .byte)), [], 1)
def am_i_Su_newLength : am_I := (⟨"jdk/internal/util/ArraysSupport", "newLength", "(III)I"⟩, 17, prog_30_method_27_code, 4, (some .int), [], 1)
def am_i_La_init : am_I := (⟨"MultiwayCutLaw", "<init>", "()V"⟩, 9, method_1_code, 1, none, [], 2)
def am_i_La_cell : am_I := (⟨"MultiwayCutLaw", "cell", "([II)I"⟩, 9, method_2_code, 2, (some .int), [], 1)
def am_i_La_bound : am_I := (⟨"MultiwayCutLaw", "bound", "(II)I"⟩, 9, method_3_code, 2, (some .int), [], 1)
def am_i_La_read : am_I := (⟨"MultiwayCutLaw", "read", "(LMultiwayCut;Ljava/lang/String;)I"⟩, 9, method_4_code, 5, (some .int), [], 1)
def am_i_La_in : am_I := (⟨"MultiwayCutLaw", "in", "(II)Z"⟩, 9, method_5_code, 2, (some .boolean), [], 1)
def am_i_La_cut : am_I := (⟨"MultiwayCutLaw", "cut", "(I)I"⟩, 9, method_6_code, 5, (some .int), [], 0)
def am_i_La_cost : am_I := (⟨"MultiwayCutLaw", "cost", "([I)I"⟩, 9, method_7_code, 5, (some .int), [], 0)
def am_i_La_search : am_I := (⟨"MultiwayCutLaw", "search", "([III)V"⟩, 9, method_8_code, 5, none, [], 0)
def am_i_La_exact : am_I := (⟨"MultiwayCutLaw", "exact", "(I)I"⟩, 9, method_9_code, 2, (some .int), [], 0)
def am_i_La_areIsolating : am_I := (⟨"MultiwayCutLaw", "areIsolating", "(LMultiwayCut;)Z"⟩, 9, method_10_code, 9, (some .boolean), [], 0)
def am_i_La_areDistances : am_I := (⟨"MultiwayCutLaw", "areDistances", "(LMultiwayCut;)Z"⟩, 9, method_11_code, 6, (some .boolean), [], 0)
def am_i_La_law : am_I := (⟨"MultiwayCutLaw", "law", "([I)Z"⟩, 9, code, 14, (some .boolean), [], 1)
def am_inf : List am_I := [am_i_Cu_cheapestSet, am_i_Cu_setOf, am_i_Cu_valueOf, am_i_Cu_dearestOf, am_i_Ex_init, am_i_Ex_run, am_i_Ex_extend, am_i_Ex_costToEarlier, am_i_Fo_init, am_i_Fo_evaluate, am_i_Fo_operand, am_i_Fo_combine, am_i_Gr_init, am_i_Gr_clear, am_i_Gr_copyFrom, am_i_Gr_hasVertex, am_i_Gr_isTerminal, am_i_Gr_allVertices, am_i_Gr_hasEdgeBetween, am_i_Gr_endsOf, am_i_Gr_lengthOf, am_i_Gr_putEdge, am_i_Gr_updateCost, am_i_Gr_takeLabels, am_i_Gr_borderOf, am_i_Gr_costOfEdges, am_i_Gr_costOfSet, am_i_Gr_presentCut, am_i_Gr_presentCost, am_i_Gp_init, am_i_Hi_init, am_i_Hi_save, am_i_Mv_init, am_i_Ne_init, am_i_Ne_run, am_i_Ne_offer, am_i_Rd_init, am_i_Rd_read, am_i_Rd_finish, am_i_Rd_readGraph, am_i_Rd_readStatement, am_i_Rd_readTerminal, am_i_Rd_readEdge, am_i_Rd_readLoad, am_i_Rd_startCost, am_i_Rd_readSum, am_i_Rd_readTerm, am_i_Rd_readFactor, am_i_Rd_putCode, am_i_Rd_readSymbol, am_i_Rd_vertexHere, am_i_Rd_numberHere, am_i_Rd_isWord, am_i_Rd_fail, am_i_Rd_advance, am_i_Mc_init, am_i_Mc_append, am_i_Mc_putWord, am_i_Mc_load, am_i_Mc_terminals, am_i_Mc_cutCost, am_i_Mc_isolatingValue, am_i_Mc_isolatingSet, am_i_Mc_lowerBound, am_i_Mc_dearest, am_i_Mc_exactCost, am_i_Mc_exact, am_i_Mc_price, am_i_Mc_nearest, am_i_Mc_distance, am_i_Mc_cost, am_i_Mc_setLabel, am_i_Mc_useExact, am_i_Mc_requireVertex, am_i_Mc_requireTerminal, am_i_Mc_requireSomeTerminal, am_i_As_init, am_i_As_initS, am_i_As_length, am_i_As_ensure, am_i_As_newCap, am_i_As_appS, am_i_As_appC, am_i_As_appI, am_i_As_getValue, am_i_As_isLatin1, am_i_As_inflIf, am_i_As_putStr, am_i_JI_getChars, am_i_JI_stringSize, am_i_JI_bitCount, am_i_St_init, am_i_St_length, am_i_St_charAt, am_i_St_getBytes, am_i_St_initA, am_i_St_coder, am_i_St_isLatin1, am_i_Sb_init, am_i_Sb_initS, am_i_Sb_appS, am_i_Sb_appC, am_i_Sb_appI, am_i_Sb_toString, am_i_Sb_appA, am_i_Sb_length, am_i_L1_charAt, am_i_L1_canEncode, am_i_JA_fill, am_i_JA_copyOfB, am_i_JA_copyOf, am_i_JA_checkLength, am_i_JA_copyOfRange, am_i_JA_copyORB, am_i_Su_newLength, am_i_La_init, am_i_La_cell, am_i_La_bound, am_i_La_read, am_i_La_in, am_i_La_cut, am_i_La_cost, am_i_La_search, am_i_La_exact, am_i_La_areIsolating, am_i_La_areDistances, am_i_La_law]
def am_mm_ : List (Nat × Nat × Nat) := [(1, 30, 3), (1, 36, 2), (2, 64, 1), (2, 70, 0), (4, 29, 1), (7, 29, 1), (9, 87, 1), (14, 304, 1), (17, 194, 0)]
def am_sl_ : List (Nat × Nat × Nat) := [(7, 103, 0), (7, 114, 1), (7, 119, 2), (7, 124, 3), (7, 129, 4), (7, 170, 5), (7, 172, 6), (7, 174, 7), (9, 111, 8), (9, 119, 9), (9, 128, 10), (9, 133, 11), (9, 135, 12), (9, 137, 13), (9, 139, 14)]
def am_xl_ : List (Nat × Nat × Nat × Nat × Nat × String) := [(8, 73, 75, 77, 1, "length is not within the input buffer"), (8, 73, 139, 77, 1, "this is no set of vertices"), (8, 73, 293, 77, 1, "this is no terminal"), (8, 231, 233, 235, 3, "a terminal keeps itself"), (8, 231, 295, 235, 3, "there is no terminal"), (8, 286, 288, 290, 2, "there is no such vertex")]
def am_al_ : List (Nat × Nat) := [(0, 40), (2, 50), (10, 212), (14, 150)]
def am_s1_ : List (Nat × Nat) := [(7, 182)]
def am_s2_ : List (Nat × Nat) := [(7, 186)]
def am_ca_ : List (Nat × Nat × Nat) := [(9, 7, 7), (9, 55, 2), (14, 311, 3), (14, 317, 2)]
def am_kl_ : List (Nat × Nat × Nat) := [(9, 54, 2), (14, 310, 3), (14, 316, 2)]
def am_gs_ : List (Nat × Nat × Nat) := [(10, 38, 0), (13, 83, 1), (13, 87, 2), (15, 18, 0)]
def am_cx_ : List (Nat × Nat) := [(16, 9)]
def am_vs_ : List (Nat × Nat × Nat × Nat × Nat) := [(15, 43, 11, 104, 81), (15, 83, 11, 85, 85), (15, 100, 11, 79, 79), (15, 104, 11, 80, 80), (15, 208, 11, 87, 87), (15, 397, 11, 86, 86), (10, 549, 11, 105, 78), (10, 552, 11, 84, 84), (10, 1047, 11, 85, 85)]
def am_su_ : List (Nat × Nat × Nat) := [(11, 29, 81), (11, 50, 82), (11, 53, 83), (11, 343, 78)]
def am_txt (j : Nat) : String := match j with
  | 0 => "graph"
  | 1 => "terminal"
  | 2 => "edge"
  | 3 => "load"
  | 4 => "cost"
  | 5 => "weight"
  | 6 => "low"
  | 7 => "high"
  | 8 => "graph "
  | 9 => ";"
  | 10 => "load "
  | 11 => "terminal "
  | 12 => "edge "
  | 13 => " "
  | _ => "cost weight * 2 + low - high;"
end
section
/-! THE PROGRAM, resolved: a method by its number, its code by chunks of 16 bytes; written by wip/p43/gen.py out of the printed claim -/
def at_Cu_cheapestSet : am_T := [[(0, .iload 1, 1), (1, .istore 4, 3), (3, .aload 0, 4), (4, .iload 1, 5), (5, .invokevirtual 16801, 8), (8, .istore 5, 10), (10, .ldc 1, 11), (11, .istore 6, 13), (13, .iload 6, 15), (15, .iload 2, 16)], [(16, .if_icmp .gt (Int.ofNat 103), 19), (19, .iload 6, 21), (21, .iload 2, 22), (22, .ldc_w 1, 23), (23, .ixor, 24), (24, .iand, 25), (25, .ifCond .eq (Int.ofNat 31), 28), (28, .goto (Int.ofNat 97), 31), (31, .iload 1, 32)], [(32, .iload 6, 34), (34, .ior, 35), (35, .istore 7, 37), (37, .aload 0, 38), (38, .iload 7, 40), (40, .invokevirtual 16801, 43), (43, .istore 8, 45), (45, .iload 7, 47), (47, .invokestatic 1441, 50)], [(50, .iload 4, 52), (52, .invokestatic 1441, 55), (55, .isub, 56), (56, .istore 9, 58), (58, .iload 8, 60), (60, .iload 5, 62), (62, .if_icmp .lt (Int.ofNat 89), 65)], [(65, .iload 8, 67), (67, .iload 5, 69), (69, .if_icmp .ne (Int.ofNat 97), 72), (72, .iload 3, 73), (73, .ifCond .eq (Int.ofNat 84), 76), (76, .iload 9, 78), (78, .ifCond .le (Int.ofNat 97), 81)], [(81, .goto (Int.ofNat 89), 84), (84, .iload 9, 86), (86, .ifCond .ge (Int.ofNat 97), 89), (89, .iload 7, 91), (91, .istore 4, 93), (93, .iload 8, 95), (95, .istore 5, 97)], [(97, .iinc 6 (Int.ofNat 1), 100), (100, .goto (Int.ofNat 13), 103), (103, .iload 4, 105), (105, .ireturn, 106)]]
abbrev m_Cu_cheapestSet : Nat := 0
def ah_Cu_cheapestSet : List (Nat × Nat × Nat × Nat × Nat × Nat) := []
def at_Cu_setOf : am_T := [[(0, .aload 0, 1), (1, .invokevirtual 16656, 4), (4, .aload 0, 5), (5, .getfield 130, 8), (8, .ldc_w 1, 9), (9, .ixor, 10), (10, .iand, 11), (11, .istore 2, 12), (12, .aload 0, 13), (13, .ldc 1, 14), (14, .iload 1, 15), (15, .ishl, 16)], [(16, .iload 2, 17), (17, .ldc 0, 18), (18, .invokestatic 4, 21), (21, .ireturn, 22)]]
abbrev m_Cu_setOf : Nat := 1
def ah_Cu_setOf : List (Nat × Nat × Nat × Nat × Nat × Nat) := []
def at_Cu_valueOf : am_T := [[(0, .aload 0, 1), (1, .aload 0, 2), (2, .iload 1, 3), (3, .invokestatic 18, 6), (6, .invokevirtual 16801, 9), (9, .ireturn, 10)]]
abbrev m_Cu_valueOf : Nat := 2
def ah_Cu_valueOf : List (Nat × Nat × Nat × Nat × Nat × Nat) := []
def at_Cu_dearestOf : am_T := [[(0, .ldc_w 1, 1), (1, .istore 1, 2), (2, .ldc_w 1, 3), (3, .istore 2, 4), (4, .ldc 0, 5), (5, .istore 3, 6), (6, .iload 3, 7), (7, .aload 0, 8), (8, .getfield 128, 11), (11, .if_icmp .ge (Int.ofNat 50), 14), (14, .aload 0, 15), (15, .iload 3, 16)], [(16, .invokevirtual 16641, 19), (19, .ifCond .eq (Int.ofNat 30), 22), (22, .aload 0, 23), (23, .iload 3, 24), (24, .invokestatic 34, 27), (27, .goto (Int.ofNat 31), 30), (30, .ldc_w 1, 31), (31, .istore 4, 33)], [(33, .iload 4, 35), (35, .iload 2, 36), (36, .if_icmp .le (Int.ofNat 44), 39), (39, .iload 3, 40), (40, .istore 1, 41), (41, .iload 4, 43), (43, .istore 2, 44), (44, .iinc 3 (Int.ofNat 1), 47), (47, .goto (Int.ofNat 6), 50)], [(50, .iload 1, 51), (51, .ireturn, 52)]]
abbrev m_Cu_dearestOf : Nat := 3
def ah_Cu_dearestOf : List (Nat × Nat × Nat × Nat × Nat × Nat) := []
def at_Ex_init : am_T := [[(0, .aload 0, 1), (1, .pop2, 4), (4, .aload 0, 5), (5, .ldc 9, 7), (7, .anewarray 2, 9), (9, .checkcast 0, 12), (12, .aload 0, 13), (13, .ldc 9, 15), (15, .anewarray 2, 17)], [(17, .checkcast 2, 20), (20, .return_, 21)]]
abbrev m_Ex_init : Nat := 4
def ah_Ex_init : List (Nat × Nat × Nat × Nat × Nat × Nat) := []
def at_Ex_run : am_T := [[(0, .aload 0, 1), (1, .ldc 0, 2), (2, .putfield 1, 5), (5, .aload 0, 6), (6, .getstatic 0, 9), (9, .ldc_w 1, 10), (10, .invokestatic 1730, 13), (13, .iload 2, 14), (14, .ifCond .eq (Int.ofNat 31), 17)], [(17, .aload 0, 18), (18, .ldc 2147483647, 20), (20, .putfield 1, 23), (23, .aload 0, 24), (24, .aload 1, 25), (25, .iload 2, 26), (26, .ldc 0, 27), (27, .ldc 0, 28), (28, .invokestatic 101, 31), (31, .return_, 32)]]
abbrev m_Ex_run : Nat := 5
def ah_Ex_run : List (Nat × Nat × Nat × Nat × Nat × Nat) := []
def at_Ex_extend : am_T := [[(0, .iload 4, 2), (2, .aload 0, 3), (3, .getfield 1, 6), (6, .if_icmp .lt (Int.ofNat 10), 9), (9, .return_, 10), (10, .iload 3, 11), (11, .aload 1, 12), (12, .getfield 128, 15), (15, .if_icmp .lt (Int.ofNat 42), 18)], [(18, .aload 0, 19), (19, .iload 4, 21), (21, .putfield 1, 24), (24, .aload 0, 25), (25, .getstatic 2, 28), (28, .ldc 0, 29), (29, .aload 0, 30), (30, .getstatic 0, 33)], [(33, .ldc 0, 34), (34, .aload 1, 35), (35, .getfield 128, 38), (38, .multianewarray 0 0, 41), (41, .return_, 42), (42, .iload 2, 43), (43, .iload 3, 44), (44, .ishr, 45), (45, .ldc 1, 46), (46, .iand, 47), (47, .ifCond .eq (Int.ofNat 56), 50)], [(50, .ldc 1, 51), (51, .iload 3, 52), (52, .ishl, 53), (53, .goto (Int.ofNat 57), 56), (56, .iload 2, 57), (57, .istore 5, 59), (59, .ldc 0, 60), (60, .istore 6, 62), (62, .iload 6, 64)], [(64, .aload 1, 65), (65, .getfield 128, 68), (68, .if_icmp .ge (Int.ofNat 117), 71), (71, .iload 5, 73), (73, .iload 6, 75), (75, .ishr, 76), (76, .ldc 1, 77), (77, .iand, 78), (78, .ifCond .eq (Int.ofNat 111), 81)], [(81, .aload 0, 82), (82, .getstatic 2, 85), (85, .iload 3, 86), (86, .iload 6, 88), (88, .iastore, 89), (89, .aload 0, 90), (90, .aload 1, 91), (91, .iload 3, 92), (92, .invokevirtual 114, 95), (95, .istore 7, 97)], [(97, .aload 0, 98), (98, .aload 1, 99), (99, .iload 2, 100), (100, .iload 3, 101), (101, .ldc 1, 102), (102, .iadd, 103), (103, .iload 4, 105), (105, .iload 7, 107), (107, .iadd, 108), (108, .invokestatic 101, 111), (111, .iinc 6 (Int.ofNat 1), 114)], [(114, .goto (Int.ofNat 62), 117), (117, .return_, 118)]]
abbrev m_Ex_extend : Nat := 6
def ah_Ex_extend : List (Nat × Nat × Nat × Nat × Nat × Nat) := []
def at_Ex_costToEarlier : am_T := [[(0, .ldc 0, 1), (1, .istore 3, 2), (2, .ldc 0, 3), (3, .istore 4, 5), (5, .iload 4, 7), (7, .aload 1, 8), (8, .getfield 129, 11), (11, .if_icmp .ge (Int.ofNat 62), 14), (14, .aload 1, 15), (15, .getstatic 134, 18)], [(18, .iload 4, 20), (20, .iaload, 21), (21, .iload 2, 22), (22, .if_icmp .ne (Int.ofNat 56), 25), (25, .aload 0, 26), (26, .getstatic 2, 29), (29, .aload 1, 30), (30, .getstatic 133, 33)], [(33, .iload 4, 35), (35, .iaload, 36), (36, .iaload, 37), (37, .aload 0, 38), (38, .getstatic 2, 41), (41, .iload 2, 42), (42, .iaload, 43), (43, .if_icmp .eq (Int.ofNat 56), 46), (46, .iload 3, 47), (47, .aload 1, 48)], [(48, .getstatic 136, 51), (51, .iload 4, 53), (53, .iaload, 54), (54, .iadd, 55), (55, .istore 3, 56), (56, .iinc 4 (Int.ofNat 1), 59), (59, .goto (Int.ofNat 5), 62), (62, .iload 3, 63), (63, .ireturn, 64)]]
abbrev m_Ex_costToEarlier : Nat := 7
def ah_Ex_costToEarlier : List (Nat × Nat × Nat × Nat × Nat × Nat) := []
def at_Fo_init : am_T := [[(0, .aload 0, 1), (1, .pop2, 4), (4, .aload 0, 5), (5, .ldc 11, 7), (7, .anewarray 2, 9), (9, .checkcast 65, 12), (12, .aload 0, 13), (13, .aload 1, 14), (14, .checkcast 64, 17)], [(17, .return_, 18)]]
abbrev m_Fo_init : Nat := 8
def ah_Fo_init : List (Nat × Nat × Nat × Nat × Nat × Nat) := []
def at_Fo_evaluate : am_T := [[(0, .ldc 0, 1), (1, .istore 4, 3), (3, .ldc 0, 4), (4, .istore 5, 6), (6, .iload 5, 8), (8, .aload 0, 9), (9, .getstatic 64, 12), (12, .arraylength, 13), (13, .if_icmp .ge (Int.ofNat 112), 16)], [(16, .aload 0, 17), (17, .getstatic 64, 20), (20, .iload 5, 22), (22, .iaload, 23), (23, .istore 6, 25), (25, .iload 6, 27), (27, .ldc_w 4, 29), (29, .if_icmp .gt (Int.ofNat 74), 32)], [(32, .iload 4, 34), (34, .ldc 2, 35), (35, .if_icmp .lt (Int.ofNat 74), 38), (38, .iinc 4 (Int.negSucc 0), 41), (41, .aload 0, 42), (42, .getstatic 65, 45), (45, .iload 4, 47), (47, .ldc 1, 48)], [(48, .isub, 49), (49, .iload 6, 51), (51, .aload 0, 52), (52, .getstatic 65, 55), (55, .iload 4, 57), (57, .ldc 1, 58), (58, .isub, 59), (59, .iaload, 60), (60, .aload 0, 61), (61, .getstatic 65, 64)], [(64, .iload 4, 66), (66, .iaload, 67), (67, .invokestatic 179, 70), (70, .iastore, 71), (71, .goto (Int.ofNat 106), 74), (74, .iload 6, 76), (76, .ldc_w 4, 78), (78, .if_icmp .le (Int.ofNat 106), 81)], [(81, .iload 4, 83), (83, .ldc 11, 85), (85, .if_icmp .ge (Int.ofNat 106), 88), (88, .aload 0, 89), (89, .getstatic 65, 92), (92, .iload 4, 94), (94, .iload 6, 96)], [(96, .iload 1, 97), (97, .iload 2, 98), (98, .iload 3, 99), (99, .invokestatic 164, 102), (102, .iastore, 103), (103, .iinc 4 (Int.ofNat 1), 106), (106, .iinc 5 (Int.ofNat 1), 109), (109, .goto (Int.ofNat 6), 112)], [(112, .aload 0, 113), (113, .getstatic 65, 116), (116, .ldc 0, 117), (117, .iaload, 118), (118, .ireturn, 119)]]
abbrev m_Fo_evaluate : Nat := 9
def ah_Fo_evaluate : List (Nat × Nat × Nat × Nat × Nat × Nat) := []
def at_Fo_operand : am_T := [[(0, .iload 0, 1), (1, .ldc_w 1, 2), (2, .if_icmp .ne (Int.ofNat 7), 5), (5, .iload 1, 6), (6, .ireturn, 7), (7, .iload 0, 8), (8, .ldc_w 2, 10), (10, .if_icmp .ne (Int.ofNat 15), 13), (13, .iload 2, 14), (14, .ireturn, 15), (15, .iload 0, 16)], [(16, .ldc_w 3, 18), (18, .if_icmp .ne (Int.ofNat 25), 21), (21, .iload 3, 22), (22, .goto (Int.ofNat 26), 25), (25, .iload 0, 26), (26, .ireturn, 27)]]
abbrev m_Fo_operand : Nat := 10
def ah_Fo_operand : List (Nat × Nat × Nat × Nat × Nat × Nat) := []
def at_Fo_combine : am_T := [[(0, .ldc2_w 0, 1), (1, .lstore 3, 2), (2, .iload 0, 3), (3, .ldc_w 4, 5), (5, .if_icmp .ne (Int.ofNat 17), 8), (8, .iload 1, 9), (9, .i2l, 10), (10, .iload 2, 11), (11, .i2l, 12), (12, .ladd, 13), (13, .lstore 3, 14), (14, .goto (Int.ofNat 56), 17)], [(17, .iload 0, 18), (18, .ldc_w 5, 20), (20, .if_icmp .ne (Int.ofNat 32), 23), (23, .iload 1, 24), (24, .i2l, 25), (25, .iload 2, 26), (26, .i2l, 27), (27, .lsub, 28), (28, .lstore 3, 29), (29, .goto (Int.ofNat 56), 32)], [(32, .iload 0, 33), (33, .ldc_w 6, 35), (35, .if_icmp .ne (Int.ofNat 47), 38), (38, .iload 1, 39), (39, .i2l, 40), (40, .iload 2, 41), (41, .i2l, 42), (42, .lmul, 43), (43, .lstore 3, 44), (44, .goto (Int.ofNat 56), 47), (47, .iload 2, 48)], [(48, .ifCond .eq (Int.ofNat 56), 51), (51, .iload 1, 52), (52, .iload 2, 53), (53, .idiv, 54), (54, .i2l, 55), (55, .lstore 3, 56), (56, .goto_w (Int.negSucc 999999), 59), (59, .ldc2_w 1000000, 62), (62, .lload 3, 63), (63, .ddiv, 66)], [(66, .dmul, 69), (69, .l2i, 70), (70, .ireturn, 71)]]
abbrev m_Fo_combine : Nat := 11
def ah_Fo_combine : List (Nat × Nat × Nat × Nat × Nat × Nat) := []
def at_Gr_init : am_T := [[(0, .aload 0, 1), (1, .pop2, 4), (4, .aload 0, 5), (5, .ldc 9, 7), (7, .anewarray 2, 9), (9, .checkcast 131, 12), (12, .aload 0, 13), (13, .ldc 9, 15), (15, .anewarray 2, 17)], [(17, .checkcast 132, 20), (20, .aload 0, 21), (21, .ldc 20, 23), (23, .anewarray 2, 25), (25, .checkcast 133, 28), (28, .aload 0, 29), (29, .ldc 20, 31), (31, .anewarray 2, 33)], [(33, .checkcast 134, 36), (36, .aload 0, 37), (37, .ldc 20, 39), (39, .anewarray 2, 41), (41, .checkcast 135, 44), (44, .aload 0, 45), (45, .ldc 20, 47), (47, .anewarray 2, 49)], [(49, .checkcast 136, 52), (52, .return_, 53)]]
abbrev m_Gr_init : Nat := 12
def ah_Gr_init : List (Nat × Nat × Nat × Nat × Nat × Nat) := []
def at_Gr_clear : am_T := [[(0, .aload 0, 1), (1, .ldc 0, 2), (2, .putfield 128, 5), (5, .aload 0, 6), (6, .ldc 0, 7), (7, .putfield 129, 10), (10, .aload 0, 11), (11, .ldc 0, 12), (12, .putfield 130, 15), (15, .aload 0, 16)], [(16, .aconst_null, 17), (17, .checkcast 137, 20), (20, .aload 0, 21), (21, .getstatic 131, 24), (24, .ldc 0, 25), (25, .invokestatic 1730, 28), (28, .aload 0, 29), (29, .getstatic 132, 32)], [(32, .ldc_w 1, 33), (33, .invokestatic 1730, 36), (36, .return_, 37)]]
abbrev m_Gr_clear : Nat := 13
def ah_Gr_clear : List (Nat × Nat × Nat × Nat × Nat × Nat) := []
def at_Gr_copyFrom : am_T := [[(0, .aload 0, 1), (1, .aload 1, 2), (2, .getfield 128, 5), (5, .putfield 128, 8), (8, .aload 0, 9), (9, .aload 1, 10), (10, .getfield 129, 13), (13, .putfield 129, 16)], [(16, .aload 0, 17), (17, .aload 1, 18), (18, .getfield 130, 21), (21, .putfield 130, 24), (24, .aload 0, 25), (25, .aload 1, 26), (26, .getstatic 137, 29), (29, .checkcast 137, 32)], [(32, .aload 1, 33), (33, .getstatic 131, 36), (36, .ldc 0, 37), (37, .aload 0, 38), (38, .getstatic 131, 41), (41, .ldc 0, 42), (42, .ldc 9, 44), (44, .multianewarray 0 0, 47), (47, .aload 1, 48)], [(48, .getstatic 132, 51), (51, .ldc 0, 52), (52, .aload 0, 53), (53, .getstatic 132, 56), (56, .ldc 0, 57), (57, .ldc 9, 59), (59, .multianewarray 0 0, 62), (62, .aload 1, 63), (63, .getstatic 133, 66)], [(66, .ldc 0, 67), (67, .aload 0, 68), (68, .getstatic 133, 71), (71, .ldc 0, 72), (72, .ldc 20, 74), (74, .multianewarray 0 0, 77), (77, .aload 1, 78), (78, .getstatic 134, 81)], [(81, .ldc 0, 82), (82, .aload 0, 83), (83, .getstatic 134, 86), (86, .ldc 0, 87), (87, .ldc 20, 89), (89, .multianewarray 0 0, 92), (92, .aload 1, 93), (93, .getstatic 135, 96)], [(96, .ldc 0, 97), (97, .aload 0, 98), (98, .getstatic 135, 101), (101, .ldc 0, 102), (102, .ldc 20, 104), (104, .multianewarray 0 0, 107), (107, .aload 1, 108), (108, .getstatic 136, 111), (111, .ldc 0, 112)], [(112, .aload 0, 113), (113, .getstatic 136, 116), (116, .ldc 0, 117), (117, .ldc 20, 119), (119, .multianewarray 0 0, 122), (122, .return_, 123)]]
abbrev m_Gr_copyFrom : Nat := 14
def ah_Gr_copyFrom : List (Nat × Nat × Nat × Nat × Nat × Nat) := []
def at_Gr_hasVertex : am_T := [[(0, .iload 1, 1), (1, .ifCond .lt (Int.ofNat 16), 4), (4, .iload 1, 5), (5, .aload 0, 6), (6, .getfield 128, 9), (9, .if_icmp .ge (Int.ofNat 16), 12), (12, .ldc 1, 13), (13, .goto (Int.ofNat 17), 16)], [(16, .ldc 0, 17), (17, .areturn, 18)]]
abbrev m_Gr_hasVertex : Nat := 15
def ah_Gr_hasVertex : List (Nat × Nat × Nat × Nat × Nat × Nat) := []
def at_Gr_isTerminal : am_T := [[(0, .aload 0, 1), (1, .iload 1, 2), (2, .invokevirtual 16625, 5), (5, .ifCond .eq (Int.ofNat 23), 8), (8, .aload 0, 9), (9, .getfield 130, 12), (12, .iload 1, 13), (13, .ishr, 14), (14, .ldc 1, 15), (15, .iand, 16)], [(16, .ifCond .eq (Int.ofNat 23), 19), (19, .ldc 1, 20), (20, .goto (Int.ofNat 24), 23), (23, .ldc 0, 24), (24, .areturn, 25)]]
abbrev m_Gr_isTerminal : Nat := 16
def ah_Gr_isTerminal : List (Nat × Nat × Nat × Nat × Nat × Nat) := []
def at_Gr_allVertices : am_T := [[(0, .ldc 1, 1), (1, .aload 0, 2), (2, .getfield 128, 5), (5, .ishl, 6), (6, .ldc 1, 7), (7, .isub, 8), (8, .ireturn, 9)]]
abbrev m_Gr_allVertices : Nat := 17
def ah_Gr_allVertices : List (Nat × Nat × Nat × Nat × Nat × Nat) := []
def at_Gr_hasEdgeBetween : am_T := [[(0, .ldc 1, 1), (1, .iload 1, 2), (2, .ishl, 3), (3, .ldc 1, 4), (4, .iload 2, 5), (5, .ishl, 6), (6, .ior, 7), (7, .istore 3, 8), (8, .ldc 0, 9), (9, .istore 4, 11), (11, .iload 4, 13), (13, .aload 0, 14), (14, .getfield 129, 17)], [(17, .if_icmp .ge (Int.ofNat 38), 20), (20, .aload 0, 21), (21, .iload 4, 23), (23, .invokevirtual 16689, 26), (26, .iload 3, 27), (27, .if_icmp .ne (Int.ofNat 32), 30), (30, .ldc 1, 31), (31, .areturn, 32)], [(32, .iinc 4 (Int.ofNat 1), 35), (35, .goto (Int.ofNat 11), 38), (38, .ldc 0, 39), (39, .areturn, 40)]]
abbrev m_Gr_hasEdgeBetween : Nat := 18
def ah_Gr_hasEdgeBetween : List (Nat × Nat × Nat × Nat × Nat × Nat) := []
def at_Gr_endsOf : am_T := [[(0, .ldc 1, 1), (1, .aload 0, 2), (2, .getstatic 133, 5), (5, .iload 1, 6), (6, .iaload, 7), (7, .ishl, 8), (8, .ldc 1, 9), (9, .aload 0, 10), (10, .getstatic 134, 13), (13, .iload 1, 14), (14, .iaload, 15), (15, .ishl, 16)], [(16, .ior, 17), (17, .ireturn, 18)]]
abbrev m_Gr_endsOf : Nat := 19
def ah_Gr_endsOf : List (Nat × Nat × Nat × Nat × Nat × Nat) := []
def at_Gr_lengthOf : am_T := [[(0, .aload 0, 1), (1, .getstatic 136, 4), (4, .iload 1, 5), (5, .iaload, 6), (6, .ifCond .le (Int.ofNat 22), 9), (9, .ldc 10000, 12), (12, .aload 0, 13), (13, .getstatic 136, 16)], [(16, .iload 1, 17), (17, .iaload, 18), (18, .idiv, 19), (19, .goto (Int.ofNat 23), 22), (22, .ldc 0, 23), (23, .ireturn, 24)]]
abbrev m_Gr_lengthOf : Nat := 20
def ah_Gr_lengthOf : List (Nat × Nat × Nat × Nat × Nat × Nat) := []
def at_Gr_putEdge : am_T := [[(0, .aload 0, 1), (1, .getfield 129, 4), (4, .ldc 20, 6), (6, .if_icmp .lt (Int.ofNat 10), 9), (9, .return_, 10), (10, .aload 0, 11), (11, .getstatic 133, 14), (14, .aload 0, 15), (15, .getfield 129, 18)], [(18, .iload 1, 19), (19, .iload 2, 20), (20, .dsub, 23), (23, .iastore, 24), (24, .aload 0, 25), (25, .getstatic 134, 28), (28, .aload 0, 29), (29, .getfield 129, 32)], [(32, .iload 1, 33), (33, .iload 2, 34), (34, .dadd, 37), (37, .iastore, 38), (38, .aload 0, 39), (39, .getstatic 135, 42), (42, .aload 0, 43), (43, .getfield 129, 46), (46, .iload 3, 47), (47, .iastore, 48)], [(48, .aload 0, 49), (49, .dup, 50), (50, .getfield 129, 53), (53, .ldc 1, 54), (54, .iadd, 55), (55, .putfield 129, 58), (58, .return_, 59)]]
abbrev m_Gr_putEdge : Nat := 21
def ah_Gr_putEdge : List (Nat × Nat × Nat × Nat × Nat × Nat) := []
def at_Gr_updateCost : am_T := [[(0, .aload 0, 1), (1, .getstatic 135, 4), (4, .iload 1, 5), (5, .iaload, 6), (6, .istore 2, 7), (7, .aload 0, 8), (8, .getstatic 137, 11), (11, .ifnull (Int.ofNat 45), 14), (14, .aload 0, 15), (15, .getstatic 137, 18)], [(18, .iload 2, 19), (19, .aload 0, 20), (20, .getstatic 131, 23), (23, .aload 0, 24), (24, .getstatic 133, 27), (27, .iload 1, 28), (28, .iaload, 29), (29, .iaload, 30), (30, .aload 0, 31), (31, .getstatic 131, 34)], [(34, .aload 0, 35), (35, .getstatic 134, 38), (38, .iload 1, 39), (39, .iaload, 40), (40, .iaload, 41), (41, .invokevirtual 8339, 44), (44, .istore 2, 45), (45, .aload 0, 46), (46, .getstatic 136, 49)], [(49, .iload 1, 50), (50, .ldc 1, 51), (51, .ldc 9999, 54), (54, .iload 2, 55), (55, .dsub, 58), (58, .dadd, 61), (61, .iastore, 62), (62, .return_, 63)]]
abbrev m_Gr_updateCost : Nat := 22
def ah_Gr_updateCost : List (Nat × Nat × Nat × Nat × Nat × Nat) := []
def at_Gr_takeLabels : am_T := [[(0, .ldc 0, 1), (1, .istore 2, 2), (2, .iload 2, 3), (3, .aload 0, 4), (4, .getfield 128, 7), (7, .if_icmp .ge (Int.ofNat 31), 10), (10, .iload 2, 11), (11, .aload 1, 12), (12, .arraylength, 13), (13, .if_icmp .ge (Int.ofNat 31), 16)], [(16, .aload 0, 17), (17, .getstatic 132, 20), (20, .iload 2, 21), (21, .aload 1, 22), (22, .iload 2, 23), (23, .iaload, 24), (24, .iastore, 25), (25, .iinc 2 (Int.ofNat 1), 28), (28, .goto (Int.ofNat 2), 31), (31, .return_, 32)]]
abbrev m_Gr_takeLabels : Nat := 23
def ah_Gr_takeLabels : List (Nat × Nat × Nat × Nat × Nat × Nat) := []
def at_Gr_borderOf : am_T := [[(0, .ldc 0, 1), (1, .istore 2, 2), (2, .ldc 0, 3), (3, .istore 3, 4), (4, .iload 3, 5), (5, .aload 0, 6), (6, .getfield 129, 9), (9, .if_icmp .ge (Int.ofNat 47), 12), (12, .iload 1, 13), (13, .aload 0, 14), (14, .getstatic 133, 17)], [(17, .iload 3, 18), (18, .iaload, 19), (19, .ishr, 20), (20, .ldc 1, 21), (21, .iand, 22), (22, .iload 1, 23), (23, .aload 0, 24), (24, .getstatic 134, 27), (27, .iload 3, 28), (28, .iaload, 29), (29, .ishr, 30), (30, .ldc 1, 31), (31, .iand, 32)], [(32, .if_icmp .eq (Int.ofNat 41), 35), (35, .iload 2, 36), (36, .ldc 1, 37), (37, .iload 3, 38), (38, .ishl, 39), (39, .ior, 40), (40, .istore 2, 41), (41, .iinc 3 (Int.ofNat 1), 44), (44, .goto (Int.ofNat 4), 47), (47, .iload 2, 48)], [(48, .ireturn, 49)]]
abbrev m_Gr_borderOf : Nat := 24
def ah_Gr_borderOf : List (Nat × Nat × Nat × Nat × Nat × Nat) := []
def at_Gr_costOfEdges : am_T := [[(0, .ldc 0, 1), (1, .istore 2, 2), (2, .ldc 0, 3), (3, .istore 3, 4), (4, .iload 3, 5), (5, .aload 0, 6), (6, .getfield 129, 9), (9, .if_icmp .ge (Int.ofNat 35), 12), (12, .iload 1, 13), (13, .iload 3, 14), (14, .ishr, 15), (15, .ldc 1, 16)], [(16, .iand, 17), (17, .ifCond .eq (Int.ofNat 29), 20), (20, .iload 2, 21), (21, .aload 0, 22), (22, .getstatic 136, 25), (25, .iload 3, 26), (26, .iaload, 27), (27, .iadd, 28), (28, .istore 2, 29), (29, .iinc 3 (Int.ofNat 1), 32)], [(32, .goto (Int.ofNat 4), 35), (35, .iload 2, 36), (36, .ireturn, 37)]]
abbrev m_Gr_costOfEdges : Nat := 25
def ah_Gr_costOfEdges : List (Nat × Nat × Nat × Nat × Nat × Nat) := []
def at_Gr_costOfSet : am_T := [[(0, .aload 0, 1), (1, .aload 0, 2), (2, .iload 1, 3), (3, .invokevirtual 16769, 6), (6, .invokevirtual 16785, 9), (9, .ireturn, 10)]]
abbrev m_Gr_costOfSet : Nat := 26
def ah_Gr_costOfSet : List (Nat × Nat × Nat × Nat × Nat × Nat) := []
def at_Gr_presentCut : am_T := [[(0, .ldc 0, 1), (1, .istore 1, 2), (2, .ldc 0, 3), (3, .istore 2, 4), (4, .iload 2, 5), (5, .aload 0, 6), (6, .getfield 129, 9), (9, .if_icmp .ge (Int.ofNat 49), 12), (12, .aload 0, 13), (13, .getstatic 132, 16)], [(16, .aload 0, 17), (17, .getstatic 133, 20), (20, .iload 2, 21), (21, .iaload, 22), (22, .iaload, 23), (23, .aload 0, 24), (24, .getstatic 132, 27), (27, .aload 0, 28), (28, .getstatic 134, 31), (31, .iload 2, 32)], [(32, .iaload, 33), (33, .iaload, 34), (34, .if_icmp .eq (Int.ofNat 43), 37), (37, .iload 1, 38), (38, .ldc 1, 39), (39, .iload 2, 40), (40, .ishl, 41), (41, .ior, 42), (42, .istore 1, 43), (43, .iinc 2 (Int.ofNat 1), 46), (46, .goto (Int.ofNat 4), 49)], [(49, .iload 1, 50), (50, .ireturn, 51)]]
abbrev m_Gr_presentCut : Nat := 27
def ah_Gr_presentCut : List (Nat × Nat × Nat × Nat × Nat × Nat) := []
def at_Gr_presentCost : am_T := [[(0, .aload 0, 1), (1, .aload 0, 2), (2, .invokevirtual 16816, 5), (5, .invokevirtual 16785, 8), (8, .ireturn, 9)]]
abbrev m_Gr_presentCost : Nat := 28
def ah_Gr_presentCost : List (Nat × Nat × Nat × Nat × Nat × Nat) := []
def at_Gp_init : am_T := [[(0, .aload 0, 1), (1, .pop2, 4), (4, .aload 0, 5), (5, .ldc 9, 7), (7, .anewarray 2, 9), (9, .checkcast 193, 12), (12, .return_, 13)]]
abbrev m_Gp_init : Nat := 29
def ah_Gp_init : List (Nat × Nat × Nat × Nat × Nat × Nat) := []
def at_Hi_init : am_T := [[(0, .aload 0, 1), (1, .pop2, 4), (4, .aload 0, 5), (5, .ldc 8, 7), (7, .anewarray 6, 10), (10, .checkcast 256, 13), (13, .ldc 0, 14), (14, .istore 1, 15), (15, .iload 1, 16)], [(16, .ldc 8, 18), (18, .if_icmp .ge (Int.ofNat 40), 21), (21, .aload 0, 22), (22, .getstatic 256, 25), (25, .iload 1, 26), (26, .new 138, 29), (29, .dup, 30), (30, .invokevirtual 16576, 33)], [(33, .aastore, 34), (34, .iinc 1 (Int.ofNat 1), 37), (37, .goto (Int.ofNat 15), 40), (40, .return_, 41)]]
abbrev m_Hi_init : Nat := 30
def ah_Hi_init : List (Nat × Nat × Nat × Nat × Nat × Nat) := []
def at_Hi_save : am_T := [[(0, .aload 0, 1), (1, .getstatic 256, 4), (4, .aload 0, 5), (5, .getfield 257, 8), (8, .aaload, 9), (9, .aload 1, 10), (10, .invokevirtual 16609, 13), (13, .aload 0, 14), (14, .aload 0, 15), (15, .getfield 257, 18)], [(18, .ldc 1, 19), (19, .iadd, 20), (20, .ldc 8, 22), (22, .irem, 23), (23, .putfield 257, 26), (26, .aload 0, 27), (27, .ldc 8, 29), (29, .aload 0, 30), (30, .getfield 258, 33)], [(33, .ldc 1, 34), (34, .iadd, 35), (35, .dsub, 38), (38, .putfield 258, 41), (41, .return_, 42)]]
abbrev m_Hi_save : Nat := 31
def ah_Hi_save : List (Nat × Nat × Nat × Nat × Nat × Nat) := []
def at_Mv_init : am_T := [[(0, .aload 0, 1), (1, .pop2, 4), (4, .return_, 5)]]
abbrev m_Mv_init : Nat := 32
def ah_Mv_init : List (Nat × Nat × Nat × Nat × Nat × Nat) := []
def at_Ne_init : am_T := [[(0, .aload 0, 1), (1, .pop2, 4), (4, .aload 0, 5), (5, .ldc 9, 7), (7, .anewarray 2, 9), (9, .checkcast 384, 12), (12, .aload 0, 13), (13, .ldc 9, 15), (15, .anewarray 2, 17)], [(17, .checkcast 385, 20), (20, .return_, 21)]]
abbrev m_Ne_init : Nat := 33
def ah_Ne_init : List (Nat × Nat × Nat × Nat × Nat × Nat) := []
def at_Ne_run : am_T := [[(0, .ldc 0, 1), (1, .istore 2, 2), (2, .iload 2, 3), (3, .ldc 9, 5), (5, .if_icmp .ge (Int.ofNat 50), 8), (8, .aload 1, 9), (9, .iload 2, 10), (10, .invokevirtual 16641, 13), (13, .istore 3, 14), (14, .aload 0, 15), (15, .getstatic 384, 18)], [(18, .iload 2, 19), (19, .iload 3, 20), (20, .ifCond .eq (Int.ofNat 27), 23), (23, .iload 2, 24), (24, .goto (Int.ofNat 28), 27), (27, .ldc_w 1, 28), (28, .iastore, 29), (29, .aload 0, 30), (30, .getstatic 385, 33)], [(33, .iload 2, 34), (34, .iload 3, 35), (35, .ifCond .eq (Int.ofNat 42), 38), (38, .ldc 0, 39), (39, .goto (Int.ofNat 43), 42), (42, .ldc_w 1, 43), (43, .iastore, 44), (44, .iinc 2 (Int.ofNat 1), 47), (47, .goto (Int.ofNat 2), 50)], [(50, .ldc 1, 51), (51, .istore 2, 52), (52, .iload 2, 53), (53, .aload 1, 54), (54, .getfield 128, 57), (57, .if_icmp .ge (Int.ofNat 124), 60), (60, .ldc 0, 61), (61, .istore 3, 62), (62, .iload 3, 63), (63, .aload 1, 64)], [(64, .getfield 129, 67), (67, .if_icmp .ge (Int.ofNat 118), 70), (70, .aload 0, 71), (71, .aload 1, 72), (72, .getstatic 133, 75), (75, .iload 3, 76), (76, .iaload, 77), (77, .aload 1, 78), (78, .getstatic 134, 81)], [(81, .iload 3, 82), (82, .iaload, 83), (83, .aload 1, 84), (84, .iload 3, 85), (85, .invokevirtual 16705, 88), (88, .invokevirtual 49715, 91), (91, .aload 0, 92), (92, .aload 1, 93), (93, .getstatic 134, 96)], [(96, .iload 3, 97), (97, .iaload, 98), (98, .aload 1, 99), (99, .getstatic 133, 102), (102, .iload 3, 103), (103, .iaload, 104), (104, .aload 1, 105), (105, .iload 3, 106), (106, .invokevirtual 16705, 109), (109, .invokevirtual 49715, 112)], [(112, .iinc 3 (Int.ofNat 1), 115), (115, .goto (Int.ofNat 62), 118), (118, .iinc 2 (Int.ofNat 1), 121), (121, .goto (Int.ofNat 52), 124), (124, .return_, 125)]]
abbrev m_Ne_run : Nat := 34
def ah_Ne_run : List (Nat × Nat × Nat × Nat × Nat × Nat) := []
def at_Ne_offer : am_T := [[(0, .aload 0, 1), (1, .getstatic 384, 4), (4, .iload 1, 5), (5, .iaload, 6), (6, .ldc_w 1, 7), (7, .if_icmp .ne (Int.ofNat 11), 10), (10, .return_, 11), (11, .aload 0, 12), (12, .getstatic 385, 15), (15, .iload 1, 16)], [(16, .iaload, 17), (17, .iload 3, 18), (18, .iadd, 19), (19, .istore 4, 21), (21, .aload 0, 22), (22, .getstatic 384, 25), (25, .iload 2, 26), (26, .iaload, 27), (27, .ldc_w 1, 28), (28, .if_icmp .eq (Int.ofNat 42), 31), (31, .iload 4, 33)], [(33, .aload 0, 34), (34, .getstatic 385, 37), (37, .iload 2, 38), (38, .iaload, 39), (39, .if_icmp .ge (Int.ofNat 46), 42), (42, .ldc 1, 43), (43, .goto (Int.ofNat 47), 46), (46, .ldc 0, 47), (47, .istore 5, 49)], [(49, .iload 5, 51), (51, .ifCond .ne (Int.ofNat 80), 54), (54, .iload 4, 56), (56, .aload 0, 57), (57, .getstatic 385, 60), (60, .iload 2, 61), (61, .iaload, 62), (62, .if_icmp .ne (Int.ofNat 100), 65)], [(65, .aload 0, 66), (66, .getstatic 384, 69), (69, .iload 1, 70), (70, .iaload, 71), (71, .aload 0, 72), (72, .getstatic 384, 75), (75, .iload 2, 76), (76, .iaload, 77), (77, .if_icmp .ge (Int.ofNat 100), 80)], [(80, .aload 0, 81), (81, .getstatic 384, 84), (84, .iload 2, 85), (85, .aload 0, 86), (86, .getstatic 384, 89), (89, .iload 1, 90), (90, .iaload, 91), (91, .iastore, 92), (92, .aload 0, 93), (93, .getstatic 385, 96)], [(96, .iload 2, 97), (97, .iload 4, 99), (99, .iastore, 100), (100, .return_, 101)]]
abbrev m_Ne_offer : Nat := 35
def ah_Ne_offer : List (Nat × Nat × Nat × Nat × Nat × Nat) := []
def at_Rd_init : am_T := [[(0, .aload 0, 1), (1, .pop2, 4), (4, .aload 0, 5), (5, .new 138, 8), (8, .dup, 9), (9, .invokevirtual 16576, 12), (12, .checkcast 448, 15), (15, .aload 0, 16)], [(16, .ldc 0, 17), (17, .anewarray 3, 19), (19, .checkcast 451, 22), (22, .aload 0, 23), (23, .ldc 700, 26), (26, .anewarray 2, 28), (28, .checkcast 459, 31), (31, .return_, 32)]]
abbrev m_Rd_init : Nat := 36
def ah_Rd_init : List (Nat × Nat × Nat × Nat × Nat × Nat) := []
def at_Rd_read : am_T := [[(0, .aload 0, 1), (1, .getstatic 448, 4), (4, .invokevirtual 16592, 7), (7, .aload 0, 8), (8, .aload 1, 9), (9, .checkcast 451, 12), (12, .aload 0, 13), (13, .iload 2, 14), (14, .aload 1, 15), (15, .arraylength, 16)], [(16, .dsub, 19), (19, .putfield 452, 22), (22, .aload 0, 23), (23, .ldc 0, 24), (24, .putfield 455, 27), (27, .aload 0, 28), (28, .ldc 0, 29), (29, .putfield 457, 32)], [(32, .aload 0, 33), (33, .ldc 0, 34), (34, .putstatic 458, 37), (37, .aload 0, 38), (38, .ldc 0, 39), (39, .putfield 460, 42), (42, .aload 0, 43), (43, .invokevirtual 58208, 46), (46, .aload 0, 47), (47, .invokevirtual 57968, 50)], [(50, .istore 3, 51), (51, .ldc 0, 52), (52, .istore 4, 54), (54, .iload 3, 55), (55, .ifCond .eq (Int.ofNat 105), 58), (58, .aload 0, 59), (59, .getfield 453, 62), (62, .ldc 1000, 65)], [(65, .if_icmp .eq (Int.ofNat 105), 68), (68, .iload 4, 70), (70, .aload 0, 71), (71, .getfield 452, 74), (74, .if_icmp .ge (Int.ofNat 105), 77), (77, .aload 0, 78), (78, .invokevirtual 57984, 81)], [(81, .ifCond .eq (Int.ofNat 97), 84), (84, .aload 0, 85), (85, .ldc 59, 87), (87, .invokevirtual 58129, 90), (90, .ifCond .eq (Int.ofNat 97), 93), (93, .ldc 1, 94), (94, .goto (Int.ofNat 98), 97)], [(97, .ldc 0, 98), (98, .istore 3, 99), (99, .iinc 4 (Int.ofNat 1), 102), (102, .goto (Int.ofNat 54), 105), (105, .iload 3, 106), (106, .ifCond .eq (Int.ofNat 113), 109), (109, .aload 0, 110), (110, .invokevirtual 57952, 113)], [(113, .iload 3, 114), (114, .areturn, 115)]]
abbrev m_Rd_read : Nat := 37
def ah_Rd_read : List (Nat × Nat × Nat × Nat × Nat × Nat) := []
def at_Rd_finish : am_T := [[(0, .aload 0, 1), (1, .getfield 458, 4), (4, .ifCond .eq (Int.ofNat 32), 7), (7, .aload 0, 8), (8, .getstatic 448, 11), (11, .new 66, 14), (14, .dup, 15), (15, .aload 0, 16)], [(16, .getstatic 459, 19), (19, .aload 0, 20), (20, .getfield 460, 23), (23, .invokestatic 1762, 26), (26, .invokevirtual 8321, 29), (29, .checkcast 137, 32)], [(32, .ldc 0, 33), (33, .istore 1, 34), (34, .iload 1, 35), (35, .aload 0, 36), (36, .getstatic 448, 39), (39, .getfield 128, 42), (42, .if_icmp .ge (Int.ofNat 76), 45), (45, .aload 0, 46), (46, .getstatic 448, 49)], [(49, .getstatic 132, 52), (52, .iload 1, 53), (53, .aload 0, 54), (54, .getstatic 448, 57), (57, .iload 1, 58), (58, .invokevirtual 16641, 61), (61, .ifCond .eq (Int.ofNat 68), 64)], [(64, .iload 1, 65), (65, .goto (Int.ofNat 69), 68), (68, .ldc_w 1, 69), (69, .iastore, 70), (70, .iinc 1 (Int.ofNat 1), 73), (73, .goto (Int.ofNat 34), 76), (76, .ldc 0, 77), (77, .istore 1, 78), (78, .iload 1, 79), (79, .aload 0, 80)], [(80, .getstatic 448, 83), (83, .getfield 129, 86), (86, .if_icmp .ge (Int.ofNat 103), 89), (89, .aload 0, 90), (90, .getstatic 448, 93), (93, .iload 1, 94), (94, .invokevirtual 16737, 97)], [(97, .iinc 1 (Int.ofNat 1), 100), (100, .goto (Int.ofNat 78), 103), (103, .return_, 104)]]
abbrev m_Rd_finish : Nat := 38
def ah_Rd_finish : List (Nat × Nat × Nat × Nat × Nat × Nat) := []
def at_Rd_readGraph : am_T := [[(0, .aload 0, 1), (1, .invokeinterface 0 0, 3), (3, .invokevirtual 58177, 6), (6, .ifCond .ne (Int.ofNat 16), 9), (9, .aload 0, 10), (10, .ldc_w 2, 12), (12, .invokevirtual 58193, 15), (15, .areturn, 16)], [(16, .aload 0, 17), (17, .invokevirtual 58208, 20), (20, .aload 0, 21), (21, .ldc 2, 22), (22, .ldc 9, 24), (24, .invokevirtual 58162, 27), (27, .istore 1, 28), (28, .iload 1, 29), (29, .ifCond .ge (Int.ofNat 34), 32)], [(32, .ldc 0, 33), (33, .areturn, 34), (34, .aload 0, 35), (35, .getstatic 448, 38), (38, .iload 1, 39), (39, .putfield 128, 42), (42, .aload 0, 43), (43, .invokevirtual 58208, 46), (46, .aload 0, 47), (47, .ldc 59, 49)], [(49, .invokevirtual 58129, 52), (52, .areturn, 53)]]
abbrev m_Rd_readGraph : Nat := 39
def ah_Rd_readGraph : List (Nat × Nat × Nat × Nat × Nat × Nat) := []
def at_Rd_readStatement : am_T := [[(0, .aload 0, 1), (1, .invokeinterface 1 0, 3), (3, .invokevirtual 58177, 6), (6, .ifCond .eq (Int.ofNat 14), 9), (9, .aload 0, 10), (10, .invokevirtual 58000, 13), (13, .areturn, 14), (14, .aload 0, 15), (15, .invokeinterface 2 0, 17)], [(17, .invokevirtual 58177, 20), (20, .ifCond .eq (Int.ofNat 28), 23), (23, .aload 0, 24), (24, .invokevirtual 58016, 27), (27, .areturn, 28), (28, .aload 0, 29), (29, .invokeinterface 3 0, 31), (31, .invokevirtual 58177, 34)], [(34, .ifCond .eq (Int.ofNat 42), 37), (37, .aload 0, 38), (38, .invokevirtual 58032, 41), (41, .areturn, 42), (42, .aload 0, 43), (43, .invokeinterface 4 0, 45), (45, .invokevirtual 58177, 48)], [(48, .ifCond .eq (Int.ofNat 72), 51), (51, .aload 0, 52), (52, .invokevirtual 58048, 55), (55, .ifCond .eq (Int.ofNat 70), 58), (58, .aload 0, 59), (59, .ldc 0, 60), (60, .invokevirtual 58065, 63), (63, .ifCond .eq (Int.ofNat 70), 66)], [(66, .ldc 1, 67), (67, .goto (Int.ofNat 71), 70), (70, .ldc 0, 71), (71, .areturn, 72), (72, .aload 0, 73), (73, .ldc_w 2, 75), (75, .invokevirtual 58193, 78), (78, .areturn, 79)]]
abbrev m_Rd_readStatement : Nat := 40
def ah_Rd_readStatement : List (Nat × Nat × Nat × Nat × Nat × Nat) := []
def at_Rd_readTerminal : am_T := [[(0, .aload 0, 1), (1, .getstatic 448, 4), (4, .getfield 130, 7), (7, .invokestatic 1441, 10), (10, .ldc 5, 11), (11, .if_icmp .lt (Int.ofNat 21), 14), (14, .aload 0, 15), (15, .ldc_w 5, 17)], [(17, .invokevirtual 58193, 20), (20, .areturn, 21), (21, .aload 0, 22), (22, .invokevirtual 58208, 25), (25, .aload 0, 26), (26, .invokevirtual 58144, 29), (29, .istore 1, 30), (30, .iload 1, 31), (31, .ifCond .ge (Int.ofNat 36), 34)], [(34, .ldc 0, 35), (35, .areturn, 36), (36, .aload 0, 37), (37, .getstatic 448, 40), (40, .iload 1, 41), (41, .invokevirtual 16641, 44), (44, .ifCond .eq (Int.ofNat 54), 47), (47, .aload 0, 48)], [(48, .ldc_w 4, 50), (50, .invokevirtual 58193, 53), (53, .areturn, 54), (54, .aload 0, 55), (55, .getstatic 448, 58), (58, .dup, 59), (59, .getfield 130, 62), (62, .ldc 1, 63), (63, .iload 1, 64)], [(64, .ishl, 65), (65, .ior, 66), (66, .putfield 130, 69), (69, .aload 0, 70), (70, .invokevirtual 58208, 73), (73, .ldc 1, 74), (74, .areturn, 75)]]
abbrev m_Rd_readTerminal : Nat := 41
def ah_Rd_readTerminal : List (Nat × Nat × Nat × Nat × Nat × Nat) := []
def at_Rd_readEdge : am_T := [[(0, .aload 0, 1), (1, .getstatic 448, 4), (4, .getfield 129, 7), (7, .ldc 20, 9), (9, .if_icmp .lt (Int.ofNat 19), 12), (12, .aload 0, 13), (13, .ldc_w 5, 15), (15, .invokevirtual 58193, 18)], [(18, .areturn, 19), (19, .aload 0, 20), (20, .invokevirtual 58208, 23), (23, .aload 0, 24), (24, .invokevirtual 58144, 27), (27, .istore 1, 28), (28, .iload 1, 29), (29, .ifCond .ge (Int.ofNat 34), 32)], [(32, .ldc 0, 33), (33, .areturn, 34), (34, .aload 0, 35), (35, .invokevirtual 58208, 38), (38, .aload 0, 39), (39, .invokevirtual 58144, 42), (42, .istore 2, 43), (43, .iload 2, 44), (44, .ifCond .ge (Int.ofNat 49), 47), (47, .ldc 0, 48)], [(48, .areturn, 49), (49, .iload 1, 50), (50, .iload 2, 51), (51, .if_icmp .eq (Int.ofNat 66), 54), (54, .aload 0, 55), (55, .getstatic 448, 58), (58, .iload 1, 59), (59, .iload 2, 60), (60, .invokevirtual 16674, 63), (63, .ifCond .eq (Int.ofNat 73), 66)], [(66, .aload 0, 67), (67, .ldc_w 4, 69), (69, .invokevirtual 58193, 72), (72, .areturn, 73), (73, .aload 0, 74), (74, .invokevirtual 58208, 77), (77, .aload 0, 78), (78, .ldc 1, 79), (79, .ldc 99, 81)], [(81, .invokevirtual 58162, 84), (84, .istore 3, 85), (85, .iload 3, 86), (86, .ifCond .ge (Int.ofNat 91), 89), (89, .ldc 0, 90), (90, .areturn, 91), (91, .aload 0, 92), (92, .getstatic 448, 95), (95, .iload 1, 96)], [(96, .iload 2, 97), (97, .iload 3, 98), (98, .invokevirtual 16723, 101), (101, .aload 0, 102), (102, .invokevirtual 58208, 105), (105, .ldc 1, 106), (106, .areturn, 107)]]
abbrev m_Rd_readEdge : Nat := 42
def ah_Rd_readEdge : List (Nat × Nat × Nat × Nat × Nat × Nat) := []
def at_Rd_readLoad : am_T := [[(0, .aload 0, 1), (1, .invokevirtual 58208, 4), (4, .aload 0, 5), (5, .invokevirtual 58144, 8), (8, .istore 1, 9), (9, .iload 1, 10), (10, .ifCond .ge (Int.ofNat 15), 13), (13, .ldc 0, 14), (14, .areturn, 15), (15, .aload 0, 16)], [(16, .getfield 457, 19), (19, .iload 1, 20), (20, .ishr, 21), (21, .ldc 1, 22), (22, .iand, 23), (23, .ifCond .eq (Int.ofNat 33), 26), (26, .aload 0, 27), (27, .ldc_w 4, 29), (29, .invokevirtual 58193, 32)], [(32, .areturn, 33), (33, .aload 0, 34), (34, .dup, 35), (35, .getfield 457, 38), (38, .ldc 1, 39), (39, .iload 1, 40), (40, .ishl, 41), (41, .ior, 42), (42, .putfield 457, 45), (45, .aload 0, 46), (46, .invokevirtual 58208, 49)], [(49, .aload 0, 50), (50, .ldc 0, 51), (51, .ldc 99, 53), (53, .invokevirtual 58162, 56), (56, .istore 2, 57), (57, .iload 2, 58), (58, .ifCond .ge (Int.ofNat 63), 61), (61, .ldc 0, 62), (62, .areturn, 63), (63, .aload 0, 64)], [(64, .getstatic 448, 67), (67, .getstatic 131, 70), (70, .iload 1, 71), (71, .iload 2, 72), (72, .iastore, 73), (73, .aload 0, 74), (74, .invokevirtual 58208, 77), (77, .ldc 1, 78), (78, .areturn, 79)]]
abbrev m_Rd_readLoad : Nat := 43
def ah_Rd_readLoad : List (Nat × Nat × Nat × Nat × Nat × Nat) := []
def at_Rd_startCost : am_T := [[(0, .aload 0, 1), (1, .getfield 458, 4), (4, .ifCond .eq (Int.ofNat 14), 7), (7, .aload 0, 8), (8, .ldc_w 2, 10), (10, .invokevirtual 58193, 13), (13, .areturn, 14), (14, .aload 0, 15), (15, .ldc 1, 16)], [(16, .putstatic 458, 19), (19, .aload 0, 20), (20, .invokevirtual 58208, 23), (23, .ldc 1, 24), (24, .areturn, 25)]]
abbrev m_Rd_startCost : Nat := 44
def ah_Rd_startCost : List (Nat × Nat × Nat × Nat × Nat × Nat) := []
def at_Rd_readSum : am_T := [[(0, .aload 0, 1), (1, .iload 1, 2), (2, .invokevirtual 58081, 5), (5, .istore 2, 6), (6, .ldc 0, 7), (7, .istore 3, 8), (8, .iload 2, 9), (9, .ifCond .eq (Int.ofNat 78), 12), (12, .aload 0, 13), (13, .getfield 453, 16)], [(16, .ldc 43, 18), (18, .if_icmp .eq (Int.ofNat 30), 21), (21, .aload 0, 22), (22, .getfield 453, 25), (25, .ldc 45, 27), (27, .if_icmp .ne (Int.ofNat 78), 30), (30, .iload 3, 31), (31, .aload 0, 32)], [(32, .getfield 452, 35), (35, .if_icmp .ge (Int.ofNat 78), 38), (38, .aload 0, 39), (39, .getfield 453, 42), (42, .ldc 43, 44), (44, .if_icmp .ne (Int.ofNat 52), 47), (47, .ldc_w 4, 49)], [(49, .goto (Int.ofNat 54), 52), (52, .ldc_w 5, 54), (54, .istore 4, 56), (56, .aload 0, 57), (57, .invokevirtual 58208, 60), (60, .aload 0, 61), (61, .iload 1, 62), (62, .invokevirtual 58081, 65)], [(65, .istore 2, 66), (66, .aload 0, 67), (67, .iload 4, 69), (69, .invokevirtual 58113, 72), (72, .iinc 3 (Int.ofNat 1), 75), (75, .goto (Int.ofNat 8), 78), (78, .iload 2, 79), (79, .areturn, 80)]]
abbrev m_Rd_readSum : Nat := 45
def ah_Rd_readSum : List (Nat × Nat × Nat × Nat × Nat × Nat) := []
def at_Rd_readTerm : am_T := [[(0, .aload 0, 1), (1, .iload 1, 2), (2, .invokevirtual 58097, 5), (5, .istore 2, 6), (6, .ldc 0, 7), (7, .istore 3, 8), (8, .iload 2, 9), (9, .ifCond .eq (Int.ofNat 78), 12), (12, .aload 0, 13), (13, .getfield 453, 16)], [(16, .ldc 42, 18), (18, .if_icmp .eq (Int.ofNat 30), 21), (21, .aload 0, 22), (22, .getfield 453, 25), (25, .ldc 47, 27), (27, .if_icmp .ne (Int.ofNat 78), 30), (30, .iload 3, 31), (31, .aload 0, 32)], [(32, .getfield 452, 35), (35, .if_icmp .ge (Int.ofNat 78), 38), (38, .aload 0, 39), (39, .getfield 453, 42), (42, .ldc 42, 44), (44, .if_icmp .ne (Int.ofNat 52), 47), (47, .ldc_w 6, 49)], [(49, .goto (Int.ofNat 54), 52), (52, .ldc_w 7, 54), (54, .istore 4, 56), (56, .aload 0, 57), (57, .invokevirtual 58208, 60), (60, .aload 0, 61), (61, .iload 1, 62), (62, .invokevirtual 58097, 65)], [(65, .istore 2, 66), (66, .aload 0, 67), (67, .iload 4, 69), (69, .invokevirtual 58113, 72), (72, .iinc 3 (Int.ofNat 1), 75), (75, .goto (Int.ofNat 8), 78), (78, .iload 2, 79), (79, .areturn, 80)]]
abbrev m_Rd_readTerm : Nat := 46
def ah_Rd_readTerm : List (Nat × Nat × Nat × Nat × Nat × Nat) := []
def at_Rd_readFactor : am_T := [[(0, .aload 0, 1), (1, .getfield 453, 4), (4, .ldc 40, 6), (6, .if_icmp .ne (Int.ofNat 50), 9), (9, .iload 1, 10), (10, .ldc 4, 11), (11, .if_icmp .lt (Int.ofNat 21), 14), (14, .aload 0, 15), (15, .ldc_w 6, 17)], [(17, .invokevirtual 58193, 20), (20, .areturn, 21), (21, .aload 0, 22), (22, .invokevirtual 58208, 25), (25, .aload 0, 26), (26, .iload 1, 27), (27, .ldc 1, 28), (28, .iadd, 29), (29, .invokevirtual 58065, 32)], [(32, .ifCond .eq (Int.ofNat 48), 35), (35, .aload 0, 36), (36, .ldc 41, 38), (38, .invokevirtual 58129, 41), (41, .ifCond .eq (Int.ofNat 48), 44), (44, .ldc 1, 45), (45, .goto (Int.ofNat 49), 48)], [(48, .ldc 0, 49), (49, .areturn, 50), (50, .aload 0, 51), (51, .getfield 453, 54), (54, .ldc 1001, 57), (57, .if_icmp .ne (Int.ofNat 83), 60), (60, .aload 0, 61), (61, .ldc 0, 62), (62, .ldc 9999, 65)], [(65, .invokevirtual 58162, 68), (68, .istore 2, 69), (69, .iload 2, 70), (70, .ifCond .ge (Int.ofNat 75), 73), (73, .ldc 0, 74), (74, .areturn, 75), (75, .aload 0, 76), (76, .iload 2, 77), (77, .invokevirtual 58113, 80)], [(80, .goto (Int.ofNat 143), 83), (83, .aload 0, 84), (84, .invokeinterface 5 0, 86), (86, .invokevirtual 58177, 89), (89, .ifCond .eq (Int.ofNat 100), 92), (92, .aload 0, 93), (93, .ldc_w 1, 94), (94, .invokevirtual 58113, 97)], [(97, .goto (Int.ofNat 143), 100), (100, .aload 0, 101), (101, .invokeinterface 6 0, 103), (103, .invokevirtual 58177, 106), (106, .ifCond .eq (Int.ofNat 118), 109), (109, .aload 0, 110), (110, .ldc_w 2, 112)], [(112, .invokevirtual 58113, 115), (115, .goto (Int.ofNat 143), 118), (118, .aload 0, 119), (119, .invokeinterface 7 0, 121), (121, .invokevirtual 58177, 124), (124, .ifCond .eq (Int.ofNat 136), 127), (127, .aload 0, 128)], [(128, .ldc_w 3, 130), (130, .invokevirtual 58113, 133), (133, .goto (Int.ofNat 143), 136), (136, .aload 0, 137), (137, .ldc_w 2, 139), (139, .invokevirtual 58193, 142), (142, .areturn, 143), (143, .aload 0, 144)], [(144, .invokevirtual 58208, 147), (147, .ldc 1, 148), (148, .areturn, 149)]]
abbrev m_Rd_readFactor : Nat := 47
def ah_Rd_readFactor : List (Nat × Nat × Nat × Nat × Nat × Nat) := []
def at_Rd_putCode : am_T := [[(0, .aload 0, 1), (1, .getfield 460, 4), (4, .ldc 700, 7), (7, .if_icmp .ge (Int.ofNat 30), 10), (10, .aload 0, 11), (11, .getstatic 459, 14), (14, .aload 0, 15), (15, .getfield 460, 18)], [(18, .iload 1, 19), (19, .iastore, 20), (20, .aload 0, 21), (21, .dup, 22), (22, .getfield 460, 25), (25, .ldc 1, 26), (26, .iadd, 27), (27, .putfield 460, 30), (30, .return_, 31)]]
abbrev m_Rd_putCode : Nat := 48
def ah_Rd_putCode : List (Nat × Nat × Nat × Nat × Nat × Nat) := []
def at_Rd_readSymbol : am_T := [[(0, .aload 0, 1), (1, .getfield 453, 4), (4, .iload 1, 5), (5, .if_icmp .eq (Int.ofNat 15), 8), (8, .aload 0, 9), (9, .ldc_w 2, 11), (11, .invokevirtual 58193, 14), (14, .areturn, 15), (15, .aload 0, 16)], [(16, .invokevirtual 58208, 19), (19, .ldc 1, 20), (20, .areturn, 21)]]
abbrev m_Rd_readSymbol : Nat := 49
def ah_Rd_readSymbol : List (Nat × Nat × Nat × Nat × Nat × Nat) := []
def at_Rd_vertexHere : am_T := [[(0, .aload 0, 1), (1, .ldc 0, 2), (2, .aload 0, 3), (3, .getstatic 448, 6), (6, .getfield 128, 9), (9, .ldc 1, 10), (10, .isub, 11), (11, .invokevirtual 58162, 14), (14, .ireturn, 15)]]
abbrev m_Rd_vertexHere : Nat := 50
def ah_Rd_vertexHere : List (Nat × Nat × Nat × Nat × Nat × Nat) := []
def at_Rd_numberHere : am_T := [[(0, .aload 0, 1), (1, .getfield 453, 4), (4, .ldc 1001, 7), (7, .if_icmp .eq (Int.ofNat 19), 10), (10, .aload 0, 11), (11, .ldc_w 2, 13), (13, .invokevirtual 58193, 16)], [(16, .pop, 17), (17, .ldc_w 1, 18), (18, .ireturn, 19), (19, .aload 0, 20), (20, .getfield 456, 23), (23, .iload 1, 24), (24, .if_icmp .lt (Int.ofNat 35), 27), (27, .aload 0, 28), (28, .getfield 456, 31), (31, .iload 2, 32)], [(32, .if_icmp .le (Int.ofNat 44), 35), (35, .aload 0, 36), (36, .ldc_w 3, 38), (38, .invokevirtual 58193, 41), (41, .pop, 42), (42, .ldc_w 1, 43), (43, .ireturn, 44), (44, .aload 0, 45), (45, .getfield 456, 48)], [(48, .ireturn, 49)]]
abbrev m_Rd_numberHere : Nat := 51
def ah_Rd_numberHere : List (Nat × Nat × Nat × Nat × Nat × Nat) := []
def at_Rd_isWord : am_T := [[(0, .aload 0, 1), (1, .getfield 453, 4), (4, .ldc 1002, 7), (7, .if_icmp .ne (Int.ofNat 26), 10), (10, .aload 0, 11), (11, .getfield 455, 14), (14, .aload 0, 15), (15, .getfield 454, 18)], [(18, .isub, 19), (19, .aload 1, 20), (20, .monitorexit, 23), (23, .if_icmp .eq (Int.ofNat 28), 26), (26, .ldc 0, 27), (27, .areturn, 28), (28, .ldc 0, 29), (29, .istore 2, 30), (30, .iload 2, 31), (31, .aload 1, 32)], [(32, .monitorexit, 35), (35, .if_icmp .ge (Int.ofNat 65), 38), (38, .aload 0, 39), (39, .getstatic 451, 42), (42, .aload 0, 43), (43, .getfield 454, 46), (46, .iload 2, 47), (47, .iadd, 48)], [(48, .baload, 49), (49, .aload 1, 50), (50, .iload 2, 51), (51, .instanceof 0, 54), (54, .if_icmp .eq (Int.ofNat 59), 57), (57, .ldc 0, 58), (58, .areturn, 59), (59, .iinc 2 (Int.ofNat 1), 62), (62, .goto (Int.ofNat 30), 65)], [(65, .ldc 1, 66), (66, .areturn, 67)]]
abbrev m_Rd_isWord : Nat := 52
def ah_Rd_isWord : List (Nat × Nat × Nat × Nat × Nat × Nat) := []
def at_Rd_fail : am_T := [[(0, .aload 0, 1), (1, .iload 1, 2), (2, .putfield 449, 5), (5, .aload 0, 6), (6, .aload 0, 7), (7, .getfield 454, 10), (10, .putfield 450, 13), (13, .ldc 0, 14), (14, .areturn, 15)]]
abbrev m_Rd_fail : Nat := 53
def ah_Rd_fail : List (Nat × Nat × Nat × Nat × Nat × Nat) := []
def at_Rd_advance : am_T := [[(0, .aload 0, 1), (1, .getfield 455, 4), (4, .istore 1, 5), (5, .iload 1, 6), (6, .aload 0, 7), (7, .getfield 452, 10), (10, .if_icmp .ge (Int.ofNat 30), 13), (13, .aload 0, 14), (14, .getstatic 451, 17)], [(17, .iload 1, 18), (18, .baload, 19), (19, .ldc 32, 21), (21, .if_icmp .ne (Int.ofNat 30), 24), (24, .iinc 1 (Int.ofNat 1), 27), (27, .goto (Int.ofNat 5), 30), (30, .aload 0, 31), (31, .iload 1, 32)], [(32, .putfield 454, 35), (35, .aload 0, 36), (36, .ldc 0, 37), (37, .putfield 456, 40), (40, .iload 1, 41), (41, .aload 0, 42), (42, .getfield 452, 45), (45, .if_icmp .lt (Int.ofNat 58), 48)], [(48, .aload 0, 49), (49, .ldc 1000, 52), (52, .putfield 453, 55), (55, .goto (Int.ofNat 227), 58), (58, .aload 0, 59), (59, .getstatic 451, 62), (62, .iload 1, 63), (63, .baload, 64)], [(64, .ldc 48, 66), (66, .if_icmp .lt (Int.ofNat 149), 69), (69, .aload 0, 70), (70, .getstatic 451, 73), (73, .iload 1, 74), (74, .baload, 75), (75, .ldc 57, 77), (77, .if_icmp .gt (Int.ofNat 149), 80)], [(80, .aload 0, 81), (81, .ldc 1001, 84), (84, .putfield 453, 87), (87, .iload 1, 88), (88, .aload 0, 89), (89, .getfield 452, 92), (92, .if_icmp .ge (Int.ofNat 227), 95), (95, .aload 0, 96)], [(96, .getstatic 451, 99), (99, .iload 1, 100), (100, .baload, 101), (101, .ldc 48, 103), (103, .if_icmp .lt (Int.ofNat 227), 106), (106, .aload 0, 107), (107, .getstatic 451, 110), (110, .iload 1, 111), (111, .baload, 112)], [(112, .ldc 57, 114), (114, .if_icmp .gt (Int.ofNat 227), 117), (117, .aload 0, 118), (118, .ldc 100000, 120), (120, .ldc 10, 122), (122, .aload 0, 123), (123, .getfield 456, 126), (126, .imul, 127), (127, .aload 0, 128)], [(128, .getstatic 451, 131), (131, .iload 1, 132), (132, .baload, 133), (133, .iadd, 134), (134, .ldc 48, 136), (136, .isub, 137), (137, .dsub, 140), (140, .putfield 456, 143), (143, .iinc 1 (Int.ofNat 1), 146)], [(146, .goto (Int.ofNat 87), 149), (149, .aload 0, 150), (150, .getstatic 451, 153), (153, .iload 1, 154), (154, .baload, 155), (155, .ldc 97, 157), (157, .if_icmp .lt (Int.ofNat 214), 160)], [(160, .aload 0, 161), (161, .getstatic 451, 164), (164, .iload 1, 165), (165, .baload, 166), (166, .ldc 122, 168), (168, .if_icmp .gt (Int.ofNat 214), 171), (171, .aload 0, 172), (172, .ldc 1002, 175), (175, .putfield 453, 178)], [(178, .iload 1, 179), (179, .aload 0, 180), (180, .getfield 452, 183), (183, .if_icmp .ge (Int.ofNat 227), 186), (186, .aload 0, 187), (187, .getstatic 451, 190), (190, .iload 1, 191), (191, .baload, 192)], [(192, .ldc 97, 194), (194, .if_icmp .lt (Int.ofNat 227), 197), (197, .aload 0, 198), (198, .getstatic 451, 201), (201, .iload 1, 202), (202, .baload, 203), (203, .ldc 122, 205), (205, .if_icmp .gt (Int.ofNat 227), 208)], [(208, .iinc 1 (Int.ofNat 1), 211), (211, .goto (Int.ofNat 178), 214), (214, .aload 0, 215), (215, .aload 0, 216), (216, .getstatic 451, 219), (219, .iload 1, 220), (220, .baload, 221), (221, .putfield 453, 224)], [(224, .iinc 1 (Int.ofNat 1), 227), (227, .aload 0, 228), (228, .iload 1, 229), (229, .putfield 455, 232), (232, .return_, 233)]]
abbrev m_Rd_advance : Nat := 54
def ah_Rd_advance : List (Nat × Nat × Nat × Nat × Nat × Nat) := []
def at_Mc_init : am_T := [[(0, .aload 0, 1), (1, .pop2, 4), (4, .aload 0, 5), (5, .ldc 700, 8), (8, .anewarray 3, 10), (10, .checkcast 512, 13), (13, .aload 0, 14), (14, .ldc_w 1, 15), (15, .putfield 514, 18)], [(18, .aload 0, 19), (19, .new 138, 22), (22, .dup, 23), (23, .invokevirtual 16576, 26), (26, .checkcast 515, 29), (29, .aload 0, 30), (30, .new 259, 33)], [(33, .dup, 34), (34, .invokevirtual 33248, 37), (37, .checkcast 516, 40), (40, .aload 0, 41), (41, .new 461, 44), (44, .dup, 45), (45, .invokevirtual 57920, 48)], [(48, .checkcast 517, 51), (51, .aload 0, 52), (52, .new 194, 55), (55, .dup, 56), (56, .invokevirtual 25040, 59), (59, .checkcast 518, 62), (62, .aload 0, 63), (63, .new 3, 66)], [(66, .dup, 67), (67, .invokevirtual 64, 70), (70, .checkcast 519, 73), (73, .aload 0, 74), (74, .new 386, 77), (77, .dup, 78), (78, .invokevirtual 49680, 81)], [(81, .checkcast 520, 84), (84, .aload 0, 85), (85, .new 323, 88), (88, .dup, 89), (89, .invokevirtual 41472, 92), (92, .checkcast 521, 95), (95, .return_, 96)]]
abbrev m_Mc_init : Nat := 55
def ah_Mc_init : List (Nat × Nat × Nat × Nat × Nat × Nat) := []
def at_Mc_append : am_T := [[(0, .aload 0, 1), (1, .getfield 513, 4), (4, .ldc 680, 7), (7, .if_icmp .le (Int.ofNat 12), 10), (10, .ldc_w 1, 11), (11, .ireturn, 12), (12, .aload 0, 13), (13, .iload 1, 14), (14, .invokevirtual 66449, 17)], [(17, .aload 0, 18), (18, .iload 2, 19), (19, .invokevirtual 66449, 22), (22, .aload 0, 23), (23, .iload 3, 24), (24, .invokevirtual 66449, 27), (27, .aload 0, 28), (28, .iload 4, 30), (30, .invokevirtual 66449, 33)], [(33, .aload 0, 34), (34, .iload 5, 36), (36, .invokevirtual 66449, 39), (39, .aload 0, 40), (40, .getfield 513, 43), (43, .ireturn, 44)]]
abbrev m_Mc_append : Nat := 56
def ah_Mc_append : List (Nat × Nat × Nat × Nat × Nat × Nat) := []
def at_Mc_putWord : am_T := [[(0, .ldc 24, 2), (2, .istore 2, 3), (3, .iload 2, 4), (4, .ifCond .lt (Int.ofNat 46), 7), (7, .aload 0, 8), (8, .getfield 513, 11), (11, .ldc 700, 14), (14, .if_icmp .ge (Int.ofNat 46), 17)], [(17, .aload 0, 18), (18, .getstatic 512, 21), (21, .aload 0, 22), (22, .getfield 513, 25), (25, .iload 1, 26), (26, .iload 2, 27), (27, .ishr, 28), (28, .i2b, 29), (29, .bastore, 30), (30, .aload 0, 31), (31, .dup, 32)], [(32, .getfield 513, 35), (35, .ldc 1, 36), (36, .iadd, 37), (37, .putfield 513, 40), (40, .iinc 2 (Int.negSucc 7), 43), (43, .goto (Int.ofNat 3), 46), (46, .return_, 47)]]
abbrev m_Mc_putWord : Nat := 57
def ah_Mc_putWord : List (Nat × Nat × Nat × Nat × Nat × Nat) := []
def at_Mc_load : am_T := [[(0, .iload 1, 1), (1, .ifCond .lt (Int.ofNat 12), 4), (4, .iload 1, 5), (5, .aload 0, 6), (6, .getfield 513, 9), (9, .if_icmp .le (Int.ofNat 22), 12), (12, .jsr (Int.ofNat 1), 15)], [(22, .aload 0, 23), (23, .ldc 0, 24), (24, .putfield 513, 27), (27, .aload 0, 28), (28, .getstatic 517, 31), (31, .aload 0, 32)], [(32, .getstatic 512, 35), (35, .iload 1, 36), (36, .invokevirtual 57938, 39), (39, .istore 2, 40), (40, .aload 0, 41), (41, .iload 2, 42), (42, .ifCond .eq (Int.ofNat 49), 45), (45, .ldc_w 1, 46), (46, .goto (Int.ofNat 56), 49)], [(49, .aload 0, 50), (50, .getstatic 517, 53), (53, .getfield 450, 56), (56, .putfield 514, 59), (59, .iload 2, 60), (60, .ifCond .ne (Int.ofNat 71), 63), (63, .aload 0, 64)], [(64, .getstatic 517, 67), (67, .getfield 449, 70), (70, .ireturn, 71), (71, .aload 0, 72), (72, .getstatic 516, 75), (75, .aload 0, 76), (76, .getstatic 515, 79), (79, .invokevirtual 33265, 82)], [(82, .aload 0, 83), (83, .getstatic 515, 86), (86, .aload 0, 87), (87, .getstatic 517, 90), (90, .getstatic 448, 93), (93, .invokevirtual 16609, 96)], [(96, .aload 0, 97), (97, .getstatic 515, 100), (100, .getfield 129, 103), (103, .ireturn, 104)]]
abbrev m_Mc_load : Nat := 58
def ah_Mc_load : List (Nat × Nat × Nat × Nat × Nat × Nat) := []
def at_Mc_terminals : am_T := [[(0, .aload 0, 1), (1, .getstatic 515, 4), (4, .getfield 130, 7), (7, .ireturn, 8)]]
abbrev m_Mc_terminals : Nat := 59
def ah_Mc_terminals : List (Nat × Nat × Nat × Nat × Nat × Nat) := []
def at_Mc_cutCost : am_T := [[(0, .iload 1, 1), (1, .ifCond .lt (Int.ofNat 15), 4), (4, .iload 1, 5), (5, .aload 0, 6), (6, .getstatic 515, 9), (9, .invokevirtual 16656, 12), (12, .if_icmp .le (Int.ofNat 25), 15), (15, .jsr (Int.ofNat 1), 18)], [(25, .aload 0, 26), (26, .getstatic 515, 29), (29, .iload 1, 30), (30, .invokevirtual 16801, 33)], [(33, .ireturn, 34)]]
abbrev m_Mc_cutCost : Nat := 60
def ah_Mc_cutCost : List (Nat × Nat × Nat × Nat × Nat × Nat) := []
def at_Mc_isolatingValue : am_T := [[(0, .aload 0, 1), (1, .iload 1, 2), (2, .invokevirtual 66721, 5), (5, .aload 0, 6), (6, .getstatic 515, 9), (9, .iload 1, 10), (10, .invokestatic 34, 13), (13, .ireturn, 14)]]
abbrev m_Mc_isolatingValue : Nat := 61
def ah_Mc_isolatingValue : List (Nat × Nat × Nat × Nat × Nat × Nat) := []
def at_Mc_isolatingSet : am_T := [[(0, .aload 0, 1), (1, .iload 1, 2), (2, .invokevirtual 66721, 5), (5, .aload 0, 6), (6, .getstatic 515, 9), (9, .iload 1, 10), (10, .invokestatic 18, 13), (13, .ireturn, 14)]]
abbrev m_Mc_isolatingSet : Nat := 62
def ah_Mc_isolatingSet : List (Nat × Nat × Nat × Nat × Nat × Nat) := []
def at_Mc_lowerBound : am_T := [[(0, .ldc 0, 1), (1, .istore 1, 2), (2, .ldc 0, 3), (3, .istore 2, 4), (4, .iload 2, 5), (5, .aload 0, 6), (6, .getstatic 515, 9), (9, .getfield 128, 12), (12, .if_icmp .ge (Int.ofNat 43), 15), (15, .aload 0, 16)], [(16, .getstatic 515, 19), (19, .iload 2, 20), (20, .invokevirtual 16641, 23), (23, .ifCond .eq (Int.ofNat 37), 26), (26, .iload 1, 27), (27, .aload 0, 28), (28, .getstatic 515, 31), (31, .iload 2, 32)], [(32, .invokestatic 34, 35), (35, .iadd, 36), (36, .istore 1, 37), (37, .iinc 2 (Int.ofNat 1), 40), (40, .goto (Int.ofNat 4), 43), (43, .iload 1, 44), (44, .ldc 1, 45), (45, .iadd, 46), (46, .ldc 2, 47), (47, .idiv, 48)], [(48, .ireturn, 49)]]
abbrev m_Mc_lowerBound : Nat := 63
def ah_Mc_lowerBound : List (Nat × Nat × Nat × Nat × Nat × Nat) := []
def at_Mc_dearest : am_T := [[(0, .aload 0, 1), (1, .invokevirtual 66736, 4), (4, .aload 0, 5), (5, .getstatic 515, 8), (8, .invokestatic 49, 11), (11, .ireturn, 12)]]
abbrev m_Mc_dearest : Nat := 64
def ah_Mc_dearest : List (Nat × Nat × Nat × Nat × Nat × Nat) := []
def at_Mc_exactCost : am_T := [[(0, .aload 0, 1), (1, .getstatic 519, 4), (4, .aload 0, 5), (5, .getstatic 515, 8), (8, .aload 0, 9), (9, .getstatic 515, 12), (12, .getfield 130, 15), (15, .invokevirtual 82, 18)], [(18, .aload 0, 19), (19, .getstatic 519, 22), (22, .getfield 1, 25), (25, .ireturn, 26)]]
abbrev m_Mc_exactCost : Nat := 65
def ah_Mc_exactCost : List (Nat × Nat × Nat × Nat × Nat × Nat) := []
def at_Mc_exact : am_T := [[(0, .aload 0, 1), (1, .iload 1, 2), (2, .invokevirtual 66705, 5), (5, .aload 0, 6), (6, .getstatic 519, 9), (9, .aload 0, 10), (10, .getstatic 515, 13), (13, .aload 0, 14), (14, .getstatic 515, 17)], [(17, .getfield 130, 20), (20, .invokevirtual 82, 23), (23, .aload 0, 24), (24, .getstatic 519, 27), (27, .getstatic 0, 30), (30, .iload 1, 31), (31, .iaload, 32)], [(32, .ireturn, 33)]]
abbrev m_Mc_exact : Nat := 66
def ah_Mc_exact : List (Nat × Nat × Nat × Nat × Nat × Nat) := []
def at_Mc_price : am_T := [[(0, .aload 0, 1), (1, .iload 1, 2), (2, .invokevirtual 66721, 5), (5, .aload 0, 6), (6, .getstatic 519, 9), (9, .aload 0, 10), (10, .getstatic 515, 13), (13, .aload 0, 14), (14, .getstatic 515, 17)], [(17, .getfield 130, 20), (20, .invokevirtual 82, 23), (23, .aload 0, 24), (24, .getstatic 519, 27), (27, .getfield 1, 30), (30, .istore 2, 31), (31, .aload 0, 32)], [(32, .getstatic 519, 35), (35, .aload 0, 36), (36, .getstatic 515, 39), (39, .aload 0, 40), (40, .getstatic 515, 43), (43, .getfield 130, 46), (46, .ldc 1, 47), (47, .iload 1, 48)], [(48, .ishl, 49), (49, .ldc_w 1, 50), (50, .ixor, 51), (51, .iand, 52), (52, .invokevirtual 82, 55), (55, .iload 2, 56), (56, .aload 0, 57), (57, .getstatic 519, 60), (60, .getfield 1, 63), (63, .isub, 64)], [(64, .ireturn, 65)]]
abbrev m_Mc_price : Nat := 67
def ah_Mc_price : List (Nat × Nat × Nat × Nat × Nat × Nat) := []
def at_Mc_nearest : am_T := [[(0, .aload 0, 1), (1, .iload 1, 2), (2, .invokevirtual 66705, 5), (5, .aload 0, 6), (6, .getstatic 520, 9), (9, .aload 0, 10), (10, .getstatic 515, 13), (13, .invokevirtual 49697, 16)], [(16, .aload 0, 17), (17, .getstatic 520, 20), (20, .getstatic 384, 23), (23, .iload 1, 24), (24, .iaload, 25), (25, .ireturn, 26)]]
abbrev m_Mc_nearest : Nat := 68
def ah_Mc_nearest : List (Nat × Nat × Nat × Nat × Nat × Nat) := []
def at_Mc_distance : am_T := [[(0, .aload 0, 1), (1, .iload 1, 2), (2, .invokevirtual 66705, 5), (5, .aload 0, 6), (6, .getstatic 520, 9), (9, .aload 0, 10), (10, .getstatic 515, 13), (13, .invokevirtual 49697, 16)], [(16, .aload 0, 17), (17, .getstatic 520, 20), (20, .getstatic 385, 23), (23, .iload 1, 24), (24, .iaload, 25), (25, .ireturn, 26)]]
abbrev m_Mc_distance : Nat := 69
def ah_Mc_distance : List (Nat × Nat × Nat × Nat × Nat × Nat) := []
def at_Mc_cost : am_T := [[(0, .aload 0, 1), (1, .getstatic 515, 4), (4, .invokevirtual 16832, 7), (7, .ireturn, 8)]]
abbrev m_Mc_cost : Nat := 70
def ah_Mc_cost : List (Nat × Nat × Nat × Nat × Nat × Nat) := []
def at_Mc_setLabel : am_T := [[(0, .aload 0, 1), (1, .iload 1, 2), (2, .invokevirtual 66705, 5), (5, .iload 2, 6), (6, .ldc_w 1, 7), (7, .if_icmp .eq (Int.ofNat 15), 10), (10, .aload 0, 11), (11, .iload 2, 12), (12, .invokevirtual 66721, 15), (15, .aload 0, 16)], [(16, .getstatic 515, 19), (19, .iload 1, 20), (20, .invokevirtual 16641, 23), (23, .ifCond .eq (Int.ofNat 36), 26), (26, .jsr (Int.ofNat 3), 29)], [(36, .aload 0, 37), (37, .getstatic 516, 40), (40, .aload 0, 41), (41, .getstatic 515, 44), (44, .invokevirtual 33265, 47), (47, .aload 0, 48)], [(48, .getstatic 515, 51), (51, .getstatic 132, 54), (54, .iload 1, 55), (55, .iload 2, 56), (56, .iastore, 57), (57, .aload 0, 58), (58, .getstatic 515, 61), (61, .invokevirtual 16832, 64)], [(64, .ireturn, 65)]]
abbrev m_Mc_setLabel : Nat := 71
def ah_Mc_setLabel : List (Nat × Nat × Nat × Nat × Nat × Nat) := []
def at_Mc_useExact : am_T := [[(0, .aload 0, 1), (1, .getstatic 516, 4), (4, .aload 0, 5), (5, .getstatic 515, 8), (8, .invokevirtual 33265, 11), (11, .aload 0, 12), (12, .getstatic 519, 15), (15, .aload 0, 16)], [(16, .getstatic 515, 19), (19, .aload 0, 20), (20, .getstatic 515, 23), (23, .getfield 130, 26), (26, .invokevirtual 82, 29), (29, .aload 0, 30), (30, .getstatic 515, 33)], [(33, .aload 0, 34), (34, .getstatic 519, 37), (37, .getstatic 0, 40), (40, .invokevirtual 16753, 43), (43, .aload 0, 44), (44, .getstatic 515, 47), (47, .invokevirtual 16832, 50)], [(50, .ireturn, 51)]]
abbrev m_Mc_useExact : Nat := 72
def ah_Mc_useExact : List (Nat × Nat × Nat × Nat × Nat × Nat) := []
def at_Mc_requireVertex : am_T := [[(0, .aload 0, 1), (1, .getstatic 515, 4), (4, .iload 1, 5), (5, .invokevirtual 16625, 8), (8, .ifCond .ne (Int.ofNat 22), 11), (11, .jsr (Int.ofNat 2), 14)], [(22, .return_, 23)]]
abbrev m_Mc_requireVertex : Nat := 73
def ah_Mc_requireVertex : List (Nat × Nat × Nat × Nat × Nat × Nat) := []
def at_Mc_requireTerminal : am_T := [[(0, .aload 0, 1), (1, .getstatic 515, 4), (4, .iload 1, 5), (5, .invokevirtual 16641, 8), (8, .ifCond .ne (Int.ofNat 22), 11), (11, .jsr (Int.ofNat 1), 14)], [(22, .return_, 23)]]
abbrev m_Mc_requireTerminal : Nat := 74
def ah_Mc_requireTerminal : List (Nat × Nat × Nat × Nat × Nat × Nat) := []
def at_Mc_requireSomeTerminal : am_T := [[(0, .aload 0, 1), (1, .getstatic 515, 4), (4, .getfield 130, 7), (7, .ifCond .ne (Int.ofNat 21), 10), (10, .jsr (Int.ofNat 3), 13)], [(21, .return_, 22)]]
abbrev m_Mc_requireSomeTerminal : Nat := 75
def ah_Mc_requireSomeTerminal : List (Nat × Nat × Nat × Nat × Nat × Nat) := []
def at_As_init : am_T := [[(0, .aload 0, 1), (1, .pop2, 4), (4, .ldc 1, 7), (7, .ifCond .eq (Int.ofNat 25), 10), (10, .aload 0, 11), (11, .iload 1, 12), (12, .anewarray 3, 14), (14, .checkcast 704, 17)], [(17, .aload 0, 18), (18, .ldc 0, 19), (19, .putstatic 705, 22), (22, .goto (Int.ofNat 38), 25), (25, .aload 0, 26), (26, .iload 1, 27), (30, .checkcast 704, 33)], [(33, .aload 0, 34), (34, .ldc 1, 35), (35, .putstatic 705, 38), (38, .return_, 39)]]
abbrev m_As_init : Nat := 76
def ah_As_init : List (Nat × Nat × Nat × Nat × Nat × Nat) := []
def at_As_initS : am_T := [[(0, .aload 0, 1), (1, .pop2, 4), (4, .aload 1, 5), (5, .lookupswitch (Int.ofNat 83392) #[], 8), (8, .istore 2, 9), (9, .iload 2, 10), (10, .ldc 2147483631, 12), (12, .if_icmp .ge (Int.ofNat 22), 15), (15, .iload 2, 16)], [(16, .ldc 16, 18), (18, .iadd, 19), (19, .goto (Int.ofNat 24), 22), (22, .ldc 2147483647, 24), (24, .istore 3, 25), (25, .aload 1, 26), (26, .lookupswitch (Int.ofNat 83456) #[], 29), (29, .istore 4, 31), (31, .aload 0, 32)], [(32, .iload 4, 34), (34, .putstatic 705, 37), (37, .aload 0, 38), (38, .iload 4, 40), (40, .ifCond .ne (Int.ofNat 49), 43), (43, .iload 3, 44), (44, .anewarray 3, 46), (46, .goto (Int.ofNat 53), 49)], [(49, .iload 3, 50), (53, .checkcast 704, 56), (56, .aload 0, 57), (57, .aload 1, 58), (58, .invokevirtual 91777, 61), (61, .pop, 62), (62, .return_, 63)]]
abbrev m_As_initS : Nat := 77
def ah_As_initS : List (Nat × Nat × Nat × Nat × Nat × Nat) := []
def at_As_length : am_T := [[(0, .aload 0, 1), (1, .getfield 707, 4), (4, .ireturn, 5)]]
abbrev m_As_length : Nat := 78
def ah_As_length : List (Nat × Nat × Nat × Nat × Nat × Nat) := []
def at_As_ensure : am_T := [[(0, .aload 0, 1), (1, .getstatic 704, 4), (4, .arraylength, 5), (5, .aload 0, 6), (6, .getfield 705, 9), (9, .ishr, 10), (10, .istore 2, 11), (11, .iload 1, 12), (12, .iload 2, 13), (13, .isub, 14), (14, .ifCond .le (Int.ofNat 38), 17)], [(17, .aload 0, 18), (18, .aload 0, 19), (19, .getstatic 704, 22), (22, .aload 0, 23), (23, .iload 1, 24), (24, .invokevirtual 91393, 27), (27, .aload 0, 28), (28, .getfield 705, 31), (31, .ishl, 32)], [(32, .invokestatic 1746, 35), (35, .checkcast 704, 38), (38, .return_, 39)]]
abbrev m_As_ensure : Nat := 79
def ah_As_ensure : List (Nat × Nat × Nat × Nat × Nat × Nat) := []
def at_As_newCap : am_T := [[(0, .aload 0, 1), (1, .getstatic 704, 4), (4, .arraylength, 5), (5, .istore 2, 6), (6, .iload 1, 7), (7, .aload 0, 8), (8, .getfield 705, 11), (11, .ishl, 12), (12, .istore 3, 13), (13, .iload 3, 14), (14, .iload 2, 15), (15, .isub, 16)], [(16, .istore 4, 18), (18, .iload 2, 19), (19, .iload 4, 21), (21, .iload 2, 22), (22, .ldc 2, 23), (23, .aload 0, 24), (24, .getfield 705, 27), (27, .ishl, 28), (28, .iadd, 29), (29, .invokestatic 1827, 32)], [(32, .istore 5, 34), (34, .iload 5, 36), (36, .ldc 2147483647, 38), (38, .if_icmp .ne (Int.ofNat 51), 41), (44, .dup, 45)], [(51, .iload 5, 53), (53, .aload 0, 54), (54, .getfield 705, 57), (57, .ishr, 58), (58, .ireturn, 59)]]
abbrev m_As_newCap : Nat := 80
def ah_As_newCap : List (Nat × Nat × Nat × Nat × Nat × Nat) := []
def at_As_appS : am_T := [[(0, .aload 1, 1), (1, .ifnonnull (Int.ofNat 9), 4), (4, .aload 0, 5), (8, .dreturn, 9), (9, .aload 1, 10), (10, .lookupswitch (Int.ofNat 83392) #[], 13), (13, .istore 2, 14), (14, .aload 0, 15), (15, .aload 0, 16)], [(16, .getfield 707, 19), (19, .iload 2, 20), (20, .iadd, 21), (21, .invokevirtual 91377, 24), (24, .aload 0, 25), (25, .aload 0, 26), (26, .getfield 707, 29), (29, .aload 1, 30), (30, .invokevirtual 91506, 33)], [(33, .aload 0, 34), (34, .dup, 35), (35, .getfield 707, 38), (38, .iload 2, 39), (39, .iadd, 40), (40, .putfield 707, 43), (43, .aload 0, 44), (44, .dreturn, 45)]]
abbrev m_As_appS : Nat := 81
def ah_As_appS : List (Nat × Nat × Nat × Nat × Nat × Nat) := []
def at_As_appC : am_T := [[(0, .aload 0, 1), (1, .aload 0, 2), (2, .getfield 707, 5), (5, .ldc 1, 6), (6, .iadd, 7), (7, .invokevirtual 91377, 10), (10, .aload 0, 11), (11, .invokevirtual 91472, 14), (14, .ifCond .eq (Int.ofNat 45), 17)], [(17, .iload 1, 18), (18, .invokestatic 1713, 21), (21, .ifCond .eq (Int.ofNat 45), 24), (24, .aload 0, 25), (25, .getstatic 704, 28), (28, .aload 0, 29), (29, .dup, 30), (30, .getfield 707, 33)], [(33, .dup_x1, 34), (34, .ldc 1, 35), (35, .iadd, 36), (36, .putfield 707, 39), (39, .iload 1, 40), (40, .i2b, 41), (41, .bastore, 42), (42, .goto (Int.ofNat 75), 45), (45, .aload 0, 46), (46, .invokevirtual 91472, 49)], [(49, .ifCond .eq (Int.ofNat 56), 52), (52, .aload 0, 53), (56, .aload 0, 57), (57, .getstatic 704, 60), (60, .aload 0, 61), (61, .dup, 62), (62, .getfield 707, 65)], [(65, .dup_x1, 66), (66, .ldc 1, 67), (67, .iadd, 68), (68, .putfield 707, 71), (71, .iload 1, 72), (75, .aload 0, 76), (76, .dreturn, 77)]]
abbrev m_As_appC : Nat := 82
def ah_As_appC : List (Nat × Nat × Nat × Nat × Nat × Nat) := []
def at_As_appI : am_T := [[(0, .aload 0, 1), (1, .getfield 707, 4), (4, .istore 2, 5), (5, .iload 2, 6), (6, .iload 1, 7), (7, .invokestatic 1425, 10), (10, .iadd, 11), (11, .istore 3, 12), (12, .aload 0, 13), (13, .iload 3, 14), (14, .invokevirtual 91377, 17)], [(17, .aload 0, 18), (18, .invokevirtual 91472, 21), (21, .ifCond .eq (Int.ofNat 37), 24), (24, .iload 1, 25), (25, .iload 3, 26), (26, .aload 0, 27), (27, .getstatic 704, 30), (30, .invokestatic 1411, 33)], [(33, .pop, 34), (34, .goto (Int.ofNat 48), 37), (37, .iload 1, 38), (38, .iload 2, 39), (39, .iload 3, 40), (40, .aload 0, 41), (41, .getstatic 704, 44), (47, .pop, 48)], [(48, .aload 0, 49), (49, .iload 3, 50), (50, .putfield 707, 53), (53, .aload 0, 54), (54, .dreturn, 55)]]
abbrev m_As_appI : Nat := 83
def ah_As_appI : List (Nat × Nat × Nat × Nat × Nat × Nat) := []
def at_As_getValue : am_T := [[(0, .aload 0, 1), (1, .getstatic 704, 4), (4, .dreturn, 5)]]
abbrev m_As_getValue : Nat := 84
def ah_As_getValue : List (Nat × Nat × Nat × Nat × Nat × Nat) := []
def at_As_isLatin1 : am_T := [[(0, .ldc 1, 3), (3, .ifCond .eq (Int.ofNat 17), 6), (6, .aload 0, 7), (7, .getfield 705, 10), (10, .ifCond .ne (Int.ofNat 17), 13), (13, .ldc 1, 14), (14, .goto (Int.ofNat 18), 17)], [(17, .ldc 0, 18), (18, .areturn, 19)]]
abbrev m_As_isLatin1 : Nat := 85
def ah_As_isLatin1 : List (Nat × Nat × Nat × Nat × Nat × Nat) := []
def at_As_inflIf : am_T := [[(0, .ldc 1, 3), (3, .ifCond .eq (Int.ofNat 21), 6), (6, .aload 0, 7), (7, .getfield 705, 10), (10, .aload 1, 11), (11, .lookupswitch (Int.ofNat 83456) #[], 14), (14, .if_icmp .eq (Int.ofNat 21), 17)], [(17, .aload 0, 18), (21, .return_, 22)]]
abbrev m_As_inflIf : Nat := 86
def ah_As_inflIf : List (Nat × Nat × Nat × Nat × Nat × Nat) := []
def at_As_putStr : am_T := [[(0, .aload 0, 1), (1, .aload 2, 2), (2, .invokevirtual 91489, 5), (5, .aload 2, 6), (6, .aload 0, 7), (7, .getstatic 704, 10), (10, .iload 1, 11), (11, .aload 0, 12), (12, .getfield 705, 15), (15, .lookupswitch (Int.ofNat 83427) #[], 18)], [(18, .return_, 19)]]
abbrev m_As_putStr : Nat := 87
def ah_As_putStr : List (Nat × Nat × Nat × Nat × Nat × Nat) := []
def at_JI_getChars : am_T := [[(0, .iload 1, 1), (1, .istore 5, 3), (3, .iload 0, 4), (4, .ifCond .ge (Int.ofNat 11), 7), (7, .ldc 1, 8), (8, .goto (Int.ofNat 12), 11), (11, .ldc 0, 12), (12, .istore 6, 14), (14, .iload 6, 16)], [(16, .ifCond .ne (Int.ofNat 22), 19), (19, .iload 0, 20), (20, .ineg, 21), (21, .istore 0, 22), (22, .iload 0, 23), (23, .ldc_w 100, 25), (25, .if_icmp .gt (Int.ofNat 72), 28), (28, .iload 0, 29), (29, .ldc 100, 31), (31, .idiv, 32)], [(32, .istore 3, 33), (33, .iload 3, 34), (34, .ldc 100, 36), (36, .imul, 37), (37, .iload 0, 38), (38, .isub, 39), (39, .istore 4, 41), (41, .iload 3, 42), (42, .istore 0, 43), (43, .aload 2, 44), (44, .iinc 5 (Int.negSucc 0), 47), (47, .iload 5, 49)], [(49, .invokeinterface 2000 0, 52), (52, .iload 4, 54), (54, .faload, 55), (55, .bastore, 56), (56, .aload 2, 57), (57, .iinc 5 (Int.negSucc 0), 60), (60, .iload 5, 62), (62, .invokeinterface 2001 0, 65)], [(65, .iload 4, 67), (67, .faload, 68), (68, .bastore, 69), (69, .goto (Int.ofNat 22), 72), (72, .aload 2, 73), (73, .iinc 5 (Int.negSucc 0), 76), (76, .iload 5, 78), (78, .invokeinterface 2000 0, 81)], [(81, .iload 0, 82), (82, .ineg, 83), (83, .faload, 84), (84, .bastore, 85), (85, .iload 0, 86), (86, .ldc_w 9, 88), (88, .if_icmp .ge (Int.ofNat 104), 91), (91, .aload 2, 92), (92, .iinc 5 (Int.negSucc 0), 95), (95, .iload 5, 97)], [(97, .invokeinterface 2001 0, 100), (100, .iload 0, 101), (101, .ineg, 102), (102, .faload, 103), (103, .bastore, 104), (104, .iload 6, 106), (106, .ifCond .eq (Int.ofNat 118), 109), (109, .aload 2, 110), (110, .iinc 5 (Int.negSucc 0), 113)], [(113, .iload 5, 115), (115, .ldc 45, 117), (117, .bastore, 118), (118, .iload 5, 120), (120, .ireturn, 121)]]
abbrev m_JI_getChars : Nat := 88
def ah_JI_getChars : List (Nat × Nat × Nat × Nat × Nat × Nat) := []
def at_JI_stringSize : am_T := [[(0, .ldc 1, 1), (1, .istore 1, 2), (2, .iload 0, 3), (3, .ifCond .lt (Int.ofNat 11), 6), (6, .ldc 0, 7), (7, .istore 1, 8), (8, .iload 0, 9), (9, .ineg, 10), (10, .istore 0, 11), (11, .ldc_w 10, 13), (13, .istore 2, 14), (14, .ldc 1, 15), (15, .istore 3, 16)], [(16, .iload 3, 17), (17, .ldc 10, 19), (19, .if_icmp .ge (Int.ofNat 42), 22), (22, .iload 0, 23), (23, .iload 2, 24), (24, .if_icmp .le (Int.ofNat 31), 27), (27, .iload 3, 28), (28, .iload 1, 29), (29, .iadd, 30), (30, .ireturn, 31), (31, .ldc 10, 33)], [(33, .iload 2, 34), (34, .imul, 35), (35, .istore 2, 36), (36, .iinc 3 (Int.ofNat 1), 39), (39, .goto (Int.ofNat 16), 42), (42, .ldc 10, 44), (44, .iload 1, 45), (45, .iadd, 46), (46, .ireturn, 47)]]
abbrev m_JI_stringSize : Nat := 89
def ah_JI_stringSize : List (Nat × Nat × Nat × Nat × Nat × Nat) := []
def at_JI_bitCount : am_T := [[(0, .iload 0, 1), (1, .iload 0, 2), (2, .ldc 1, 3), (3, .iushr, 4), (4, .ldc 1431655765, 7), (7, .iand, 8), (8, .isub, 9), (9, .istore 0, 10), (10, .iload 0, 11), (11, .ldc 858993459, 14), (14, .iand, 15), (15, .iload 0, 16)], [(16, .ldc 2, 17), (17, .iushr, 18), (18, .ldc 858993459, 21), (21, .iand, 22), (22, .iadd, 23), (23, .istore 0, 24), (24, .iload 0, 25), (25, .iload 0, 26), (26, .ldc 4, 27), (27, .iushr, 28), (28, .iadd, 29), (29, .ldc 252645135, 32)], [(32, .iand, 33), (33, .istore 0, 34), (34, .iload 0, 35), (35, .iload 0, 36), (36, .ldc 8, 38), (38, .iushr, 39), (39, .iadd, 40), (40, .istore 0, 41), (41, .iload 0, 42), (42, .iload 0, 43), (43, .ldc 16, 45), (45, .iushr, 46), (46, .iadd, 47), (47, .istore 0, 48)], [(48, .iload 0, 49), (49, .ldc 63, 51), (51, .iand, 52), (52, .ireturn, 53)]]
abbrev m_JI_bitCount : Nat := 90
def ah_JI_bitCount : List (Nat × Nat × Nat × Nat × Nat × Nat) := []
def at_St_init : am_T := [[(0, .aload 0, 1), (1, .aload 1, 2), (2, .aconst_null, 3), (3, .invokevirtual 83442, 6), (6, .return_, 7)]]
abbrev m_St_init : Nat := 91
def ah_St_init : List (Nat × Nat × Nat × Nat × Nat × Nat) := []
def at_St_length : am_T := [[(0, .aload 0, 1), (1, .ret 0, 4), (4, .fneg, 5), (5, .aload 0, 6), (6, .lookupswitch (Int.ofNat 83456) #[], 9), (9, .ishr, 10), (10, .ireturn, 11)]]
abbrev m_St_length : Nat := 92
def ah_St_length : List (Nat × Nat × Nat × Nat × Nat × Nat) := []
def at_St_charAt : am_T := [[(0, .aload 0, 1), (1, .lookupswitch (Int.ofNat 83472) #[], 4), (4, .ifCond .eq (Int.ofNat 16), 7), (7, .aload 0, 8), (8, .ret 0, 11), (11, .iload 1, 12), (12, .invokestatic 1698, 15), (15, .f2i, 16)], [(16, .aload 0, 17), (17, .ret 0, 20), (20, .iload 1, 21), (24, .f2i, 25)]]
abbrev m_St_charAt : Nat := 93
def ah_St_charAt : List (Nat × Nat × Nat × Nat × Nat × Nat) := []
def at_St_getBytes : am_T := [[(0, .aload 0, 1), (1, .lookupswitch (Int.ofNat 83456) #[], 4), (4, .iload 3, 5), (5, .if_icmp .ne (Int.ofNat 28), 8), (8, .aload 0, 9), (9, .ret 0, 12), (12, .ldc 0, 13), (13, .aload 1, 14), (14, .iload 2, 15), (15, .iload 3, 16)], [(16, .ishl, 17), (17, .aload 0, 18), (18, .ret 0, 21), (21, .fneg, 22), (22, .fastore, 25), (25, .goto (Int.ofNat 43), 28), (28, .aload 0, 29), (29, .ret 0, 32)], [(32, .ldc 0, 33), (33, .aload 1, 34), (34, .iload 2, 35), (35, .aload 0, 36), (36, .ret 0, 39), (39, .fneg, 40), (43, .return_, 44)]]
abbrev m_St_getBytes : Nat := 94
def ah_St_getBytes : List (Nat × Nat × Nat × Nat × Nat × Nat) := []
def at_St_initA : am_T := [[(0, .aload 0, 1), (1, .pop2, 4), (4, .aload 1, 5), (5, .invokevirtual 91456, 8), (8, .astore 3, 9), (9, .aload 1, 10), (10, .invokevirtual 91792, 13), (13, .istore 4, 15), (15, .aload 1, 16)], [(16, .invokevirtual 91472, 19), (19, .ifCond .eq (Int.ofNat 41), 22), (22, .aload 0, 23), (23, .ldc 0, 24), (24, .putstatic 641, 27), (27, .aload 0, 28), (28, .aload 3, 29), (29, .ldc 0, 30), (30, .iload 4, 32)], [(32, .invokestatic 1795, 35), (35, .checkcast 640, 38), (38, .goto (Int.ofNat 97), 41), (41, .ldc 1, 44), (44, .ifCond .eq (Int.ofNat 79), 47), (47, .aload 1, 48)], [(48, .getfield 706, 51), (51, .ifCond .eq (Int.ofNat 79), 54), (54, .aload 0, 55), (55, .aload 3, 56), (56, .ldc 0, 57), (57, .iload 4, 59), (62, .checkcast 640, 65)], [(65, .aload 0, 66), (66, .aload 0, 67), (67, .ret 0, 70), (70, .iload 4, 72), (75, .putstatic 641, 78), (78, .return_, 79), (79, .aload 0, 80)], [(80, .ldc 1, 81), (81, .putstatic 641, 84), (84, .aload 0, 85), (85, .aload 3, 86), (86, .ldc 0, 87), (87, .iload 4, 89), (89, .ldc 1, 90), (90, .ishl, 91), (91, .invokestatic 1795, 94), (94, .checkcast 640, 97)], [(97, .return_, 98)]]
abbrev m_St_initA : Nat := 95
def ah_St_initA : List (Nat × Nat × Nat × Nat × Nat × Nat) := []
def at_St_coder : am_T := [[(0, .ldc 1, 3), (3, .ifCond .eq (Int.ofNat 13), 6), (6, .aload 0, 7), (7, .jsr_w (Int.ofNat 0), 10), (10, .goto (Int.ofNat 14), 13), (13, .ldc 1, 14), (14, .areturn, 15)]]
abbrev m_St_coder : Nat := 96
def ah_St_coder : List (Nat × Nat × Nat × Nat × Nat × Nat) := []
def at_St_isLatin1 : am_T := [[(0, .ldc 1, 3), (3, .ifCond .eq (Int.ofNat 17), 6), (6, .aload 0, 7), (7, .jsr_w (Int.ofNat 0), 10), (10, .ifCond .ne (Int.ofNat 17), 13), (13, .ldc 1, 14), (14, .goto (Int.ofNat 18), 17)], [(17, .ldc 0, 18), (18, .areturn, 19)]]
abbrev m_St_isLatin1 : Nat := 97
def ah_St_isLatin1 : List (Nat × Nat × Nat × Nat × Nat × Nat) := []
def at_Sb_init : am_T := [[(0, .aload 0, 1), (1, .ldc 16, 3), (3, .invokevirtual 91329, 6), (6, .return_, 7)]]
abbrev m_Sb_init : Nat := 98
def ah_Sb_init : List (Nat × Nat × Nat × Nat × Nat × Nat) := []
def at_Sb_initS : am_T := [[(0, .aload 0, 1), (1, .aload 1, 2), (2, .invokevirtual 91345, 5), (5, .return_, 6)]]
abbrev m_Sb_initS : Nat := 99
def ah_Sb_initS : List (Nat × Nat × Nat × Nat × Nat × Nat) := []
def at_Sb_appS : am_T := [[(0, .aload 0, 1), (1, .aload 1, 2), (2, .invokevirtual 91409, 5), (5, .pop, 6), (6, .aload 0, 7), (7, .dreturn, 8)]]
abbrev m_Sb_appS : Nat := 100
def ah_Sb_appS : List (Nat × Nat × Nat × Nat × Nat × Nat) := []
def at_Sb_appC : am_T := [[(0, .aload 0, 1), (1, .iload 1, 2), (2, .invokevirtual 91425, 5), (5, .pop, 6), (6, .aload 0, 7), (7, .dreturn, 8)]]
abbrev m_Sb_appC : Nat := 101
def ah_Sb_appC : List (Nat × Nat × Nat × Nat × Nat × Nat) := []
def at_Sb_appI : am_T := [[(0, .aload 0, 1), (1, .iload 1, 2), (2, .invokevirtual 91441, 5), (5, .pop, 6), (6, .aload 0, 7), (7, .dreturn, 8)]]
abbrev m_Sb_appI : Nat := 102
def ah_Sb_appI : List (Nat × Nat × Nat × Nat × Nat × Nat) := []
def at_Sb_toString : am_T := [[(0, .new 644, 3), (3, .dup, 4), (4, .aload 0, 5), (5, .invokevirtual 83377, 8), (8, .dreturn, 9)]]
abbrev m_Sb_toString : Nat := 103
def ah_Sb_toString : List (Nat × Nat × Nat × Nat × Nat × Nat) := []
def at_Sb_appA : am_T := [[(0, .aload 0, 1), (1, .aload 1, 2), (2, .invokevirtual 91713, 5), (5, .dreturn, 6)]]
abbrev m_Sb_appA : Nat := 104
def ah_Sb_appA : List (Nat × Nat × Nat × Nat × Nat × Nat) := []
def at_Sb_length : am_T := [[(0, .aload 0, 1), (1, .invokevirtual 91360, 4), (4, .ireturn, 5)]]
abbrev m_Sb_length : Nat := 105
def ah_Sb_length : List (Nat × Nat × Nat × Nat × Nat × Nat) := []
def at_L1_charAt : am_T := [[(0, .iload 1, 1), (1, .aload 0, 2), (2, .fneg, 3), (3, .frem, 6), (6, .aload 0, 7), (7, .iload 1, 8), (8, .faload, 9), (9, .ldc 255, 12), (12, .iand, 13), (13, .i2c, 14), (14, .f2i, 15)]]
abbrev m_L1_charAt : Nat := 106
def ah_L1_charAt : List (Nat × Nat × Nat × Nat × Nat × Nat) := []
def at_L1_canEncode : am_T := [[(0, .iload 0, 1), (1, .ldc 255, 4), (4, .if_icmp .gt (Int.ofNat 11), 7), (7, .ldc 1, 8), (8, .goto (Int.ofNat 12), 11), (11, .ldc 0, 12), (12, .areturn, 13)]]
abbrev m_L1_canEncode : Nat := 107
def ah_L1_canEncode : List (Nat × Nat × Nat × Nat × Nat × Nat) := []
def at_JA_fill : am_T := [[(0, .ldc 0, 1), (1, .istore 2, 2), (2, .aload 0, 3), (3, .arraylength, 4), (4, .istore 3, 5), (5, .iload 2, 6), (6, .iload 3, 7), (7, .if_icmp .ge (Int.ofNat 20), 10), (10, .aload 0, 11), (11, .iload 2, 12), (12, .iload 1, 13), (13, .iastore, 14), (14, .iinc 2 (Int.ofNat 1), 17)], [(17, .goto (Int.ofNat 5), 20), (20, .return_, 21)]]
abbrev m_JA_fill : Nat := 108
def ah_JA_fill : List (Nat × Nat × Nat × Nat × Nat × Nat) := []
def at_JA_copyOfB : am_T := [[(0, .iload 1, 1), (1, .aload 0, 2), (2, .arraylength, 3), (3, .if_icmp .ne (Int.ofNat 14), 6), (6, .aload 0, 7), (7, .drem, 13), (13, .dreturn, 14), (14, .iload 1, 15), (15, .anewarray 3, 17)], [(17, .astore 2, 18), (18, .aload 0, 19), (19, .ldc 0, 20), (20, .aload 2, 21), (21, .ldc 0, 22), (22, .aload 0, 23), (23, .arraylength, 24), (24, .iload 1, 25), (25, .dsub, 28), (28, .fastore, 31), (31, .aload 2, 32)], [(32, .dreturn, 33)]]
abbrev m_JA_copyOfB : Nat := 109
def ah_JA_copyOfB : List (Nat × Nat × Nat × Nat × Nat × Nat) := []
def at_JA_copyOf : am_T := [[(0, .iload 1, 1), (1, .aload 0, 2), (2, .arraylength, 3), (3, .if_icmp .ne (Int.ofNat 14), 6), (6, .aload 0, 7), (13, .dreturn, 14), (14, .iload 1, 15), (15, .anewarray 2, 17)], [(17, .astore 2, 18), (18, .aload 0, 19), (19, .ldc 0, 20), (20, .aload 2, 21), (21, .ldc 0, 22), (22, .aload 0, 23), (23, .arraylength, 24), (24, .iload 1, 25), (25, .dsub, 28), (28, .multianewarray 0 0, 31), (31, .aload 2, 32)], [(32, .dreturn, 33)]]
abbrev m_JA_copyOf : Nat := 110
def ah_JA_copyOf : List (Nat × Nat × Nat × Nat × Nat × Nat) := []
def at_JA_checkLength : am_T := [[(0, .iload 1, 1), (1, .iload 0, 2), (2, .if_icmp .ge (Int.ofNat 37), 5), (8, .dup, 9), (12, .dup, 13)], [(16, .iload 0, 17), (26, .iload 1, 27)], [(37, .return_, 38)]]
abbrev m_JA_checkLength : Nat := 111
def ah_JA_checkLength : List (Nat × Nat × Nat × Nat × Nat × Nat) := []
def at_JA_copyOfRange : am_T := [[(0, .iload 1, 1), (1, .ifCond .ne (Int.ofNat 10), 4), (4, .iload 2, 5), (5, .aload 0, 6), (6, .arraylength, 7), (7, .if_icmp .eq (Int.ofNat 17), 10), (10, .aload 0, 11), (11, .iload 1, 12), (12, .iload 2, 13), (13, .invokestatic 1811, 16)], [(16, .dreturn, 17), (17, .aload 0, 18), (18, .drem, 24), (24, .dreturn, 25)]]
abbrev m_JA_copyOfRange : Nat := 112
def ah_JA_copyOfRange : List (Nat × Nat × Nat × Nat × Nat × Nat) := []
def at_JA_copyORB : am_T := [[(0, .iload 1, 1), (1, .iload 2, 2), (2, .invokestatic 1778, 5), (5, .iload 2, 6), (6, .iload 1, 7), (7, .isub, 8), (8, .istore 3, 9), (9, .iload 3, 10), (10, .anewarray 3, 12), (12, .astore 4, 14), (14, .aload 0, 15), (15, .iload 1, 16)], [(16, .aload 4, 18), (18, .ldc 0, 19), (19, .aload 0, 20), (20, .arraylength, 21), (21, .iload 1, 22), (22, .isub, 23), (23, .iload 3, 24), (24, .dsub, 27), (27, .fastore, 30), (30, .aload 4, 32)], [(32, .dreturn, 33)]]
abbrev m_JA_copyORB : Nat := 113
def ah_JA_copyORB : List (Nat × Nat × Nat × Nat × Nat × Nat) := []
def at_Su_newLength : am_T := [[(0, .iload 0, 1), (1, .iload 1, 2), (2, .iload 2, 3), (3, .dadd, 6), (6, .iadd, 7), (7, .istore 3, 8), (8, .ldc 0, 9), (9, .iload 3, 10), (10, .if_icmp .ge (Int.ofNat 21), 13), (13, .iload 3, 14), (14, .ldc 2147483639, 16)], [(16, .if_icmp .gt (Int.ofNat 21), 19), (19, .iload 3, 20), (20, .ireturn, 21), (21, .iload 0, 22), (22, .iload 1, 23), (26, .ireturn, 27)]]
abbrev m_Su_newLength : Nat := 114
def ah_Su_newLength : List (Nat × Nat × Nat × Nat × Nat × Nat) := []
def at_La_init : am_T := [[(0, .aload 0, 1), (1, .pop2, 4), (4, .aload 0, 5), (5, .ldc 6, 7), (7, .ldc 6, 9), (9, .lushr, 13), (13, .checkcast 578, 16)], [(16, .return_, 17)]]
abbrev m_La_init : Nat := 115
def ah_La_init : List (Nat × Nat × Nat × Nat × Nat × Nat) := []
def at_La_cell : am_T := [[(0, .iload 1, 1), (1, .aload 0, 2), (2, .monitorenter, 3), (3, .if_icmp .ge (Int.ofNat 12), 6), (6, .aload 0, 7), (7, .iload 1, 8), (8, .daload, 9), (9, .goto (Int.ofNat 13), 12), (12, .ldc 0, 13), (13, .ireturn, 14)]]
abbrev m_La_cell : Nat := 116
def ah_La_cell : List (Nat × Nat × Nat × Nat × Nat × Nat) := []
def at_La_bound : am_T := [[(0, .iload 0, 1), (1, .ldc 2147483647, 3), (3, .iand, 4), (4, .iload 1, 5), (5, .irem, 6), (6, .ireturn, 7)]]
abbrev m_La_bound : Nat := 117
def ah_La_bound : List (Nat × Nat × Nat × Nat × Nat × Nat) := []
def at_La_read : am_T := [[(0, .ldc 0, 1), (1, .istore 2, 2), (2, .iload 2, 3), (3, .aload 1, 4), (4, .lookupswitch (Int.ofNat 83392) #[], 7), (7, .if_icmp .ge (Int.ofNat 101), 10), (10, .ldc 5, 11), (11, .anewarray 2, 13), (13, .astore 3, 14), (14, .ldc 0, 15), (15, .istore 4, 17)], [(17, .iload 4, 19), (19, .ldc 20, 21), (21, .if_icmp .ge (Int.ofNat 70), 24), (24, .aload 3, 25), (25, .iload 4, 27), (27, .ldc 4, 28), (28, .idiv, 29), (29, .aload 3, 30), (30, .iload 4, 32)], [(32, .ldc 4, 33), (33, .idiv, 34), (34, .iaload, 35), (35, .ldc 8, 37), (37, .ishl, 38), (38, .iload 2, 39), (39, .iload 4, 41), (41, .iadd, 42), (42, .aload 1, 43), (43, .lookupswitch (Int.ofNat 83392) #[], 46), (46, .if_icmp .ge (Int.ofNat 60), 49)], [(49, .aload 1, 50), (50, .iload 2, 51), (51, .iload 4, 53), (53, .iadd, 54), (54, .lookupswitch (Int.ofNat 83409) #[], 57), (57, .goto (Int.ofNat 62), 60), (60, .ldc 32, 62), (62, .ior, 63), (63, .iastore, 64)], [(64, .iinc 4 (Int.ofNat 1), 67), (67, .goto (Int.ofNat 17), 70), (70, .aload 0, 71), (71, .aload 3, 72), (72, .ldc 0, 73), (73, .iaload, 74), (74, .aload 3, 75), (75, .ldc 1, 76), (76, .iaload, 77), (77, .aload 3, 78), (78, .ldc 2, 79), (79, .iaload, 80)], [(80, .aload 3, 81), (81, .ldc 3, 82), (82, .iaload, 83), (83, .aload 3, 84), (84, .ldc 4, 85), (85, .iaload, 86), (86, .invokevirtual 66437, 89), (89, .ifCond .ge (Int.ofNat 95), 92), (92, .ldc_w 99, 94), (94, .ireturn, 95), (95, .iinc 2 (Int.ofNat 20), 98)], [(98, .goto (Int.ofNat 2), 101), (101, .aload 0, 102), (102, .aload 1, 103), (103, .lookupswitch (Int.ofNat 83392) #[], 106), (106, .invokevirtual 66465, 109), (109, .ireturn, 110)]]
abbrev m_La_read : Nat := 118
def ah_La_read : List (Nat × Nat × Nat × Nat × Nat × Nat) := []
def at_La_in : am_T := [[(0, .iload 0, 1), (1, .iload 1, 2), (2, .ishr, 3), (3, .ldc 1, 4), (4, .iand, 5), (5, .ldc 1, 6), (6, .if_icmp .ne (Int.ofNat 13), 9), (9, .ldc 1, 10), (10, .goto (Int.ofNat 14), 13), (13, .ldc 0, 14), (14, .areturn, 15)]]
abbrev m_La_in : Nat := 119
def ah_La_in : List (Nat × Nat × Nat × Nat × Nat × Nat) := []
def at_La_cut : am_T := [[(0, .ldc 0, 1), (1, .istore 2, 2), (2, .ldc 0, 3), (3, .istore 3, 4), (4, .iload 3, 5), (5, .aload 0, 6), (6, .getfield 576, 9), (9, .if_icmp .ge (Int.ofNat 65), 12), (12, .ldc 0, 13), (13, .istore 4, 15), (15, .iload 4, 17)], [(17, .aload 0, 18), (18, .getfield 576, 21), (21, .if_icmp .ge (Int.ofNat 59), 24), (24, .iload 1, 25), (25, .iload 3, 26), (26, .invokestatic 1906, 29), (29, .ifCond .eq (Int.ofNat 53), 32)], [(32, .iload 1, 33), (33, .iload 4, 35), (35, .invokestatic 1906, 38), (38, .ifCond .ne (Int.ofNat 53), 41), (41, .iload 2, 42), (42, .aload 0, 43), (43, .getstatic 578, 46), (46, .iload 3, 47), (47, .dastore, 48)], [(48, .iload 4, 50), (50, .iaload, 51), (51, .iadd, 52), (52, .istore 2, 53), (53, .iinc 4 (Int.ofNat 1), 56), (56, .goto (Int.ofNat 15), 59), (59, .iinc 3 (Int.ofNat 1), 62), (62, .goto (Int.ofNat 4), 65)], [(65, .iload 2, 66), (66, .ireturn, 67)]]
abbrev m_La_cut : Nat := 120
def ah_La_cut : List (Nat × Nat × Nat × Nat × Nat × Nat) := []
def at_La_cost : am_T := [[(0, .ldc 0, 1), (1, .istore 2, 2), (2, .ldc 0, 3), (3, .istore 3, 4), (4, .iload 3, 5), (5, .aload 0, 6), (6, .getfield 576, 9), (9, .if_icmp .ge (Int.ofNat 55), 12), (12, .ldc 0, 13), (13, .istore 4, 15), (15, .iload 4, 17)], [(17, .iload 3, 18), (18, .if_icmp .ge (Int.ofNat 49), 21), (21, .aload 1, 22), (22, .iload 3, 23), (23, .iaload, 24), (24, .aload 1, 25), (25, .iload 4, 27), (27, .iaload, 28), (28, .if_icmp .eq (Int.ofNat 43), 31), (31, .iload 2, 32)], [(32, .aload 0, 33), (33, .getstatic 578, 36), (36, .iload 3, 37), (37, .dastore, 38), (38, .iload 4, 40), (40, .iaload, 41), (41, .iadd, 42), (42, .istore 2, 43), (43, .iinc 4 (Int.ofNat 1), 46), (46, .goto (Int.ofNat 15), 49)], [(49, .iinc 3 (Int.ofNat 1), 52), (52, .goto (Int.ofNat 4), 55), (55, .iload 2, 56), (56, .ireturn, 57)]]
abbrev m_La_cost : Nat := 121
def ah_La_cost : List (Nat × Nat × Nat × Nat × Nat × Nat) := []
def at_La_search : am_T := [[(0, .iload 2, 1), (1, .aload 0, 2), (2, .getfield 576, 5), (5, .if_icmp .ne (Int.ofNat 49), 8), (8, .aload 0, 9), (9, .aload 1, 10), (10, .invokevirtual 75665, 13), (13, .istore 4, 15), (15, .aload 0, 16)], [(16, .getstatic 579, 19), (19, .ifnull (Int.ofNat 31), 22), (22, .iload 4, 24), (24, .aload 0, 25), (25, .getfield 580, 28), (28, .if_icmp .ge (Int.ofNat 48), 31), (31, .aload 0, 32)], [(32, .iload 4, 34), (34, .putfield 580, 37), (37, .aload 0, 38), (38, .aload 1, 39), (39, .dneg, 45), (45, .checkcast 579, 48)], [(48, .return_, 49), (49, .ldc 0, 50), (50, .istore 4, 52), (52, .iload 4, 54), (54, .aload 0, 55), (55, .getfield 576, 58), (58, .if_icmp .ge (Int.ofNat 107), 61), (61, .iload 3, 62), (62, .iload 4, 64)], [(64, .invokestatic 1906, 67), (67, .ifCond .eq (Int.ofNat 101), 70), (70, .iload 3, 71), (71, .iload 2, 72), (72, .invokestatic 1906, 75), (75, .ifCond .eq (Int.ofNat 87), 78), (78, .iload 4, 80)], [(80, .iload 2, 81), (81, .if_icmp .eq (Int.ofNat 87), 84), (84, .goto (Int.ofNat 101), 87), (87, .aload 1, 88), (88, .iload 2, 89), (89, .iload 4, 91), (91, .iastore, 92), (92, .aload 0, 93), (93, .aload 1, 94), (94, .iload 2, 95), (95, .ldc 1, 96)], [(96, .iadd, 97), (97, .iload 3, 98), (98, .invokevirtual 75683, 101), (101, .iinc 4 (Int.ofNat 1), 104), (104, .goto (Int.ofNat 52), 107), (107, .return_, 108)]]
abbrev m_La_search : Nat := 122
def ah_La_search : List (Nat × Nat × Nat × Nat × Nat × Nat) := []
def at_La_exact : am_T := [[(0, .aload 0, 1), (1, .aconst_null, 2), (2, .checkcast 579, 5), (5, .iload 1, 6), (6, .ifCond .ne (Int.ofNat 11), 9), (9, .ldc 0, 10), (10, .ireturn, 11), (11, .aload 0, 12), (12, .aload 0, 13), (13, .getfield 576, 16)], [(16, .anewarray 2, 18), (18, .ldc 0, 19), (19, .iload 1, 20), (20, .invokevirtual 75683, 23), (23, .aload 0, 24), (24, .getfield 580, 27), (27, .ireturn, 28)]]
abbrev m_La_exact : Nat := 123
def ah_La_exact : List (Nat × Nat × Nat × Nat × Nat × Nat) := []
def at_La_areIsolating : am_T := [[(0, .ldc 0, 1), (1, .istore 2, 2), (2, .ldc_w 1, 3), (3, .istore 3, 4), (4, .ldc_w 1, 5), (5, .istore 4, 7), (7, .ldc 0, 8), (8, .istore 5, 10), (10, .iload 5, 12), (12, .aload 0, 13), (13, .getfield 576, 16)], [(16, .if_icmp .ge (Int.ofNat 192), 19), (19, .aload 0, 20), (20, .getfield 577, 23), (23, .iload 5, 25), (25, .invokestatic 1906, 28), (28, .ifCond .ne (Int.ofNat 34), 31), (31, .goto (Int.ofNat 186), 34)], [(34, .ldc 2147483647, 36), (36, .istore 6, 38), (38, .ldc 0, 39), (39, .istore 7, 41), (41, .ldc 0, 42), (42, .istore 8, 44), (44, .iload 8, 46), (46, .ldc 1, 47), (47, .aload 0, 48)], [(48, .getfield 576, 51), (51, .ishl, 52), (52, .if_icmp .ge (Int.ofNat 130), 55), (55, .iload 8, 57), (57, .iload 5, 59), (59, .invokestatic 1906, 62), (62, .ifCond .eq (Int.ofNat 124), 65)], [(65, .iload 8, 67), (67, .aload 0, 68), (68, .getfield 577, 71), (71, .iand, 72), (72, .ldc 1, 73), (73, .iload 5, 75), (75, .ishl, 76), (76, .if_icmp .ne (Int.ofNat 124), 79), (79, .aload 0, 80)], [(80, .iload 8, 82), (82, .invokevirtual 75649, 85), (85, .iload 6, 87), (87, .if_icmp .le (Int.ofNat 93), 90), (90, .goto (Int.ofNat 124), 93), (93, .aload 0, 94), (94, .iload 8, 96)], [(96, .invokevirtual 75649, 99), (99, .iload 6, 101), (101, .if_icmp .ge (Int.ofNat 109), 104), (104, .iload 8, 106), (106, .goto (Int.ofNat 114), 109), (109, .iload 7, 111), (111, .iload 8, 113)], [(113, .iand, 114), (114, .istore 7, 116), (116, .aload 0, 117), (117, .iload 8, 119), (119, .invokevirtual 75649, 122), (122, .istore 6, 124), (124, .iinc 8 (Int.ofNat 1), 127), (127, .goto (Int.ofNat 44), 130)], [(130, .aload 1, 131), (131, .iload 5, 133), (133, .invokevirtual 66513, 136), (136, .iload 6, 138), (138, .if_icmp .ne (Int.ofNat 163), 141), (141, .aload 1, 142), (142, .iload 5, 144)], [(144, .invokevirtual 66529, 147), (147, .iload 7, 149), (149, .if_icmp .ne (Int.ofNat 163), 152), (152, .aload 1, 153), (153, .iload 7, 155), (155, .invokevirtual 66497, 158), (158, .iload 6, 160)], [(160, .if_icmp .eq (Int.ofNat 165), 163), (163, .ldc 0, 164), (164, .areturn, 165), (165, .iload 2, 166), (166, .iload 6, 168), (168, .iadd, 169), (169, .istore 2, 170), (170, .iload 6, 172), (172, .iload 3, 173), (173, .if_icmp .gt (Int.ofNat 179), 176)], [(176, .goto (Int.ofNat 186), 179), (179, .iload 6, 181), (181, .istore 3, 182), (182, .iload 5, 184), (184, .istore 4, 186), (186, .iinc 5 (Int.ofNat 1), 189), (189, .goto (Int.ofNat 10), 192)], [(192, .aload 1, 193), (193, .invokevirtual 66544, 196), (196, .iload 2, 197), (197, .ldc 1, 198), (198, .iadd, 199), (199, .ldc 2, 200), (200, .idiv, 201), (201, .if_icmp .ne (Int.ofNat 217), 204), (204, .aload 1, 205), (205, .invokevirtual 66560, 208)], [(208, .iload 4, 210), (210, .if_icmp .ne (Int.ofNat 217), 213), (213, .ldc 1, 214), (214, .goto (Int.ofNat 218), 217), (217, .ldc 0, 218), (218, .areturn, 219)]]
abbrev m_La_areIsolating : Nat := 124
def ah_La_areIsolating : List (Nat × Nat × Nat × Nat × Nat × Nat) := []
def at_La_areDistances : am_T := [[(0, .aload 0, 1), (1, .getfield 576, 4), (4, .aload 0, 5), (5, .getfield 576, 8), (8, .lushr, 12), (12, .astore 2, 13), (13, .ldc 0, 14), (14, .istore 3, 15), (15, .iload 3, 16)], [(16, .aload 0, 17), (17, .getfield 576, 20), (20, .if_icmp .ge (Int.ofNat 93), 23), (23, .ldc 0, 24), (24, .istore 4, 26), (26, .iload 4, 28), (28, .aload 0, 29), (29, .getfield 576, 32)], [(32, .if_icmp .ge (Int.ofNat 87), 35), (35, .aload 2, 36), (36, .iload 3, 37), (37, .dastore, 38), (38, .iload 4, 40), (40, .iload 3, 41), (41, .iload 4, 43), (43, .if_icmp .ne (Int.ofNat 50), 46), (46, .ldc 0, 47), (47, .goto (Int.ofNat 80), 50)], [(50, .aload 0, 51), (51, .getstatic 578, 54), (54, .iload 3, 55), (55, .dastore, 56), (56, .iload 4, 58), (58, .iaload, 59), (59, .ifCond .ne (Int.ofNat 67), 62), (62, .ldc 100000000, 64)], [(64, .goto (Int.ofNat 80), 67), (67, .ldc 10000, 70), (70, .aload 0, 71), (71, .getstatic 578, 74), (74, .iload 3, 75), (75, .dastore, 76), (76, .iload 4, 78), (78, .iaload, 79), (79, .idiv, 80)], [(80, .iastore, 81), (81, .iinc 4 (Int.ofNat 1), 84), (84, .goto (Int.ofNat 26), 87), (87, .iinc 3 (Int.ofNat 1), 90), (90, .goto (Int.ofNat 15), 93), (93, .ldc 0, 94), (94, .istore 3, 95), (95, .iload 3, 96)], [(96, .aload 0, 97), (97, .getfield 576, 100), (100, .if_icmp .ge (Int.ofNat 175), 103), (103, .ldc 0, 104), (104, .istore 4, 106), (106, .iload 4, 108), (108, .aload 0, 109), (109, .getfield 576, 112)], [(112, .if_icmp .ge (Int.ofNat 169), 115), (115, .ldc 0, 116), (116, .istore 5, 118), (118, .iload 5, 120), (120, .aload 0, 121), (121, .getfield 576, 124), (124, .if_icmp .ge (Int.ofNat 163), 127), (127, .aload 2, 128)], [(128, .iload 4, 130), (130, .dastore, 131), (131, .iload 5, 133), (133, .aload 2, 134), (134, .iload 4, 136), (136, .dastore, 137), (137, .iload 5, 139), (139, .iaload, 140), (140, .aload 2, 141), (141, .iload 4, 143), (143, .dastore, 144)], [(144, .iload 3, 145), (145, .iaload, 146), (146, .aload 2, 147), (147, .iload 3, 148), (148, .dastore, 149), (149, .iload 5, 151), (151, .iaload, 152), (152, .iadd, 153), (153, .dsub, 156), (156, .iastore, 157), (157, .iinc 5 (Int.ofNat 1), 160)], [(160, .goto (Int.ofNat 118), 163), (163, .iinc 4 (Int.ofNat 1), 166), (166, .goto (Int.ofNat 106), 169), (169, .iinc 3 (Int.ofNat 1), 172), (172, .goto (Int.ofNat 95), 175), (175, .ldc 0, 176)], [(176, .istore 3, 177), (177, .iload 3, 178), (178, .aload 0, 179), (179, .getfield 576, 182), (182, .if_icmp .ge (Int.ofNat 295), 185), (185, .ldc_w 1, 186), (186, .istore 4, 188), (188, .aload 0, 189), (189, .getfield 576, 192)], [(192, .ldc 1, 193), (193, .isub, 194), (194, .istore 5, 196), (196, .iload 5, 198), (198, .ifCond .lt (Int.ofNat 254), 201), (201, .aload 0, 202), (202, .getfield 577, 205), (205, .iload 5, 207), (207, .invokestatic 1906, 210)], [(210, .ifCond .eq (Int.ofNat 248), 213), (213, .aload 2, 214), (214, .iload 3, 215), (215, .dastore, 216), (216, .iload 5, 218), (218, .iaload, 219), (219, .ldc 100000000, 221), (221, .if_icmp .ge (Int.ofNat 248), 224)], [(224, .iload 4, 226), (226, .ifCond .lt (Int.ofNat 244), 229), (229, .aload 2, 230), (230, .iload 3, 231), (231, .dastore, 232), (232, .iload 5, 234), (234, .iaload, 235), (235, .aload 2, 236), (236, .iload 3, 237), (237, .dastore, 238), (238, .iload 4, 240)], [(240, .iaload, 241), (241, .if_icmp .gt (Int.ofNat 248), 244), (244, .iload 5, 246), (246, .istore 4, 248), (248, .iinc 5 (Int.negSucc 0), 251), (251, .goto (Int.ofNat 196), 254), (254, .aload 1, 255), (255, .iload 3, 256)], [(256, .invokevirtual 66625, 259), (259, .iload 4, 261), (261, .if_icmp .ne (Int.ofNat 287), 264), (264, .aload 1, 265), (265, .iload 3, 266), (266, .invokevirtual 66641, 269), (269, .iload 4, 271), (271, .ifCond .ge (Int.ofNat 278), 274)], [(274, .ldc_w 1, 275), (275, .goto (Int.ofNat 284), 278), (278, .aload 2, 279), (279, .iload 3, 280), (280, .dastore, 281), (281, .iload 4, 283), (283, .iaload, 284), (284, .if_icmp .eq (Int.ofNat 289), 287), (287, .ldc 0, 288)], [(288, .areturn, 289), (289, .iinc 3 (Int.ofNat 1), 292), (292, .goto (Int.ofNat 177), 295), (295, .ldc 1, 296), (296, .areturn, 297)]]
abbrev m_La_areDistances : Nat := 125
def ah_La_areDistances : List (Nat × Nat × Nat × Nat × Nat × Nat) := []
def at_La_law : am_T := [[(0, .new 522, 3), (3, .dup, 4), (4, .invokevirtual 66416, 7), (7, .astore 1, 8), (8, .new 581, 11), (11, .dup, 12), (12, .invokevirtual 75568, 15), (15, .astore 2, 16)], [(16, .aload 2, 17), (17, .ldc 3, 18), (18, .aload 0, 19), (19, .ldc 0, 20), (20, .invokestatic 1858, 23), (23, .ldc 4, 24), (24, .invokestatic 1874, 27), (27, .iadd, 28), (28, .putfield 576, 31), (31, .aload 2, 32)], [(32, .getfield 576, 35), (35, .istore 3, 36), (36, .new 708, 39), (39, .dup, 40), (40, .new 708, 43), (43, .dup, 44), (44, .invokevirtual 91680, 47), (47, .invokeinterface 8 0, 49)], [(49, .invokevirtual 91713, 52), (52, .iload 3, 53), (53, .invokevirtual 91745, 56), (56, .invokeinterface 9 0, 58), (58, .invokevirtual 91713, 61), (61, .invokevirtual 91760, 64)], [(64, .invokevirtual 91697, 67), (67, .astore 4, 69), (69, .iload 3, 70), (70, .anewarray 2, 72), (72, .astore 5, 74), (74, .ldc 0, 75), (75, .istore 6, 77), (77, .iload 6, 79), (79, .iload 3, 80)], [(80, .if_icmp .ge (Int.ofNat 148), 83), (83, .aload 5, 85), (85, .iload 6, 87), (87, .aload 0, 88), (88, .ldc 1, 89), (89, .invokestatic 1858, 92), (92, .ldc 3, 93), (93, .iload 6, 95), (95, .imul, 96)], [(96, .ishr, 97), (97, .ldc 8, 99), (99, .invokestatic 1874, 102), (102, .iastore, 103), (103, .aload 5, 105), (105, .iload 6, 107), (107, .iaload, 108), (108, .ifCond .le (Int.ofNat 142), 111), (111, .aload 4, 113)], [(113, .invokeinterface 10 0, 115), (115, .invokevirtual 91713, 118), (118, .iload 6, 120), (120, .invokevirtual 91745, 123), (123, .ldc 32, 125), (125, .invokevirtual 91729, 128)], [(128, .aload 5, 130), (130, .iload 6, 132), (132, .iaload, 133), (133, .invokevirtual 91745, 136), (136, .ldc 59, 138), (138, .invokevirtual 91729, 141), (141, .pop, 142), (142, .iinc 6 (Int.ofNat 1), 145)], [(145, .goto (Int.ofNat 77), 148), (148, .ldc 2, 149), (149, .aload 0, 150), (150, .ldc 2, 151), (151, .invokestatic 1858, 154), (154, .ldc 2, 155), (155, .invokestatic 1874, 158), (158, .iadd, 159), (159, .istore 6, 161)], [(161, .ldc 0, 162), (162, .istore 7, 164), (164, .iload 7, 166), (166, .iload 6, 168), (168, .if_icmp .ge (Int.ofNat 244), 171), (171, .aload 0, 172), (172, .ldc 2, 173), (173, .invokestatic 1858, 176)], [(176, .ldc 3, 177), (177, .ldc 4, 178), (178, .iload 7, 180), (180, .imul, 181), (181, .iadd, 182), (182, .ishr, 183), (183, .iload 7, 185), (185, .iadd, 186), (186, .iload 3, 187), (187, .invokestatic 1874, 190), (190, .istore 8, 192)], [(192, .aload 2, 193), (193, .getfield 577, 196), (196, .iload 8, 198), (198, .invokestatic 1906, 201), (201, .ifCond .eq (Int.ofNat 207), 204), (204, .goto (Int.ofNat 238), 207), (207, .aload 2, 208)], [(208, .dup, 209), (209, .getfield 577, 212), (212, .ldc 1, 213), (213, .iload 8, 215), (215, .ishl, 216), (216, .ior, 217), (217, .putfield 577, 220), (220, .aload 4, 222), (222, .invokeinterface 11 0, 224)], [(224, .invokevirtual 91713, 227), (227, .iload 8, 229), (229, .invokevirtual 91745, 232), (232, .ldc 59, 234), (234, .invokevirtual 91729, 237), (237, .pop, 238), (238, .iinc 7 (Int.ofNat 1), 241)], [(241, .goto (Int.ofNat 164), 244), (244, .ldc 0, 245), (245, .istore 7, 247), (247, .ldc 0, 248), (248, .istore 8, 250), (250, .iload 8, 252), (252, .iload 3, 253), (253, .if_icmp .ge (Int.ofNat 493), 256)], [(256, .iload 8, 258), (258, .ldc 1, 259), (259, .iadd, 260), (260, .istore 9, 262), (262, .iload 9, 264), (264, .iload 3, 265), (265, .if_icmp .ge (Int.ofNat 487), 268), (268, .aload 0, 269), (269, .ldc 3, 270), (270, .ldc 7, 272)], [(272, .iload 8, 274), (274, .imul, 275), (275, .iload 9, 277), (277, .iadd, 278), (278, .ldc 8, 280), (280, .irem, 281), (281, .iadd, 282), (282, .invokestatic 1858, 285), (285, .iload 8, 287), (287, .iload 9, 289)], [(289, .iadd, 290), (290, .ishr, 291), (291, .istore 10, 293), (293, .iload 10, 295), (295, .ldc 3, 296), (296, .iand, 297), (297, .ifCond .ne (Int.ofNat 303), 300), (300, .goto (Int.ofNat 481), 303), (303, .ldc 1, 304)], [(304, .iload 10, 306), (306, .ldc 2, 307), (307, .ishr, 308), (308, .ldc 12, 310), (310, .invokestatic 1874, 313), (313, .iadd, 314), (314, .istore 11, 316), (316, .aload 2, 317), (317, .getstatic 578, 320)], [(320, .iload 8, 322), (322, .dastore, 323), (323, .iload 9, 325), (325, .iload 11, 327), (327, .ldc 2, 328), (328, .imul, 329), (329, .aload 5, 331), (331, .iload 8, 333), (333, .iaload, 334), (334, .iadd, 335), (335, .aload 5, 337)], [(337, .iload 9, 339), (339, .iaload, 340), (340, .isub, 341), (341, .iastore, 342), (342, .aload 2, 343), (343, .getstatic 578, 346), (346, .iload 8, 348), (348, .dastore, 349), (349, .iload 9, 351), (351, .iaload, 352)], [(352, .ldc 1, 353), (353, .if_icmp .ge (Int.ofNat 367), 356), (356, .aload 2, 357), (357, .getstatic 578, 360), (360, .iload 8, 362), (362, .dastore, 363), (363, .iload 9, 365), (365, .ldc 1, 366), (366, .iastore, 367), (367, .aload 2, 368)], [(368, .getstatic 578, 371), (371, .iload 9, 373), (373, .dastore, 374), (374, .iload 8, 376), (376, .aload 2, 377), (377, .getstatic 578, 380), (380, .iload 8, 382), (382, .dastore, 383), (383, .iload 9, 385)], [(385, .iaload, 386), (386, .iastore, 387), (387, .aload 4, 389), (389, .iload 10, 391), (391, .ldc 4, 392), (392, .iand, 393), (393, .ifCond .ne (Int.ofNat 429), 396), (396, .new 708, 399), (399, .dup, 400)], [(400, .invokevirtual 91680, 403), (403, .invokeinterface 12 0, 405), (405, .invokevirtual 91713, 408), (408, .iload 8, 410), (410, .invokevirtual 91745, 413), (413, .invokeinterface 13 0, 415), (415, .invokevirtual 91713, 418)], [(418, .iload 9, 420), (420, .invokevirtual 91745, 423), (423, .invokevirtual 91760, 426), (426, .goto (Int.ofNat 459), 429), (429, .new 708, 432)], [(432, .dup, 433), (433, .invokevirtual 91680, 436), (436, .invokeinterface 12 0, 438), (438, .invokevirtual 91713, 441), (441, .iload 9, 443), (443, .invokevirtual 91745, 446), (446, .invokeinterface 13 0, 448)], [(448, .invokevirtual 91713, 451), (451, .iload 8, 453), (453, .invokevirtual 91745, 456), (456, .invokevirtual 91760, 459), (459, .invokevirtual 91713, 462), (462, .ldc 32, 464)], [(464, .invokevirtual 91729, 467), (467, .iload 11, 469), (469, .invokevirtual 91745, 472), (472, .ldc 59, 474), (474, .invokevirtual 91729, 477), (477, .pop, 478), (478, .iinc 7 (Int.ofNat 1), 481)], [(481, .iinc 9 (Int.ofNat 1), 484), (484, .goto (Int.ofNat 262), 487), (487, .iinc 8 (Int.ofNat 1), 490), (490, .goto (Int.ofNat 250), 493), (493, .aload 1, 494), (494, .aload 4, 496)], [(496, .invokeinterface 14 0, 498), (498, .invokevirtual 91713, 501), (501, .invokevirtual 91760, 504), (504, .invokestatic 1890, 507), (507, .iload 7, 509), (509, .if_icmp .ne (Int.ofNat 523), 512)], [(512, .aload 1, 513), (513, .invokevirtual 66480, 516), (516, .aload 2, 517), (517, .getfield 577, 520), (520, .if_icmp .eq (Int.ofNat 525), 523), (523, .ldc 0, 524), (524, .areturn, 525), (525, .aload 2, 526), (526, .aload 1, 527), (527, .invokevirtual 75713, 530)], [(530, .ifCond .eq (Int.ofNat 541), 533), (533, .aload 2, 534), (534, .aload 1, 535), (535, .invokevirtual 75729, 538), (538, .ifCond .ne (Int.ofNat 543), 541), (541, .ldc 0, 542), (542, .areturn, 543), (543, .aload 2, 544)], [(544, .aload 2, 545), (545, .getfield 577, 548), (548, .invokevirtual 75697, 551), (551, .istore 8, 553), (553, .aload 2, 554), (554, .getstatic 579, 557), (557, .astore 9, 559), (559, .aload 1, 560)], [(560, .invokevirtual 66576, 563), (563, .iload 8, 565), (565, .if_icmp .eq (Int.ofNat 570), 568), (568, .ldc 0, 569), (569, .areturn, 570), (570, .ldc 0, 571), (571, .istore 10, 573), (573, .iload 10, 575), (575, .iload 3, 576)], [(576, .if_icmp .ge (Int.ofNat 601), 579), (579, .aload 1, 580), (580, .iload 10, 582), (582, .invokevirtual 66593, 585), (585, .aload 9, 587), (587, .iload 10, 589), (589, .iaload, 590), (590, .if_icmp .eq (Int.ofNat 595), 593)], [(593, .ldc 0, 594), (594, .areturn, 595), (595, .iinc 10 (Int.ofNat 1), 598), (598, .goto (Int.ofNat 573), 601), (601, .ldc 0, 602), (602, .istore 10, 604), (604, .iload 10, 606), (606, .iload 3, 607), (607, .if_icmp .ge (Int.ofNat 657), 610)], [(610, .aload 2, 611), (611, .getfield 577, 614), (614, .iload 10, 616), (616, .invokestatic 1906, 619), (619, .ifCond .eq (Int.ofNat 651), 622), (622, .aload 1, 623), (623, .iload 10, 625)], [(625, .invokevirtual 66609, 628), (628, .iload 8, 630), (630, .aload 2, 631), (631, .aload 2, 632), (632, .getfield 577, 635), (635, .ldc 1, 636), (636, .iload 10, 638), (638, .ishl, 639), (639, .ldc_w 1, 640)], [(640, .ixor, 641), (641, .iand, 642), (642, .invokevirtual 75697, 645), (645, .isub, 646), (646, .if_icmp .eq (Int.ofNat 651), 649), (649, .ldc 0, 650), (650, .areturn, 651), (651, .iinc 10 (Int.ofNat 1), 654), (654, .goto (Int.ofNat 604), 657)], [(657, .iload 3, 658), (658, .anewarray 2, 660), (660, .astore 10, 662), (662, .ldc 0, 663), (663, .istore 11, 665), (665, .iload 11, 667), (667, .iload 3, 668), (668, .if_icmp .ge (Int.ofNat 700), 671), (671, .aload 10, 673)], [(673, .iload 11, 675), (675, .aload 2, 676), (676, .getfield 577, 679), (679, .iload 11, 681), (681, .invokestatic 1906, 684), (684, .ifCond .eq (Int.ofNat 692), 687), (687, .iload 11, 689)], [(689, .goto (Int.ofNat 693), 692), (692, .ldc_w 1, 693), (693, .iastore, 694), (694, .iinc 11 (Int.ofNat 1), 697), (697, .goto (Int.ofNat 665), 700), (700, .aload 1, 701), (701, .invokevirtual 66656, 704)], [(704, .aload 2, 705), (705, .aload 10, 707), (707, .invokevirtual 75665, 710), (710, .if_icmp .eq (Int.ofNat 715), 713), (713, .ldc 0, 714), (714, .areturn, 715), (715, .ldc 0, 716), (716, .istore 11, 718), (718, .iload 11, 720)], [(720, .ldc 3, 721), (721, .if_icmp .ge (Int.ofNat 815), 724), (724, .aload 0, 725), (725, .ldc 11, 727), (727, .iload 11, 729), (729, .iadd, 730), (730, .invokestatic 1858, 733), (733, .iload 3, 734), (734, .invokestatic 1874, 737)], [(737, .istore 12, 739), (739, .aload 0, 740), (740, .ldc 11, 742), (742, .iload 11, 744), (744, .iadd, 745), (745, .invokestatic 1858, 748), (748, .ldc 3, 749), (749, .ishr, 750), (750, .iload 3, 751), (751, .invokestatic 1874, 754)], [(754, .istore 13, 756), (756, .aload 2, 757), (757, .getfield 577, 760), (760, .iload 12, 762), (762, .invokestatic 1906, 765), (765, .ifCond .ne (Int.ofNat 809), 768)], [(768, .aload 2, 769), (769, .getfield 577, 772), (772, .iload 13, 774), (774, .invokestatic 1906, 777), (777, .ifCond .ne (Int.ofNat 783), 780), (780, .goto (Int.ofNat 809), 783), (783, .aload 10, 785)], [(785, .iload 12, 787), (787, .iload 13, 789), (789, .iastore, 790), (790, .aload 1, 791), (791, .iload 12, 793), (793, .iload 13, 795), (795, .invokevirtual 66674, 798), (798, .aload 2, 799), (799, .aload 10, 801)], [(801, .invokevirtual 75665, 804), (804, .if_icmp .eq (Int.ofNat 809), 807), (807, .ldc 0, 808), (808, .areturn, 809), (809, .iinc 11 (Int.ofNat 1), 812), (812, .goto (Int.ofNat 718), 815), (815, .aload 1, 816)], [(816, .invokevirtual 66688, 819), (819, .iload 8, 821), (821, .if_icmp .ne (Int.ofNat 837), 824), (824, .aload 1, 825), (825, .invokevirtual 66656, 828), (828, .iload 8, 830), (830, .if_icmp .ne (Int.ofNat 837), 833)], [(833, .ldc 1, 834), (834, .goto (Int.ofNat 838), 837), (837, .ldc 0, 838), (838, .areturn, 839)]]
abbrev m_La_law : Nat := 126
def ah_La_law : List (Nat × Nat × Nat × Nat × Nat × Nat) := []
def am_q_Cu_cheapestSet : am_T × List (Nat × Nat × Nat × Nat × Nat × Nat) × Nat := (at_Cu_cheapestSet, ah_Cu_cheapestSet, 10)
def am_q_Cu_setOf : am_T × List (Nat × Nat × Nat × Nat × Nat × Nat) × Nat := (at_Cu_setOf, ah_Cu_setOf, 3)
def am_q_Cu_valueOf : am_T × List (Nat × Nat × Nat × Nat × Nat × Nat) × Nat := (at_Cu_valueOf, ah_Cu_valueOf, 2)
def am_q_Cu_dearestOf : am_T × List (Nat × Nat × Nat × Nat × Nat × Nat) × Nat := (at_Cu_dearestOf, ah_Cu_dearestOf, 5)
def am_q_Ex_init : am_T × List (Nat × Nat × Nat × Nat × Nat × Nat) × Nat := (at_Ex_init, ah_Ex_init, 1)
def am_q_Ex_run : am_T × List (Nat × Nat × Nat × Nat × Nat × Nat) × Nat := (at_Ex_run, ah_Ex_run, 3)
def am_q_Ex_extend : am_T × List (Nat × Nat × Nat × Nat × Nat × Nat) × Nat := (at_Ex_extend, ah_Ex_extend, 8)
def am_q_Ex_costToEarlier : am_T × List (Nat × Nat × Nat × Nat × Nat × Nat) × Nat := (at_Ex_costToEarlier, ah_Ex_costToEarlier, 5)
def am_q_Fo_init : am_T × List (Nat × Nat × Nat × Nat × Nat × Nat) × Nat := (at_Fo_init, ah_Fo_init, 2)
def am_q_Fo_evaluate : am_T × List (Nat × Nat × Nat × Nat × Nat × Nat) × Nat := (at_Fo_evaluate, ah_Fo_evaluate, 7)
def am_q_Fo_operand : am_T × List (Nat × Nat × Nat × Nat × Nat × Nat) × Nat := (at_Fo_operand, ah_Fo_operand, 4)
def am_q_Fo_combine : am_T × List (Nat × Nat × Nat × Nat × Nat × Nat) × Nat := (at_Fo_combine, ah_Fo_combine, 5)
def am_q_Gr_init : am_T × List (Nat × Nat × Nat × Nat × Nat × Nat) × Nat := (at_Gr_init, ah_Gr_init, 1)
def am_q_Gr_clear : am_T × List (Nat × Nat × Nat × Nat × Nat × Nat) × Nat := (at_Gr_clear, ah_Gr_clear, 1)
def am_q_Gr_copyFrom : am_T × List (Nat × Nat × Nat × Nat × Nat × Nat) × Nat := (at_Gr_copyFrom, ah_Gr_copyFrom, 2)
def am_q_Gr_hasVertex : am_T × List (Nat × Nat × Nat × Nat × Nat × Nat) × Nat := (at_Gr_hasVertex, ah_Gr_hasVertex, 2)
def am_q_Gr_isTerminal : am_T × List (Nat × Nat × Nat × Nat × Nat × Nat) × Nat := (at_Gr_isTerminal, ah_Gr_isTerminal, 2)
def am_q_Gr_allVertices : am_T × List (Nat × Nat × Nat × Nat × Nat × Nat) × Nat := (at_Gr_allVertices, ah_Gr_allVertices, 1)
def am_q_Gr_hasEdgeBetween : am_T × List (Nat × Nat × Nat × Nat × Nat × Nat) × Nat := (at_Gr_hasEdgeBetween, ah_Gr_hasEdgeBetween, 5)
def am_q_Gr_endsOf : am_T × List (Nat × Nat × Nat × Nat × Nat × Nat) × Nat := (at_Gr_endsOf, ah_Gr_endsOf, 2)
def am_q_Gr_lengthOf : am_T × List (Nat × Nat × Nat × Nat × Nat × Nat) × Nat := (at_Gr_lengthOf, ah_Gr_lengthOf, 2)
def am_q_Gr_putEdge : am_T × List (Nat × Nat × Nat × Nat × Nat × Nat) × Nat := (at_Gr_putEdge, ah_Gr_putEdge, 4)
def am_q_Gr_updateCost : am_T × List (Nat × Nat × Nat × Nat × Nat × Nat) × Nat := (at_Gr_updateCost, ah_Gr_updateCost, 3)
def am_q_Gr_takeLabels : am_T × List (Nat × Nat × Nat × Nat × Nat × Nat) × Nat := (at_Gr_takeLabels, ah_Gr_takeLabels, 3)
def am_q_Gr_borderOf : am_T × List (Nat × Nat × Nat × Nat × Nat × Nat) × Nat := (at_Gr_borderOf, ah_Gr_borderOf, 4)
def am_q_Gr_costOfEdges : am_T × List (Nat × Nat × Nat × Nat × Nat × Nat) × Nat := (at_Gr_costOfEdges, ah_Gr_costOfEdges, 4)
def am_q_Gr_costOfSet : am_T × List (Nat × Nat × Nat × Nat × Nat × Nat) × Nat := (at_Gr_costOfSet, ah_Gr_costOfSet, 2)
def am_q_Gr_presentCut : am_T × List (Nat × Nat × Nat × Nat × Nat × Nat) × Nat := (at_Gr_presentCut, ah_Gr_presentCut, 3)
def am_q_Gr_presentCost : am_T × List (Nat × Nat × Nat × Nat × Nat × Nat) × Nat := (at_Gr_presentCost, ah_Gr_presentCost, 1)
def am_q_Gp_init : am_T × List (Nat × Nat × Nat × Nat × Nat × Nat) × Nat := (at_Gp_init, ah_Gp_init, 1)
def am_q_Hi_init : am_T × List (Nat × Nat × Nat × Nat × Nat × Nat) × Nat := (at_Hi_init, ah_Hi_init, 2)
def am_q_Hi_save : am_T × List (Nat × Nat × Nat × Nat × Nat × Nat) × Nat := (at_Hi_save, ah_Hi_save, 2)
def am_q_Mv_init : am_T × List (Nat × Nat × Nat × Nat × Nat × Nat) × Nat := (at_Mv_init, ah_Mv_init, 1)
def am_q_Ne_init : am_T × List (Nat × Nat × Nat × Nat × Nat × Nat) × Nat := (at_Ne_init, ah_Ne_init, 1)
def am_q_Ne_run : am_T × List (Nat × Nat × Nat × Nat × Nat × Nat) × Nat := (at_Ne_run, ah_Ne_run, 4)
def am_q_Ne_offer : am_T × List (Nat × Nat × Nat × Nat × Nat × Nat) × Nat := (at_Ne_offer, ah_Ne_offer, 6)
def am_q_Rd_init : am_T × List (Nat × Nat × Nat × Nat × Nat × Nat) × Nat := (at_Rd_init, ah_Rd_init, 1)
def am_q_Rd_read : am_T × List (Nat × Nat × Nat × Nat × Nat × Nat) × Nat := (at_Rd_read, ah_Rd_read, 5)
def am_q_Rd_finish : am_T × List (Nat × Nat × Nat × Nat × Nat × Nat) × Nat := (at_Rd_finish, ah_Rd_finish, 2)
def am_q_Rd_readGraph : am_T × List (Nat × Nat × Nat × Nat × Nat × Nat) × Nat := (at_Rd_readGraph, ah_Rd_readGraph, 2)
def am_q_Rd_readStatement : am_T × List (Nat × Nat × Nat × Nat × Nat × Nat) × Nat := (at_Rd_readStatement, ah_Rd_readStatement, 1)
def am_q_Rd_readTerminal : am_T × List (Nat × Nat × Nat × Nat × Nat × Nat) × Nat := (at_Rd_readTerminal, ah_Rd_readTerminal, 2)
def am_q_Rd_readEdge : am_T × List (Nat × Nat × Nat × Nat × Nat × Nat) × Nat := (at_Rd_readEdge, ah_Rd_readEdge, 4)
def am_q_Rd_readLoad : am_T × List (Nat × Nat × Nat × Nat × Nat × Nat) × Nat := (at_Rd_readLoad, ah_Rd_readLoad, 3)
def am_q_Rd_startCost : am_T × List (Nat × Nat × Nat × Nat × Nat × Nat) × Nat := (at_Rd_startCost, ah_Rd_startCost, 1)
def am_q_Rd_readSum : am_T × List (Nat × Nat × Nat × Nat × Nat × Nat) × Nat := (at_Rd_readSum, ah_Rd_readSum, 5)
def am_q_Rd_readTerm : am_T × List (Nat × Nat × Nat × Nat × Nat × Nat) × Nat := (at_Rd_readTerm, ah_Rd_readTerm, 5)
def am_q_Rd_readFactor : am_T × List (Nat × Nat × Nat × Nat × Nat × Nat) × Nat := (at_Rd_readFactor, ah_Rd_readFactor, 3)
def am_q_Rd_putCode : am_T × List (Nat × Nat × Nat × Nat × Nat × Nat) × Nat := (at_Rd_putCode, ah_Rd_putCode, 2)
def am_q_Rd_readSymbol : am_T × List (Nat × Nat × Nat × Nat × Nat × Nat) × Nat := (at_Rd_readSymbol, ah_Rd_readSymbol, 2)
def am_q_Rd_vertexHere : am_T × List (Nat × Nat × Nat × Nat × Nat × Nat) × Nat := (at_Rd_vertexHere, ah_Rd_vertexHere, 1)
def am_q_Rd_numberHere : am_T × List (Nat × Nat × Nat × Nat × Nat × Nat) × Nat := (at_Rd_numberHere, ah_Rd_numberHere, 3)
def am_q_Rd_isWord : am_T × List (Nat × Nat × Nat × Nat × Nat × Nat) × Nat := (at_Rd_isWord, ah_Rd_isWord, 3)
def am_q_Rd_fail : am_T × List (Nat × Nat × Nat × Nat × Nat × Nat) × Nat := (at_Rd_fail, ah_Rd_fail, 2)
def am_q_Rd_advance : am_T × List (Nat × Nat × Nat × Nat × Nat × Nat) × Nat := (at_Rd_advance, ah_Rd_advance, 2)
def am_q_Mc_init : am_T × List (Nat × Nat × Nat × Nat × Nat × Nat) × Nat := (at_Mc_init, ah_Mc_init, 1)
def am_q_Mc_append : am_T × List (Nat × Nat × Nat × Nat × Nat × Nat) × Nat := (at_Mc_append, ah_Mc_append, 6)
def am_q_Mc_putWord : am_T × List (Nat × Nat × Nat × Nat × Nat × Nat) × Nat := (at_Mc_putWord, ah_Mc_putWord, 3)
def am_q_Mc_load : am_T × List (Nat × Nat × Nat × Nat × Nat × Nat) × Nat := (at_Mc_load, ah_Mc_load, 3)
def am_q_Mc_terminals : am_T × List (Nat × Nat × Nat × Nat × Nat × Nat) × Nat := (at_Mc_terminals, ah_Mc_terminals, 1)
def am_q_Mc_cutCost : am_T × List (Nat × Nat × Nat × Nat × Nat × Nat) × Nat := (at_Mc_cutCost, ah_Mc_cutCost, 2)
def am_q_Mc_isolatingValue : am_T × List (Nat × Nat × Nat × Nat × Nat × Nat) × Nat := (at_Mc_isolatingValue, ah_Mc_isolatingValue, 2)
def am_q_Mc_isolatingSet : am_T × List (Nat × Nat × Nat × Nat × Nat × Nat) × Nat := (at_Mc_isolatingSet, ah_Mc_isolatingSet, 2)
def am_q_Mc_lowerBound : am_T × List (Nat × Nat × Nat × Nat × Nat × Nat) × Nat := (at_Mc_lowerBound, ah_Mc_lowerBound, 3)
def am_q_Mc_dearest : am_T × List (Nat × Nat × Nat × Nat × Nat × Nat) × Nat := (at_Mc_dearest, ah_Mc_dearest, 1)
def am_q_Mc_exactCost : am_T × List (Nat × Nat × Nat × Nat × Nat × Nat) × Nat := (at_Mc_exactCost, ah_Mc_exactCost, 1)
def am_q_Mc_exact : am_T × List (Nat × Nat × Nat × Nat × Nat × Nat) × Nat := (at_Mc_exact, ah_Mc_exact, 2)
def am_q_Mc_price : am_T × List (Nat × Nat × Nat × Nat × Nat × Nat) × Nat := (at_Mc_price, ah_Mc_price, 3)
def am_q_Mc_nearest : am_T × List (Nat × Nat × Nat × Nat × Nat × Nat) × Nat := (at_Mc_nearest, ah_Mc_nearest, 2)
def am_q_Mc_distance : am_T × List (Nat × Nat × Nat × Nat × Nat × Nat) × Nat := (at_Mc_distance, ah_Mc_distance, 2)
def am_q_Mc_cost : am_T × List (Nat × Nat × Nat × Nat × Nat × Nat) × Nat := (at_Mc_cost, ah_Mc_cost, 1)
def am_q_Mc_setLabel : am_T × List (Nat × Nat × Nat × Nat × Nat × Nat) × Nat := (at_Mc_setLabel, ah_Mc_setLabel, 3)
def am_q_Mc_useExact : am_T × List (Nat × Nat × Nat × Nat × Nat × Nat) × Nat := (at_Mc_useExact, ah_Mc_useExact, 1)
def am_q_Mc_requireVertex : am_T × List (Nat × Nat × Nat × Nat × Nat × Nat) × Nat := (at_Mc_requireVertex, ah_Mc_requireVertex, 2)
def am_q_Mc_requireTerminal : am_T × List (Nat × Nat × Nat × Nat × Nat × Nat) × Nat := (at_Mc_requireTerminal, ah_Mc_requireTerminal, 2)
def am_q_Mc_requireSomeTerminal : am_T × List (Nat × Nat × Nat × Nat × Nat × Nat) × Nat := (at_Mc_requireSomeTerminal, ah_Mc_requireSomeTerminal, 1)
def am_q_As_init : am_T × List (Nat × Nat × Nat × Nat × Nat × Nat) × Nat := (at_As_init, ah_As_init, 2)
def am_q_As_initS : am_T × List (Nat × Nat × Nat × Nat × Nat × Nat) × Nat := (at_As_initS, ah_As_initS, 5)
def am_q_As_length : am_T × List (Nat × Nat × Nat × Nat × Nat × Nat) × Nat := (at_As_length, ah_As_length, 1)
def am_q_As_ensure : am_T × List (Nat × Nat × Nat × Nat × Nat × Nat) × Nat := (at_As_ensure, ah_As_ensure, 3)
def am_q_As_newCap : am_T × List (Nat × Nat × Nat × Nat × Nat × Nat) × Nat := (at_As_newCap, ah_As_newCap, 6)
def am_q_As_appS : am_T × List (Nat × Nat × Nat × Nat × Nat × Nat) × Nat := (at_As_appS, ah_As_appS, 3)
def am_q_As_appC : am_T × List (Nat × Nat × Nat × Nat × Nat × Nat) × Nat := (at_As_appC, ah_As_appC, 2)
def am_q_As_appI : am_T × List (Nat × Nat × Nat × Nat × Nat × Nat) × Nat := (at_As_appI, ah_As_appI, 4)
def am_q_As_getValue : am_T × List (Nat × Nat × Nat × Nat × Nat × Nat) × Nat := (at_As_getValue, ah_As_getValue, 1)
def am_q_As_isLatin1 : am_T × List (Nat × Nat × Nat × Nat × Nat × Nat) × Nat := (at_As_isLatin1, ah_As_isLatin1, 1)
def am_q_As_inflIf : am_T × List (Nat × Nat × Nat × Nat × Nat × Nat) × Nat := (at_As_inflIf, ah_As_inflIf, 2)
def am_q_As_putStr : am_T × List (Nat × Nat × Nat × Nat × Nat × Nat) × Nat := (at_As_putStr, ah_As_putStr, 3)
def am_q_JI_getChars : am_T × List (Nat × Nat × Nat × Nat × Nat × Nat) × Nat := (at_JI_getChars, ah_JI_getChars, 7)
def am_q_JI_stringSize : am_T × List (Nat × Nat × Nat × Nat × Nat × Nat) × Nat := (at_JI_stringSize, ah_JI_stringSize, 4)
def am_q_JI_bitCount : am_T × List (Nat × Nat × Nat × Nat × Nat × Nat) × Nat := (at_JI_bitCount, ah_JI_bitCount, 1)
def am_q_St_init : am_T × List (Nat × Nat × Nat × Nat × Nat × Nat) × Nat := (at_St_init, ah_St_init, 2)
def am_q_St_length : am_T × List (Nat × Nat × Nat × Nat × Nat × Nat) × Nat := (at_St_length, ah_St_length, 1)
def am_q_St_charAt : am_T × List (Nat × Nat × Nat × Nat × Nat × Nat) × Nat := (at_St_charAt, ah_St_charAt, 2)
def am_q_St_getBytes : am_T × List (Nat × Nat × Nat × Nat × Nat × Nat) × Nat := (at_St_getBytes, ah_St_getBytes, 4)
def am_q_St_initA : am_T × List (Nat × Nat × Nat × Nat × Nat × Nat) × Nat := (at_St_initA, ah_St_initA, 5)
def am_q_St_coder : am_T × List (Nat × Nat × Nat × Nat × Nat × Nat) × Nat := (at_St_coder, ah_St_coder, 1)
def am_q_St_isLatin1 : am_T × List (Nat × Nat × Nat × Nat × Nat × Nat) × Nat := (at_St_isLatin1, ah_St_isLatin1, 1)
def am_q_Sb_init : am_T × List (Nat × Nat × Nat × Nat × Nat × Nat) × Nat := (at_Sb_init, ah_Sb_init, 1)
def am_q_Sb_initS : am_T × List (Nat × Nat × Nat × Nat × Nat × Nat) × Nat := (at_Sb_initS, ah_Sb_initS, 2)
def am_q_Sb_appS : am_T × List (Nat × Nat × Nat × Nat × Nat × Nat) × Nat := (at_Sb_appS, ah_Sb_appS, 2)
def am_q_Sb_appC : am_T × List (Nat × Nat × Nat × Nat × Nat × Nat) × Nat := (at_Sb_appC, ah_Sb_appC, 2)
def am_q_Sb_appI : am_T × List (Nat × Nat × Nat × Nat × Nat × Nat) × Nat := (at_Sb_appI, ah_Sb_appI, 2)
def am_q_Sb_toString : am_T × List (Nat × Nat × Nat × Nat × Nat × Nat) × Nat := (at_Sb_toString, ah_Sb_toString, 1)
def am_q_Sb_appA : am_T × List (Nat × Nat × Nat × Nat × Nat × Nat) × Nat := (at_Sb_appA, ah_Sb_appA, 2)
def am_q_Sb_length : am_T × List (Nat × Nat × Nat × Nat × Nat × Nat) × Nat := (at_Sb_length, ah_Sb_length, 1)
def am_q_L1_charAt : am_T × List (Nat × Nat × Nat × Nat × Nat × Nat) × Nat := (at_L1_charAt, ah_L1_charAt, 2)
def am_q_L1_canEncode : am_T × List (Nat × Nat × Nat × Nat × Nat × Nat) × Nat := (at_L1_canEncode, ah_L1_canEncode, 1)
def am_q_JA_fill : am_T × List (Nat × Nat × Nat × Nat × Nat × Nat) × Nat := (at_JA_fill, ah_JA_fill, 4)
def am_q_JA_copyOfB : am_T × List (Nat × Nat × Nat × Nat × Nat × Nat) × Nat := (at_JA_copyOfB, ah_JA_copyOfB, 3)
def am_q_JA_copyOf : am_T × List (Nat × Nat × Nat × Nat × Nat × Nat) × Nat := (at_JA_copyOf, ah_JA_copyOf, 3)
def am_q_JA_checkLength : am_T × List (Nat × Nat × Nat × Nat × Nat × Nat) × Nat := (at_JA_checkLength, ah_JA_checkLength, 2)
def am_q_JA_copyOfRange : am_T × List (Nat × Nat × Nat × Nat × Nat × Nat) × Nat := (at_JA_copyOfRange, ah_JA_copyOfRange, 3)
def am_q_JA_copyORB : am_T × List (Nat × Nat × Nat × Nat × Nat × Nat) × Nat := (at_JA_copyORB, ah_JA_copyORB, 5)
def am_q_Su_newLength : am_T × List (Nat × Nat × Nat × Nat × Nat × Nat) × Nat := (at_Su_newLength, ah_Su_newLength, 4)
def am_q_La_init : am_T × List (Nat × Nat × Nat × Nat × Nat × Nat) × Nat := (at_La_init, ah_La_init, 1)
def am_q_La_cell : am_T × List (Nat × Nat × Nat × Nat × Nat × Nat) × Nat := (at_La_cell, ah_La_cell, 2)
def am_q_La_bound : am_T × List (Nat × Nat × Nat × Nat × Nat × Nat) × Nat := (at_La_bound, ah_La_bound, 2)
def am_q_La_read : am_T × List (Nat × Nat × Nat × Nat × Nat × Nat) × Nat := (at_La_read, ah_La_read, 5)
def am_q_La_in : am_T × List (Nat × Nat × Nat × Nat × Nat × Nat) × Nat := (at_La_in, ah_La_in, 2)
def am_q_La_cut : am_T × List (Nat × Nat × Nat × Nat × Nat × Nat) × Nat := (at_La_cut, ah_La_cut, 5)
def am_q_La_cost : am_T × List (Nat × Nat × Nat × Nat × Nat × Nat) × Nat := (at_La_cost, ah_La_cost, 5)
def am_q_La_search : am_T × List (Nat × Nat × Nat × Nat × Nat × Nat) × Nat := (at_La_search, ah_La_search, 5)
def am_q_La_exact : am_T × List (Nat × Nat × Nat × Nat × Nat × Nat) × Nat := (at_La_exact, ah_La_exact, 2)
def am_q_La_areIsolating : am_T × List (Nat × Nat × Nat × Nat × Nat × Nat) × Nat := (at_La_areIsolating, ah_La_areIsolating, 9)
def am_q_La_areDistances : am_T × List (Nat × Nat × Nat × Nat × Nat × Nat) × Nat := (at_La_areDistances, ah_La_areDistances, 6)
def am_q_La_law : am_T × List (Nat × Nat × Nat × Nat × Nat × Nat) × Nat := (at_La_law, ah_La_law, 14)
def am_prog : List (am_T × List (Nat × Nat × Nat × Nat × Nat × Nat) × Nat) := [am_q_Cu_cheapestSet, am_q_Cu_setOf, am_q_Cu_valueOf, am_q_Cu_dearestOf, am_q_Ex_init, am_q_Ex_run, am_q_Ex_extend, am_q_Ex_costToEarlier, am_q_Fo_init, am_q_Fo_evaluate, am_q_Fo_operand, am_q_Fo_combine, am_q_Gr_init, am_q_Gr_clear, am_q_Gr_copyFrom, am_q_Gr_hasVertex, am_q_Gr_isTerminal, am_q_Gr_allVertices, am_q_Gr_hasEdgeBetween, am_q_Gr_endsOf, am_q_Gr_lengthOf, am_q_Gr_putEdge, am_q_Gr_updateCost, am_q_Gr_takeLabels, am_q_Gr_borderOf, am_q_Gr_costOfEdges, am_q_Gr_costOfSet, am_q_Gr_presentCut, am_q_Gr_presentCost, am_q_Gp_init, am_q_Hi_init, am_q_Hi_save, am_q_Mv_init, am_q_Ne_init, am_q_Ne_run, am_q_Ne_offer, am_q_Rd_init, am_q_Rd_read, am_q_Rd_finish, am_q_Rd_readGraph, am_q_Rd_readStatement, am_q_Rd_readTerminal, am_q_Rd_readEdge, am_q_Rd_readLoad, am_q_Rd_startCost, am_q_Rd_readSum, am_q_Rd_readTerm, am_q_Rd_readFactor, am_q_Rd_putCode, am_q_Rd_readSymbol, am_q_Rd_vertexHere, am_q_Rd_numberHere, am_q_Rd_isWord, am_q_Rd_fail, am_q_Rd_advance, am_q_Mc_init, am_q_Mc_append, am_q_Mc_putWord, am_q_Mc_load, am_q_Mc_terminals, am_q_Mc_cutCost, am_q_Mc_isolatingValue, am_q_Mc_isolatingSet, am_q_Mc_lowerBound, am_q_Mc_dearest, am_q_Mc_exactCost, am_q_Mc_exact, am_q_Mc_price, am_q_Mc_nearest, am_q_Mc_distance, am_q_Mc_cost, am_q_Mc_setLabel, am_q_Mc_useExact, am_q_Mc_requireVertex, am_q_Mc_requireTerminal, am_q_Mc_requireSomeTerminal, am_q_As_init, am_q_As_initS, am_q_As_length, am_q_As_ensure, am_q_As_newCap, am_q_As_appS, am_q_As_appC, am_q_As_appI, am_q_As_getValue, am_q_As_isLatin1, am_q_As_inflIf, am_q_As_putStr, am_q_JI_getChars, am_q_JI_stringSize, am_q_JI_bitCount, am_q_St_init, am_q_St_length, am_q_St_charAt, am_q_St_getBytes, am_q_St_initA, am_q_St_coder, am_q_St_isLatin1, am_q_Sb_init, am_q_Sb_initS, am_q_Sb_appS, am_q_Sb_appC, am_q_Sb_appI, am_q_Sb_toString, am_q_Sb_appA, am_q_Sb_length, am_q_L1_charAt, am_q_L1_canEncode, am_q_JA_fill, am_q_JA_copyOfB, am_q_JA_copyOf, am_q_JA_checkLength, am_q_JA_copyOfRange, am_q_JA_copyORB, am_q_Su_newLength, am_q_La_init, am_q_La_cell, am_q_La_bound, am_q_La_read, am_q_La_in, am_q_La_cut, am_q_La_cost, am_q_La_search, am_q_La_exact, am_q_La_areIsolating, am_q_La_areDistances, am_q_La_law]
def am_hd : List (Nat × Nat × Nat × Nat × Nat × Nat) → Nat → Nat → Option (Nat × Nat)
  | [], _, _ => none
  | q :: l, pc, E => bif Nat.ble q.1 pc && Nat.blt pc q.2.1 && Nat.beq E q.2.2.2.1 then some (q.2.2.2.2.1, q.2.2.2.2.2) else am_hd l pc E
def am_P0 : am_P := fun m => match am_prog[m]? with
  | none => none
  | some q => some (am_code q.1, am_hd q.2.1, q.2.2)
theorem ap_Cu_cheapestSet : am_P0 m_Cu_cheapestSet = some (am_code at_Cu_cheapestSet, am_hd ah_Cu_cheapestSet, 10) := rfl
theorem ap_Cu_setOf : am_P0 m_Cu_setOf = some (am_code at_Cu_setOf, am_hd ah_Cu_setOf, 3) := rfl
theorem ap_Cu_valueOf : am_P0 m_Cu_valueOf = some (am_code at_Cu_valueOf, am_hd ah_Cu_valueOf, 2) := rfl
theorem ap_Cu_dearestOf : am_P0 m_Cu_dearestOf = some (am_code at_Cu_dearestOf, am_hd ah_Cu_dearestOf, 5) := rfl
theorem ap_Ex_init : am_P0 m_Ex_init = some (am_code at_Ex_init, am_hd ah_Ex_init, 1) := rfl
theorem ap_Ex_run : am_P0 m_Ex_run = some (am_code at_Ex_run, am_hd ah_Ex_run, 3) := rfl
theorem ap_Ex_extend : am_P0 m_Ex_extend = some (am_code at_Ex_extend, am_hd ah_Ex_extend, 8) := rfl
theorem ap_Ex_costToEarlier : am_P0 m_Ex_costToEarlier = some (am_code at_Ex_costToEarlier, am_hd ah_Ex_costToEarlier, 5) := rfl
theorem ap_Fo_init : am_P0 m_Fo_init = some (am_code at_Fo_init, am_hd ah_Fo_init, 2) := rfl
theorem ap_Fo_evaluate : am_P0 m_Fo_evaluate = some (am_code at_Fo_evaluate, am_hd ah_Fo_evaluate, 7) := rfl
theorem ap_Fo_operand : am_P0 m_Fo_operand = some (am_code at_Fo_operand, am_hd ah_Fo_operand, 4) := rfl
theorem ap_Fo_combine : am_P0 m_Fo_combine = some (am_code at_Fo_combine, am_hd ah_Fo_combine, 5) := rfl
theorem ap_Gr_init : am_P0 m_Gr_init = some (am_code at_Gr_init, am_hd ah_Gr_init, 1) := rfl
theorem ap_Gr_clear : am_P0 m_Gr_clear = some (am_code at_Gr_clear, am_hd ah_Gr_clear, 1) := rfl
theorem ap_Gr_copyFrom : am_P0 m_Gr_copyFrom = some (am_code at_Gr_copyFrom, am_hd ah_Gr_copyFrom, 2) := rfl
theorem ap_Gr_hasVertex : am_P0 m_Gr_hasVertex = some (am_code at_Gr_hasVertex, am_hd ah_Gr_hasVertex, 2) := rfl
theorem ap_Gr_isTerminal : am_P0 m_Gr_isTerminal = some (am_code at_Gr_isTerminal, am_hd ah_Gr_isTerminal, 2) := rfl
theorem ap_Gr_allVertices : am_P0 m_Gr_allVertices = some (am_code at_Gr_allVertices, am_hd ah_Gr_allVertices, 1) := rfl
theorem ap_Gr_hasEdgeBetween : am_P0 m_Gr_hasEdgeBetween = some (am_code at_Gr_hasEdgeBetween, am_hd ah_Gr_hasEdgeBetween, 5) := rfl
theorem ap_Gr_endsOf : am_P0 m_Gr_endsOf = some (am_code at_Gr_endsOf, am_hd ah_Gr_endsOf, 2) := rfl
theorem ap_Gr_lengthOf : am_P0 m_Gr_lengthOf = some (am_code at_Gr_lengthOf, am_hd ah_Gr_lengthOf, 2) := rfl
theorem ap_Gr_putEdge : am_P0 m_Gr_putEdge = some (am_code at_Gr_putEdge, am_hd ah_Gr_putEdge, 4) := rfl
theorem ap_Gr_updateCost : am_P0 m_Gr_updateCost = some (am_code at_Gr_updateCost, am_hd ah_Gr_updateCost, 3) := rfl
theorem ap_Gr_takeLabels : am_P0 m_Gr_takeLabels = some (am_code at_Gr_takeLabels, am_hd ah_Gr_takeLabels, 3) := rfl
theorem ap_Gr_borderOf : am_P0 m_Gr_borderOf = some (am_code at_Gr_borderOf, am_hd ah_Gr_borderOf, 4) := rfl
theorem ap_Gr_costOfEdges : am_P0 m_Gr_costOfEdges = some (am_code at_Gr_costOfEdges, am_hd ah_Gr_costOfEdges, 4) := rfl
theorem ap_Gr_costOfSet : am_P0 m_Gr_costOfSet = some (am_code at_Gr_costOfSet, am_hd ah_Gr_costOfSet, 2) := rfl
theorem ap_Gr_presentCut : am_P0 m_Gr_presentCut = some (am_code at_Gr_presentCut, am_hd ah_Gr_presentCut, 3) := rfl
theorem ap_Gr_presentCost : am_P0 m_Gr_presentCost = some (am_code at_Gr_presentCost, am_hd ah_Gr_presentCost, 1) := rfl
theorem ap_Gp_init : am_P0 m_Gp_init = some (am_code at_Gp_init, am_hd ah_Gp_init, 1) := rfl
theorem ap_Hi_init : am_P0 m_Hi_init = some (am_code at_Hi_init, am_hd ah_Hi_init, 2) := rfl
theorem ap_Hi_save : am_P0 m_Hi_save = some (am_code at_Hi_save, am_hd ah_Hi_save, 2) := rfl
theorem ap_Mv_init : am_P0 m_Mv_init = some (am_code at_Mv_init, am_hd ah_Mv_init, 1) := rfl
theorem ap_Ne_init : am_P0 m_Ne_init = some (am_code at_Ne_init, am_hd ah_Ne_init, 1) := rfl
theorem ap_Ne_run : am_P0 m_Ne_run = some (am_code at_Ne_run, am_hd ah_Ne_run, 4) := rfl
theorem ap_Ne_offer : am_P0 m_Ne_offer = some (am_code at_Ne_offer, am_hd ah_Ne_offer, 6) := rfl
theorem ap_Rd_init : am_P0 m_Rd_init = some (am_code at_Rd_init, am_hd ah_Rd_init, 1) := rfl
theorem ap_Rd_read : am_P0 m_Rd_read = some (am_code at_Rd_read, am_hd ah_Rd_read, 5) := rfl
theorem ap_Rd_finish : am_P0 m_Rd_finish = some (am_code at_Rd_finish, am_hd ah_Rd_finish, 2) := rfl
theorem ap_Rd_readGraph : am_P0 m_Rd_readGraph = some (am_code at_Rd_readGraph, am_hd ah_Rd_readGraph, 2) := rfl
theorem ap_Rd_readStatement : am_P0 m_Rd_readStatement = some (am_code at_Rd_readStatement, am_hd ah_Rd_readStatement, 1) := rfl
theorem ap_Rd_readTerminal : am_P0 m_Rd_readTerminal = some (am_code at_Rd_readTerminal, am_hd ah_Rd_readTerminal, 2) := rfl
theorem ap_Rd_readEdge : am_P0 m_Rd_readEdge = some (am_code at_Rd_readEdge, am_hd ah_Rd_readEdge, 4) := rfl
theorem ap_Rd_readLoad : am_P0 m_Rd_readLoad = some (am_code at_Rd_readLoad, am_hd ah_Rd_readLoad, 3) := rfl
theorem ap_Rd_startCost : am_P0 m_Rd_startCost = some (am_code at_Rd_startCost, am_hd ah_Rd_startCost, 1) := rfl
theorem ap_Rd_readSum : am_P0 m_Rd_readSum = some (am_code at_Rd_readSum, am_hd ah_Rd_readSum, 5) := rfl
theorem ap_Rd_readTerm : am_P0 m_Rd_readTerm = some (am_code at_Rd_readTerm, am_hd ah_Rd_readTerm, 5) := rfl
theorem ap_Rd_readFactor : am_P0 m_Rd_readFactor = some (am_code at_Rd_readFactor, am_hd ah_Rd_readFactor, 3) := rfl
theorem ap_Rd_putCode : am_P0 m_Rd_putCode = some (am_code at_Rd_putCode, am_hd ah_Rd_putCode, 2) := rfl
theorem ap_Rd_readSymbol : am_P0 m_Rd_readSymbol = some (am_code at_Rd_readSymbol, am_hd ah_Rd_readSymbol, 2) := rfl
theorem ap_Rd_vertexHere : am_P0 m_Rd_vertexHere = some (am_code at_Rd_vertexHere, am_hd ah_Rd_vertexHere, 1) := rfl
theorem ap_Rd_numberHere : am_P0 m_Rd_numberHere = some (am_code at_Rd_numberHere, am_hd ah_Rd_numberHere, 3) := rfl
theorem ap_Rd_isWord : am_P0 m_Rd_isWord = some (am_code at_Rd_isWord, am_hd ah_Rd_isWord, 3) := rfl
theorem ap_Rd_fail : am_P0 m_Rd_fail = some (am_code at_Rd_fail, am_hd ah_Rd_fail, 2) := rfl
theorem ap_Rd_advance : am_P0 m_Rd_advance = some (am_code at_Rd_advance, am_hd ah_Rd_advance, 2) := rfl
theorem ap_Mc_init : am_P0 m_Mc_init = some (am_code at_Mc_init, am_hd ah_Mc_init, 1) := rfl
theorem ap_Mc_append : am_P0 m_Mc_append = some (am_code at_Mc_append, am_hd ah_Mc_append, 6) := rfl
theorem ap_Mc_putWord : am_P0 m_Mc_putWord = some (am_code at_Mc_putWord, am_hd ah_Mc_putWord, 3) := rfl
theorem ap_Mc_load : am_P0 m_Mc_load = some (am_code at_Mc_load, am_hd ah_Mc_load, 3) := rfl
theorem ap_Mc_terminals : am_P0 m_Mc_terminals = some (am_code at_Mc_terminals, am_hd ah_Mc_terminals, 1) := rfl
theorem ap_Mc_cutCost : am_P0 m_Mc_cutCost = some (am_code at_Mc_cutCost, am_hd ah_Mc_cutCost, 2) := rfl
theorem ap_Mc_isolatingValue : am_P0 m_Mc_isolatingValue = some (am_code at_Mc_isolatingValue, am_hd ah_Mc_isolatingValue, 2) := rfl
theorem ap_Mc_isolatingSet : am_P0 m_Mc_isolatingSet = some (am_code at_Mc_isolatingSet, am_hd ah_Mc_isolatingSet, 2) := rfl
theorem ap_Mc_lowerBound : am_P0 m_Mc_lowerBound = some (am_code at_Mc_lowerBound, am_hd ah_Mc_lowerBound, 3) := rfl
theorem ap_Mc_dearest : am_P0 m_Mc_dearest = some (am_code at_Mc_dearest, am_hd ah_Mc_dearest, 1) := rfl
theorem ap_Mc_exactCost : am_P0 m_Mc_exactCost = some (am_code at_Mc_exactCost, am_hd ah_Mc_exactCost, 1) := rfl
theorem ap_Mc_exact : am_P0 m_Mc_exact = some (am_code at_Mc_exact, am_hd ah_Mc_exact, 2) := rfl
theorem ap_Mc_price : am_P0 m_Mc_price = some (am_code at_Mc_price, am_hd ah_Mc_price, 3) := rfl
theorem ap_Mc_nearest : am_P0 m_Mc_nearest = some (am_code at_Mc_nearest, am_hd ah_Mc_nearest, 2) := rfl
theorem ap_Mc_distance : am_P0 m_Mc_distance = some (am_code at_Mc_distance, am_hd ah_Mc_distance, 2) := rfl
theorem ap_Mc_cost : am_P0 m_Mc_cost = some (am_code at_Mc_cost, am_hd ah_Mc_cost, 1) := rfl
theorem ap_Mc_setLabel : am_P0 m_Mc_setLabel = some (am_code at_Mc_setLabel, am_hd ah_Mc_setLabel, 3) := rfl
theorem ap_Mc_useExact : am_P0 m_Mc_useExact = some (am_code at_Mc_useExact, am_hd ah_Mc_useExact, 1) := rfl
theorem ap_Mc_requireVertex : am_P0 m_Mc_requireVertex = some (am_code at_Mc_requireVertex, am_hd ah_Mc_requireVertex, 2) := rfl
theorem ap_Mc_requireTerminal : am_P0 m_Mc_requireTerminal = some (am_code at_Mc_requireTerminal, am_hd ah_Mc_requireTerminal, 2) := rfl
theorem ap_Mc_requireSomeTerminal : am_P0 m_Mc_requireSomeTerminal = some (am_code at_Mc_requireSomeTerminal, am_hd ah_Mc_requireSomeTerminal, 1) := rfl
theorem ap_As_init : am_P0 m_As_init = some (am_code at_As_init, am_hd ah_As_init, 2) := rfl
theorem ap_As_initS : am_P0 m_As_initS = some (am_code at_As_initS, am_hd ah_As_initS, 5) := rfl
theorem ap_As_length : am_P0 m_As_length = some (am_code at_As_length, am_hd ah_As_length, 1) := rfl
theorem ap_As_ensure : am_P0 m_As_ensure = some (am_code at_As_ensure, am_hd ah_As_ensure, 3) := rfl
theorem ap_As_newCap : am_P0 m_As_newCap = some (am_code at_As_newCap, am_hd ah_As_newCap, 6) := rfl
theorem ap_As_appS : am_P0 m_As_appS = some (am_code at_As_appS, am_hd ah_As_appS, 3) := rfl
theorem ap_As_appC : am_P0 m_As_appC = some (am_code at_As_appC, am_hd ah_As_appC, 2) := rfl
theorem ap_As_appI : am_P0 m_As_appI = some (am_code at_As_appI, am_hd ah_As_appI, 4) := rfl
theorem ap_As_getValue : am_P0 m_As_getValue = some (am_code at_As_getValue, am_hd ah_As_getValue, 1) := rfl
theorem ap_As_isLatin1 : am_P0 m_As_isLatin1 = some (am_code at_As_isLatin1, am_hd ah_As_isLatin1, 1) := rfl
theorem ap_As_inflIf : am_P0 m_As_inflIf = some (am_code at_As_inflIf, am_hd ah_As_inflIf, 2) := rfl
theorem ap_As_putStr : am_P0 m_As_putStr = some (am_code at_As_putStr, am_hd ah_As_putStr, 3) := rfl
theorem ap_JI_getChars : am_P0 m_JI_getChars = some (am_code at_JI_getChars, am_hd ah_JI_getChars, 7) := rfl
theorem ap_JI_stringSize : am_P0 m_JI_stringSize = some (am_code at_JI_stringSize, am_hd ah_JI_stringSize, 4) := rfl
theorem ap_JI_bitCount : am_P0 m_JI_bitCount = some (am_code at_JI_bitCount, am_hd ah_JI_bitCount, 1) := rfl
theorem ap_St_init : am_P0 m_St_init = some (am_code at_St_init, am_hd ah_St_init, 2) := rfl
theorem ap_St_length : am_P0 m_St_length = some (am_code at_St_length, am_hd ah_St_length, 1) := rfl
theorem ap_St_charAt : am_P0 m_St_charAt = some (am_code at_St_charAt, am_hd ah_St_charAt, 2) := rfl
theorem ap_St_getBytes : am_P0 m_St_getBytes = some (am_code at_St_getBytes, am_hd ah_St_getBytes, 4) := rfl
theorem ap_St_initA : am_P0 m_St_initA = some (am_code at_St_initA, am_hd ah_St_initA, 5) := rfl
theorem ap_St_coder : am_P0 m_St_coder = some (am_code at_St_coder, am_hd ah_St_coder, 1) := rfl
theorem ap_St_isLatin1 : am_P0 m_St_isLatin1 = some (am_code at_St_isLatin1, am_hd ah_St_isLatin1, 1) := rfl
theorem ap_Sb_init : am_P0 m_Sb_init = some (am_code at_Sb_init, am_hd ah_Sb_init, 1) := rfl
theorem ap_Sb_initS : am_P0 m_Sb_initS = some (am_code at_Sb_initS, am_hd ah_Sb_initS, 2) := rfl
theorem ap_Sb_appS : am_P0 m_Sb_appS = some (am_code at_Sb_appS, am_hd ah_Sb_appS, 2) := rfl
theorem ap_Sb_appC : am_P0 m_Sb_appC = some (am_code at_Sb_appC, am_hd ah_Sb_appC, 2) := rfl
theorem ap_Sb_appI : am_P0 m_Sb_appI = some (am_code at_Sb_appI, am_hd ah_Sb_appI, 2) := rfl
theorem ap_Sb_toString : am_P0 m_Sb_toString = some (am_code at_Sb_toString, am_hd ah_Sb_toString, 1) := rfl
theorem ap_Sb_appA : am_P0 m_Sb_appA = some (am_code at_Sb_appA, am_hd ah_Sb_appA, 2) := rfl
theorem ap_Sb_length : am_P0 m_Sb_length = some (am_code at_Sb_length, am_hd ah_Sb_length, 1) := rfl
theorem ap_L1_charAt : am_P0 m_L1_charAt = some (am_code at_L1_charAt, am_hd ah_L1_charAt, 2) := rfl
theorem ap_L1_canEncode : am_P0 m_L1_canEncode = some (am_code at_L1_canEncode, am_hd ah_L1_canEncode, 1) := rfl
theorem ap_JA_fill : am_P0 m_JA_fill = some (am_code at_JA_fill, am_hd ah_JA_fill, 4) := rfl
theorem ap_JA_copyOfB : am_P0 m_JA_copyOfB = some (am_code at_JA_copyOfB, am_hd ah_JA_copyOfB, 3) := rfl
theorem ap_JA_copyOf : am_P0 m_JA_copyOf = some (am_code at_JA_copyOf, am_hd ah_JA_copyOf, 3) := rfl
theorem ap_JA_checkLength : am_P0 m_JA_checkLength = some (am_code at_JA_checkLength, am_hd ah_JA_checkLength, 2) := rfl
theorem ap_JA_copyOfRange : am_P0 m_JA_copyOfRange = some (am_code at_JA_copyOfRange, am_hd ah_JA_copyOfRange, 3) := rfl
theorem ap_JA_copyORB : am_P0 m_JA_copyORB = some (am_code at_JA_copyORB, am_hd ah_JA_copyORB, 5) := rfl
theorem ap_Su_newLength : am_P0 m_Su_newLength = some (am_code at_Su_newLength, am_hd ah_Su_newLength, 4) := rfl
theorem ap_La_init : am_P0 m_La_init = some (am_code at_La_init, am_hd ah_La_init, 1) := rfl
theorem ap_La_cell : am_P0 m_La_cell = some (am_code at_La_cell, am_hd ah_La_cell, 2) := rfl
theorem ap_La_bound : am_P0 m_La_bound = some (am_code at_La_bound, am_hd ah_La_bound, 2) := rfl
theorem ap_La_read : am_P0 m_La_read = some (am_code at_La_read, am_hd ah_La_read, 5) := rfl
theorem ap_La_in : am_P0 m_La_in = some (am_code at_La_in, am_hd ah_La_in, 2) := rfl
theorem ap_La_cut : am_P0 m_La_cut = some (am_code at_La_cut, am_hd ah_La_cut, 5) := rfl
theorem ap_La_cost : am_P0 m_La_cost = some (am_code at_La_cost, am_hd ah_La_cost, 5) := rfl
theorem ap_La_search : am_P0 m_La_search = some (am_code at_La_search, am_hd ah_La_search, 5) := rfl
theorem ap_La_exact : am_P0 m_La_exact = some (am_code at_La_exact, am_hd ah_La_exact, 2) := rfl
theorem ap_La_areIsolating : am_P0 m_La_areIsolating = some (am_code at_La_areIsolating, am_hd ah_La_areIsolating, 9) := rfl
theorem ap_La_areDistances : am_P0 m_La_areDistances = some (am_code at_La_areDistances, am_hd ah_La_areDistances, 6) := rfl
theorem ap_La_law : am_P0 m_La_law = some (am_code at_La_law, am_hd ah_La_law, 14) := rfl
end
section
/-! THE FIXED CELLS: kinds and references of the cells 1 to 94, which the start of the law makes in this order; written by wip/p43/src/gen30.py -/
def sh_kl : List (Nat × Nat) := [(0, 0), (1, 8), (3, 700), (1, 2), (2, 9), (2, 9), (2, 20), (2, 20), (2, 20), (2, 20), (1, 4), (6, 8), (1, 2), (2, 9), (2, 9), (2, 20), (2, 20), (2, 20), (2, 20), (1, 2), (2, 9), (2, 9), (2, 20), (2, 20), (2, 20), (2, 20), (1, 2), (2, 9), (2, 9), (2, 20), (2, 20), (2, 20), (2, 20), (1, 2), (2, 9), (2, 9), (2, 20), (2, 20), (2, 20), (2, 20), (1, 2), (2, 9), (2, 9), (2, 20), (2, 20), (2, 20), (2, 20), (1, 2), (2, 9), (2, 9), (2, 20), (2, 20), (2, 20), (2, 20), (1, 2), (2, 9), (2, 9), (2, 20), (2, 20), (2, 20), (2, 20), (1, 2), (2, 9), (2, 9), (2, 20), (2, 20), (2, 20), (2, 20), (1, 7), (1, 2), (2, 9), (2, 9), (2, 20), (2, 20), (2, 20), (2, 20), (3, 0), (2, 700), (1, 3), (2, 9), (1, 0), (2, 9), (2, 9), (1, 6), (2, 9), (2, 9), (1, 5), (1, 9), (7, 6), (2, 6), (2, 6), (2, 6), (2, 6), (2, 6), (2, 6)]
def sh_rl : List (Nat × Nat × Nat) := [(1, 0, 2), (3, 3, 4), (3, 4, 5), (3, 5, 6), (3, 6, 7), (3, 7, 8), (3, 8, 9), (1, 3, 3), (1, 4, 10), (10, 0, 11), (12, 3, 13), (12, 4, 14), (12, 5, 15), (12, 6, 16), (12, 7, 17), (12, 8, 18), (11, 0, 12), (19, 3, 20), (19, 4, 21), (19, 5, 22), (19, 6, 23), (19, 7, 24), (19, 8, 25), (11, 1, 19), (26, 3, 27), (26, 4, 28), (26, 5, 29), (26, 6, 30), (26, 7, 31), (26, 8, 32), (11, 2, 26), (33, 3, 34), (33, 4, 35), (33, 5, 36), (33, 6, 37), (33, 7, 38), (33, 8, 39), (11, 3, 33), (40, 3, 41), (40, 4, 42), (40, 5, 43), (40, 6, 44), (40, 7, 45), (40, 8, 46), (11, 4, 40), (47, 3, 48), (47, 4, 49), (47, 5, 50), (47, 6, 51), (47, 7, 52), (47, 8, 53), (11, 5, 47), (54, 3, 55), (54, 4, 56), (54, 5, 57), (54, 6, 58), (54, 7, 59), (54, 8, 60), (11, 6, 54), (61, 3, 62), (61, 4, 63), (61, 5, 64), (61, 6, 65), (61, 7, 66), (61, 8, 67), (11, 7, 61), (1, 5, 68), (69, 3, 70), (69, 4, 71), (69, 5, 72), (69, 6, 73), (69, 7, 74), (69, 8, 75), (68, 0, 69), (68, 11, 77), (1, 6, 78), (78, 1, 79), (1, 7, 80), (80, 0, 81), (80, 2, 82), (1, 8, 83), (83, 0, 84), (83, 1, 85), (1, 9, 86), (87, 2, 88), (88, 0, 89), (88, 1, 90), (88, 2, 91), (88, 3, 92), (88, 4, 93), (88, 5, 94)]
def sh_kk (a : Nat) : Nat × Nat := sh_kl.getD a (0, 0)
def sh (h : am_H) : Prop := (∀ a, a < 95 → am_k h a = sh_kk a) ∧ (∀ q ∈ sh_rl, am_r h q.1 q.2.1 = q.2.2) ∧ 95 ≤ am_n h
theorem sk_1 {h : am_H} (hs : sh h) : am_k h 1 = (1, 8) := hs.1 1 (by decide)
theorem sk_2 {h : am_H} (hs : sh h) : am_k h 2 = (3, 700) := hs.1 2 (by decide)
theorem sk_3 {h : am_H} (hs : sh h) : am_k h 3 = (1, 2) := hs.1 3 (by decide)
theorem sk_4 {h : am_H} (hs : sh h) : am_k h 4 = (2, 9) := hs.1 4 (by decide)
theorem sk_5 {h : am_H} (hs : sh h) : am_k h 5 = (2, 9) := hs.1 5 (by decide)
theorem sk_6 {h : am_H} (hs : sh h) : am_k h 6 = (2, 20) := hs.1 6 (by decide)
theorem sk_7 {h : am_H} (hs : sh h) : am_k h 7 = (2, 20) := hs.1 7 (by decide)
theorem sk_8 {h : am_H} (hs : sh h) : am_k h 8 = (2, 20) := hs.1 8 (by decide)
theorem sk_9 {h : am_H} (hs : sh h) : am_k h 9 = (2, 20) := hs.1 9 (by decide)
theorem sk_10 {h : am_H} (hs : sh h) : am_k h 10 = (1, 4) := hs.1 10 (by decide)
theorem sk_11 {h : am_H} (hs : sh h) : am_k h 11 = (6, 8) := hs.1 11 (by decide)
theorem sk_12 {h : am_H} (hs : sh h) : am_k h 12 = (1, 2) := hs.1 12 (by decide)
theorem sk_13 {h : am_H} (hs : sh h) : am_k h 13 = (2, 9) := hs.1 13 (by decide)
theorem sk_14 {h : am_H} (hs : sh h) : am_k h 14 = (2, 9) := hs.1 14 (by decide)
theorem sk_15 {h : am_H} (hs : sh h) : am_k h 15 = (2, 20) := hs.1 15 (by decide)
theorem sk_16 {h : am_H} (hs : sh h) : am_k h 16 = (2, 20) := hs.1 16 (by decide)
theorem sk_17 {h : am_H} (hs : sh h) : am_k h 17 = (2, 20) := hs.1 17 (by decide)
theorem sk_18 {h : am_H} (hs : sh h) : am_k h 18 = (2, 20) := hs.1 18 (by decide)
theorem sk_19 {h : am_H} (hs : sh h) : am_k h 19 = (1, 2) := hs.1 19 (by decide)
theorem sk_20 {h : am_H} (hs : sh h) : am_k h 20 = (2, 9) := hs.1 20 (by decide)
theorem sk_21 {h : am_H} (hs : sh h) : am_k h 21 = (2, 9) := hs.1 21 (by decide)
theorem sk_22 {h : am_H} (hs : sh h) : am_k h 22 = (2, 20) := hs.1 22 (by decide)
theorem sk_23 {h : am_H} (hs : sh h) : am_k h 23 = (2, 20) := hs.1 23 (by decide)
theorem sk_24 {h : am_H} (hs : sh h) : am_k h 24 = (2, 20) := hs.1 24 (by decide)
theorem sk_25 {h : am_H} (hs : sh h) : am_k h 25 = (2, 20) := hs.1 25 (by decide)
theorem sk_26 {h : am_H} (hs : sh h) : am_k h 26 = (1, 2) := hs.1 26 (by decide)
theorem sk_27 {h : am_H} (hs : sh h) : am_k h 27 = (2, 9) := hs.1 27 (by decide)
theorem sk_28 {h : am_H} (hs : sh h) : am_k h 28 = (2, 9) := hs.1 28 (by decide)
theorem sk_29 {h : am_H} (hs : sh h) : am_k h 29 = (2, 20) := hs.1 29 (by decide)
theorem sk_30 {h : am_H} (hs : sh h) : am_k h 30 = (2, 20) := hs.1 30 (by decide)
theorem sk_31 {h : am_H} (hs : sh h) : am_k h 31 = (2, 20) := hs.1 31 (by decide)
theorem sk_32 {h : am_H} (hs : sh h) : am_k h 32 = (2, 20) := hs.1 32 (by decide)
theorem sk_33 {h : am_H} (hs : sh h) : am_k h 33 = (1, 2) := hs.1 33 (by decide)
theorem sk_34 {h : am_H} (hs : sh h) : am_k h 34 = (2, 9) := hs.1 34 (by decide)
theorem sk_35 {h : am_H} (hs : sh h) : am_k h 35 = (2, 9) := hs.1 35 (by decide)
theorem sk_36 {h : am_H} (hs : sh h) : am_k h 36 = (2, 20) := hs.1 36 (by decide)
theorem sk_37 {h : am_H} (hs : sh h) : am_k h 37 = (2, 20) := hs.1 37 (by decide)
theorem sk_38 {h : am_H} (hs : sh h) : am_k h 38 = (2, 20) := hs.1 38 (by decide)
theorem sk_39 {h : am_H} (hs : sh h) : am_k h 39 = (2, 20) := hs.1 39 (by decide)
theorem sk_40 {h : am_H} (hs : sh h) : am_k h 40 = (1, 2) := hs.1 40 (by decide)
theorem sk_41 {h : am_H} (hs : sh h) : am_k h 41 = (2, 9) := hs.1 41 (by decide)
theorem sk_42 {h : am_H} (hs : sh h) : am_k h 42 = (2, 9) := hs.1 42 (by decide)
theorem sk_43 {h : am_H} (hs : sh h) : am_k h 43 = (2, 20) := hs.1 43 (by decide)
theorem sk_44 {h : am_H} (hs : sh h) : am_k h 44 = (2, 20) := hs.1 44 (by decide)
theorem sk_45 {h : am_H} (hs : sh h) : am_k h 45 = (2, 20) := hs.1 45 (by decide)
theorem sk_46 {h : am_H} (hs : sh h) : am_k h 46 = (2, 20) := hs.1 46 (by decide)
theorem sk_47 {h : am_H} (hs : sh h) : am_k h 47 = (1, 2) := hs.1 47 (by decide)
theorem sk_48 {h : am_H} (hs : sh h) : am_k h 48 = (2, 9) := hs.1 48 (by decide)
theorem sk_49 {h : am_H} (hs : sh h) : am_k h 49 = (2, 9) := hs.1 49 (by decide)
theorem sk_50 {h : am_H} (hs : sh h) : am_k h 50 = (2, 20) := hs.1 50 (by decide)
theorem sk_51 {h : am_H} (hs : sh h) : am_k h 51 = (2, 20) := hs.1 51 (by decide)
theorem sk_52 {h : am_H} (hs : sh h) : am_k h 52 = (2, 20) := hs.1 52 (by decide)
theorem sk_53 {h : am_H} (hs : sh h) : am_k h 53 = (2, 20) := hs.1 53 (by decide)
theorem sk_54 {h : am_H} (hs : sh h) : am_k h 54 = (1, 2) := hs.1 54 (by decide)
theorem sk_55 {h : am_H} (hs : sh h) : am_k h 55 = (2, 9) := hs.1 55 (by decide)
theorem sk_56 {h : am_H} (hs : sh h) : am_k h 56 = (2, 9) := hs.1 56 (by decide)
theorem sk_57 {h : am_H} (hs : sh h) : am_k h 57 = (2, 20) := hs.1 57 (by decide)
theorem sk_58 {h : am_H} (hs : sh h) : am_k h 58 = (2, 20) := hs.1 58 (by decide)
theorem sk_59 {h : am_H} (hs : sh h) : am_k h 59 = (2, 20) := hs.1 59 (by decide)
theorem sk_60 {h : am_H} (hs : sh h) : am_k h 60 = (2, 20) := hs.1 60 (by decide)
theorem sk_61 {h : am_H} (hs : sh h) : am_k h 61 = (1, 2) := hs.1 61 (by decide)
theorem sk_62 {h : am_H} (hs : sh h) : am_k h 62 = (2, 9) := hs.1 62 (by decide)
theorem sk_63 {h : am_H} (hs : sh h) : am_k h 63 = (2, 9) := hs.1 63 (by decide)
theorem sk_64 {h : am_H} (hs : sh h) : am_k h 64 = (2, 20) := hs.1 64 (by decide)
theorem sk_65 {h : am_H} (hs : sh h) : am_k h 65 = (2, 20) := hs.1 65 (by decide)
theorem sk_66 {h : am_H} (hs : sh h) : am_k h 66 = (2, 20) := hs.1 66 (by decide)
theorem sk_67 {h : am_H} (hs : sh h) : am_k h 67 = (2, 20) := hs.1 67 (by decide)
theorem sk_68 {h : am_H} (hs : sh h) : am_k h 68 = (1, 7) := hs.1 68 (by decide)
theorem sk_69 {h : am_H} (hs : sh h) : am_k h 69 = (1, 2) := hs.1 69 (by decide)
theorem sk_70 {h : am_H} (hs : sh h) : am_k h 70 = (2, 9) := hs.1 70 (by decide)
theorem sk_71 {h : am_H} (hs : sh h) : am_k h 71 = (2, 9) := hs.1 71 (by decide)
theorem sk_72 {h : am_H} (hs : sh h) : am_k h 72 = (2, 20) := hs.1 72 (by decide)
theorem sk_73 {h : am_H} (hs : sh h) : am_k h 73 = (2, 20) := hs.1 73 (by decide)
theorem sk_74 {h : am_H} (hs : sh h) : am_k h 74 = (2, 20) := hs.1 74 (by decide)
theorem sk_75 {h : am_H} (hs : sh h) : am_k h 75 = (2, 20) := hs.1 75 (by decide)
theorem sk_76 {h : am_H} (hs : sh h) : am_k h 76 = (3, 0) := hs.1 76 (by decide)
theorem sk_77 {h : am_H} (hs : sh h) : am_k h 77 = (2, 700) := hs.1 77 (by decide)
theorem sk_78 {h : am_H} (hs : sh h) : am_k h 78 = (1, 3) := hs.1 78 (by decide)
theorem sk_79 {h : am_H} (hs : sh h) : am_k h 79 = (2, 9) := hs.1 79 (by decide)
theorem sk_80 {h : am_H} (hs : sh h) : am_k h 80 = (1, 0) := hs.1 80 (by decide)
theorem sk_81 {h : am_H} (hs : sh h) : am_k h 81 = (2, 9) := hs.1 81 (by decide)
theorem sk_82 {h : am_H} (hs : sh h) : am_k h 82 = (2, 9) := hs.1 82 (by decide)
theorem sk_83 {h : am_H} (hs : sh h) : am_k h 83 = (1, 6) := hs.1 83 (by decide)
theorem sk_84 {h : am_H} (hs : sh h) : am_k h 84 = (2, 9) := hs.1 84 (by decide)
theorem sk_85 {h : am_H} (hs : sh h) : am_k h 85 = (2, 9) := hs.1 85 (by decide)
theorem sk_86 {h : am_H} (hs : sh h) : am_k h 86 = (1, 5) := hs.1 86 (by decide)
theorem sk_87 {h : am_H} (hs : sh h) : am_k h 87 = (1, 9) := hs.1 87 (by decide)
theorem sk_88 {h : am_H} (hs : sh h) : am_k h 88 = (7, 6) := hs.1 88 (by decide)
theorem sk_89 {h : am_H} (hs : sh h) : am_k h 89 = (2, 6) := hs.1 89 (by decide)
theorem sk_90 {h : am_H} (hs : sh h) : am_k h 90 = (2, 6) := hs.1 90 (by decide)
theorem sk_91 {h : am_H} (hs : sh h) : am_k h 91 = (2, 6) := hs.1 91 (by decide)
theorem sk_92 {h : am_H} (hs : sh h) : am_k h 92 = (2, 6) := hs.1 92 (by decide)
theorem sk_93 {h : am_H} (hs : sh h) : am_k h 93 = (2, 6) := hs.1 93 (by decide)
theorem sk_94 {h : am_H} (hs : sh h) : am_k h 94 = (2, 6) := hs.1 94 (by decide)
theorem sr_1_0 {h : am_H} (hs : sh h) : am_r h 1 0 = 2 := hs.2.1 (1, 0, 2) (by decide)
theorem sr_3_3 {h : am_H} (hs : sh h) : am_r h 3 3 = 4 := hs.2.1 (3, 3, 4) (by decide)
theorem sr_3_4 {h : am_H} (hs : sh h) : am_r h 3 4 = 5 := hs.2.1 (3, 4, 5) (by decide)
theorem sr_3_5 {h : am_H} (hs : sh h) : am_r h 3 5 = 6 := hs.2.1 (3, 5, 6) (by decide)
theorem sr_3_6 {h : am_H} (hs : sh h) : am_r h 3 6 = 7 := hs.2.1 (3, 6, 7) (by decide)
theorem sr_3_7 {h : am_H} (hs : sh h) : am_r h 3 7 = 8 := hs.2.1 (3, 7, 8) (by decide)
theorem sr_3_8 {h : am_H} (hs : sh h) : am_r h 3 8 = 9 := hs.2.1 (3, 8, 9) (by decide)
theorem sr_1_3 {h : am_H} (hs : sh h) : am_r h 1 3 = 3 := hs.2.1 (1, 3, 3) (by decide)
theorem sr_1_4 {h : am_H} (hs : sh h) : am_r h 1 4 = 10 := hs.2.1 (1, 4, 10) (by decide)
theorem sr_10_0 {h : am_H} (hs : sh h) : am_r h 10 0 = 11 := hs.2.1 (10, 0, 11) (by decide)
theorem sr_12_3 {h : am_H} (hs : sh h) : am_r h 12 3 = 13 := hs.2.1 (12, 3, 13) (by decide)
theorem sr_12_4 {h : am_H} (hs : sh h) : am_r h 12 4 = 14 := hs.2.1 (12, 4, 14) (by decide)
theorem sr_12_5 {h : am_H} (hs : sh h) : am_r h 12 5 = 15 := hs.2.1 (12, 5, 15) (by decide)
theorem sr_12_6 {h : am_H} (hs : sh h) : am_r h 12 6 = 16 := hs.2.1 (12, 6, 16) (by decide)
theorem sr_12_7 {h : am_H} (hs : sh h) : am_r h 12 7 = 17 := hs.2.1 (12, 7, 17) (by decide)
theorem sr_12_8 {h : am_H} (hs : sh h) : am_r h 12 8 = 18 := hs.2.1 (12, 8, 18) (by decide)
theorem sr_11_0 {h : am_H} (hs : sh h) : am_r h 11 0 = 12 := hs.2.1 (11, 0, 12) (by decide)
theorem sr_19_3 {h : am_H} (hs : sh h) : am_r h 19 3 = 20 := hs.2.1 (19, 3, 20) (by decide)
theorem sr_19_4 {h : am_H} (hs : sh h) : am_r h 19 4 = 21 := hs.2.1 (19, 4, 21) (by decide)
theorem sr_19_5 {h : am_H} (hs : sh h) : am_r h 19 5 = 22 := hs.2.1 (19, 5, 22) (by decide)
theorem sr_19_6 {h : am_H} (hs : sh h) : am_r h 19 6 = 23 := hs.2.1 (19, 6, 23) (by decide)
theorem sr_19_7 {h : am_H} (hs : sh h) : am_r h 19 7 = 24 := hs.2.1 (19, 7, 24) (by decide)
theorem sr_19_8 {h : am_H} (hs : sh h) : am_r h 19 8 = 25 := hs.2.1 (19, 8, 25) (by decide)
theorem sr_11_1 {h : am_H} (hs : sh h) : am_r h 11 1 = 19 := hs.2.1 (11, 1, 19) (by decide)
theorem sr_26_3 {h : am_H} (hs : sh h) : am_r h 26 3 = 27 := hs.2.1 (26, 3, 27) (by decide)
theorem sr_26_4 {h : am_H} (hs : sh h) : am_r h 26 4 = 28 := hs.2.1 (26, 4, 28) (by decide)
theorem sr_26_5 {h : am_H} (hs : sh h) : am_r h 26 5 = 29 := hs.2.1 (26, 5, 29) (by decide)
theorem sr_26_6 {h : am_H} (hs : sh h) : am_r h 26 6 = 30 := hs.2.1 (26, 6, 30) (by decide)
theorem sr_26_7 {h : am_H} (hs : sh h) : am_r h 26 7 = 31 := hs.2.1 (26, 7, 31) (by decide)
theorem sr_26_8 {h : am_H} (hs : sh h) : am_r h 26 8 = 32 := hs.2.1 (26, 8, 32) (by decide)
theorem sr_11_2 {h : am_H} (hs : sh h) : am_r h 11 2 = 26 := hs.2.1 (11, 2, 26) (by decide)
theorem sr_33_3 {h : am_H} (hs : sh h) : am_r h 33 3 = 34 := hs.2.1 (33, 3, 34) (by decide)
theorem sr_33_4 {h : am_H} (hs : sh h) : am_r h 33 4 = 35 := hs.2.1 (33, 4, 35) (by decide)
theorem sr_33_5 {h : am_H} (hs : sh h) : am_r h 33 5 = 36 := hs.2.1 (33, 5, 36) (by decide)
theorem sr_33_6 {h : am_H} (hs : sh h) : am_r h 33 6 = 37 := hs.2.1 (33, 6, 37) (by decide)
theorem sr_33_7 {h : am_H} (hs : sh h) : am_r h 33 7 = 38 := hs.2.1 (33, 7, 38) (by decide)
theorem sr_33_8 {h : am_H} (hs : sh h) : am_r h 33 8 = 39 := hs.2.1 (33, 8, 39) (by decide)
theorem sr_11_3 {h : am_H} (hs : sh h) : am_r h 11 3 = 33 := hs.2.1 (11, 3, 33) (by decide)
theorem sr_40_3 {h : am_H} (hs : sh h) : am_r h 40 3 = 41 := hs.2.1 (40, 3, 41) (by decide)
theorem sr_40_4 {h : am_H} (hs : sh h) : am_r h 40 4 = 42 := hs.2.1 (40, 4, 42) (by decide)
theorem sr_40_5 {h : am_H} (hs : sh h) : am_r h 40 5 = 43 := hs.2.1 (40, 5, 43) (by decide)
theorem sr_40_6 {h : am_H} (hs : sh h) : am_r h 40 6 = 44 := hs.2.1 (40, 6, 44) (by decide)
theorem sr_40_7 {h : am_H} (hs : sh h) : am_r h 40 7 = 45 := hs.2.1 (40, 7, 45) (by decide)
theorem sr_40_8 {h : am_H} (hs : sh h) : am_r h 40 8 = 46 := hs.2.1 (40, 8, 46) (by decide)
theorem sr_11_4 {h : am_H} (hs : sh h) : am_r h 11 4 = 40 := hs.2.1 (11, 4, 40) (by decide)
theorem sr_47_3 {h : am_H} (hs : sh h) : am_r h 47 3 = 48 := hs.2.1 (47, 3, 48) (by decide)
theorem sr_47_4 {h : am_H} (hs : sh h) : am_r h 47 4 = 49 := hs.2.1 (47, 4, 49) (by decide)
theorem sr_47_5 {h : am_H} (hs : sh h) : am_r h 47 5 = 50 := hs.2.1 (47, 5, 50) (by decide)
theorem sr_47_6 {h : am_H} (hs : sh h) : am_r h 47 6 = 51 := hs.2.1 (47, 6, 51) (by decide)
theorem sr_47_7 {h : am_H} (hs : sh h) : am_r h 47 7 = 52 := hs.2.1 (47, 7, 52) (by decide)
theorem sr_47_8 {h : am_H} (hs : sh h) : am_r h 47 8 = 53 := hs.2.1 (47, 8, 53) (by decide)
theorem sr_11_5 {h : am_H} (hs : sh h) : am_r h 11 5 = 47 := hs.2.1 (11, 5, 47) (by decide)
theorem sr_54_3 {h : am_H} (hs : sh h) : am_r h 54 3 = 55 := hs.2.1 (54, 3, 55) (by decide)
theorem sr_54_4 {h : am_H} (hs : sh h) : am_r h 54 4 = 56 := hs.2.1 (54, 4, 56) (by decide)
theorem sr_54_5 {h : am_H} (hs : sh h) : am_r h 54 5 = 57 := hs.2.1 (54, 5, 57) (by decide)
theorem sr_54_6 {h : am_H} (hs : sh h) : am_r h 54 6 = 58 := hs.2.1 (54, 6, 58) (by decide)
theorem sr_54_7 {h : am_H} (hs : sh h) : am_r h 54 7 = 59 := hs.2.1 (54, 7, 59) (by decide)
theorem sr_54_8 {h : am_H} (hs : sh h) : am_r h 54 8 = 60 := hs.2.1 (54, 8, 60) (by decide)
theorem sr_11_6 {h : am_H} (hs : sh h) : am_r h 11 6 = 54 := hs.2.1 (11, 6, 54) (by decide)
theorem sr_61_3 {h : am_H} (hs : sh h) : am_r h 61 3 = 62 := hs.2.1 (61, 3, 62) (by decide)
theorem sr_61_4 {h : am_H} (hs : sh h) : am_r h 61 4 = 63 := hs.2.1 (61, 4, 63) (by decide)
theorem sr_61_5 {h : am_H} (hs : sh h) : am_r h 61 5 = 64 := hs.2.1 (61, 5, 64) (by decide)
theorem sr_61_6 {h : am_H} (hs : sh h) : am_r h 61 6 = 65 := hs.2.1 (61, 6, 65) (by decide)
theorem sr_61_7 {h : am_H} (hs : sh h) : am_r h 61 7 = 66 := hs.2.1 (61, 7, 66) (by decide)
theorem sr_61_8 {h : am_H} (hs : sh h) : am_r h 61 8 = 67 := hs.2.1 (61, 8, 67) (by decide)
theorem sr_11_7 {h : am_H} (hs : sh h) : am_r h 11 7 = 61 := hs.2.1 (11, 7, 61) (by decide)
theorem sr_1_5 {h : am_H} (hs : sh h) : am_r h 1 5 = 68 := hs.2.1 (1, 5, 68) (by decide)
theorem sr_69_3 {h : am_H} (hs : sh h) : am_r h 69 3 = 70 := hs.2.1 (69, 3, 70) (by decide)
theorem sr_69_4 {h : am_H} (hs : sh h) : am_r h 69 4 = 71 := hs.2.1 (69, 4, 71) (by decide)
theorem sr_69_5 {h : am_H} (hs : sh h) : am_r h 69 5 = 72 := hs.2.1 (69, 5, 72) (by decide)
theorem sr_69_6 {h : am_H} (hs : sh h) : am_r h 69 6 = 73 := hs.2.1 (69, 6, 73) (by decide)
theorem sr_69_7 {h : am_H} (hs : sh h) : am_r h 69 7 = 74 := hs.2.1 (69, 7, 74) (by decide)
theorem sr_69_8 {h : am_H} (hs : sh h) : am_r h 69 8 = 75 := hs.2.1 (69, 8, 75) (by decide)
theorem sr_68_0 {h : am_H} (hs : sh h) : am_r h 68 0 = 69 := hs.2.1 (68, 0, 69) (by decide)
theorem sr_68_11 {h : am_H} (hs : sh h) : am_r h 68 11 = 77 := hs.2.1 (68, 11, 77) (by decide)
theorem sr_1_6 {h : am_H} (hs : sh h) : am_r h 1 6 = 78 := hs.2.1 (1, 6, 78) (by decide)
theorem sr_78_1 {h : am_H} (hs : sh h) : am_r h 78 1 = 79 := hs.2.1 (78, 1, 79) (by decide)
theorem sr_1_7 {h : am_H} (hs : sh h) : am_r h 1 7 = 80 := hs.2.1 (1, 7, 80) (by decide)
theorem sr_80_0 {h : am_H} (hs : sh h) : am_r h 80 0 = 81 := hs.2.1 (80, 0, 81) (by decide)
theorem sr_80_2 {h : am_H} (hs : sh h) : am_r h 80 2 = 82 := hs.2.1 (80, 2, 82) (by decide)
theorem sr_1_8 {h : am_H} (hs : sh h) : am_r h 1 8 = 83 := hs.2.1 (1, 8, 83) (by decide)
theorem sr_83_0 {h : am_H} (hs : sh h) : am_r h 83 0 = 84 := hs.2.1 (83, 0, 84) (by decide)
theorem sr_83_1 {h : am_H} (hs : sh h) : am_r h 83 1 = 85 := hs.2.1 (83, 1, 85) (by decide)
theorem sr_1_9 {h : am_H} (hs : sh h) : am_r h 1 9 = 86 := hs.2.1 (1, 9, 86) (by decide)
theorem sr_87_2 {h : am_H} (hs : sh h) : am_r h 87 2 = 88 := hs.2.1 (87, 2, 88) (by decide)
theorem sr_88_0 {h : am_H} (hs : sh h) : am_r h 88 0 = 89 := hs.2.1 (88, 0, 89) (by decide)
theorem sr_88_1 {h : am_H} (hs : sh h) : am_r h 88 1 = 90 := hs.2.1 (88, 1, 90) (by decide)
theorem sr_88_2 {h : am_H} (hs : sh h) : am_r h 88 2 = 91 := hs.2.1 (88, 2, 91) (by decide)
theorem sr_88_3 {h : am_H} (hs : sh h) : am_r h 88 3 = 92 := hs.2.1 (88, 3, 92) (by decide)
theorem sr_88_4 {h : am_H} (hs : sh h) : am_r h 88 4 = 93 := hs.2.1 (88, 4, 93) (by decide)
theorem sr_88_5 {h : am_H} (hs : sh h) : am_r h 88 5 = 94 := hs.2.1 (88, 5, 94) (by decide)
/-- a graph's cells: the object at a, its rows behind it -/
def gs (h : am_H) (a : Nat) : Prop := am_k h a = (1, 2) ∧ (am_k h (a + 1) = (2, 9) ∧ am_k h (a + 2) = (2, 9) ∧ am_k h (a + 3) = (2, 20) ∧ am_k h (a + 4) = (2, 20) ∧ am_k h (a + 5) = (2, 20) ∧ am_k h (a + 6) = (2, 20)) ∧ am_r h a 3 = a + 1 ∧ am_r h a 4 = a + 2 ∧ am_r h a 5 = a + 3 ∧ am_r h a 6 = a + 4 ∧ am_r h a 7 = a + 5 ∧ am_r h a 8 = a + 6
theorem gs_3 {h : am_H} (hs : sh h) : gs h 3 := ⟨sk_3 hs, ⟨sk_4 hs, sk_5 hs, sk_6 hs, sk_7 hs, sk_8 hs, sk_9 hs⟩, sr_3_3 hs, sr_3_4 hs, sr_3_5 hs, sr_3_6 hs, sr_3_7 hs, sr_3_8 hs⟩
theorem gs_12 {h : am_H} (hs : sh h) : gs h 12 := ⟨sk_12 hs, ⟨sk_13 hs, sk_14 hs, sk_15 hs, sk_16 hs, sk_17 hs, sk_18 hs⟩, sr_12_3 hs, sr_12_4 hs, sr_12_5 hs, sr_12_6 hs, sr_12_7 hs, sr_12_8 hs⟩
theorem gs_19 {h : am_H} (hs : sh h) : gs h 19 := ⟨sk_19 hs, ⟨sk_20 hs, sk_21 hs, sk_22 hs, sk_23 hs, sk_24 hs, sk_25 hs⟩, sr_19_3 hs, sr_19_4 hs, sr_19_5 hs, sr_19_6 hs, sr_19_7 hs, sr_19_8 hs⟩
theorem gs_26 {h : am_H} (hs : sh h) : gs h 26 := ⟨sk_26 hs, ⟨sk_27 hs, sk_28 hs, sk_29 hs, sk_30 hs, sk_31 hs, sk_32 hs⟩, sr_26_3 hs, sr_26_4 hs, sr_26_5 hs, sr_26_6 hs, sr_26_7 hs, sr_26_8 hs⟩
theorem gs_33 {h : am_H} (hs : sh h) : gs h 33 := ⟨sk_33 hs, ⟨sk_34 hs, sk_35 hs, sk_36 hs, sk_37 hs, sk_38 hs, sk_39 hs⟩, sr_33_3 hs, sr_33_4 hs, sr_33_5 hs, sr_33_6 hs, sr_33_7 hs, sr_33_8 hs⟩
theorem gs_40 {h : am_H} (hs : sh h) : gs h 40 := ⟨sk_40 hs, ⟨sk_41 hs, sk_42 hs, sk_43 hs, sk_44 hs, sk_45 hs, sk_46 hs⟩, sr_40_3 hs, sr_40_4 hs, sr_40_5 hs, sr_40_6 hs, sr_40_7 hs, sr_40_8 hs⟩
theorem gs_47 {h : am_H} (hs : sh h) : gs h 47 := ⟨sk_47 hs, ⟨sk_48 hs, sk_49 hs, sk_50 hs, sk_51 hs, sk_52 hs, sk_53 hs⟩, sr_47_3 hs, sr_47_4 hs, sr_47_5 hs, sr_47_6 hs, sr_47_7 hs, sr_47_8 hs⟩
theorem gs_54 {h : am_H} (hs : sh h) : gs h 54 := ⟨sk_54 hs, ⟨sk_55 hs, sk_56 hs, sk_57 hs, sk_58 hs, sk_59 hs, sk_60 hs⟩, sr_54_3 hs, sr_54_4 hs, sr_54_5 hs, sr_54_6 hs, sr_54_7 hs, sr_54_8 hs⟩
theorem gs_61 {h : am_H} (hs : sh h) : gs h 61 := ⟨sk_61 hs, ⟨sk_62 hs, sk_63 hs, sk_64 hs, sk_65 hs, sk_66 hs, sk_67 hs⟩, sr_61_3 hs, sr_61_4 hs, sr_61_5 hs, sr_61_6 hs, sr_61_7 hs, sr_61_8 hs⟩
theorem gs_69 {h : am_H} (hs : sh h) : gs h 69 := ⟨sk_69 hs, ⟨sk_70 hs, sk_71 hs, sk_72 hs, sk_73 hs, sk_74 hs, sk_75 hs⟩, sr_69_3 hs, sr_69_4 hs, sr_69_5 hs, sr_69_6 hs, sr_69_7 hs, sr_69_8 hs⟩
end
section
/-! STARTING TEXTS: kit/laws/NUMBERS, COUNTS and the first family of BITS, pasted -/
/-! plain facts on numbers and arrays, to paste: each family by itself; over the kit's rows on nI and upd -/
/-! ===== order of ints, in all its forms, and through longs ===== -/
theorem fa_lt (a b : Int32) : a < b ↔ a.toInt < b.toInt := Int32.lt_iff_toInt_lt
theorem fa_le (a b : Int32) : a ≤ b ↔ a.toInt ≤ b.toInt := Int32.le_iff_toInt_le
theorem fa_eq (a b : Int32) : a = b ↔ a.toInt = b.toInt := Int32.toInt_inj.symm
theorem fa_lt64 (a b : Int64) : a < b ↔ a.toInt < b.toInt := Int64.lt_iff_toInt_lt
theorem fa_le64 (a b : Int64) : a ≤ b ↔ a.toInt ≤ b.toInt := Int64.le_iff_toInt_le
theorem fa_eq64 (a b : Int64) : a = b ↔ a.toInt = b.toInt := Int64.toInt_inj.symm
/-- a comparison of two ints taken as longs -/
theorem fa_wide_lt (a b : Int32) : a.toInt64 < b.toInt64 ↔ a < b := by rw [fa_lt64, fa_lt, Int32.toInt_toInt64, Int32.toInt_toInt64]
theorem fa_wide_le (a b : Int32) : a.toInt64 ≤ b.toInt64 ↔ a ≤ b := by rw [fa_le64, fa_le, Int32.toInt_toInt64, Int32.toInt_toInt64]
theorem fa_wide_eq (a b : Int32) : a.toInt64 = b.toInt64 ↔ a = b := by rw [fa_eq64, fa_eq, Int32.toInt_toInt64, Int32.toInt_toInt64]
/-- one strict comparison gives all the others -/
theorem fa_of_lt {a b : Int32} (h : a < b) : a ≤ b ∧ ¬ b ≤ a ∧ ¬ b < a ∧ a ≠ b ∧ b ≠ a := by
  rw [fa_lt] at h
  refine ⟨?_, ?_, ?_, ?_, ?_⟩
  · rw [fa_le]; omega
  · rw [fa_le]; omega
  · rw [fa_lt]; omega
  · intro e; rw [fa_eq] at e; omega
  · intro e; rw [fa_eq] at e; omega
theorem fa_of_nlt {a b : Int32} (h : ¬ a < b) : b ≤ a := by
  rw [fa_lt] at h
  rw [fa_le]
  omega
theorem fa_of_nle {a b : Int32} (h : ¬ a ≤ b) : b < a := by
  rw [fa_le] at h
  rw [fa_lt]
  omega
theorem fa_le_ne {a b : Int32} (h : a ≤ b) (h2 : a ≠ b) : a < b := by
  rw [fa_le] at h
  rw [fa_lt]
  have h3 : a.toInt ≠ b.toInt := fun e => h2 ((fa_eq a b).mpr e)
  omega
theorem fa_three (a b : Int32) : a < b ∨ a = b ∨ b < a := by
  rw [fa_lt, fa_lt, fa_eq]
  omega
theorem fa_trans {a b c : Int32} (h : a < b) (h2 : b ≤ c) : a < c := by
  rw [fa_lt] at *
  rw [fa_le] at h2
  omega
/-! ===== small literals as numbers ===== -/
theorem fa_lit (n : Nat) : (OfNat.ofNat n : Int32) = nI n := rfl
theorem fa_litL (n : Nat) : (OfNat.ofNat n : Int64) = lN n := rfl
/-! ===== bits of a number: 'or', masks, one bit ===== -/
theorem fa_and (a b : Nat) : nI a &&& nI b = nI (a &&& b) := by
  apply Int32.toBitVec_inj.1
  show BitVec.ofNat 32 a &&& BitVec.ofNat 32 b = BitVec.ofNat 32 (a &&& b)
  apply BitVec.eq_of_getLsbD_eq
  intro i hi
  simp [hi]
theorem fa_or (a b : Nat) : nI a ||| nI b = nI (a ||| b) := by
  apply Int32.toBitVec_inj.1
  show BitVec.ofNat 32 a ||| BitVec.ofNat 32 b = BitVec.ofNat 32 (a ||| b)
  apply BitVec.eq_of_getLsbD_eq
  intro i hi
  simp [hi]
/-- a remainder by a power of two, as a mask -/
theorem fa_mask (n k : Nat) : nI n &&& nI (2 ^ k - 1) = nI (n % 2 ^ k) := by rw [fa_and, Nat.and_two_pow_sub_one_eq_mod]
/-- 'or' of a high part and a low one that don't meet is their sum -/
theorem fa_or_sum {a k : Nat} (b : Nat) (h : a < 2 ^ k) : nI (2 ^ k * b) ||| nI a = nI (2 ^ k * b + a) := by rw [fa_or, Nat.two_pow_add_eq_or_of_lt h]
/-- one bit, by 'and' with a power of two -/
theorem fa_bit {n j : Nat} (hj : j < 31) : nI n &&& nI (2 ^ j) = 0 ↔ n.testBit j = false := by
  have h2 : (2 : Nat) ^ j < 2 ^ 31 := Nat.pow_lt_pow_right (by decide) hj
  have hle : n &&& 2 ^ j ≤ 2 ^ j := Nat.and_le_right
  have e : n &&& 2 ^ j = 0 ↔ n.testBit j = false := by
    constructor
    · intro h
      have h1 : (n &&& 2 ^ j).testBit j = false := by rw [h]; simp
      rw [Nat.testBit_and] at h1
      first | simpa using h1 | simpa [Nat.testBit_two_pow_self] using h1 | simpa [Nat.testBit_two_pow] using h1
    · intro h
      apply Nat.eq_of_testBit_eq
      intro i
      rw [Nat.testBit_and]
      by_cases hi : j = i
      · subst hi; simp [h]
      · first | (simp [Nat.testBit_two_pow, hi]; done) | (simp [Nat.testBit_two_pow_of_ne hi]; done)
  rw [fa_and]
  constructor
  · intro h
    apply e.mp
    rcases Nat.eq_zero_or_pos (n &&& 2 ^ j) with z | z
    · exact z
    · exact absurd h (nI_ne0 z (Nat.lt_of_le_of_lt hle h2))
  · intro h
    rw [e.mpr h]; exact nI_0
/-- a remainder by a power of two of a number that isn't negative, as Java divides -/
theorem fa_rem {a k : Nat} (ha : a < 2 ^ 31) (hk : k < 31) : nI a - nI a / nI (2 ^ k) * nI (2 ^ k) = nI (a % 2 ^ k) := pk_rem ha (Nat.two_pow_pos k) (Nat.pow_lt_pow_right (by decide) hk)
/-! ===== cuts to a byte, a short ===== -/
theorem fa_byte_xor (x y : Int32) : (x ^^^ y).toInt8 = x.toInt8 ^^^ y.toInt8 := by
  apply Int8.toBitVec_inj.1
  apply BitVec.eq_of_getLsbD_eq
  intro i hi
  first | (simp [hi]; done) | (simp [hi, BitVec.getLsbD_setWidth, BitVec.getLsbD_signExtend]; done)
theorem fa_short_xor (x y : Int32) : (x ^^^ y).toInt16 = x.toInt16 ^^^ y.toInt16 := by
  apply Int16.toBitVec_inj.1
  apply BitVec.eq_of_getLsbD_eq
  intro i hi
  first | (simp [hi]; done) | (simp [hi, BitVec.getLsbD_setWidth, BitVec.getLsbD_signExtend]; done)
/-- the cut to a byte sees the low byte alone -/
theorem fa_byte_low (x : Int32) : (x &&& 255).toInt8 = x.toInt8 := by
  apply Int8.toBitVec_inj.1
  apply BitVec.eq_of_getLsbD_eq
  intro i hi
  have h2 : (255 : Int32).toBitVec.getLsbD i = true := by
    have : ∀ j : Fin 8, (255 : Int32).toBitVec.getLsbD j.val = true := by decide +kernel
    exact this ⟨i, hi⟩
  have h4 : (x &&& 255).toBitVec.getLsbD i = x.toBitVec.getLsbD i := by
    show (x.toBitVec &&& (255 : Int32).toBitVec).getLsbD i = _
    rw [BitVec.getLsbD_and, h2, Bool.and_true]
  have h3 : i < 32 := by omega
  first
    | (show (((x &&& 255).toBitVec).signExtend 8).getLsbD i = (x.toBitVec.signExtend 8).getLsbD i; rw [BitVec.getLsbD_signExtend, BitVec.getLsbD_signExtend, if_pos h3, if_pos h3, h4])
    | (show (((x &&& 255).toBitVec).setWidth 8).getLsbD i = (x.toBitVec.setWidth 8).getLsbD i; rw [BitVec.getLsbD_setWidth, BitVec.getLsbD_setWidth, h4])
    | (simp [hi, h3, h4]; done)
theorem fa_short_low (x : Int32) : (x &&& 65535).toInt16 = x.toInt16 := by
  apply Int16.toBitVec_inj.1
  apply BitVec.eq_of_getLsbD_eq
  intro i hi
  have h2 : (65535 : Int32).toBitVec.getLsbD i = true := by
    have : ∀ j : Fin 16, (65535 : Int32).toBitVec.getLsbD j.val = true := by decide +kernel
    exact this ⟨i, hi⟩
  have h4 : (x &&& 65535).toBitVec.getLsbD i = x.toBitVec.getLsbD i := by
    show (x.toBitVec &&& (65535 : Int32).toBitVec).getLsbD i = _
    rw [BitVec.getLsbD_and, h2, Bool.and_true]
  have h3 : i < 32 := by omega
  first
    | (show (((x &&& 65535).toBitVec).signExtend 16).getLsbD i = (x.toBitVec.signExtend 16).getLsbD i; rw [BitVec.getLsbD_signExtend, BitVec.getLsbD_signExtend, if_pos h3, if_pos h3, h4])
    | (show (((x &&& 65535).toBitVec).setWidth 16).getLsbD i = (x.toBitVec.setWidth 16).getLsbD i; rw [BitVec.getLsbD_setWidth, BitVec.getLsbD_setWidth, h4])
    | (simp [hi, h3, h4]; done)
/-- a small number is its own byte, its own short -/
theorem fa_byte_small {n : Nat} (h : n < 128) : (nI n).toInt8.toInt32 = nI n := by
  have : ∀ j : Fin 128, (nI j.val).toInt8.toInt32 = nI j.val := by decide +kernel
  exact this ⟨n, h⟩
/-! ===== absolute difference ===== -/
theorem fa_absdiff {a b : Nat} (ha : a < 2 ^ 31) (hb : b < 2 ^ 31) : (if nI a < nI b then nI b - nI a else nI a - nI b) = nI (if a < b then b - a else a - b) := by
  by_cases h : a < b
  · rw [if_pos (nI_lt h hb), if_pos h]
    exact pk_sub (Nat.le_of_lt h)
  · rw [if_neg (nI_nlt (Nat.le_of_not_lt h) ha), if_neg h]
    exact pk_sub (Nat.le_of_not_lt h)
/-! ===== an array behind i stores, a conditional store, a row copied ===== -/
/-- f where k < i, what stood there else -/
def fa_fill {α : Type} (f g : Nat → α) (i : Nat) : Nat → α := fun k => if k < i then f k else g k
theorem fa_fill_0 {α : Type} (f g : Nat → α) : fa_fill f g 0 = g := funext fun k => if_neg (Nat.not_lt_zero k)
theorem fa_fill_in {α : Type} {f g : Nat → α} {i k : Nat} (h : k < i) : fa_fill f g i k = f k := if_pos h
theorem fa_fill_out {α : Type} {f g : Nat → α} {i k : Nat} (h : i ≤ k) : fa_fill f g i k = g k := if_neg (Nat.not_lt.mpr h)
theorem fa_fill_succ (f g : Nat → Int32) (i : Nat) : upd (fa_fill f g i) i (f i) = fa_fill f g (i + 1) := by
  funext k
  by_cases e : k = i
  · subst e
    rw [pk_us]
    exact (if_pos (Nat.lt_succ_self k)).symm
  · rw [pk_un e]
    by_cases h : k < i
    · rw [fa_fill_in h, fa_fill_in (Nat.lt_succ_of_lt h)]
    · rw [fa_fill_out (Nat.le_of_not_lt h), fa_fill_out (by omega)]
/-- a store that changes nothing -/
theorem fa_upd_same {f : Nat → Int32} {i : Nat} {x : Int32} (h : f i = x) : upd f i x = f := by
  funext k
  by_cases e : k = i
  · subst e
    rw [pk_us, h]
  · rw [pk_un e]
/-- a store under a condition, told as one -/
theorem fa_upd_if (c : Prop) [Decidable c] (f : Nat → Int32) (i : Nat) (x : Int32) : (if c then upd f i x else f) = upd f i (if c then x else f i) := by
  by_cases h : c
  · rw [if_pos h, if_pos h]
  · rw [if_neg h, if_neg h, fa_upd_same rfl]
/-- two stores at one place, at two -/
theorem fa_upd_twice (f : Nat → Int32) (i : Nat) (x y : Int32) : upd (upd f i x) i y = upd f i y := by
  funext k
  by_cases e : k = i
  · subst e
    rw [pk_us, pk_us]
  · rw [pk_un e, pk_un e, pk_un e]
theorem fa_upd_swap (f : Nat → Int32) {i j : Nat} (h : i ≠ j) (x y : Int32) : upd (upd f i x) j y = upd (upd f j y) i x := by
  funext k
  by_cases e : k = i
  · subst e
    rw [pk_un h, pk_us, pk_us]
  · by_cases e2 : k = j
    · subst e2
      rw [pk_us, pk_un e, pk_us]
    · rw [pk_un e2, pk_un e, pk_un e, pk_un e2]
/-! ===== the first index with a property; a count ===== -/
/-- the first k < n with p k, n if there is none -/
def fa_first (p : Nat → Bool) : Nat → Nat
  | 0 => 0
  | n + 1 => if fa_first p n < n then fa_first p n else if p n then n else n + 1
theorem fa_first_le (p : Nat → Bool) : ∀ n, fa_first p n ≤ n
  | 0 => Nat.le_refl 0
  | n + 1 => by
    have ih := fa_first_le p n
    unfold fa_first
    split
    · omega
    · split
      · omega
      · omega
theorem fa_first_no (p : Nat → Bool) : ∀ n k, k < fa_first p n → p k = false
  | 0, k, h => absurd h (Nat.not_lt_zero k)
  | n + 1, k, h => by
    have ih := fa_first_no p n
    have hl := fa_first_le p n
    unfold fa_first at h
    split at h
    · exact ih k h
    · rename_i h1
      split at h
      · exact ih k (by omega)
      · rename_i h2
        by_cases e : k = n
        · subst e
          exact Bool.eq_false_iff.mpr h2
        · exact ih k (by omega)
theorem fa_first_yes (p : Nat → Bool) : ∀ n, fa_first p n < n → p (fa_first p n) = true
  | 0, h => absurd h (Nat.not_lt_zero _)
  | n + 1, h => by
    have ih := fa_first_yes p n
    have hl := fa_first_le p n
    unfold fa_first at h ⊢
    split at h
    · rename_i h1
      rw [if_pos h1]
      exact ih h1
    · rename_i h1
      rw [if_neg h1]
      split at h
      · rename_i h2
        rw [if_pos h2]
        exact h2
      · omega
/-- how many k < n have p k -/
def fa_cnt (p : Nat → Bool) : Nat → Nat
  | 0 => 0
  | n + 1 => fa_cnt p n + if p n then 1 else 0
theorem fa_cnt_le (p : Nat → Bool) : ∀ n, fa_cnt p n ≤ n
  | 0 => Nat.le_refl 0
  | n + 1 => by
    have ih := fa_cnt_le p n
    unfold fa_cnt
    split
    · omega
    · omega
theorem fa_cnt_yes {p : Nat → Bool} {n : Nat} (h : p n = true) : fa_cnt p (n + 1) = fa_cnt p n + 1 := by rw [fa_cnt, if_pos h]
theorem fa_cnt_no {p : Nat → Bool} {n : Nat} (h : p n = false) : fa_cnt p (n + 1) = fa_cnt p n := by rw [fa_cnt, if_neg (by rw [h]; decide)]; rfl
theorem fa_cnt_cong {p q : Nat → Bool} : ∀ {n : Nat}, (∀ k, k < n → p k = q k) → fa_cnt p n = fa_cnt q n
  | 0, _ => rfl
  | n + 1, h => by rw [fa_cnt, fa_cnt, fa_cnt_cong (fun k hk => h k (Nat.lt_succ_of_lt hk)), h n (Nat.lt_succ_self n)]
/-! ===== an answer carried into a post; a branch on a boolean answer ===== -/
theorem fa_post {α : Type} {P : α → Prop} {x y : α} (h : x = y) (hp : P y) : P x := h ▸ hp
theorem fa_post2 {α β : Type} {P : α → β → Prop} {x y : α} {u v : β} (h : x = y) (h2 : u = v) (hp : P y v) : P x u := h ▸ h2 ▸ hp
theorem fa_bool {r : Int32} {b : Bool} (h : r = if b then 1 else 0) : (r = 0 ↔ b = false) ∧ (¬ r = 0 ↔ b = true) := by
  subst h
  cases b
  · exact ⟨⟨fun _ => rfl, fun _ => rfl⟩, ⟨fun h => absurd rfl h, fun h => absurd h (by decide)⟩⟩
  · exact ⟨⟨fun h => absurd h (by decide), fun h => absurd h (by decide)⟩, ⟨fun _ => rfl, fun _ => by decide⟩⟩
/-- a boolean's narrowing changes nothing -/
theorem fa_bool_and {r : Int32} (h : r = 0 ∨ r = 1) : r &&& 1 = r := by
  rcases h with rfl | rfl
  · decide
  · decide
theorem fa_bool_prop {c : Prop} [Decidable c] {r : Int32} (h : r = if c then 1 else 0) : (r = 0 ↔ ¬ c) ∧ (¬ r = 0 ↔ c) := by
  subst h
  by_cases hc : c
  · rw [if_pos hc]
    exact ⟨⟨fun h => absurd h (by decide), fun h => absurd hc h⟩, ⟨fun _ => hc, fun _ => by decide⟩⟩
  · rw [if_neg hc]
    exact ⟨⟨fun _ => hc, fun _ => rfl⟩, ⟨fun h => absurd rfl h, fun h => absurd h hc⟩⟩
/-! plain facts to paste, each family by itself; over the kit's nI, lN and upd -/
/-! ===== drawers: more things than places ===== -/
theorem fb_holes : ∀ (m n : Nat) (f : Nat → Nat), (∀ i, i < n → f i < m) → (∀ i j, i < j → j < n → f i ≠ f j) → n ≤ m := by
  intro m
  induction m with
  | zero =>
    intro n f h1 _
    rcases Nat.eq_zero_or_pos n with h | h
    · omega
    · exact absurd (h1 0 h) (Nat.not_lt_zero _)
  | succ m ih =>
    intro n f h1 h2
    by_cases hx : ∃ i, i < n ∧ f i = m
    · obtain ⟨a, ha, hfa⟩ := hx
      have hg := ih (n - 1) (fun i => if i < a then f i else f (i + 1)) (by
        intro i hi
        by_cases q : i < a
        · simp only [if_pos q]
          have b1 := h1 i (by omega)
          have b2 := h2 i a q ha
          omega
        · simp only [if_neg q]
          have b1 := h1 (i + 1) (by omega)
          have b2 := h2 a (i + 1) (by omega) (by omega)
          omega) (by
        intro i j hij hj
        by_cases q : i < a
        · by_cases r : j < a
          · simp only [if_pos q, if_pos r]
            exact h2 i j hij (by omega)
          · simp only [if_pos q, if_neg r]
            exact h2 i (j + 1) (by omega) (by omega)
        · have r : ¬ j < a := by omega
          simp only [if_neg q, if_neg r]
          exact h2 (i + 1) (j + 1) (by omega) (by omega))
      omega
    · have hg := ih n f (fun i hi => by
        have b1 := h1 i hi
        have b2 : f i ≠ m := fun e => hx ⟨i, hi, e⟩
        omega) h2
      omega
/-- two of them in one place -/
theorem fb_twice {m n : Nat} {f : Nat → Nat} (h : ∀ i, i < n → f i < m) (hm : m < n) : ∃ i j, i < j ∧ j < n ∧ f i = f j := by
  refine Classical.byContradiction fun hx => ?_
  have := fb_holes m n f h (fun i j hij hj e => hx ⟨i, j, hij, hj, e⟩)
  omega
/-- as many as places, none twice: each place is taken -/
theorem fb_onto {n : Nat} {f : Nat → Nat} (h : ∀ i, i < n → f i < n) (h2 : ∀ i j, i < j → j < n → f i ≠ f j) {y : Nat} (hy : y < n) : ∃ i, i < n ∧ f i = y := by
  refine Classical.byContradiction fun hx => ?_
  have hne : ∀ i, i < n → f i ≠ y := fun i hi e => hx ⟨i, hi, e⟩
  have := fb_holes (n - 1) n (fun i => if f i < y then f i else f i - 1) (by
    intro i hi
    have b1 := h i hi
    have b2 := hne i hi
    by_cases q : f i < y
    · simp only [if_pos q]; omega
    · simp only [if_neg q]; omega) (by
    intro i j hij hj
    have b1 := hne i (by omega)
    have b2 := hne j hj
    have b3 := h2 i j hij hj
    by_cases q : f i < y
    · by_cases r : f j < y
      · simp only [if_pos q, if_pos r]; exact b3
      · simp only [if_pos q, if_neg r]; omega
    · by_cases r : f j < y
      · simp only [if_neg q, if_pos r]; omega
      · simp only [if_neg q, if_neg r]; omega)
  omega
/-! ===== how many places have a property ===== -/
def fb_ct (p : Nat → Bool) : Nat → Nat
  | 0 => 0
  | n + 1 => fb_ct p n + (if p n then 1 else 0)
theorem fb_ct_succ (p : Nat → Bool) (n : Nat) : fb_ct p (n + 1) = fb_ct p n + (if p n then 1 else 0) := rfl
theorem fb_ct_le (p : Nat → Bool) : ∀ n, fb_ct p n ≤ n
  | 0 => Nat.le_refl _
  | n + 1 => by
    have h := fb_ct_le p n
    rw [fb_ct_succ]
    split <;> omega
theorem fb_ct_step (p : Nat → Bool) (m : Nat) : ∀ n, fb_ct p m ≤ fb_ct p (m + n)
  | 0 => Nat.le_refl _
  | n + 1 => by
    have h := fb_ct_step p m n
    show fb_ct p m ≤ fb_ct p (m + n + 1)
    rw [fb_ct_succ]
    omega
theorem fb_ct_mono (p : Nat → Bool) {m n : Nat} (h : m ≤ n) : fb_ct p m ≤ fb_ct p n := by
  have := fb_ct_step p m (n - m)
  rwa [Nat.add_sub_cancel' h] at this
theorem fb_ct_cong {p q : Nat → Bool} : ∀ {n : Nat}, (∀ k, k < n → p k = q k) → fb_ct p n = fb_ct q n
  | 0, _ => rfl
  | n + 1, h => by
    rw [fb_ct_succ, fb_ct_succ, fb_ct_cong (fun k hk => h k (by omega)), h n (by omega)]
/-- one place changed -/
theorem fb_ct_out (p : Nat → Bool) (b : Bool) {i n : Nat} (h : n ≤ i) : fb_ct (fun k => if k = i then b else p k) n = fb_ct p n :=
  fb_ct_cong fun k hk => if_neg (by omega)
theorem fb_ct_upd (p : Nat → Bool) (b : Bool) {i : Nat} : ∀ {n : Nat}, i < n → fb_ct (fun k => if k = i then b else p k) n + (if p i then 1 else 0) = fb_ct p n + (if b then 1 else 0)
  | 0, h => absurd h (Nat.not_lt_zero i)
  | n + 1, h => by
    rw [fb_ct_succ, fb_ct_succ]
    rcases Nat.lt_or_ge i n with q | q
    · have := fb_ct_upd p b q
      have e : (if n = i then b else p n) = p n := if_neg (by omega)
      rw [e]
      omega
    · have e : i = n := by omega
      subst e
      rw [fb_ct_out p b (Nat.le_refl _)]
      simp only [if_true]
      omega
theorem fb_ct_sub {p q : Nat → Bool} : ∀ {n : Nat}, (∀ k, k < n → p k = true → q k = true) → fb_ct p n ≤ fb_ct q n
  | 0, _ => Nat.le_refl _
  | n + 1, h => by
    have h1 := fb_ct_sub (n := n) (p := p) (q := q) (fun k hk => h k (by omega))
    have h2 := h n (by omega)
    rw [fb_ct_succ, fb_ct_succ]
    cases hp : p n <;> cases hq : q n <;> simp_all <;> omega
theorem fb_ct_or {p q : Nat → Bool} : ∀ {n : Nat}, (∀ k, k < n → ¬ (p k = true ∧ q k = true)) → fb_ct (fun k => p k || q k) n = fb_ct p n + fb_ct q n
  | 0, _ => rfl
  | n + 1, h => by
    have h1 := fb_ct_or (n := n) (p := p) (q := q) (fun k hk => h k (by omega))
    have h2 := h n (by omega)
    rw [fb_ct_succ, fb_ct_succ, fb_ct_succ, h1]
    cases hp : p n <;> cases hq : q n <;> simp_all <;> omega
theorem fb_ct_not (p : Nat → Bool) : ∀ n, fb_ct p n + fb_ct (fun k => !p k) n = n
  | 0 => rfl
  | n + 1 => by
    have h := fb_ct_not p n
    rw [fb_ct_succ, fb_ct_succ]
    cases p n <;> simp <;> omega
theorem fb_ct_split (p : Nat → Bool) (m : Nat) : ∀ n, fb_ct p (m + n) = fb_ct p m + fb_ct (fun k => p (m + k)) n
  | 0 => rfl
  | n + 1 => by
    have h := fb_ct_split p m n
    show fb_ct p (m + n + 1) = _
    rw [fb_ct_succ, fb_ct_succ, h, Nat.add_assoc]
theorem fb_ct_zero {p : Nat → Bool} : ∀ {n : Nat}, fb_ct p n = 0 ↔ ∀ k, k < n → p k = false
  | 0 => ⟨fun _ k hk => absurd hk (Nat.not_lt_zero k), fun _ => rfl⟩
  | n + 1 => by
    have h := fb_ct_zero (p := p) (n := n)
    rw [fb_ct_succ]
    constructor
    · intro e k hk
      have e1 : fb_ct p n = 0 := by omega
      rcases Nat.lt_or_ge k n with q | q
      · exact h.mp e1 k q
      · have ek : k = n := by omega
        subst ek
        cases hp : p k
        · rfl
        · simp [hp] at e
    · intro a
      rw [h.mpr (fun k hk => a k (by omega)), a n (by omega)]
      rfl
theorem fb_ct_pos {p : Nat → Bool} {n : Nat} : 0 < fb_ct p n ↔ ∃ k, k < n ∧ p k = true := by
  constructor
  · intro h
    refine Classical.byContradiction fun hx => ?_
    have := fb_ct_zero.mpr (fun k hk => by
      cases hp : p k
      · rfl
      · exact absurd ⟨k, hk, hp⟩ hx : ∀ k, k < n → p k = false)
    omega
  · rintro ⟨k, hk, hp⟩
    rcases Nat.eq_zero_or_pos (fb_ct p n) with e | e
    · have := fb_ct_zero.mp e k hk
      rw [this] at hp
      cases hp
    · exact e
theorem fb_ct_all {p : Nat → Bool} {n : Nat} : fb_ct p n = n ↔ ∀ k, k < n → p k = true := by
  have h := fb_ct_not p n
  constructor
  · intro e k hk
    have z : fb_ct (fun k => !p k) n = 0 := by omega
    have := fb_ct_zero.mp z k hk
    cases hp : p k
    · simp [hp] at this
    · rfl
  · intro a
    have z : fb_ct (fun k => !p k) n = 0 := fb_ct_zero.mpr (fun k hk => by simp [a k hk])
    omega
/-- the k-th place with the property -/
theorem fb_ct_kth {p : Nat → Bool} {k : Nat} : ∀ {n : Nat}, k < fb_ct p n → ∃ i, i < n ∧ p i = true ∧ fb_ct p i = k
  | 0, h => absurd h (Nat.not_lt_zero k)
  | n + 1, h => by
    rcases Nat.lt_or_ge k (fb_ct p n) with q | q
    · obtain ⟨i, h1, h2⟩ := fb_ct_kth q
      exact ⟨i, by omega, h2⟩
    · rw [fb_ct_succ] at h
      cases hp : p n
      · simp [hp] at h; omega
      · simp [hp] at h
        exact ⟨n, by omega, hp, by omega⟩
theorem fb_ct_kth_one {p : Nat → Bool} {i j : Nat} (hi : p i = true) (hj : p j = true) (e : fb_ct p i = fb_ct p j) : i = j := by
  have key : ∀ a b : Nat, a < b → p a = true → fb_ct p a < fb_ct p b := by
    intro a b hab ha
    have h := fb_ct_mono p (show a + 1 ≤ b from hab)
    rw [fb_ct_succ, ha] at h
    simp at h
    omega
  rcases Nat.lt_trichotomy i j with q | q | q
  · have := key i j q hi; omega
  · exact q
  · have := key j i q hj; omega
/-! ===== sums over a range: one place changed, parts, bounds ===== -/
def fb_sm (f : Nat → Nat) : Nat → Nat
  | 0 => 0
  | n + 1 => fb_sm f n + f n
theorem fb_sm_succ (f : Nat → Nat) (n : Nat) : fb_sm f (n + 1) = fb_sm f n + f n := rfl
theorem fb_sm_cong {f g : Nat → Nat} : ∀ {n : Nat}, (∀ k, k < n → f k = g k) → fb_sm f n = fb_sm g n
  | 0, _ => rfl
  | n + 1, h => by rw [fb_sm_succ, fb_sm_succ, fb_sm_cong (fun k hk => h k (by omega)), h n (by omega)]
theorem fb_sm_out (f : Nat → Nat) (v : Nat) {i n : Nat} (h : n ≤ i) : fb_sm (fun k => if k = i then v else f k) n = fb_sm f n :=
  fb_sm_cong fun k hk => if_neg (by omega)
theorem fb_sm_upd (f : Nat → Nat) (v : Nat) {i : Nat} : ∀ {n : Nat}, i < n → fb_sm (fun k => if k = i then v else f k) n + f i = fb_sm f n + v
  | 0, h => absurd h (Nat.not_lt_zero i)
  | n + 1, h => by
    rw [fb_sm_succ, fb_sm_succ]
    rcases Nat.lt_or_ge i n with q | q
    · have := fb_sm_upd f v q
      have e : (if n = i then v else f n) = f n := if_neg (by omega)
      rw [e]
      omega
    · have e : i = n := by omega
      subst e
      rw [fb_sm_out f v (Nat.le_refl _)]
      simp only [if_true]
      omega
theorem fb_sm_add (f g : Nat → Nat) : ∀ n, fb_sm (fun k => f k + g k) n = fb_sm f n + fb_sm g n
  | 0 => rfl
  | n + 1 => by
    have h := fb_sm_add f g n
    rw [fb_sm_succ, fb_sm_succ, fb_sm_succ, h]
    omega
theorem fb_sm_le {f g : Nat → Nat} : ∀ {n : Nat}, (∀ k, k < n → f k ≤ g k) → fb_sm f n ≤ fb_sm g n
  | 0, _ => Nat.le_refl _
  | n + 1, h => by
    have h1 := fb_sm_le (n := n) (f := f) (g := g) (fun k hk => h k (by omega))
    have h2 := h n (by omega)
    rw [fb_sm_succ, fb_sm_succ]
    omega
theorem fb_sm_const (c : Nat) : ∀ n, fb_sm (fun _ => c) n = n * c
  | 0 => by rw [Nat.zero_mul]; rfl
  | n + 1 => by rw [fb_sm_succ, fb_sm_const c n, Nat.succ_mul]
theorem fb_sm_bound {f : Nat → Nat} {c n : Nat} (h : ∀ k, k < n → f k ≤ c) : fb_sm f n ≤ n * c := by
  rw [← fb_sm_const c n]
  exact fb_sm_le h
theorem fb_sm_mono (f : Nat → Nat) (m : Nat) : ∀ n, fb_sm f m ≤ fb_sm f (m + n)
  | 0 => Nat.le_refl _
  | n + 1 => by
    have h := fb_sm_mono f m n
    show fb_sm f m ≤ fb_sm f (m + n + 1)
    rw [fb_sm_succ]
    omega
theorem fb_sm_part (f : Nat → Nat) {i n : Nat} (h : i < n) : fb_sm f i + f i ≤ fb_sm f n := by
  have := fb_sm_mono f (i + 1) (n - (i + 1))
  rw [fb_sm_succ, show i + 1 + (n - (i + 1)) = n by omega] at this
  exact this
theorem fb_sm_split (f : Nat → Nat) (m : Nat) : ∀ n, fb_sm f (m + n) = fb_sm f m + fb_sm (fun k => f (m + k)) n
  | 0 => rfl
  | n + 1 => by
    have h := fb_sm_split f m n
    show fb_sm f (m + n + 1) = _
    rw [fb_sm_succ, fb_sm_succ, h, Nat.add_assoc]
theorem fb_sm_zero {f : Nat → Nat} {n : Nat} (h : fb_sm f n = 0) : ∀ k, k < n → f k = 0 := fun k hk => by
  have := fb_sm_part f hk
  omega
/-- the same over whole numbers -/
def fb_si (f : Nat → Int) : Nat → Int
  | 0 => 0
  | n + 1 => fb_si f n + f n
theorem fb_si_succ (f : Nat → Int) (n : Nat) : fb_si f (n + 1) = fb_si f n + f n := rfl
theorem fb_si_cong {f g : Nat → Int} : ∀ {n : Nat}, (∀ k, k < n → f k = g k) → fb_si f n = fb_si g n
  | 0, _ => rfl
  | n + 1, h => by rw [fb_si_succ, fb_si_succ, fb_si_cong (fun k hk => h k (by omega)), h n (by omega)]
theorem fb_si_out (f : Nat → Int) (v : Int) {i n : Nat} (h : n ≤ i) : fb_si (fun k => if k = i then v else f k) n = fb_si f n :=
  fb_si_cong fun k hk => if_neg (by omega)
theorem fb_si_upd (f : Nat → Int) (v : Int) {i : Nat} : ∀ {n : Nat}, i < n → fb_si (fun k => if k = i then v else f k) n = fb_si f n - f i + v
  | 0, h => absurd h (Nat.not_lt_zero i)
  | n + 1, h => by
    rw [fb_si_succ, fb_si_succ]
    rcases Nat.lt_or_ge i n with q | q
    · have := fb_si_upd f v q
      have e : (if n = i then v else f n) = f n := if_neg (by omega)
      rw [e]
      omega
    · have e : i = n := by omega
      subst e
      rw [fb_si_out f v (Nat.le_refl _)]
      simp only [if_true]
      omega
theorem fb_si_add (f g : Nat → Int) : ∀ n, fb_si (fun k => f k + g k) n = fb_si f n + fb_si g n
  | 0 => rfl
  | n + 1 => by
    have h := fb_si_add f g n
    rw [fb_si_succ, fb_si_succ, fb_si_succ, h]
    omega
theorem fb_si_sub (f g : Nat → Int) : ∀ n, fb_si (fun k => f k - g k) n = fb_si f n - fb_si g n
  | 0 => rfl
  | n + 1 => by
    have h := fb_si_sub f g n
    rw [fb_si_succ, fb_si_succ, fb_si_succ, h]
    omega
theorem fb_si_mul (c : Int) (f : Nat → Int) : ∀ n, fb_si (fun k => c * f k) n = c * fb_si f n
  | 0 => (Int.mul_zero c).symm
  | n + 1 => by
    have h := fb_si_mul c f n
    rw [fb_si_succ, fb_si_succ, h, Int.mul_add]
theorem fb_si_split (f : Nat → Int) (m : Nat) : ∀ n, fb_si f (m + n) = fb_si f m + fb_si (fun k => f (m + k)) n
  | 0 => (Int.add_zero _).symm
  | n + 1 => by
    have h := fb_si_split f m n
    show fb_si f (m + n + 1) = _
    rw [fb_si_succ, fb_si_succ, h, Int.add_assoc]
theorem fb_si_nat (f : Nat → Nat) : ∀ n, fb_si (fun k => (f k : Int)) n = (fb_sm f n : Int)
  | 0 => rfl
  | n + 1 => by
    have h := fb_si_nat f n
    rw [fb_si_succ, fb_sm_succ, h]
    omega
theorem fb_si_bound {f : Nat → Int} {c : Int} (hc : 0 ≤ c) : ∀ {n : Nat}, (∀ k, k < n → -c ≤ f k ∧ f k ≤ c) → -(n * c) ≤ fb_si f n ∧ fb_si f n ≤ n * c
  | 0, _ => by simp [fb_si]
  | n + 1, h => by
    have h1 := fb_si_bound (n := n) (f := f) hc (fun k hk => h k (by omega))
    have h2 := h n (by omega)
    have e : ((n + 1 : Nat) : Int) * c = n * c + c := by rw [Int.natCast_add, Int.add_mul]; simp
    rw [fb_si_succ, e]
    omega
/-! ===== bits of a long that isn't negative ===== -/
theorem fb_andL (a b : Nat) : lN a &&& lN b = lN (a &&& b) := by
  apply Int64.toBitVec_inj.1
  show BitVec.ofNat 64 a &&& BitVec.ofNat 64 b = BitVec.ofNat 64 (a &&& b)
  apply BitVec.eq_of_getLsbD_eq
  intro i hi
  simp [hi]
theorem fb_orL (a b : Nat) : lN a ||| lN b = lN (a ||| b) := by
  apply Int64.toBitVec_inj.1
  show BitVec.ofNat 64 a ||| BitVec.ofNat 64 b = BitVec.ofNat 64 (a ||| b)
  apply BitVec.eq_of_getLsbD_eq
  intro i hi
  simp [hi]
theorem fb_xorL (a b : Nat) : lN a ^^^ lN b = lN (a ^^^ b) := by
  apply Int64.toBitVec_inj.1
  show BitVec.ofNat 64 a ^^^ BitVec.ofNat 64 b = BitVec.ofNat 64 (a ^^^ b)
  apply BitVec.eq_of_getLsbD_eq
  intro i hi
  simp [hi]
theorem fb_xorI (a b : Nat) : nI a ^^^ nI b = nI (a ^^^ b) := by
  apply Int32.toBitVec_inj.1
  show BitVec.ofNat 32 a ^^^ BitVec.ofNat 32 b = BitVec.ofNat 32 (a ^^^ b)
  apply BitVec.eq_of_getLsbD_eq
  intro i hi
  simp [hi]
theorem fb_maskL (n k : Nat) : lN n &&& lN (2 ^ k - 1) = lN (n % 2 ^ k) := by rw [fb_andL, Nat.and_two_pow_sub_one_eq_mod]
theorem fb_or_sumL {a k : Nat} (b : Nat) (h : a < 2 ^ k) : lN (2 ^ k * b) ||| lN a = lN (2 ^ k * b + a) := by rw [fb_orL, Nat.two_pow_add_eq_or_of_lt h]
theorem fb_lN_inj {a b : Nat} (ha : a < 2 ^ 63) (hb : b < 2 ^ 63) : lN a = lN b ↔ a = b := by
  constructor
  · intro h
    have h1 : (BitVec.ofNat 64 a).toNat = (BitVec.ofNat 64 b).toNat := congrArg (fun x : Int64 => x.toBitVec.toNat) h
    rw [BitVec.toNat_ofNat, BitVec.toNat_ofNat, Nat.mod_eq_of_lt (by omega), Nat.mod_eq_of_lt (by omega)] at h1
    exact h1
  · rintro rfl; rfl
theorem fb_bit_nat (n j : Nat) : n &&& 2 ^ j = 0 ↔ n.testBit j = false := by
  constructor
  · intro h
    have h1 : (n &&& 2 ^ j).testBit j = false := by rw [h]; simp
    rw [Nat.testBit_and] at h1
    simpa using h1
  · intro h
    apply Nat.eq_of_testBit_eq
    intro i
    rw [Nat.testBit_and]
    by_cases hi : j = i
    · subst hi; simp [h]
    · first | (simp [Nat.testBit_two_pow, hi]; done) | (simp [Nat.testBit_two_pow_of_ne hi]; done)
/-- one bit of a long -/
theorem fb_bitL {n j : Nat} (hj : j < 63) : lN n &&& lN (2 ^ j) = 0 ↔ n.testBit j = false := by
  have h2 : (2 : Nat) ^ j < 2 ^ 63 := Nat.pow_lt_pow_right (by decide) hj
  have hle : n &&& 2 ^ j ≤ 2 ^ j := Nat.and_le_right
  rw [fb_andL, ← fb_bit_nat, show (0 : Int64) = lN 0 from rfl]
  exact fb_lN_inj (by omega) (by decide)
/-- a bit set, a bit taken off -/
theorem fb_bit_set (n j i : Nat) : (n ||| 2 ^ j).testBit i = (n.testBit i || decide (i = j)) := by
  rw [Nat.testBit_or]
  by_cases h : j = i
  · subst h; simp
  · have h2 : ¬ i = j := fun e => h e.symm
    first | (simp [Nat.testBit_two_pow, h, h2]; done) | (simp [Nat.testBit_two_pow_of_ne h, h2]; done)
theorem fb_bit_flip (n j i : Nat) : (n ^^^ 2 ^ j).testBit i = (n.testBit i ^^ decide (i = j)) := by
  rw [Nat.testBit_xor]
  by_cases h : j = i
  · subst h; simp
  · have h2 : ¬ i = j := fun e => h e.symm
    first | (simp [Nat.testBit_two_pow, h, h2]; done) | (simp [Nat.testBit_two_pow_of_ne h, h2]; done)
/-! ===== a stretch of an array written over by a function ===== -/
def fb_put {α : Type} (f g : Nat → α) (a n : Nat) : Nat → α := fun k => if a ≤ k ∧ k < a + n then g (k - a) else f k
theorem fb_put_0 {α : Type} (f g : Nat → α) (a : Nat) : fb_put f g a 0 = f := funext fun k => if_neg (by omega)
theorem fb_put_in {α : Type} {f g : Nat → α} {a n k : Nat} (h1 : a ≤ k) (h2 : k < a + n) : fb_put f g a n k = g (k - a) := if_pos ⟨h1, h2⟩
theorem fb_put_out {α : Type} {f g : Nat → α} {a n k : Nat} (h : k < a ∨ a + n ≤ k) : fb_put f g a n k = f k := if_neg (by omega)
theorem fb_put_succ (f g : Nat → Int32) (a n : Nat) : upd (fb_put f g a n) (a + n) (g n) = fb_put f g a (n + 1) := by
  funext k
  by_cases h : k = a + n
  · subst h
    simp [upd, fb_put]
  · by_cases h1 : a ≤ k ∧ k < a + n
    · have h2 : a ≤ k ∧ k < a + (n + 1) := by omega
      simp only [upd, fb_put, if_neg h, if_pos h1, if_pos h2]
    · have h2 : ¬ (a ≤ k ∧ k < a + (n + 1)) := by omega
      simp only [upd, fb_put, if_neg h, if_neg h1, if_neg h2]
/-- .. from the far end down -/
theorem fb_put_down (f g : Nat → Int32) {a n m : Nat} (h : m < n) : upd (fb_put f (fun k => g (k + (m + 1))) (a + (m + 1)) (n - (m + 1))) (a + m) (g m) = fb_put f (fun k => g (k + m)) (a + m) (n - m) := by
  funext k
  by_cases h0 : k = a + m
  · subst h0
    simp only [upd, if_true]
    rw [fb_put_in (by omega) (by omega)]
    exact congrArg g (by omega)
  · simp only [upd, if_neg h0]
    by_cases h1 : a + (m + 1) ≤ k ∧ k < a + (m + 1) + (n - (m + 1))
    · rw [fb_put_in h1.1 h1.2, fb_put_in (by omega) (by omega)]
      exact congrArg g (by omega)
    · rw [fb_put_out (by omega), fb_put_out (by omega)]
theorem fb_put_cong {α : Type} {f f2 g g2 : Nat → α} {a n : Nat} (hf : ∀ k, (k < a ∨ a + n ≤ k) → f k = f2 k) (hg : ∀ k, k < n → g k = g2 k) : fb_put f g a n = fb_put f2 g2 a n := by
  funext k
  by_cases h : a ≤ k ∧ k < a + n
  · rw [fb_put_in h.1 h.2, fb_put_in h.1 h.2, hg _ (by omega)]
  · rw [fb_put_out (by omega), fb_put_out (by omega), hf _ (by omega)]
/-! ===== the least, the first, the best so far; that there is one alone ===== -/
theorem fb_first {p : Nat → Prop} [DecidablePred p] : ∀ {n : Nat}, (∃ i, i < n ∧ p i) → ∃ i, i < n ∧ p i ∧ ∀ j, j < i → ¬ p j
  | 0, h => by obtain ⟨i, hi, -⟩ := h; exact absurd hi (Nat.not_lt_zero i)
  | n + 1, h => by
    by_cases q : ∃ i, i < n ∧ p i
    · obtain ⟨i, h1, h2⟩ := fb_first q
      exact ⟨i, by omega, h2⟩
    · obtain ⟨i, h1, h2⟩ := h
      have e : i = n := by
        rcases Nat.lt_or_ge i n with r | r
        · exact absurd ⟨i, r, h2⟩ q
        · omega
      subst e
      exact ⟨i, by omega, h2, fun j hj hp => q ⟨j, hj, hp⟩⟩
theorem fb_first_one {p : Nat → Prop} {i j : Nat} (hi : p i) (hi2 : ∀ k, k < i → ¬ p k) (hj : p j) (hj2 : ∀ k, k < j → ¬ p k) : i = j := by
  rcases Nat.lt_trichotomy i j with q | q | q
  · exact absurd hi (hj2 i q)
  · exact q
  · exact absurd hj (hi2 j q)
theorem fb_last {p : Nat → Prop} [DecidablePred p] : ∀ {n : Nat}, (∃ i, i < n ∧ p i) → ∃ i, i < n ∧ p i ∧ ∀ j, i < j → j < n → ¬ p j
  | 0, h => by obtain ⟨i, hi, -⟩ := h; exact absurd hi (Nat.not_lt_zero i)
  | n + 1, h => by
    by_cases q : p n
    · exact ⟨n, by omega, q, fun j h1 h2 => by omega⟩
    · obtain ⟨i, h1, h2⟩ := h
      have hi : i < n := by
        rcases Nat.lt_or_ge i n with r | r
        · exact r
        · have e : i = n := by omega
          subst e
          exact absurd h2 q
      obtain ⟨i2, a1, a2, a3⟩ := fb_last (n := n) ⟨i, hi, h2⟩
      refine ⟨i2, by omega, a2, fun j b1 b2 => ?_⟩
      rcases Nat.lt_or_ge j n with r | r
      · exact a3 j b1 r
      · have e : j = n := by omega
        subst e
        exact q
/-- the first greatest -/
theorem fb_best (f : Nat → Int) : ∀ {n : Nat}, 0 < n → ∃ i, i < n ∧ (∀ j, j < n → f j ≤ f i) ∧ ∀ j, j < i → f j < f i
  | 0, h => absurd h (Nat.lt_irrefl 0)
  | 1, _ => ⟨0, by omega, fun j hj => by have e : j = 0 := by omega
                                         subst e; exact Int.le_refl _, fun j hj => absurd hj (Nat.not_lt_zero j)⟩
  | n + 2, _ => by
    obtain ⟨i, h1, h2, h3⟩ := fb_best f (n := n + 1) (by omega)
    by_cases q : f i < f (n + 1)
    · refine ⟨n + 1, by omega, fun j hj => ?_, fun j hj => ?_⟩
      · rcases Nat.lt_or_ge j (n + 1) with r | r
        · have := h2 j r; omega
        · have e : j = n + 1 := by omega
          subst e; exact Int.le_refl _
      · have := h2 j hj; omega
    · refine ⟨i, by omega, fun j hj => ?_, h3⟩
      rcases Nat.lt_or_ge j (n + 1) with r | r
      · exact h2 j r
      · have e : j = n + 1 := by omega
        subst e; omega
theorem fb_best_one {f : Nat → Int} {n i j : Nat} (hi : i < n) (hi2 : ∀ k, k < n → f k ≤ f i) (hi3 : ∀ k, k < i → f k < f i) (hj : j < n) (hj2 : ∀ k, k < n → f k ≤ f j) (hj3 : ∀ k, k < j → f k < f j) : i = j := by
  rcases Nat.lt_trichotomy i j with q | q | q
  · have a := hj3 i q
    have b := hi2 j hj
    omega
  · exact q
  · have a := hi3 j q
    have b := hj2 i hi
    omega
/-- the first least -/
theorem fb_low (f : Nat → Int) {n : Nat} (h : 0 < n) : ∃ i, i < n ∧ (∀ j, j < n → f i ≤ f j) ∧ ∀ j, j < i → f i < f j := by
  obtain ⟨i, h1, h2, h3⟩ := fb_best (fun k => -f k) h
  exact ⟨i, h1, fun j hj => by have := h2 j hj; omega, fun j hj => by have := h3 j hj; omega⟩
/-! ===== signed ints as whole numbers, within bounds ===== -/
theorem fb_rng (x : Int32) : -2147483648 ≤ x.toInt ∧ x.toInt < 2147483648 := by
  have h1 := Int32.le_toInt x
  have h2 := Int32.toInt_lt x
  omega
theorem fb_bmod {z : Int} (h1 : -2147483648 ≤ z) (h2 : z < 2147483648) : z.bmod (2 ^ 32) = z := by
  rw [Int.bmod_eq_of_le (by omega) (by omega)]
theorem fb_addI {x y : Int32} (h1 : -2147483648 ≤ x.toInt + y.toInt) (h2 : x.toInt + y.toInt < 2147483648) : (x + y).toInt = x.toInt + y.toInt := by
  rw [Int32.toInt_add, fb_bmod h1 h2]
theorem fb_subI {x y : Int32} (h1 : -2147483648 ≤ x.toInt - y.toInt) (h2 : x.toInt - y.toInt < 2147483648) : (x - y).toInt = x.toInt - y.toInt := by
  rw [Int32.toInt_sub, fb_bmod h1 h2]
theorem fb_mulI {x y : Int32} (h1 : -2147483648 ≤ x.toInt * y.toInt) (h2 : x.toInt * y.toInt < 2147483648) : (x * y).toInt = x.toInt * y.toInt := by
  rw [Int32.toInt_mul, fb_bmod h1 h2]
theorem fb_negI {x : Int32} (h : x.toInt ≠ -2147483648) : (-x).toInt = -x.toInt := by
  have := fb_rng x
  rw [Int32.toInt_neg, fb_bmod (by omega) (by omega)]
theorem fb_ofI {z : Int} (h1 : -2147483648 ≤ z) (h2 : z < 2147483648) : (Int32.ofInt z).toInt = z := by
  rw [Int32.toInt_ofInt, fb_bmod h1 h2]
theorem fb_asI (x : Int32) : Int32.ofInt x.toInt = x := Int32.ofInt_toInt x
theorem fb_rngL (x : Int64) : -9223372036854775808 ≤ x.toInt ∧ x.toInt < 9223372036854775808 := by
  have h1 := Int64.le_toInt x
  have h2 := Int64.toInt_lt x
  omega
theorem fb_bmodL {z : Int} (h1 : -9223372036854775808 ≤ z) (h2 : z < 9223372036854775808) : z.bmod (2 ^ 64) = z := by
  rw [Int.bmod_eq_of_le (by omega) (by omega)]
theorem fb_addL {x y : Int64} (h1 : -9223372036854775808 ≤ x.toInt + y.toInt) (h2 : x.toInt + y.toInt < 9223372036854775808) : (x + y).toInt = x.toInt + y.toInt := by
  rw [Int64.toInt_add, fb_bmodL h1 h2]
theorem fb_subL {x y : Int64} (h1 : -9223372036854775808 ≤ x.toInt - y.toInt) (h2 : x.toInt - y.toInt < 9223372036854775808) : (x - y).toInt = x.toInt - y.toInt := by
  rw [Int64.toInt_sub, fb_bmodL h1 h2]
theorem fb_mulL {x y : Int64} (h1 : -9223372036854775808 ≤ x.toInt * y.toInt) (h2 : x.toInt * y.toInt < 9223372036854775808) : (x * y).toInt = x.toInt * y.toInt := by
  rw [Int64.toInt_mul, fb_bmodL h1 h2]
/-! ===== cuts of what is narrow already ===== -/
theorem fb_byte {x : Int32} (h1 : -128 ≤ x.toInt) (h2 : x.toInt < 128) : x.toInt8.toInt32 = x := by
  apply Int32.toInt_inj.1
  rw [Int8.toInt_toInt32, Int32.toInt_toInt8, Int.bmod_eq_of_le (by omega) (by omega)]
theorem fb_short {x : Int32} (h1 : -32768 ≤ x.toInt) (h2 : x.toInt < 32768) : x.toInt16.toInt32 = x := by
  apply Int32.toInt_inj.1
  rw [Int16.toInt_toInt32, Int32.toInt_toInt16, Int.bmod_eq_of_le (by omega) (by omega)]
theorem fb_byte_rng (x : Int32) : -128 ≤ x.toInt8.toInt32.toInt ∧ x.toInt8.toInt32.toInt < 128 := by
  rw [Int8.toInt_toInt32]
  have h1 := Int8.le_toInt x.toInt8
  have h2 := Int8.toInt_lt x.toInt8
  omega
theorem fb_short_rng (x : Int32) : -32768 ≤ x.toInt16.toInt32.toInt ∧ x.toInt16.toInt32.toInt < 32768 := by
  rw [Int16.toInt_toInt32]
  have h1 := Int16.le_toInt x.toInt16
  have h2 := Int16.toInt_lt x.toInt16
  omega
theorem fb_byte_twice (x : Int32) : x.toInt8.toInt32.toInt8.toInt32 = x.toInt8.toInt32 := fb_byte (fb_byte_rng x).1 (fb_byte_rng x).2
theorem fb_short_twice (x : Int32) : x.toInt16.toInt32.toInt16.toInt32 = x.toInt16.toInt32 := fb_short (fb_short_rng x).1 (fb_short_rng x).2
theorem fb_char {n : Nat} (h : n < 65536) : (nI n).toUInt32.toUInt16.toUInt32.toInt32 = nI n := by
  apply Int32.toBitVec_inj.1
  apply BitVec.eq_of_toNat_eq
  have e1 : (nI n).toBitVec.toNat = n := by
    show (BitVec.ofNat 32 n).toNat = n
    rw [BitVec.toNat_ofNat, Nat.mod_eq_of_lt (by omega)]
  have e2 : ((nI n).toUInt32.toUInt16.toUInt32).toNat = n := by
    rw [UInt16.toNat_toUInt32, UInt32.toNat_toUInt16]
    show (nI n).toBitVec.toNat % 2 ^ 16 = n
    rw [e1, Nat.mod_eq_of_lt (by omega)]
  rw [e1]
  exact e2
/-! rows on bits, shifts and unsigned numbers, to paste: each family out of a closed proof of our own, whole with what it rests on; each by itself clean at Lean in its own claim (generation 39, form 5). Take a family whole -/
/-! ===== Int32 by its bits: bt x i ===== -/
def bt (x : Int32) (i : Nat) : Bool := x.toBitVec.getLsbD i
theorem b_ext {x y : Int32} (h : ∀ i, i < 32 → bt x i = bt y i) : x = y := Int32.toBitVec_inj.mp (BitVec.eq_of_getLsbD_eq (fun i hi => h i hi))
theorem b_or (x y : Int32) (i : Nat) : bt (x ||| y) i = (bt x i || bt y i) := by unfold bt; rw [Int32.toBitVec_or, BitVec.getLsbD_or]
theorem b_and (x y : Int32) (i : Nat) : bt (x &&& y) i = (bt x i && bt y i) := by unfold bt; rw [Int32.toBitVec_and, BitVec.getLsbD_and]
theorem b_xor (x y : Int32) (i : Nat) : bt (x ^^^ y) i = (bt x i ^^ bt y i) := by unfold bt; rw [Int32.toBitVec_xor, BitVec.getLsbD_xor]
theorem b_big {x : Int32} {i : Nat} (h : 32 ≤ i) : bt x i = false := BitVec.getLsbD_of_ge _ _ h
theorem b_255 (i : Nat) : bt 255 i = decide (i < 8) := by
  rcases Nat.lt_or_ge i 32 with h | h
  · exact (by decide +kernel : ∀ i, i < 32 → bt 255 i = decide (i < 8)) i h
  · rw [b_big h, decide_eq_false (by omega)]
theorem b_65535 (i : Nat) : bt 65535 i = decide (i < 16) := by
  rcases Nat.lt_or_ge i 32 with h | h
  · exact (by decide +kernel : ∀ i, i < 32 → bt 65535 i = decide (i < 16)) i h
  · rw [b_big h, decide_eq_false (by omega)]
theorem b_m1 : ∀ i, i < 32 → bt (-1) i = true := by decide +kernel
theorem b_0 (i : Nat) : bt 0 i = false := BitVec.getLsbD_zero
theorem s_l : ∀ n, n < 32 → ((nI n &&& 31).toBitVec.smod 32).toNat = n := by decide +kernel
theorem s_u : ∀ n, n < 32 → (((nI n).toUInt32 &&& Int32.toUInt32 31).toBitVec % 32).toNat = n := by decide +kernel
theorem b_shl (n : Nat) (hn : n < 32) (x : Int32) {i : Nat} (hi : i < 32) : bt (x <<< (nI n &&& 31)) i = (decide (n ≤ i) && bt x (i - n)) := by
  unfold bt
  rw [Int32.toBitVec_shiftLeft]
  show (x.toBitVec <<< ((nI n &&& 31).toBitVec.smod 32).toNat).getLsbD i = _
  rw [s_l n hn, BitVec.getLsbD_shiftLeft]
  rcases Nat.lt_or_ge i n with h | h
  · simp [h, Nat.not_le.mpr h]
  · simp [hi, h, Nat.not_lt.mpr h]
theorem b_ushr (n : Nat) (hn : n < 32) (x : Int32) (i : Nat) : bt ((x.toUInt32 >>> ((nI n).toUInt32 &&& Int32.toUInt32 31)).toInt32) i = bt x (n + i) := by
  show (x.toUInt32 >>> ((nI n).toUInt32 &&& Int32.toUInt32 31)).toBitVec.getLsbD i = x.toUInt32.toBitVec.getLsbD (n + i)
  rw [UInt32.toBitVec_shiftRight]
  show (x.toUInt32.toBitVec >>> (((nI n).toUInt32 &&& Int32.toUInt32 31).toBitVec % 32).toNat).getLsbD i = _
  rw [s_u n hn, BitVec.getLsbD_ushiftRight]
theorem b_sshr (n : Nat) (hn : n < 32) (x : Int32) {i : Nat} (hi : i < 32) : bt (x >>> (nI n &&& 31)) i = if n + i < 32 then bt x (n + i) else bt x 31 := by
  unfold bt
  rw [Int32.toBitVec_shiftRight]
  show (x.toBitVec.sshiftRight ((nI n &&& 31).toBitVec.smod 32).toNat).getLsbD i = _
  rw [s_l n hn, BitVec.getLsbD_sshiftRight, BitVec.msb_eq_getLsbD_last]
  simp [hi]
theorem b_shl8 (x : Int32) {i : Nat} (hi : i < 32) : bt (x <<< ((8 : Int32) &&& 31)) i = (decide (8 ≤ i) && bt x (i - 8)) := b_shl 8 (by omega) x hi
theorem b_shl16 (x : Int32) {i : Nat} (hi : i < 32) : bt (x <<< ((16 : Int32) &&& 31)) i = (decide (16 ≤ i) && bt x (i - 16)) := b_shl 16 (by omega) x hi
theorem b_shl24 (x : Int32) {i : Nat} (hi : i < 32) : bt (x <<< ((24 : Int32) &&& 31)) i = (decide (24 ≤ i) && bt x (i - 24)) := b_shl 24 (by omega) x hi
theorem b_sshr8 (x : Int32) {i : Nat} (hi : i < 32) : bt (x >>> ((8 : Int32) &&& 31)) i = if 8 + i < 32 then bt x (8 + i) else bt x 31 := b_sshr 8 (by omega) x hi
end
section
/-! BASE: the numbers of the machine as naturals, reads behind writes, what a stretch leaves alone -/
def bI (b : Bool) : Int32 := nI b.toNat
theorem bI_t : bI true = 1 := rfl
theorem bI_f : bI false = 0 := rfl
theorem bI_0 (b : Bool) : bI b = 0 ↔ b = false := by cases b <;> decide
theorem bI_1 (b : Bool) : bI b = 1 ↔ b = true := by cases b <;> decide
theorem bI_01 (b : Bool) : bI b = 0 ∨ bI b = 1 := by cases b <;> decide
theorem bI_if (c : Prop) [Decidable c] : (if c then (1 : Int32) else 0) = bI (decide c) := by by_cases h : c <;> simp [h, bI_t, bI_f]
theorem bt_nI (s i : Nat) : bt (nI s) i = (decide (i < 32) && s.testBit i) := by
  show (BitVec.ofNat 32 s).getLsbD i = _
  rw [BitVec.getLsbD_ofNat]
theorem q_tb0 {s i : Nat} (hs : s < 2 ^ 31) (hi : 31 ≤ i) : s.testBit i = false := Nat.testBit_lt_two_pow (Nat.lt_of_lt_of_le hs (Nat.pow_le_pow_right (by decide) hi))
theorem q_shr {s v : Nat} (hs : s < 2 ^ 31) (hv : v < 31) : nI s >>> (nI v &&& 31) = nI (s >>> v) := by
  apply b_ext
  intro i hi
  rw [b_sshr v (by omega) _ hi, bt_nI, bt_nI, bt_nI, Nat.testBit_shiftRight]
  by_cases h : v + i < 32
  · simp [h, hi]
  · rw [if_neg h, q_tb0 hs (Nat.le_refl _), q_tb0 hs (show 31 ≤ v + i by omega)]
    simp
theorem q_mod2 (s v : Nat) : (s >>> v) % 2 = (s.testBit v).toNat := by rw [Nat.toNat_testBit, Nat.shiftRight_eq_div_pow]
theorem q_bit {s v : Nat} (hs : s < 2 ^ 31) (hv : v < 31) : (nI s >>> (nI v &&& 31)) &&& 1 = bI (s.testBit v) := by
  rw [q_shr hs hv]
  show nI (s >>> v) &&& nI 1 = _
  rw [fa_and, Nat.and_one_is_mod, q_mod2]
  rfl
theorem q_shl : ∀ v, v < 31 → nI 1 <<< (nI v &&& 31) = nI (2 ^ v) := by decide +kernel
def andn (a b : Nat) : Nat := a ^^^ (a &&& b)
theorem andn_bit (a b i : Nat) : (andn a b).testBit i = (a.testBit i && !b.testBit i) := by
  unfold andn
  rw [Nat.testBit_xor, Nat.testBit_and]
  cases a.testBit i <;> cases b.testBit i <;> rfl
theorem q_m1 : ∀ i, i < 32 → bt (-nI 1) i = true := by decide +kernel
theorem q_andn (a b : Nat) : nI a &&& (nI b ^^^ -nI 1) = nI (andn a b) := by
  apply b_ext
  intro i hi
  rw [b_and, b_xor, q_m1 i hi, bt_nI, bt_nI, bt_nI, andn_bit]
  simp [hi]
theorem q_lt_of_bits {a k : Nat} (h : ∀ i, k ≤ i → a.testBit i = false) : a < 2 ^ k := Nat.lt_pow_two_of_testBit a h
theorem q_sub_lt {a b k : Nat} (h : ∀ i, a.testBit i = true → b.testBit i = true) (hb : b < 2 ^ k) : a < 2 ^ k := q_lt_of_bits fun i hi => by
  cases e : a.testBit i with
  | false => rfl
  | true =>
    have := h i e
    rw [Nat.testBit_lt_two_pow (Nat.lt_of_lt_of_le hb (Nat.pow_le_pow_right (by decide) hi))] at this
    cases this
theorem andn_lt {a k : Nat} (b : Nat) (h : a < 2 ^ k) : andn a b < 2 ^ k := q_sub_lt (b := a) (fun i z => by rw [andn_bit] at z; cases e : a.testBit i <;> rw [e] at z <;> simp_all) h
theorem i_pi (h : am_H) (a k : Nat) (v : Int32) (b j : Nat) : am_i (am_pi h a k v) b j = if b = a then (if j = k then v else am_i h b j) else am_i h b j := by
  show va_up h.2.1 a (upd (h.2.1 a) k v) b j = _
  unfold va_up upd
  by_cases e : b = a
  · subst e; rw [if_pos rfl, if_pos rfl]; rfl
  · rw [if_neg e, if_neg e]; rfl
theorem i_pi_same (h : am_H) (a k : Nat) (v : Int32) (j : Nat) : am_i (am_pi h a k v) a j = if j = k then v else am_i h a j := by rw [i_pi, if_pos rfl]
theorem i_pi_ne {h : am_H} {a k : Nat} {v : Int32} {b : Nat} (hb : b ≠ a) : am_i (am_pi h a k v) b = am_i h b := by
  funext j
  rw [i_pi, if_neg hb]
theorem k_pi (h : am_H) (a k : Nat) (v : Int32) (b : Nat) : am_k (am_pi h a k v) b = am_k h b := rfl
theorem r_pi (h : am_H) (a k : Nat) (v : Int32) (b j : Nat) : am_r (am_pi h a k v) b j = am_r h b j := rfl
theorem l_pi (h : am_H) (a k : Nat) (v : Int32) (b j : Nat) : am_l (am_pi h a k v) b j = am_l h b j := rfl
theorem n_pi (h : am_H) (a k : Nat) (v : Int32) : am_n (am_pi h a k v) = am_n h := rfl
theorem k_pr (h : am_H) (a k v b : Nat) : am_k (am_pr h a k v) b = am_k h b := rfl
theorem i_pr (h : am_H) (a k v b j : Nat) : am_i (am_pr h a k v) b j = am_i h b j := rfl
theorem k_pl (h : am_H) (a k : Nat) (v : Int64) (b : Nat) : am_k (am_pl h a k v) b = am_k h b := rfl
theorem i_pl (h : am_H) (a k : Nat) (v : Int64) (b j : Nat) : am_i (am_pl h a k v) b j = am_i h b j := rfl
theorem r_pl (h : am_H) (a k : Nat) (v : Int64) (b j : Nat) : am_r (am_pl h a k v) b j = am_r h b j := rfl
theorem l_pl_same (h : am_H) (a k : Nat) (v : Int64) (j : Nat) : am_l (am_pl h a k v) a j = if j = k then v else am_l h a j := by
  show va_up h.2.2.1 a (vp_updL (h.2.2.1 a) k v) a j = _
  unfold va_up vp_updL
  rw [if_pos rfl]
  rfl
theorem r_pr (h : am_H) (a k v b j : Nat) : am_r (am_pr h a k v) b j = if b = a then (if j = k then v else am_r h b j) else am_r h b j := by
  show va_up h.2.2.2.1 a (va_up (h.2.2.2.1 a) k v) b j = _
  unfold va_up
  by_cases e : b = a
  · subst e; rw [if_pos rfl, if_pos rfl]; rfl
  · rw [if_neg e, if_neg e]; rfl
/-- nothing but the ints and longs of the cells X has changed -/
def sm (X : List Nat) (h h' : am_H) : Prop := h'.1 = h.1 ∧ h'.2.2.2 = h.2.2.2 ∧ ∀ a, a ∉ X → am_i h' a = am_i h a ∧ am_l h' a = am_l h a
theorem sm.rf {X : List Nat} {h : am_H} : sm X h h := ⟨rfl, rfl, fun _ _ => ⟨rfl, rfl⟩⟩
theorem sm.tr {X : List Nat} {h h1 h2 : am_H} (s : sm X h h1) (t : sm X h1 h2) : sm X h h2 := ⟨t.1.trans s.1, t.2.1.trans s.2.1, fun a ha => ⟨(t.2.2 a ha).1.trans (s.2.2 a ha).1, (t.2.2 a ha).2.trans (s.2.2 a ha).2⟩⟩
theorem sm.mo {X Y : List Nat} {h h1 : am_H} (s : sm X h h1) (hs : ∀ a, a ∈ X → a ∈ Y) : sm Y h h1 := ⟨s.1, s.2.1, fun a ha => s.2.2 a fun z => ha (hs a z)⟩
theorem sm.pi {X : List Nat} {h h1 : am_H} (s : sm X h h1) {a k : Nat} {v : Int32} (ha : a ∈ X) : sm X h (am_pi h1 a k v) := ⟨s.1, s.2.1, fun b hb => ⟨(i_pi_ne fun e => hb (by rw [e]; exact ha)).trans (s.2.2 b hb).1, (s.2.2 b hb).2⟩⟩
theorem sm.pl {X : List Nat} {h h1 : am_H} (s : sm X h h1) {a k : Nat} {v : Int64} (ha : a ∈ X) : sm X h (am_pl h1 a k v) := ⟨s.1, s.2.1, fun b hb => ⟨(s.2.2 b hb).1, Eq.trans (by
  funext j
  show va_up h1.2.2.1 a _ b j = _
  unfold va_up
  rw [if_neg fun e => hb (by rw [e]; exact ha)]
  rfl) (s.2.2 b hb).2⟩⟩
theorem sm.k {X : List Nat} {h h' : am_H} (s : sm X h h') (a : Nat) : am_k h' a = am_k h a := by unfold am_k; rw [s.1]
theorem sm.r {X : List Nat} {h h' : am_H} (s : sm X h h') (a k : Nat) : am_r h' a k = am_r h a k := by unfold am_r; rw [s.2.1]
theorem sm.n {X : List Nat} {h h' : am_H} (s : sm X h h') : am_n h' = am_n h := by unfold am_n; rw [s.2.1]
theorem sm.cs {X : List Nat} {h h' : am_H} (s : sm X h h') : am_cs h' = am_cs h := by unfold am_cs; rw [s.2.1]
theorem sm.i {X : List Nat} {h h' : am_H} (s : sm X h h') {a : Nat} (ha : a ∉ X) (k : Nat) : am_i h' a k = am_i h a k := by rw [(s.2.2 a ha).1]
theorem sm.sh {X : List Nat} {h h' : am_H} (s : sm X h h') (hs : sh h) : sh h' := ⟨fun a ha => (s.k a).trans (hs.1 a ha), fun q hq => (s.r _ _).trans (hs.2.1 q hq), by rw [s.n]; exact hs.2.2⟩
theorem sm.gx {X : List Nat} {h h' : am_H} (s : sm X h h') {a : Nat} (g : gs h a) : gs h' a := by
  unfold gs at *
  simp only [s.k, s.r]
  exact g
/-- an index within its row -/
theorem ck_arr {h : am_H} {a t n : Nat} {i : Int32} {e : Nat} (hk : am_k h a = (t, n)) (hi : i = nI e) (he : e < n) (hn : n < 2 ^ 31) : am_arr h a t i := by
  unfold am_arr
  rw [hk, hi]
  exact ⟨rfl, vp_in_nI he hn⟩
theorem q_cl {e : Nat} (h : e < 2 ^ 31) : (nI e).toNatClampNeg = e := nI_clamp h
theorem ck_row {h : am_H} {x b t n : Nat} {i : Int32} {e : Nat} (hr : x = b) (hk : am_k h b = (t, n)) (hi : i = nI e) (he : e < n) (hn : n < 2 ^ 31) : am_arr h x t i := by
  subst hr
  exact ck_arr hk hi he hn
theorem q_ge {x : Int32} {i m : Nat} (hx : x = nI m) (hi : i < m) (hm : m < 100000) : ¬ x ≤ nI i := by rw [hx]; exact nI_ge hi (by omega)
theorem q_le {x : Int32} {m : Nat} (hx : x = nI m) (hm : m < 100000) : x ≤ nI m := by rw [hx]; exact nI_le (Nat.le_refl _) (by omega)
/-- a counted loop -/
theorem am_for {xs : am_X} {P : am_P} {d : Nat} {code : Nat → Option (Instr × Nat)} {hdl : Nat → Nat → Option (Nat × Nat)} {Q : am_Q} {pc : Nat} (m : Nat) (I : Nat → List Value → am_H → Prop)
    (step : ∀ i, i < m → ∀ L h, I i L h → (∀ L h, I (i + 1) L h → am_W xs code hdl (am_C xs P d) Q pc L [] h) → am_W xs code hdl (am_C xs P d) Q pc L [] h)
    (last : ∀ L h, I m L h → am_W xs code hdl (am_C xs P d) Q pc L [] h) : ∀ i, i ≤ m → ∀ L h, I i L h → am_W xs code hdl (am_C xs P d) Q pc L [] h := by
  have key : ∀ k i, i + k = m → ∀ L h, I i L h → am_W xs code hdl (am_C xs P d) Q pc L [] h := by
    intro k
    induction k with
    | zero => intro i e L h hI; rw [Nat.add_zero] at e; subst e; exact last L h hI
    | succ k ih => intro i e L h hI; exact step i (by omega) L h hI (fun L h hI => ih (i + 1) (by omega) L h hI)
  exact fun i hi => key (m - i) i (by omega)
/-- a loop with a measure that falls -/
theorem am_while {xs : am_X} {P : am_P} {d : Nat} {code : Nat → Option (Instr × Nat)} {hdl : Nat → Nat → Option (Nat × Nat)} {Q : am_Q} {pc : Nat} (I : Nat → List Value → am_H → Prop)
    (step : ∀ n L h, I n L h → (∀ k L h, k < n → I k L h → am_W xs code hdl (am_C xs P d) Q pc L [] h) → am_W xs code hdl (am_C xs P d) Q pc L [] h) : ∀ n L h, I n L h → am_W xs code hdl (am_C xs P d) Q pc L [] h := by
  intro n
  induction n using Nat.strongRecOn with
  | ind n ih => intro L h hI; exact step n L h hI (fun k L h hk hI => ih k hk L h hI)
/-- edges by a property, as a number -/
def cutm (p : Nat → Bool) : Nat → Nat
  | 0 => 0
  | m + 1 => if p m then cutm p m ||| 2 ^ m else cutm p m
theorem cutm_bit (p : Nat → Bool) (m i : Nat) : (cutm p m).testBit i = (decide (i < m) && p i) := by
  induction m with
  | zero => simp [cutm]
  | succ m ih =>
    unfold cutm
    by_cases e : p m = true
    · rw [if_pos e, Nat.testBit_or, ih, Nat.testBit_two_pow]
      by_cases h : m = i
      · subst h; simp [e]
      · have : (i < m + 1) ↔ (i < m) := by omega
        simp [this, h]
    · rw [if_neg e, ih]
      by_cases h : i = m
      · subst h; simp [e]
      · have : (i < m + 1) ↔ (i < m) := by omega
        simp [this]
theorem cutm_lt (p : Nat → Bool) (m : Nat) : cutm p m < 2 ^ m := q_lt_of_bits fun i hi => by rw [cutm_bit]; simp [Nat.not_lt.mpr hi]
theorem cutm_lt31 (p : Nat → Bool) {m : Nat} (hm : m ≤ 20) : cutm p m < 2 ^ 31 := Nat.lt_of_lt_of_le (cutm_lt p m) (Nat.pow_le_pow_right (by decide) (by omega))
theorem q_or (a b : Nat) : nI a ||| nI b = nI (a ||| b) := fa_or a b
theorem q_orb {a v : Nat} (hv : v < 31) : nI a ||| (nI 1 <<< (nI v &&& 31)) = nI (a ||| 2 ^ v) := by rw [q_shl v hv, fa_or]
/-- sums -/
def sumE (co : Nat → Nat) (p : Nat → Bool) (m : Nat) : Nat := fb_sm (fun e => if p e then co e else 0) m
theorem sumE_s (co : Nat → Nat) (p : Nat → Bool) (m : Nat) : sumE co p (m + 1) = sumE co p m + (if p m then co m else 0) := rfl
theorem sumE_le {co : Nat → Nat} {p : Nat → Bool} {m c : Nat} (h : ∀ e, e < m → co e ≤ c) : sumE co p m ≤ m * c := fb_sm_bound fun k hk => by
  split
  · exact h k hk
  · exact Nat.zero_le _
theorem sumE_cong {co : Nat → Nat} {p q : Nat → Bool} {m : Nat} (h : ∀ e, e < m → p e = q e) : sumE co p m = sumE co q m := fb_sm_cong fun k hk => by rw [h k hk]
theorem bI_inj {a b : Bool} (h : bI a = bI b) : a = b := by cases a <;> cases b <;> first | rfl | exact absurd h (by decide)
theorem q_div {a b : Nat} (ha : a < 2 ^ 31) (hb : b < 2 ^ 31) : nI a / nI b = nI (a / b) := by
  apply Int32.toInt_inj.mp
  have h1 : a / b ≤ a := Nat.div_le_self a b
  rw [Int32.toInt_div, nI_toInt ha, nI_toInt hb, nI_toInt (by omega), ← Int.ofNat_tdiv]
  generalize a / b = z at h1 ⊢
  exact fb_bmod (by omega) (by omega)
theorem q_t1 : ¬ bI true = 0 := by decide
theorem i_cp (h : am_H) (b sp a dp n x w : Nat) : am_i (am_cp h b sp a dp n) x w = if x = a ∧ dp ≤ w ∧ w < dp + n then am_i h b (sp + (w - dp)) else am_i h x w := by
  have e : am_i (am_cp h b sp a dp n) = va_up h.2.1 a (va_cpy (h.2.1 b) (h.2.1 a) sp dp n) := rfl
  rw [e]
  unfold va_up va_cpy
  by_cases hx : x = a
  · subst hx
    rw [if_pos rfl]
    by_cases h2 : dp ≤ w ∧ w < dp + n
    · rw [if_pos h2, if_pos ⟨rfl, h2⟩]; rfl
    · rw [if_neg h2, if_neg fun q => h2 q.2]; rfl
  · rw [if_neg hx, if_neg fun q => hx q.1]; rfl
theorem sm.cp {X : List Nat} {h h1 : am_H} (s : sm X h h1) {b sp a dp n : Nat} (ha : a ∈ X) : sm X h (am_cp h1 b sp a dp n) := ⟨s.1, s.2.1, fun x hx => ⟨Eq.trans (by
  funext w
  rw [i_cp, if_neg fun q => hx (by rw [q.1]; exact ha)]) (s.2.2 x hx).1, (s.2.2 x hx).2⟩⟩
theorem q_mul6 {x y : Int} (hx : -1000000 ≤ x ∧ x ≤ 1000000) (hy : -1000000 ≤ y ∧ y ≤ 1000000) : -1000000000000 ≤ x * y ∧ x * y ≤ 1000000000000 := by
  have h : (x * y).natAbs ≤ 1000000 * 1000000 := by
    rw [Int.natAbs_mul]
    exact Nat.mul_le_mul (by omega) (by omega)
  omega
end
section
/-! GRAPH: reads -/
/-- the graph at a: its numbers and its edges -/
def cg (h : am_H) (a n m T : Nat) (lo hi : Nat → Nat) : Prop := gs h a ∧ (am_i h a 0 = nI n ∧ am_i h a 1 = nI m ∧ am_i h a 2 = nI T) ∧ (∀ e, e < m → am_i h (a + 3) e = nI (lo e) ∧ am_i h (a + 4) e = nI (hi e)) ∧ (n ≤ 9 ∧ m ≤ 20 ∧ T < 2 ^ n) ∧ ∀ e, e < m → lo e < hi e ∧ hi e < n
def cco (h : am_H) (a m : Nat) (co : Nat → Nat) : Prop := ∀ e, e < m → am_i h (a + 6) e = nI (co e) ∧ 1 ≤ co e ∧ co e ≤ 9999
set_option maxHeartbeats 4000000 in
theorem c_hasVertex {xs : am_X} {d : Nat} {h : am_H} {a n : Nat} (hd : 1 ≤ d) (hk : am_k h a = (1, 2)) (h0 : am_i h a 0 = nI n) (v : Int32) {Q : am_Q} (HQ : Q (.inl (some (.int (bI (decide (0 ≤ v ∧ v < nI n)))))) h) : am_C xs am_P0 d m_Gr_hasVertex [.ref a, .int v] h Q := by
  refine am_C_le hd (am_enter (d := 0) ap_Gr_hasVertex rfl ?_) (fun _ _ k => k)
  refine am_go (fun _ => false) (fun K cal Q' hK hC hQ => ?_)
  refine And.intro (fun c1 => ?_) (fun c1 => ?_)
  · refine And.intro (Or.inl rfl) (hQ _ _ ?_)
    have c1 : v < 0 := c1
    rw [show decide (0 ≤ v ∧ v < nI n) = false from decide_eq_false fun z => by have := z.1; rw [fa_le] at this; rw [fa_lt] at c1; omega] at HQ
    exact HQ
  · refine And.intro hk ?_
    refine And.intro (fun c2 => ?_) (fun c2 => ?_)
    · refine And.intro (Or.inl rfl) (hQ _ _ ?_)
      have c2 : am_i h a 0 ≤ v := c2
      rw [h0] at c2
      rw [show decide (0 ≤ v ∧ v < nI n) = false from decide_eq_false fun z => by have := z.2; rw [fa_le] at c2; rw [fa_lt] at this; omega] at HQ
      exact HQ
    · refine And.intro (Or.inr rfl) (hQ _ _ ?_)
      have c2 : ¬ am_i h a 0 ≤ v := c2
      have c1 : ¬ v < 0 := c1
      rw [h0] at c2
      rw [show decide (0 ≤ v ∧ v < nI n) = true from decide_eq_true ⟨by rw [fa_lt] at c1; rw [fa_le]; omega, by rw [fa_le] at c2; rw [fa_lt]; omega⟩] at HQ
      exact HQ
theorem q_range {n k : Nat} (hk : k < n) (hn : n < 1000) : decide (0 ≤ nI k ∧ nI k < nI n) = true := decide_eq_true ⟨nI_pos' (by omega), nI_lt hk (by omega)⟩
theorem q_range_of {n : Nat} {v : Int32} (hn : n < 1000) (h : decide (0 ≤ v ∧ v < nI n) = true) : ∃ k, k < n ∧ v = nI k := by
  have h := of_decide_eq_true h
  obtain ⟨j, hj, e⟩ := nI_of (x := v) (by have := h.1; rw [fa_le] at this; rw [fa_lt]; omega)
  refine ⟨j, ?_, e⟩
  have h2 := h.2
  rw [e] at h2
  exact (nI_ltI hj (by omega)).mp h2
/-- is a terminal: a number within, or not -/
def isT (n T : Nat) (v : Int32) : Bool := decide (0 ≤ v ∧ v < nI n) && T.testBit v.toNatClampNeg
theorem isT_nI {n T k : Nat} (hk : k < n) (hn : n < 1000) : isT n T (nI k) = T.testBit k := by unfold isT; rw [q_range hk hn, q_cl (by omega)]; rfl
set_option maxHeartbeats 4000000 in
theorem c_isTerminal {xs : am_X} {d : Nat} {h : am_H} {a n m T : Nat} {lo hi : Nat → Nat} (hd : 2 ≤ d) (hg : cg h a n m T lo hi) (v : Int32) {Q : am_Q} (HQ : Q (.inl (some (.int (bI (isT n T v))))) h) : am_C xs am_P0 d m_Gr_isTerminal [.ref a, .int v] h Q := by
  obtain ⟨⟨hk, -⟩, ⟨h0, h1, h2⟩, -, ⟨hn, hm, hT⟩, -⟩ := hg
  refine am_C_le hd (am_enter (d := 1) ap_Gr_isTerminal rfl ?_) (fun _ _ k => k)
  refine am_go (fun _ => false) (fun K cal Q' hK hC hQ => ?_)
  refine And.intro hk (hC _ _ _ _ (c_hasVertex (by decide) hk h0 v ?_))
  refine And.intro (fun c1 => ?_) (fun c1 => ?_)
  · refine And.intro (Or.inl rfl) (hQ _ _ ?_)
    have c1 := (bI_0 _).mp c1
    unfold isT at HQ
    rw [c1] at HQ
    exact HQ
  · have c1 : decide (0 ≤ v ∧ v < nI n) = true := by
      cases e : decide (0 ≤ v ∧ v < nI n) with
      | true => rfl
      | false => rw [e] at c1; exact absurd rfl c1
    obtain ⟨k, hk9, rfl⟩ := q_range_of (by omega) c1
    rw [isT_nI hk9 (by omega)] at HQ
    refine And.intro hk ?_
    have e1 : (am_i h a 2 >>> (nI k &&& 31)) &&& 1 = bI (T.testBit k) := by rw [h2]; exact q_bit (Nat.lt_of_lt_of_le hT (Nat.pow_le_pow_right (by decide) (by omega))) (by omega)
    refine And.intro (fun c2 => ?_) (fun c2 => ?_)
    · refine And.intro (Or.inl rfl) (hQ _ _ ?_)
      have c2 : bI (T.testBit k) = 0 := e1.symm.trans c2
      rw [(bI_0 _).mp c2] at HQ
      exact HQ
    · refine And.intro (Or.inr rfl) (hQ _ _ ?_)
      have c2 : ¬ bI (T.testBit k) = 0 := fun z => c2 (e1.trans z)
      cases e : T.testBit k with
      | true => rw [e] at HQ; exact HQ
      | false => rw [e] at c2; exact absurd rfl c2
set_option maxHeartbeats 4000000 in
theorem c_allVertices {xs : am_X} {d : Nat} {h : am_H} {a n : Nat} (hd : 1 ≤ d) (hk : am_k h a = (1, 2)) (h0 : am_i h a 0 = nI n) (hn : n ≤ 9) {Q : am_Q} (HQ : Q (.inl (some (.int (nI (2 ^ n - 1))))) h) : am_C xs am_P0 d m_Gr_allVertices [.ref a] h Q := by
  refine am_C_le hd (am_enter (d := 0) ap_Gr_allVertices rfl ?_) (fun _ _ k => k)
  refine am_go (fun _ => false) (fun K cal Q' hK hC hQ => ?_)
  refine And.intro hk ?_
  refine And.intro trivial (hQ _ _ ?_)
  have e : nI 1 <<< (am_i h a 0 &&& 31) - 1 = nI (2 ^ n - 1) := by
    rw [h0, q_shl n (by omega)]
    have := Nat.two_pow_pos n
    have e2 := nI_pred (2 ^ n - 1)
    rw [show 2 ^ n - 1 + 1 = 2 ^ n by omega] at e2
    exact e2
  rw [← e] at HQ
  exact HQ
/-- the edges with just one end in S; the cost of some edges; what an assignment cuts -/
def crs (lo hi : Nat → Nat) (S : Nat) (e : Nat) : Bool := S.testBit (lo e) != S.testBit (hi e)
def dif (lo hi : Nat → Nat) (lab : Nat → Int32) (e : Nat) : Bool := decide (lab (lo e) ≠ lab (hi e))
set_option maxHeartbeats 4000000 in
theorem c_endsOf {xs : am_X} {d : Nat} {h : am_H} {a n m T : Nat} {lo hi : Nat → Nat} (hd : 1 ≤ d) (hg : cg h a n m T lo hi) {e : Nat} (hlt : e < m) {Q : am_Q} (HQ : Q (.inl (some (.int (nI (2 ^ lo e ||| 2 ^ hi e))))) h) : am_C xs am_P0 d m_Gr_endsOf [.ref a, .int (nI e)] h Q := by
  obtain ⟨⟨hk, ⟨k1, k2, k3, k4, k5, k6⟩, r3, r4, r5, r6, r7, r8⟩, ⟨h0, h1, h2⟩, he, ⟨hn, hm, hT⟩, hw⟩ := hg
  obtain ⟨e1, e2⟩ := he e hlt
  obtain ⟨w1, w2⟩ := hw e hlt
  refine am_C_le hd (am_enter (d := 0) ap_Gr_endsOf rfl ?_) (fun _ _ k => k)
  refine am_go (fun _ => false) (fun K cal Q' hK hC hQ => ?_)
  refine And.intro hk (And.intro (ck_row r5 k3 rfl (by omega) (by omega)) ?_)
  refine And.intro hk (And.intro (ck_row r6 k4 rfl (by omega) (by omega)) ?_)
  refine And.intro trivial (hQ _ _ ?_)
  rw [r5, r6, q_cl (by omega), e1, e2, q_shl _ (by omega), q_shl _ (by omega), fa_or]
  exact HQ
set_option maxHeartbeats 4000000 in
theorem c_lengthOf {xs : am_X} {d : Nat} {h : am_H} {a n m T : Nat} {lo hi co : Nat → Nat} (hd : 1 ≤ d) (hg : cg h a n m T lo hi) (hc : cco h a m co) {e : Nat} (hlt : e < m) {Q : am_Q} (HQ : Q (.inl (some (.int (nI (10000 / co e))))) h) : am_C xs am_P0 d m_Gr_lengthOf [.ref a, .int (nI e)] h Q := by
  obtain ⟨⟨hk, ⟨k1, k2, k3, k4, k5, k6⟩, r3, r4, r5, r6, r7, r8⟩, ⟨h0, h1, h2⟩, he, ⟨hn, hm, hT⟩, hw⟩ := hg
  obtain ⟨e1, w1, w2⟩ := hc e hlt
  refine am_C_le hd (am_enter (d := 0) ap_Gr_lengthOf rfl ?_) (fun _ _ k => k)
  refine am_go (fun _ => false) (fun K cal Q' hK hC hQ => ?_)
  have eA : am_i h (am_r h a 8) (nI e).toNatClampNeg = nI (co e) := by rw [r8, q_cl (by omega), e1]
  refine And.intro hk (And.intro (ck_row r8 k6 rfl (by omega) (by omega)) ?_)
  refine And.intro (fun c => absurd c ?_) (fun c => ?_)
  · show ¬ am_i h (am_r h a 8) (nI e).toNatClampNeg ≤ 0
    rw [eA]
    exact nI_nle (by omega) (by omega)
  · refine And.intro hk (And.intro (ck_row r8 k6 rfl (by omega) (by omega)) (And.intro ?_ ?_))
    · show ¬ am_i h (am_r h a 8) (nI e).toNatClampNeg = 0
      rw [eA]
      exact nI_ne0 (by omega) (by omega)
    · refine And.intro trivial (hQ _ _ ?_)
      rw [eA, q_div (by omega) (by omega)]
      exact HQ
set_option maxHeartbeats 4000000 in
theorem c_borderOf {xs : am_X} {d : Nat} {h : am_H} {a n m T : Nat} {lo hi : Nat → Nat} (hd : 1 ≤ d) (hg : cg h a n m T lo hi) {S : Nat} (hS : S < 2 ^ 31) {Q : am_Q} (HQ : Q (.inl (some (.int (nI (cutm (crs lo hi S) m))))) h) : am_C xs am_P0 d m_Gr_borderOf [.ref a, .int (nI S)] h Q := by
  obtain ⟨⟨hk, ⟨k1, k2, k3, k4, k5, k6⟩, r3, r4, r5, r6, r7, r8⟩, ⟨h0, h1, h2⟩, he, ⟨hn, hm, hT⟩, hw⟩ := hg
  refine am_C_le hd (am_enter (d := 0) ap_Gr_borderOf rfl ?_) (fun _ _ k => k)
  refine am_go (fun p => p == 4) (fun K cal Q' hK hC hQ => hK _ _ _ _ ?_)
  refine am_for m (fun i L h' => h' = h ∧ L = [.ref a, .int (nI S), .int (nI (cutm (crs lo hi S) i)), .int (nI i)]) ?_ ?_ 0 (Nat.zero_le _) _ _ ⟨rfl, rfl⟩
  · rintro i hi9 L h' ⟨rfl, rfl⟩ next
    obtain ⟨e1, e2⟩ := he i hi9
    obtain ⟨w1, w2⟩ := hw i hi9
    refine am_go (fun p => p == 4) (fun K cal Q' hK hC hQ => ?_)
    refine And.intro hk (And.intro (fun c => absurd c (q_ge h1 hi9 (by omega))) (fun _ => ?_))
    refine And.intro hk (And.intro (ck_row r5 k3 rfl (by omega) (by omega)) ?_)
    refine And.intro hk (And.intro (ck_row r6 k4 rfl (by omega) (by omega)) ?_)
    have eA : (nI S >>> (am_i h' (am_r h' a 5) (nI i).toNatClampNeg &&& 31)) &&& 1 = bI (S.testBit (lo i)) := by rw [r5, q_cl (by omega), e1]; exact q_bit hS (by omega)
    have eB : (nI S >>> (am_i h' (am_r h' a 6) (nI i).toNatClampNeg &&& 31)) &&& 1 = bI (S.testBit (hi i)) := by rw [r6, q_cl (by omega), e2]; exact q_bit hS (by omega)
    refine And.intro (fun c => ?_) (fun c => ?_)
    · have c : bI (S.testBit (lo i)) = bI (S.testBit (hi i)) := eA.symm.trans (Eq.trans c eB)
      have e9 : cutm (crs lo hi S) (i + 1) = cutm (crs lo hi S) i := by
        have : crs lo hi S i = false := by unfold crs; rw [bI_inj c]; cases S.testBit (hi i) <;> rfl
        simp [cutm, this]
      exact hK _ _ _ _ (next _ _ ⟨rfl, by rw [e9, ← nI_1 i]; rfl⟩)
    · have c : ¬ bI (S.testBit (lo i)) = bI (S.testBit (hi i)) := fun z => c (Eq.trans eA (z.trans eB.symm))
      have e9 : cutm (crs lo hi S) (i + 1) = cutm (crs lo hi S) i ||| 2 ^ i := by
        have : crs lo hi S i = true := by
          unfold crs
          cases e8 : S.testBit (lo i) <;> cases e7 : S.testBit (hi i) <;> rw [e8, e7] at c <;> first | rfl | exact absurd rfl c
        simp [cutm, this]
      exact hK _ _ _ _ (next _ _ ⟨rfl, by rw [e9, ← nI_1 i, ← q_orb (by omega)]; rfl⟩)
  · rintro L h' ⟨rfl, rfl⟩
    refine am_go (fun p => p == 4) (fun K cal Q' hK hC hQ => ?_)
    exact And.intro hk (And.intro (fun _ => And.intro trivial (hQ _ _ HQ)) (fun c => absurd (q_le h1 (by omega)) c))
set_option maxHeartbeats 4000000 in
theorem c_costOfEdges {xs : am_X} {d : Nat} {h : am_H} {a n m T : Nat} {lo hi co : Nat → Nat} (hd : 1 ≤ d) (hg : cg h a n m T lo hi) (hc : cco h a m co) {E : Nat} (hE : E < 2 ^ 31) {Q : am_Q} (HQ : Q (.inl (some (.int (nI (sumE co E.testBit m))))) h) : am_C xs am_P0 d m_Gr_costOfEdges [.ref a, .int (nI E)] h Q := by
  obtain ⟨⟨hk, ⟨k1, k2, k3, k4, k5, k6⟩, r3, r4, r5, r6, r7, r8⟩, ⟨h0, h1, h2⟩, he, ⟨hn, hm, hT⟩, hw⟩ := hg
  refine am_C_le hd (am_enter (d := 0) ap_Gr_costOfEdges rfl ?_) (fun _ _ k => k)
  refine am_go (fun p => p == 4) (fun K cal Q' hK hC hQ => hK _ _ _ _ ?_)
  refine am_for m (fun i L h' => h' = h ∧ L = [.ref a, .int (nI E), .int (nI (sumE co E.testBit i)), .int (nI i)]) ?_ ?_ 0 (Nat.zero_le _) _ _ ⟨rfl, rfl⟩
  · rintro i hi9 L h' ⟨rfl, rfl⟩ next
    obtain ⟨e1, -⟩ := hc i hi9
    refine am_go (fun p => p == 4) (fun K cal Q' hK hC hQ => ?_)
    refine And.intro hk (And.intro (fun c => absurd c (q_ge h1 hi9 (by omega))) (fun _ => ?_))
    have eA : (nI E >>> (nI i &&& 31)) &&& 1 = bI (E.testBit i) := q_bit hE (by omega)
    refine And.intro (fun c => ?_) (fun c => ?_)
    · have c := (bI_0 _).mp (eA.symm.trans c)
      exact hK _ _ _ _ (next _ _ ⟨rfl, by rw [sumE_s, c, ← nI_1 i]; rfl⟩)
    · have c : E.testBit i = true := by
        cases e : E.testBit i with
        | true => rfl
        | false => rw [e] at eA; exact absurd eA c
      refine And.intro hk (And.intro (ck_row r8 k6 rfl (by omega) (by omega)) ?_)
      have eB : am_i h' (am_r h' a 8) (nI i).toNatClampNeg = nI (co i) := by rw [r8, q_cl (by omega), e1]
      exact hK _ _ _ _ (next _ _ ⟨rfl, by rw [sumE_s, c, if_pos rfl, ← nI_1 i, ← nI_add, ← eB]; rfl⟩)
  · rintro L h' ⟨rfl, rfl⟩
    refine am_go (fun p => p == 4) (fun K cal Q' hK hC hQ => ?_)
    exact And.intro hk (And.intro (fun _ => And.intro trivial (hQ _ _ HQ)) (fun c => absurd (q_le h1 (by omega)) c))
/-- the cut cost of a set -/
def cutc (m : Nat) (lo hi co : Nat → Nat) (S : Nat) : Nat := sumE co (crs lo hi S) m
theorem sumE_cutm (co : Nat → Nat) (p : Nat → Bool) (m : Nat) : sumE co (cutm p m).testBit m = sumE co p m := sumE_cong fun e he => by rw [cutm_bit]; simp [he]
theorem c_costOfSet {xs : am_X} {d : Nat} {h : am_H} {a n m T : Nat} {lo hi co : Nat → Nat} (hd : 2 ≤ d) (hg : cg h a n m T lo hi) (hc : cco h a m co) {S : Nat} (hS : S < 2 ^ 31) {Q : am_Q} (HQ : Q (.inl (some (.int (nI (cutc m lo hi co S))))) h) : am_C xs am_P0 d m_Gr_costOfSet [.ref a, .int (nI S)] h Q := by
  have hm := hg.2.2.2.1.2.1
  refine am_C_le hd (am_enter (d := 1) ap_Gr_costOfSet rfl ?_) (fun _ _ k => k)
  refine am_go (fun _ => false) (fun K cal Q' hK hC hQ => ?_)
  refine And.intro hg.1.1 (hC _ _ _ _ (c_borderOf (by decide) hg hS ?_))
  refine And.intro hg.1.1 (hC _ _ _ _ (c_costOfEdges (by decide) hg hc (cutm_lt31 _ hm) ?_))
  refine And.intro trivial (hQ _ _ ?_)
  rw [sumE_cutm]
  exact HQ
set_option maxHeartbeats 4000000 in
theorem c_presentCut {xs : am_X} {d : Nat} {h : am_H} {a n m T : Nat} {lo hi : Nat → Nat} {lab : Nat → Int32} (hd : 1 ≤ d) (hg : cg h a n m T lo hi) (hl : ∀ v, v < n → am_i h (a + 2) v = lab v) {Q : am_Q} (HQ : Q (.inl (some (.int (nI (cutm (dif lo hi lab) m))))) h) : am_C xs am_P0 d m_Gr_presentCut [.ref a] h Q := by
  obtain ⟨⟨hk, ⟨k1, k2, k3, k4, k5, k6⟩, r3, r4, r5, r6, r7, r8⟩, ⟨h0, h1, h2⟩, he, ⟨hn, hm, hT⟩, hw⟩ := hg
  refine am_C_le hd (am_enter (d := 0) ap_Gr_presentCut rfl ?_) (fun _ _ k => k)
  refine am_go (fun p => p == 4) (fun K cal Q' hK hC hQ => hK _ _ _ _ ?_)
  refine am_for m (fun i L h' => h' = h ∧ L = [.ref a, .int (nI (cutm (dif lo hi lab) i)), .int (nI i)]) ?_ ?_ 0 (Nat.zero_le _) _ _ ⟨rfl, rfl⟩
  · rintro i hi9 L h' ⟨rfl, rfl⟩ next
    obtain ⟨e1, e2⟩ := he i hi9
    obtain ⟨w1, w2⟩ := hw i hi9
    refine am_go (fun p => p == 4) (fun K cal Q' hK hC hQ => ?_)
    refine And.intro hk (And.intro (fun c => absurd c (q_ge h1 hi9 (by omega))) (fun _ => ?_))
    have eA : am_i h' (am_r h' a 5) (nI i).toNatClampNeg = nI (lo i) := by rw [r5, q_cl (by omega), e1]
    have eB : am_i h' (am_r h' a 6) (nI i).toNatClampNeg = nI (hi i) := by rw [r6, q_cl (by omega), e2]
    refine And.intro hk (And.intro hk (And.intro (ck_row r5 k3 rfl (by omega) (by omega)) ?_))
    refine And.intro (ck_row r4 k2 eA (by omega) (by omega)) ?_
    refine And.intro hk (And.intro hk (And.intro (ck_row r6 k4 rfl (by omega) (by omega)) ?_))
    refine And.intro (ck_row r4 k2 eB (by omega) (by omega)) ?_
    have eC : am_i h' (am_r h' a 4) (am_i h' (am_r h' a 5) (nI i).toNatClampNeg).toNatClampNeg = lab (lo i) := by rw [eA, r4, q_cl (by omega), hl _ (by omega)]
    have eD : am_i h' (am_r h' a 4) (am_i h' (am_r h' a 6) (nI i).toNatClampNeg).toNatClampNeg = lab (hi i) := by rw [eB, r4, q_cl (by omega), hl _ (by omega)]
    refine And.intro (fun c => ?_) (fun c => ?_)
    · have c : lab (lo i) = lab (hi i) := eC.symm.trans (Eq.trans c eD)
      have e9 : cutm (dif lo hi lab) (i + 1) = cutm (dif lo hi lab) i := by
        have : dif lo hi lab i = false := decide_eq_false fun z => z c
        simp [cutm, this]
      exact hK _ _ _ _ (next _ _ ⟨rfl, by rw [e9, ← nI_1 i]; rfl⟩)
    · have c : ¬ lab (lo i) = lab (hi i) := fun z => c (Eq.trans eC (z.trans eD.symm))
      have e9 : cutm (dif lo hi lab) (i + 1) = cutm (dif lo hi lab) i ||| 2 ^ i := by
        have : dif lo hi lab i = true := decide_eq_true c
        simp [cutm, this]
      exact hK _ _ _ _ (next _ _ ⟨rfl, by rw [e9, ← nI_1 i, ← q_orb (by omega)]; rfl⟩)
  · rintro L h' ⟨rfl, rfl⟩
    refine am_go (fun p => p == 4) (fun K cal Q' hK hC hQ => ?_)
    exact And.intro hk (And.intro (fun _ => And.intro trivial (hQ _ _ HQ)) (fun c => absurd (q_le h1 (by omega)) c))
theorem c_presentCost {xs : am_X} {d : Nat} {h : am_H} {a n m T : Nat} {lo hi co : Nat → Nat} {lab : Nat → Int32} (hd : 2 ≤ d) (hg : cg h a n m T lo hi) (hc : cco h a m co) (hl : ∀ v, v < n → am_i h (a + 2) v = lab v) {Q : am_Q} (HQ : Q (.inl (some (.int (nI (sumE co (dif lo hi lab) m))))) h) : am_C xs am_P0 d m_Gr_presentCost [.ref a] h Q := by
  have hm := hg.2.2.2.1.2.1
  refine am_C_le hd (am_enter (d := 1) ap_Gr_presentCost rfl ?_) (fun _ _ k => k)
  refine am_go (fun _ => false) (fun K cal Q' hK hC hQ => ?_)
  refine And.intro hg.1.1 (hC _ _ _ _ (c_presentCut (by decide) hg hl ?_))
  refine And.intro hg.1.1 (hC _ _ _ _ (c_costOfEdges (by decide) hg hc (cutm_lt31 _ hm) ?_))
  refine And.intro trivial (hQ _ _ ?_)
  rw [sumE_cutm]
  exact HQ
/-- whether an edge joins a and b -/
def joins (m : Nat) (lo hi : Nat → Nat) (u v : Nat) : Bool := decide (∃ e, e < m ∧ lo e = Nat.min u v ∧ hi e = Nat.max u v)
theorem q_ends {u v x y : Nat} (h1 : x < y) (h2 : u ≠ v) (h : 2 ^ x ||| 2 ^ y = 2 ^ u ||| 2 ^ v) : x = Nat.min u v ∧ y = Nat.max u v := by
  have k : ∀ i, (x = i ∨ y = i) ↔ (u = i ∨ v = i) := by
    intro i
    have := congrArg (fun z => Nat.testBit z i) h
    simp only [Nat.testBit_or, Nat.testBit_two_pow] at this
    constructor
    · intro z
      have : (decide (u = i) || decide (v = i)) = true := by rw [← this]; simpa using z
      simpa using this
    · intro z
      have : (decide (x = i) || decide (y = i)) = true := by rw [this]; simpa using z
      simpa using this
  have a1 := (k x).mp (Or.inl rfl)
  have a2 := (k y).mp (Or.inr rfl)
  have a3 := (k u).mpr (Or.inl rfl)
  have a4 := (k v).mpr (Or.inr rfl)
  show x = min u v ∧ y = max u v
  omega
set_option maxHeartbeats 4000000 in
theorem c_hasEdgeBetween {xs : am_X} {d : Nat} {h : am_H} {a n m T : Nat} {lo hi : Nat → Nat} (hd : 2 ≤ d) (hg : cg h a n m T lo hi) {u v : Nat} (hu : u < 9) (hv : v < 9) (huv : u ≠ v) {Q : am_Q} (HQ : Q (.inl (some (.int (bI (joins m lo hi u v))))) h) : am_C xs am_P0 d m_Gr_hasEdgeBetween [.ref a, .int (nI u), .int (nI v)] h Q := by
  have hg0 := hg
  obtain ⟨⟨hk, ⟨k1, k2, k3, k4, k5, k6⟩, r3, r4, r5, r6, r7, r8⟩, ⟨h0, h1, h2⟩, he, ⟨hn, hm, hT⟩, hw⟩ := hg
  refine am_C_le hd (am_enter (d := 1) ap_Gr_hasEdgeBetween rfl ?_) (fun _ _ k => k)
  refine am_go (fun p => p == 11) (fun K cal Q' hK hC hQ => hK _ _ _ _ ?_)
  have eX : (nI 1 <<< (nI u &&& 31)) ||| (nI 1 <<< (nI v &&& 31)) = nI (2 ^ u ||| 2 ^ v) := by rw [q_shl u (by omega), q_shl v (by omega), fa_or]
  have b2 : ∀ {x y : Nat}, x < 9 → y < 9 → 2 ^ x ||| 2 ^ y < 2 ^ 31 := fun {x y} hx hy => Nat.or_lt_two_pow (Nat.pow_lt_pow_right (by decide) (by omega)) (Nat.pow_lt_pow_right (by decide) (by omega))
  refine am_for m (fun i L h' => h' = h ∧ L = [.ref a, .int (nI u), .int (nI v), .int (nI (2 ^ u ||| 2 ^ v)), .int (nI i)] ∧ ∀ e, e < i → ¬ (lo e = Nat.min u v ∧ hi e = Nat.max u v)) ?_ ?_ 0 (Nat.zero_le _) _ _ ⟨rfl, by rw [← eX]; rfl, fun e he => absurd he (Nat.not_lt_zero _)⟩
  · rintro i hi9 L h' ⟨rfl, rfl, hno⟩ next
    obtain ⟨w1, w2⟩ := hw i hi9
    refine am_go (fun p => p == 11) (fun K cal Q' hK hC hQ => ?_)
    refine And.intro hk (And.intro (fun c => absurd c (q_ge h1 hi9 (by omega))) (fun _ => ?_))
    refine And.intro hk (hC _ _ _ _ (c_endsOf (by decide) hg0 hi9 ?_))
    refine And.intro (fun c => ?_) (fun c => ?_)
    · refine hK _ _ _ _ (next _ _ ⟨rfl, by rw [← nI_1 i]; rfl, fun e he2 => ?_⟩)
      by_cases z : e < i
      · exact hno e z
      · rintro ⟨q1, q2⟩
        refine c ?_
        rw [show e = i by omega] at q1 q2
        rw [q1, q2]
        show nI (2 ^ min u v ||| 2 ^ max u v) = nI (2 ^ u ||| 2 ^ v)
        congr 1
        rcases Nat.le_total u v with z9 | z9
        · rw [Nat.min_eq_left z9, Nat.max_eq_right z9]
        · rw [Nat.min_eq_right z9, Nat.max_eq_left z9, Nat.or_comm]
    · refine And.intro (Or.inr rfl) (hQ _ _ ?_)
      have c : nI (2 ^ lo i ||| 2 ^ hi i) = nI (2 ^ u ||| 2 ^ v) := Classical.not_not.mp c
      have c := (nI_eq (b2 (by omega) (by omega)) (b2 hu hv)).mp c
      rw [show joins m lo hi u v = true from decide_eq_true ⟨i, hi9, q_ends w1 huv c⟩] at HQ
      exact HQ
  · rintro L h' ⟨rfl, rfl, hno⟩
    refine am_go (fun p => p == 11) (fun K cal Q' hK hC hQ => ?_)
    refine And.intro hk (And.intro (fun _ => And.intro (Or.inl rfl) (hQ _ _ ?_)) (fun c => absurd (q_le h1 (by omega)) c))
    rw [show joins m lo hi u v = false from decide_eq_false fun ⟨e, z1, z2⟩ => hno e z1 z2] at HQ
    exact HQ
end
section
/-! CUTS: the class's searches over sets of vertices -/
def pcn (s : Nat) : Nat := fb_ct s.testBit 9
theorem pcn_le (s : Nat) : pcn s ≤ 9 := fb_ct_le _ 9
def ush (x : Int32) (k : Int32) : Int32 := (x.toUInt32 >>> (k.toUInt32 &&& Int32.toUInt32 31)).toInt32
def bc1 (x : Int32) : Int32 := x - (ush x (nI 1) &&& nI 1431655765)
def bc2 (x : Int32) : Int32 := (x &&& nI 858993459) + (ush x (nI 2) &&& nI 858993459)
def bc3 (x : Int32) : Int32 := (x + ush x (nI 4)) &&& nI 252645135
def bc4 (x : Int32) : Int32 := x + ush x (nI 8)
def bc5 (x : Int32) : Int32 := x + ush x (nI 16)
theorem q_bc : ∀ s, s < 512 → bc5 (bc4 (bc3 (bc2 (bc1 (nI s))))) &&& nI 63 = nI (pcn s) := by decide +kernel
set_option maxHeartbeats 4000000 in
theorem c_bitCount {xs : am_X} {d : Nat} {h : am_H} (hd : 1 ≤ d) {s : Nat} (hs : s < 512) {Q : am_Q} (HQ : Q (.inl (some (.int (nI (pcn s))))) h) : am_C xs am_P0 d m_JI_bitCount [.int (nI s)] h Q := by
  refine am_C_le hd (am_enter (d := 0) ap_JI_bitCount rfl ?_) (fun _ _ k => k)
  refine am_go (fun _ => false) (fun K cal Q' hK hC hQ => ?_)
  refine And.intro trivial (hQ _ _ ?_)
  rw [← q_bc s hs] at HQ
  exact HQ
/-- the best set: the first in their order with the least key -/
def isb (key : Nat → Nat) (cand : Nat → Prop) (b : Nat) : Prop := cand b ∧ (∀ S, cand S → key b ≤ key S) ∧ ∀ S, cand S → S < b → key b < key S
theorem isb.one {key : Nat → Nat} {cand : Nat → Prop} {a b : Nat} (ha : isb key cand a) (hb : isb key cand b) : a = b := by
  rcases Nat.lt_trichotomy a b with h | h | h
  · have h1 := hb.2.2 a ha.1 h
    have h2 := ha.2.1 b hb.1
    omega
  · exact h
  · have h1 := ha.2.2 b hb.1 h
    have h2 := hb.2.1 a ha.1
    omega
noncomputable def bst (key : Nat → Nat) (cand : Nat → Prop) : Nat := Classical.epsilon (isb key cand)
theorem bst_eq {key : Nat → Nat} {cand : Nat → Prop} {b : Nat} (h : isb key cand b) : bst key cand = b := isb.one (Classical.epsilon_spec ⟨b, h⟩) h
def skey (c : Nat → Nat) (large : Bool) (S : Nat) : Nat := c S * 16 + (if large then 9 - pcn S else pcn S)
/-- sets of vertices with W, without X -/
def cnd (n W X S : Nat) : Prop := S < 2 ^ n ∧ (∀ i, W.testBit i = true → S.testBit i = true) ∧ ∀ i, X.testBit i = true → S.testBit i = false
noncomputable def bset (n : Nat) (c : Nat → Nat) (large : Bool) (W X : Nat) : Nat := bst (skey c large) (cnd n W X)
theorem q_or_add {a b : Nat} (ha : a < 2 ^ 9) (hb : b < 2 ^ 9) (h : ∀ i, a.testBit i = true → b.testBit i = false) : a ||| b = a + b := by
  have e : BitVec.ofNat 32 a + BitVec.ofNat 32 b = BitVec.ofNat 32 a ||| BitVec.ofNat 32 b := BitVec.add_eq_or_of_and_eq_zero _ _ (by
    apply BitVec.eq_of_getLsbD_eq
    intro i hi
    rw [BitVec.getLsbD_and, BitVec.getLsbD_ofNat, BitVec.getLsbD_ofNat]
    cases e : a.testBit i with
    | false => simp
    | true => simp [h i e])
  have e2 := congrArg BitVec.toNat e
  rw [BitVec.toNat_add, BitVec.toNat_or, BitVec.toNat_ofNat, BitVec.toNat_ofNat, Nat.mod_eq_of_lt (show a < 2 ^ 32 by omega), Nat.mod_eq_of_lt (show b < 2 ^ 32 by omega), Nat.mod_eq_of_lt (show a + b < 2 ^ 32 by omega)] at e2
  exact e2.symm
theorem q_andn_0 {x f : Nat} : andn x f = 0 ↔ ∀ i, x.testBit i = true → f.testBit i = true := by
  constructor
  · intro h i hi
    have := congrArg (fun z => Nat.testBit z i) h
    simp only [andn_bit, hi, Nat.zero_testBit] at this
    simpa using this
  · intro h
    apply Nat.eq_of_testBit_eq
    intro i
    rw [andn_bit, Nat.zero_testBit]
    cases e : x.testBit i with
    | false => rfl
    | true => rw [h i e]; rfl
theorem q_le_of_sub {x f : Nat} (h : ∀ i, x.testBit i = true → f.testBit i = true) : x ≤ f := by
  have e : x &&& f = x := by
    apply Nat.eq_of_testBit_eq
    intro i
    rw [Nat.testBit_and]
    cases e : x.testBit i with
    | false => rfl
    | true => rw [h i e]; rfl
  rw [← e]
  exact Nat.and_le_right
theorem skey_lt {c : Nat → Nat} {large : Bool} {S b : Nat} : skey c large S < skey c large b ↔ c S < c b ∨ (c S = c b ∧ (if large then pcn b < pcn S else pcn S < pcn b)) := by
  unfold skey
  have h1 := pcn_le S
  have h2 := pcn_le b
  cases large <;> simp only [Bool.false_eq_true, if_false, if_true] <;> omega
theorem pow_le9 {n : Nat} (h : n ≤ 9) : 2 ^ n ≤ 2 ^ 9 := Nat.pow_le_pow_right (by decide) h
theorem pow_le31 {n : Nat} (h : n ≤ 30) : 2 ^ n < 2 ^ 31 := Nat.pow_lt_pow_right (by decide) (by omega)
/-- the loop's own result: the best of base and some of the free ones, up to k -/
def cnk (base free k S : Nat) : Prop := ∃ x, x ≤ k ∧ (∀ i, x.testBit i = true → free.testBit i = true) ∧ S = base ||| x
theorem q_subI {a b : Nat} (ha : a < 1000) (hb : b < 1000) : (nI a - nI b).toInt = (a : Int) - b := by
  rw [fb_subI] <;> rw [nI_toInt (by omega), nI_toInt (by omega)] <;> omega
set_option maxHeartbeats 4000000 in
theorem c_cheapestSet {xs : am_X} {d : Nat} {h : am_H} {a n m T : Nat} {lo hi co : Nat → Nat} (hd : 3 ≤ d) (hg : cg h a n m T lo hi) (hc : cco h a m co) {base free X : Nat} (large : Bool) (hb : base < 2 ^ n) (hf : ∀ i, free.testBit i = (decide (i < n) && !base.testBit i && !X.testBit i)) (hX : ∀ i, X.testBit i = true → base.testBit i = false) {Q : am_Q} (HQ : Q (.inl (some (.int (nI (bset n (cutc m lo hi co) large base X))))) h) : am_C xs am_P0 d m_Cu_cheapestSet [.ref a, .int (nI base), .int (nI free), .int (bI large)] h Q := by
  have hg0 := hg
  obtain ⟨⟨hk, -⟩, ⟨h0, h1, h2⟩, he, ⟨hn, hm, hT⟩, hw⟩ := hg
  have hn9 := pow_le9 hn
  have hfl : free < 2 ^ n := q_lt_of_bits fun i hi => by rw [hf]; simp [Nat.not_lt.mpr hi]
  have hbf : ∀ i, base.testBit i = true → free.testBit i = false := fun i z => by rw [hf, z]; simp
  have cle : ∀ S, cutc m lo hi co S ≤ 20 * 9999 := fun S => Nat.le_trans (sumE_le (c := 9999) (fun e he => (hc e he).2.2)) (Nat.mul_le_mul_right _ hm)
  generalize hcc : cutc m lo hi co = c at HQ cle
  have orlt : ∀ x, x ≤ free → base ||| x < 512 := fun x hx => Nat.or_lt_two_pow (n := 9) (by omega) (by omega)
  have addx : ∀ x, (∀ i, x.testBit i = true → free.testBit i = true) → base ||| x = base + x := fun x hx => q_or_add (by omega) (by have := q_le_of_sub hx; omega) (fun i z => by
    cases e : x.testBit i with
    | false => rfl
    | true => have := hx i e; rw [hbf i z] at this; cases this)
  have cS : ∀ x, x ≤ free → ∀ {Q : am_Q}, Q (.inl (some (.int (nI (c (base ||| x)))))) h → am_C xs am_P0 2 m_Gr_costOfSet [.ref a, .int (nI (base ||| x))] h Q := fun x hx Q q => c_costOfSet (by decide) hg0 hc (by have := orlt x hx; omega) (by rw [hcc]; exact q)
  refine am_C_le hd (am_enter (d := 2) ap_Cu_cheapestSet rfl ?_) (fun _ _ k => k)
  refine am_go (fun p => p == 13) (fun K cal Q' hK hC hQ => ?_)
  have hS0 : base ||| 0 = base := Nat.or_zero base
  refine And.intro hk (hC _ _ _ _ (c_costOfSet (by decide) hg0 hc (by omega) ?_))
  rw [hcc]
  refine hK _ _ _ _ ?_
  refine am_for free (fun i L h' => ∃ b v7 v8 v9, h' = h ∧ L = [.ref a, .int (nI base), .int (nI free), .int (bI large), .int (nI b), .int (nI (c b)), .int (nI (i + 1)), v7, v8, v9] ∧ isb (skey c large) (cnk base free i) b) ?_ ?_ 0 (Nat.zero_le _) _ _ ⟨base, am_J, am_J, am_J, rfl, rfl, ?_⟩
  · rintro i hi9 L h' ⟨b, v7, v8, v9, rfl, rfl, hb9⟩ next
    obtain ⟨xb, xb1, xb2, xb3⟩ := hb9.1
    have hb5 : b < 512 := by rw [xb3]; exact orlt xb (by omega)
    refine am_go (fun p => p == 13) (fun K cal Q' hK hC hQ => ?_)
    refine And.intro (fun z => absurd z (nI_nlt (by omega) (by omega))) (fun _ => ?_)
    have eA : nI (i + 1) &&& (nI free ^^^ -nI 1) = nI (andn (i + 1) free) := q_andn _ _
    have keep : ¬ ((∀ j, (i + 1).testBit j = true → free.testBit j = true) ∧ skey c large (base ||| (i + 1)) < skey c large b) → isb (skey c large) (cnk base free (i + 1)) b := by
      intro hno
      refine ⟨⟨xb, by omega, xb2, xb3⟩, ?_, ?_⟩
      · rintro S ⟨x, x1, x2, rfl⟩
        by_cases z : x ≤ i
        · exact hb9.2.1 _ ⟨x, z, x2, rfl⟩
        · have : x = i + 1 := by omega
          subst this
          exact Nat.not_lt.mp fun w => hno ⟨x2, w⟩
      · rintro S ⟨x, x1, x2, rfl⟩ hlt
        by_cases z : x ≤ i
        · exact hb9.2.2 _ ⟨x, z, x2, rfl⟩ hlt
        · rw [addx x x2, xb3, addx xb xb2] at hlt
          omega
    refine And.intro (fun z => ?_) (fun z => ?_)
    · have hsub := q_andn_0.mp ((nI_eq (by have := andn_lt (k := 9) free (show i + 1 < 2 ^ 9 by omega); omega) (by omega)).mp ((eA.symm.trans z).trans nI_0.symm))
      have hS5 := orlt (i + 1) (by omega)
      have eO : nI base ||| nI (i + 1) = nI (base ||| (i + 1)) := fa_or _ _
      refine And.intro hk ?_
      rw [eO]
      refine hC _ _ _ _ (cS (i + 1) (by omega) ?_)
      refine And.intro trivial (hC _ _ _ _ (c_bitCount (by decide) hS5 ?_))
      refine And.intro trivial (hC _ _ _ _ (c_bitCount (by decide) hb5 ?_))
      have hp1 := pcn_le (base ||| (i + 1))
      have hp2 := pcn_le b
      have hc1 := cle (base ||| (i + 1))
      have hc2 := cle b
      have hsb := q_subI (a := pcn (base ||| (i + 1))) (b := pcn b) (by omega) (by omega)
      have upd9 : skey c large (base ||| (i + 1)) < skey c large b → isb (skey c large) (cnk base free (i + 1)) (base ||| (i + 1)) := by
        intro hlt
        refine ⟨⟨i + 1, Nat.le_refl _, hsub, rfl⟩, ?_, ?_⟩
        · rintro S ⟨x, x1, x2, rfl⟩
          by_cases z : x ≤ i
          · have := hb9.2.1 _ ⟨x, z, x2, rfl⟩; omega
          · have : x = i + 1 := by omega
            subst this
            exact Nat.le_refl _
        · rintro S ⟨x, x1, x2, rfl⟩ hl2
          by_cases z : x ≤ i
          · have := hb9.2.1 _ ⟨x, z, x2, rfl⟩; omega
          · have : x = i + 1 := by omega
            subst this
            omega
      have fU : skey c large (base ||| (i + 1)) < skey c large b → am_W xs (am_code at_Cu_cheapestSet) (am_hd ah_Cu_cheapestSet) (am_C xs am_P0 2) Q 13 [.ref a, .int (nI base), .int (nI free), .int (bI large), .int (nI (base ||| (i + 1))), .int (nI (c (base ||| (i + 1)))), .int (nI (i + 2)), .int (nI (base ||| (i + 1))), .int (nI (c (base ||| (i + 1)))), .int (nI (pcn (base ||| (i + 1))) - nI (pcn b))] [] h' := fun hlt => next _ _ ⟨_, _, _, _, rfl, rfl, upd9 hlt⟩
      have fK : ¬ skey c large (base ||| (i + 1)) < skey c large b → am_W xs (am_code at_Cu_cheapestSet) (am_hd ah_Cu_cheapestSet) (am_C xs am_P0 2) Q 13 [.ref a, .int (nI base), .int (nI free), .int (bI large), .int (nI b), .int (nI (c b)), .int (nI (i + 2)), .int (nI (base ||| (i + 1))), .int (nI (c (base ||| (i + 1)))), .int (nI (pcn (base ||| (i + 1))) - nI (pcn b))] [] h' := fun hlt => next _ _ ⟨_, _, _, _, rfl, rfl, keep fun w => hlt w.2⟩
      have eI : am_inc (nI (i + 1)) (Int.ofNat 1) = nI (i + 2) := nI_1 (i + 1)
      rw [← eI] at fU fK
      rw [skey_lt] at fU fK
      refine And.intro (fun w => ?_) (fun w => ?_)
      · exact hK _ _ _ _ (fU (Or.inl ((nI_ltI (by omega) (by omega)).mp w)))
      · have w := fun q => w ((nI_ltI (by omega) (by omega)).mpr q)
        refine And.intro (fun w2 => ?_) (fun w2 => ?_)
        · have w2 := fun q => w2 ((nI_eq (by omega) (by omega)).mpr q)
          exact hK _ _ _ _ (fK (fun q => q.elim w (fun q => w2 q.1)))
        · have w2 := (nI_eq (by omega) (by omega)).mp (Classical.not_not.mp w2)
          refine And.intro (fun w3 => ?_) (fun w3 => ?_)
          · have w3 := (bI_0 _).mp w3
            subst w3
            refine And.intro (fun w4 => ?_) (fun w4 => ?_)
            · have w4 : (0 : Int32) ≤ nI (pcn (base ||| (i + 1))) - nI (pcn b) := w4
              rw [fa_le, hsb] at w4
              have : (0 : Int32).toInt = 0 := rfl
              exact hK _ _ _ _ (fK (fun q => q.elim w (fun q => by simp at q; omega)))
            · have w4 : ¬ (0 : Int32) ≤ nI (pcn (base ||| (i + 1))) - nI (pcn b) := w4
              rw [fa_le, hsb] at w4
              have : (0 : Int32).toInt = 0 := rfl
              exact hK _ _ _ _ (fU (Or.inr ⟨w2, by simp; omega⟩))
          · have w3 : large = true := by cases large; exact absurd rfl w3; rfl
            subst w3
            refine And.intro (fun w4 => ?_) (fun w4 => ?_)
            · have w4 : nI (pcn (base ||| (i + 1))) - nI (pcn b) ≤ 0 := w4
              rw [fa_le, hsb] at w4
              have : (0 : Int32).toInt = 0 := rfl
              exact hK _ _ _ _ (fK (fun q => q.elim w (fun q => by simp at q; omega)))
            · have w4 : ¬ nI (pcn (base ||| (i + 1))) - nI (pcn b) ≤ 0 := w4
              rw [fa_le, hsb] at w4
              have : (0 : Int32).toInt = 0 := rfl
              exact hK _ _ _ _ (fU (Or.inr ⟨w2, by simp; omega⟩))
    · have z : ¬ nI (andn (i + 1) free) = 0 := fun q => z (eA.trans q)
      refine hK _ _ _ _ (next _ _ ⟨b, v7, v8, v9, rfl, by rw [← nI_1 (i + 1)]; rfl, keep fun w => z ?_⟩)
      rw [q_andn_0.mpr w.1]
      rfl
  · rintro L h' ⟨b, v7, v8, v9, rfl, rfl, hb9⟩
    refine am_go (fun p => p == 13) (fun K cal Q' hK hC hQ => ?_)
    refine And.intro (fun _ => And.intro trivial (hQ _ _ ?_)) (fun z => absurd (nI_lt (by omega) (by omega)) z)
    have cc : ∀ S, cnd n base X S ↔ cnk base free free S := by
      intro S
      constructor
      · rintro ⟨s1, s2, s3⟩
        have sub : ∀ i, (andn S base).testBit i = true → free.testBit i = true := by
          intro i z
          rw [andn_bit] at z
          rw [hf]
          cases e : S.testBit i with
          | false => rw [e] at z; cases z
          | true =>
            rw [e] at z
            have hin : i < n := by
              refine Nat.not_le.mp fun q => ?_
              rw [Nat.testBit_lt_two_pow (Nat.lt_of_lt_of_le s1 (Nat.pow_le_pow_right (by decide) q))] at e
              cases e
            have hx : X.testBit i = false := by
              cases ex : X.testBit i with
              | false => rfl
              | true => rw [s3 i ex] at e; cases e
            rw [hx]
            simpa [hin] using z
        refine ⟨andn S base, q_le_of_sub sub, sub, ?_⟩
        apply Nat.eq_of_testBit_eq
        intro i
        rw [Nat.testBit_or, andn_bit]
        cases e : base.testBit i with
        | false => simp
        | true => rw [s2 i e]; rfl
      · rintro ⟨x, x1, x2, rfl⟩
        refine ⟨Nat.or_lt_two_pow hb (by omega), fun i z => by rw [Nat.testBit_or, z]; rfl, fun i z => ?_⟩
        rw [Nat.testBit_or, hX i z]
        cases e : x.testBit i with
        | false => rfl
        | true =>
          have := x2 i e
          rw [hf, z] at this
          simp at this
    have hfin : bset n c large base X = b := bst_eq ⟨(cc b).mpr hb9.1, fun S hS => hb9.2.1 S ((cc S).mp hS), fun S hS => hb9.2.2 S ((cc S).mp hS)⟩
    rw [hfin] at HQ
    exact HQ
  · refine ⟨⟨0, Nat.le_refl _, (fun i z => by rw [Nat.zero_testBit] at z; cases z), hS0.symm⟩, ?_, ?_⟩
    · rintro S ⟨x, x1, x2, rfl⟩
      rw [show x = 0 by omega, hS0]
      exact Nat.le_refl _
    · rintro S ⟨x, x1, x2, rfl⟩ hl
      rw [show x = 0 by omega, hS0] at hl
      omega
end
section
/-! CUTS, 2 -/
theorem nat_min {p : Nat → Prop} (h : ∃ n, p n) : ∃ n, p n ∧ ∀ m, p m → n ≤ m := by
  obtain ⟨n, hn⟩ := h
  induction n using Nat.strongRecOn with
  | ind n ih =>
    by_cases e : ∃ m, m < n ∧ p m
    · obtain ⟨m, h1, h2⟩ := e
      exact ih m h1 h2
    · exact ⟨n, hn, fun m hm => Nat.not_lt.mp fun q => e ⟨m, q, hm⟩⟩
theorem isb_ex {key : Nat → Nat} {cand : Nat → Prop} (h : ∃ S, cand S) : ∃ b, isb key cand b := by
  obtain ⟨k, ⟨S, h1, h2⟩, h3⟩ := nat_min (p := fun k => ∃ S, cand S ∧ key S = k) (by obtain ⟨S, hS⟩ := h; exact ⟨key S, S, hS, rfl⟩)
  obtain ⟨b, ⟨g1, g2⟩, g3⟩ := nat_min (p := fun b => cand b ∧ key b = k) ⟨S, h1, h2⟩
  refine ⟨b, g1, fun S hS => by rw [g2]; exact h3 _ ⟨S, hS, rfl⟩, fun S hS hl => ?_⟩
  have a1 := h3 _ ⟨S, hS, rfl⟩
  refine Nat.lt_of_le_of_ne (by rw [g2]; exact a1) fun e => ?_
  have := g3 S ⟨hS, by rw [← e, g2]⟩
  omega
theorem bst_isb {key : Nat → Nat} {cand : Nat → Prop} (h : ∃ S, cand S) : isb key cand (bst key cand) := Classical.epsilon_spec (isb_ex h)
theorem bset_isb {n : Nat} {c : Nat → Nat} {l : Bool} {W X : Nat} (h : ∃ S, cnd n W X S) : isb (skey c l) (cnd n W X) (bset n c l W X) := bst_isb h
/-- the isolating set of t -/
noncomputable def iso (n : Nat) (c : Nat → Nat) (T t : Nat) : Nat := bset n c false (2 ^ t) (andn T (2 ^ t))
theorem q_tw (t i : Nat) : (2 ^ t).testBit i = decide (t = i) := Nat.testBit_two_pow
theorem iso_ex {n T t : Nat} (ht : t < n) : ∃ S, cnd n (2 ^ t) (andn T (2 ^ t)) S := ⟨2 ^ t, Nat.pow_lt_pow_right (by decide) ht, fun i h => h, fun i h => by
  rw [andn_bit] at h
  cases e : (2 ^ t).testBit i with
  | false => rfl
  | true => rw [e] at h; simp at h⟩
theorem iso_isb {n : Nat} {c : Nat → Nat} {T t : Nat} (ht : t < n) : isb (skey c false) (cnd n (2 ^ t) (andn T (2 ^ t))) (iso n c T t) := bset_isb (iso_ex ht)
theorem iso_lt {n : Nat} {c : Nat → Nat} {T t : Nat} (ht : t < n) : iso n c T t < 2 ^ n := (iso_isb ht).1.1
theorem q_all_bit (n i : Nat) : (2 ^ n - 1).testBit i = decide (i < n) := Nat.testBit_two_pow_sub_one n i
set_option maxHeartbeats 4000000 in
theorem c_setOf {xs : am_X} {d : Nat} {h : am_H} {a n m T : Nat} {lo hi co : Nat → Nat} (hd : 4 ≤ d) (hg : cg h a n m T lo hi) (hc : cco h a m co) {t : Nat} (ht : t < n) (hTt : T.testBit t = true) {Q : am_Q} (HQ : Q (.inl (some (.int (nI (iso n (cutc m lo hi co) T t))))) h) : am_C xs am_P0 d m_Cu_setOf [.ref a, .int (nI t)] h Q := by
  have hg0 := hg
  obtain ⟨⟨hk, -⟩, ⟨h0, h1, h2⟩, he, ⟨hn, hm, hT⟩, hw⟩ := hg
  refine am_C_le hd (am_enter (d := 3) ap_Cu_setOf rfl ?_) (fun _ _ k => k)
  refine am_go (fun _ => false) (fun K cal Q' hK hC hQ => ?_)
  refine And.intro hk (hC _ _ _ _ (c_allVertices (by decide) hk h0 hn ?_))
  refine And.intro hk (And.intro trivial ?_)
  have e1 : nI (2 ^ n - 1) &&& (am_i h a 2 ^^^ -nI 1) = nI (andn (2 ^ n - 1) T) := by rw [h2]; exact q_andn _ _
  have e2 : nI 1 <<< (nI t &&& 31) = nI (2 ^ t) := q_shl t (by omega)
  show cal m_Cu_cheapestSet [.ref a, .int (nI 1 <<< (nI t &&& 31)), .int (nI (2 ^ n - 1) &&& (am_i h a 2 ^^^ -nI 1)), .int (bI false)] h _
  rw [e1, e2]
  refine hC _ _ _ _ (c_cheapestSet (X := andn T (2 ^ t)) (by decide) hg0 hc false (Nat.pow_lt_pow_right (by decide) ht) (fun i => ?_) (fun i z => ?_) ?_)
  · rw [andn_bit, andn_bit, q_all_bit, q_tw]
    by_cases z : t = i
    · subst z; simp [hTt]
    · simp [z]
  · rw [andn_bit] at z
    cases e : (2 ^ t).testBit i with
    | false => rfl
    | true => rw [e] at z; simp at z
  · exact And.intro trivial (hQ _ _ HQ)
/-- its value -/
noncomputable def isv (n m T : Nat) (lo hi co : Nat → Nat) (t : Nat) : Nat := cutc m lo hi co (iso n (cutc m lo hi co) T t)
theorem c_valueOf {xs : am_X} {d : Nat} {h : am_H} {a n m T : Nat} {lo hi co : Nat → Nat} (hd : 5 ≤ d) (hg : cg h a n m T lo hi) (hc : cco h a m co) {t : Nat} (ht : t < n) (hTt : T.testBit t = true) {Q : am_Q} (HQ : Q (.inl (some (.int (nI (isv n m T lo hi co t))))) h) : am_C xs am_P0 d m_Cu_valueOf [.ref a, .int (nI t)] h Q := by
  have hn := hg.2.2.2.1.1
  refine am_C_le hd (am_enter (d := 4) ap_Cu_valueOf rfl ?_) (fun _ _ k => k)
  refine am_go (fun _ => false) (fun K cal Q' hK hC hQ => ?_)
  refine And.intro trivial (hC _ _ _ _ (c_setOf (by decide) hg hc ht hTt ?_))
  refine And.intro hg.1.1 (hC _ _ _ _ (c_costOfSet (by decide) hg hc (Nat.lt_trans (iso_lt ht) (pow_le31 (by omega))) ?_))
  exact And.intro trivial (hQ _ _ HQ)
theorem cutc_le {m : Nat} {lo hi co : Nat → Nat} (hm : m ≤ 20) (hc : ∀ e, e < m → co e ≤ 9999) (S : Nat) : cutc m lo hi co S ≤ 20 * 9999 := Nat.le_trans (sumE_le hc) (Nat.mul_le_mul_right _ hm)
/-- the dearest of the first v: the first greatest -/
def dea (val : Nat → Nat) (T : Nat) : Nat → Option Nat
  | 0 => none
  | v + 1 => if T.testBit v then (match dea val T v with
    | none => some v
    | some b => if val b < val v then some v else some b) else dea val T v
def oI (o : Option Nat) : Int32 := match o with
  | none => -nI 1
  | some v => nI v
def oV (val : Nat → Nat) (o : Option Nat) : Int32 := match o with
  | none => -nI 1
  | some v => nI (val v)
theorem dea_lt {val : Nat → Nat} {T : Nat} : ∀ {v b : Nat}, dea val T v = some b → b < v ∧ T.testBit b = true
  | 0, b, h => by cases h
  | v + 1, b, h => by
    unfold dea at h
    split at h
    · rename_i hT
      split at h
      · cases h; exact ⟨Nat.lt_succ_self _, hT⟩
      · rename_i b0 e
        split at h
        · cases h; exact ⟨Nat.lt_succ_self _, hT⟩
        · cases h; exact ⟨Nat.lt_succ_of_lt (dea_lt e).1, (dea_lt e).2⟩
    · exact ⟨Nat.lt_succ_of_lt (dea_lt h).1, (dea_lt h).2⟩
theorem nI_m1 : (-nI 1 : Int32).toInt = -1 := by decide
theorem oI_eq {v : Nat} {o : Option Nat} (hv : v < 1000) (ho : ∀ b, o = some b → b < 1000) : nI v = oI o ↔ o = some v := by
  cases o with
  | none =>
    constructor
    · intro h
      rw [fa_eq, nI_toInt (by omega)] at h
      have : (oI none).toInt = -1 := nI_m1
      omega
    · intro h; cases h
  | some b =>
    have := ho b rfl
    show nI v = nI b ↔ _
    rw [nI_eq (by omega) (by omega)]
    exact ⟨fun h => by rw [h], fun h => (Option.some.inj h).symm⟩
set_option maxHeartbeats 4000000 in
theorem c_dearestOf {xs : am_X} {d : Nat} {h : am_H} {a n m T : Nat} {lo hi co : Nat → Nat} (hd : 6 ≤ d) (hg : cg h a n m T lo hi) (hc : cco h a m co) {Q : am_Q} (HQ : Q (.inl (some (.int (oI (dea (isv n m T lo hi co) T n))))) h) : am_C xs am_P0 d m_Cu_dearestOf [.ref a] h Q := by
  have hg0 := hg
  obtain ⟨⟨hk, -⟩, ⟨h0, h1, h2⟩, he, ⟨hn, hm, hT⟩, hw⟩ := hg
  have vle : ∀ t, isv n m T lo hi co t ≤ 20 * 9999 := fun t => cutc_le hm (fun e he => (hc e he).2.2) _
  refine am_C_le hd (am_enter (d := 5) ap_Cu_dearestOf rfl ?_) (fun _ _ k => k)
  refine am_go (fun p => p == 6) (fun K cal Q' hK hC hQ => hK _ _ _ _ ?_)
  refine am_for n (fun i L h' => ∃ v4, h' = h ∧ L = [.ref a, .int (oI (dea (isv n m T lo hi co) T i)), .int (oV (isv n m T lo hi co) (dea (isv n m T lo hi co) T i)), .int (nI i), v4]) ?_ ?_ 0 (Nat.zero_le _) _ _ ⟨am_J, rfl, rfl⟩
  · rintro i hi9 L h' ⟨v4, rfl, rfl⟩ next
    refine am_go (fun p => p == 6) (fun K cal Q' hK hC hQ => ?_)
    refine And.intro hk (And.intro (fun z => absurd z (q_ge h0 hi9 (by omega))) (fun _ => ?_))
    refine And.intro hk (hC _ _ _ _ (c_isTerminal (by decide) hg0 _ ?_))
    rw [isT_nI hi9 (by omega)]
    have eI : am_inc (nI i) (Int.ofNat 1) = nI (i + 1) := nI_1 i
    rw [← eI] at next
    cases hTi : T.testBit i with
    | false =>
      refine And.intro (fun z => ?_) (fun z => absurd rfl z)
      have e9 : dea (isv n m T lo hi co) T (i + 1) = dea (isv n m T lo hi co) T i := by
        rw [dea, if_neg (by rw [hTi]; decide)]
      refine And.intro (fun _ => ?_) (fun z => absurd ?_ z)
      · exact hK _ _ _ _ (next _ _ ⟨_, rfl, by rw [e9]; rfl⟩)
      · show -nI 1 ≤ oV _ (dea _ T i)
        rw [fa_le, nI_m1]
        cases dea (isv n m T lo hi co) T i with
        | none => exact Int.le_refl _
        | some b => have := vle b; show _ ≤ (nI _).toInt; rw [nI_toInt (by omega)]; omega
    | true =>
      refine And.intro (fun z => absurd z q_t1) (fun _ => ?_)
      refine And.intro trivial (hC _ _ _ _ (c_valueOf (by decide) hg0 hc hi9 hTi ?_))
      have hv := vle i
      have e9 : dea (isv n m T lo hi co) T (i + 1) = (match dea (isv n m T lo hi co) T i with | none => some i | some b => if isv n m T lo hi co b < isv n m T lo hi co i then some i else some b) := by
        rw [dea, if_pos hTi]
      cases hD : dea (isv n m T lo hi co) T i with
      | none =>
        rw [hD] at e9
        refine And.intro (fun z => absurd z ?_) (fun _ => ?_)
        · show ¬ nI (isv n m T lo hi co i) ≤ -nI 1
          rw [fa_le, nI_m1, nI_toInt (by omega)]
          omega
        · exact hK _ _ _ _ (next _ _ ⟨_, rfl, by rw [e9]; rfl⟩)
      | some b =>
        rw [hD] at e9
        have hvb := vle b
        refine And.intro (fun z => ?_) (fun z => ?_)
        · have z := (nI_leI (by omega) (by omega)).mp z
          exact hK _ _ _ _ (next _ _ ⟨_, rfl, by rw [e9]; simp only; rw [if_neg (by omega)]; rfl⟩)
        · have z := Nat.not_le.mp fun q => z ((nI_leI (by omega) (by omega)).mpr q)
          exact hK _ _ _ _ (next _ _ ⟨_, rfl, by rw [e9]; simp only; rw [if_pos (by omega)]; rfl⟩)
  · rintro L h' ⟨v4, rfl, rfl⟩
    refine am_go (fun p => p == 6) (fun K cal Q' hK hC hQ => ?_)
    exact And.intro hk (And.intro (fun _ => And.intro trivial (hQ _ _ HQ)) (fun z => absurd (q_le h0 (by omega)) z))
/-- the edges of the union cut -/
def uniB (n : Nat) (lo hi : Nat → Nat) (S : Nat → Nat) (T : Nat) (o : Option Nat) (e : Nat) : Bool := decide (∃ v, v < n ∧ T.testBit v = true ∧ o ≠ some v ∧ crs lo hi (S v) e = true)
end
section
/-! CUTS, 3: what a set of edges leaves joined; labels by sets -/
def est (lo hi : Nat → Nat) (rem R e : Nat) : Nat := if rem.testBit e = false ∧ (R.testBit (lo e) || R.testBit (hi e)) = true then R ||| (2 ^ lo e ||| 2 ^ hi e) else R
def pas (lo hi : Nat → Nat) (rem R : Nat) : Nat → Nat
  | 0 => R
  | e + 1 => est lo hi rem (pas lo hi rem R e) e
def rch (m : Nat) (lo hi : Nat → Nat) (rem s : Nat) : Nat → Nat
  | 0 => 2 ^ s
  | p + 1 => pas lo hi rem (rch m lo hi rem s p) m
theorem est_lt {n m : Nat} {lo hi : Nat → Nat} {rem R e : Nat} (hw : ∀ e, e < m → lo e < hi e ∧ hi e < n) (he : e < m) (hR : R < 2 ^ n) : est lo hi rem R e < 2 ^ n := by
  have := hw e he
  unfold est
  split
  · exact Nat.or_lt_two_pow hR (Nat.or_lt_two_pow (Nat.pow_lt_pow_right (by decide) (by omega)) (Nat.pow_lt_pow_right (by decide) (by omega)))
  · exact hR
theorem pas_lt {n m : Nat} {lo hi : Nat → Nat} {rem R : Nat} (hw : ∀ e, e < m → lo e < hi e ∧ hi e < n) (hR : R < 2 ^ n) : ∀ e, e ≤ m → pas lo hi rem R e < 2 ^ n
  | 0, _ => hR
  | e + 1, he => est_lt hw (by omega) (pas_lt hw hR e (by omega))
theorem rch_lt {n m : Nat} {lo hi : Nat → Nat} {rem s : Nat} (hw : ∀ e, e < m → lo e < hi e ∧ hi e < n) (hs : s < n) : ∀ p, rch m lo hi rem s p < 2 ^ n
  | 0 => Nat.pow_lt_pow_right (by decide) hs
  | p + 1 => pas_lt hw (rch_lt hw hs p) m (Nat.le_refl _)
theorem q_and_nz {a b : Nat} (ha : a < 2 ^ 30) : ¬ nI a &&& nI b = 0 ↔ ∃ i, a.testBit i = true ∧ b.testBit i = true := by
  rw [fa_and]
  have hl : a &&& b < 2 ^ 30 := Nat.lt_of_le_of_lt Nat.and_le_left ha
  rw [show (nI (a &&& b) = 0) = (nI (a &&& b) = nI 0) from rfl, nI_eq (by omega) (by omega)]
  constructor
  · intro h
    refine Classical.byContradiction fun w => h (Nat.eq_of_testBit_eq fun i => ?_)
    rw [Nat.zero_testBit, Nat.testBit_and]
    cases e : a.testBit i with
    | false => rfl
    | true =>
      cases e2 : b.testBit i with
      | false => rfl
      | true => exact absurd ⟨i, e, e2⟩ w
  · rintro ⟨i, h1, h2⟩ h
    have := congrArg (fun z => Nat.testBit z i) h
    simp only [Nat.testBit_and, h1, h2, Nat.zero_testBit] at this
    cases this
theorem q_ends_nz {x y R : Nat} (hx : x < 9) (hy : y < 9) : (¬ nI (2 ^ x ||| 2 ^ y) &&& nI R = 0) ↔ (R.testBit x || R.testBit y) = true := by
  rw [q_and_nz (Nat.or_lt_two_pow (Nat.pow_lt_pow_right (by decide) (by omega)) (Nat.pow_lt_pow_right (by decide) (by omega)))]
  constructor
  · rintro ⟨i, h1, h2⟩
    rw [Nat.testBit_or, q_tw, q_tw] at h1
    simp only [Bool.or_eq_true, decide_eq_true_eq] at h1 ⊢
    rcases h1 with h1 | h1 <;> rw [h1]
    · exact Or.inl h2
    · exact Or.inr h2
  · intro h
    simp only [Bool.or_eq_true] at h
    rcases h with h | h
    · exact ⟨x, by rw [Nat.testBit_or, q_tw, q_tw]; simp, h⟩
    · exact ⟨y, by rw [Nat.testBit_or, q_tw, q_tw]; simp, h⟩
/-- no terminal reaches another one -/
def kap (n m T : Nat) (lo hi : Nat → Nat) (rem : Nat) : Bool := decide (∀ v, v < n → T.testBit v = true → rch m lo hi rem v (n - 1) &&& T = 2 ^ v)
end
section
/-! FILL, LABELS BY SETS -/
theorem cg.mv {X : List Nat} {h h' : am_H} {a n m T : Nat} {lo hi : Nat → Nat} (hg : cg h a n m T lo hi) (s : sm X h h') (h0 : a ∉ X) (h3 : a + 3 ∉ X) (h4 : a + 4 ∉ X) : cg h' a n m T lo hi := by
  obtain ⟨g, ⟨a0, a1, a2⟩, he, hw⟩ := hg
  exact ⟨s.gx g, ⟨(s.i h0 _).trans a0, (s.i h0 _).trans a1, (s.i h0 _).trans a2⟩, fun e z => ⟨(s.i h3 _).trans (he e z).1, (s.i h4 _).trans (he e z).2⟩, hw⟩
theorem cco.mv {X : List Nat} {h h' : am_H} {a m : Nat} {co : Nat → Nat} (hc : cco h a m co) (s : sm X h h') (h6 : a + 6 ∉ X) : cco h' a m co := fun e z => ⟨(s.i h6 _).trans (hc e z).1, (hc e z).2⟩
theorem i_pi_at {h : am_H} {a k : Nat} {v : Int32} : am_i (am_pi h a k v) a k = v := by rw [i_pi_same, if_pos rfl]
theorem i_pi_k {h : am_H} {a k j : Nat} {v : Int32} (hj : j ≠ k) : am_i (am_pi h a k v) a j = am_i h a j := by rw [i_pi_same, if_neg hj]
set_option maxHeartbeats 4000000 in
theorem c_fill {xs : am_X} {d : Nat} {h : am_H} {b N : Nat} (hd : 1 ≤ d) (hk : am_k h b = (2, N)) (hN : N < 1000) (v : Int32) {Q : am_Q} (HQ : ∀ h', sm [b] h h' → (∀ k, k < N → am_i h' b k = v) → Q (.inl none) h') : am_C xs am_P0 d m_JA_fill [.ref b, .int v] h Q := by
  refine am_C_le hd (am_enter (d := 0) ap_JA_fill rfl ?_) (fun _ _ k => k)
  refine am_go (fun p => p == 5) (fun K cal Q' hK hC hQ => ?_)
  refine And.intro ⟨by rw [hk]; exact Nat.le_refl 2, by rw [hk]; exact (by decide : 2 ≤ 6)⟩ ?_
  have e1 : nI (am_k h b).2 = nI N := by rw [hk]
  refine hK _ _ _ _ ?_
  refine am_for N (fun i L h' => L = [.ref b, .int v, .int (nI i), .int (nI N)] ∧ sm [b] h h' ∧ ∀ k, k < i → am_i h' b k = v) ?_ ?_ 0 (Nat.zero_le _) _ _ ⟨by rw [← e1]; rfl, sm.rf, fun k z => absurd z (Nat.not_lt_zero _)⟩
  · rintro i hi9 L h' ⟨rfl, s, hv⟩ next
    have eI : am_inc (nI i) (Int.ofNat 1) = nI (i + 1) := nI_1 i
    rw [← eI] at next
    refine am_go (fun p => p == 5) (fun K cal Q' hK hC hQ => ?_)
    refine And.intro (fun z => absurd z (q_ge rfl hi9 (by omega))) (fun _ => ?_)
    refine And.intro (ck_arr ((s.k b).trans hk) rfl hi9 (by omega)) ?_
    refine hK _ _ _ _ (next _ _ ⟨rfl, s.pi (List.mem_singleton.mpr rfl), fun k z => ?_⟩)
    rw [q_cl (by omega), i_pi_same]
    by_cases q : k = i
    · rw [if_pos q]
    · rw [if_neg q]; exact hv k (by omega)
  · rintro L h' ⟨rfl, s, hv⟩
    refine am_go (fun p => p == 5) (fun K cal Q' hK hC hQ => ?_)
    exact And.intro (fun _ => And.intro trivial (hQ _ _ (HQ _ s hv))) (fun z => absurd (q_le rfl (by omega)) z)
/-- labels by the isolating sets of the terminals other than o, the later over the earlier -/
def lun (T : Nat) (S : Nat → Nat) (o : Option Nat) : Nat → Nat → Int32
  | 0, _ => oI o
  | t + 1, v => if T.testBit t = true ∧ o ≠ some t ∧ (S t).testBit v = true then nI t else lun T S o t v
end
section
/-! ROUNDS -/
def orF (f : Nat → Nat) : Nat → Nat
  | 0 => 0
  | k + 1 => orF f k ||| f k
theorem orF_bit (f : Nat → Nat) (k i : Nat) : (orF f k).testBit i = true ↔ ∃ o, o < k ∧ (f o).testBit i = true := by
  induction k with
  | zero => simp [orF]
  | succ k ih =>
    unfold orF
    rw [Nat.testBit_or, Bool.or_eq_true, ih]
    constructor
    · rintro (⟨o, h1, h2⟩ | h)
      · exact ⟨o, by omega, h2⟩
      · exact ⟨k, by omega, h⟩
    · rintro ⟨o, h1, h2⟩
      by_cases e : o = k
      · subst e; exact Or.inr h2
      · exact Or.inl ⟨o, by omega, h2⟩
theorem orF_lt {f : Nat → Nat} {b : Nat} (h : ∀ o, f o < 2 ^ b) : ∀ k, orF f k < 2 ^ b
  | 0 => Nat.two_pow_pos b
  | k + 1 => Nat.or_lt_two_pow (orF_lt h k) (h k)
/-- the groups of the others -/
def oth (n T : Nat) (G : Nat → Nat) (t : Nat) : Nat := orF (fun o => if o ≠ t ∧ T.testBit o = true then G o else 0) n
theorem oth_bit (n T : Nat) (G : Nat → Nat) (t i : Nat) : (oth n T G t).testBit i = true ↔ ∃ o, o < n ∧ o ≠ t ∧ T.testBit o = true ∧ (G o).testBit i = true := by
  unfold oth
  rw [orF_bit]
  constructor
  · rintro ⟨o, h1, h2⟩
    by_cases e : o ≠ t ∧ T.testBit o = true
    · rw [if_pos e] at h2; exact ⟨o, h1, e.1, e.2, h2⟩
    · rw [if_neg e, Nat.zero_testBit] at h2; cases h2
  · rintro ⟨o, h1, h2, h3, h4⟩
    exact ⟨o, h1, by rw [if_pos ⟨h2, h3⟩]; exact h4⟩
noncomputable def gst (n T : Nat) (c : Nat → Nat) (t : Nat) (G : Nat → Nat) : Nat → Nat := fun v => if v = t ∧ T.testBit t = true then bset n c true (G t) (oth n T G t) else G v
noncomputable def gro (n T : Nat) (c : Nat → Nat) (G : Nat → Nat) : Nat → Nat → Nat
  | 0 => G
  | t + 1 => gst n T c t (gro n T c G t)
noncomputable def grs (n T : Nat) (c : Nat → Nat) : Nat → Nat → Nat
  | 0 => fun v => if T.testBit v then 2 ^ v else 0
  | k + 1 => gro n T c (grs n T c k) n
def GI (n T : Nat) (G : Nat → Nat) : Prop := (∀ t, T.testBit t = false → G t = 0) ∧ (∀ t, G t < 2 ^ n) ∧ ∀ t u i, t ≠ u → (G t).testBit i = true → (G u).testBit i = false
theorem q_T_lt {n T t : Nat} (hT : T < 2 ^ n) (h : T.testBit t = true) : t < n := by
  refine Nat.not_le.mp fun q => ?_
  rw [Nat.testBit_lt_two_pow (Nat.lt_of_lt_of_le hT (Nat.pow_le_pow_right (by decide) q))] at h
  cases h
theorem GI.cn {n T : Nat} {G : Nat → Nat} (g : GI n T G) (t : Nat) : cnd n (G t) (oth n T G t) (G t) := ⟨g.2.1 t, fun _ h => h, fun i h => by
  obtain ⟨o, h1, h2, h3, h4⟩ := (oth_bit n T G t i).mp h
  exact g.2.2 o t i h2 h4⟩
theorem GI.new {n T : Nat} {c : Nat → Nat} {G : Nat → Nat} (g : GI n T G) (t : Nat) : cnd n (G t) (oth n T G t) (bset n c true (G t) (oth n T G t)) := (bset_isb ⟨_, g.cn t⟩).1
theorem gst_GI {n T : Nat} {c : Nat → Nat} {G : Nat → Nat} (hT : T < 2 ^ n) (g : GI n T G) (t : Nat) : GI n T (gst n T c t G) ∧ ∀ u i, (G u).testBit i = true → (gst n T c t G u).testBit i = true := by
  obtain ⟨s1, s2, s3⟩ := g.new (c := c) t
  have same : ∀ v, ¬ (v = t ∧ T.testBit t = true) → gst n T c t G v = G v := fun v h => if_neg h
  have new : T.testBit t = true → gst n T c t G t = bset n c true (G t) (oth n T G t) := fun h => if_pos ⟨rfl, h⟩
  have hno : ∀ u i, u ≠ t → T.testBit t = true → (gst n T c t G t).testBit i = true → (G u).testBit i = false := by
    intro u i hu hTt hi
    rw [new hTt] at hi
    cases e : (G u).testBit i with
    | false => rfl
    | true =>
      have hTu : T.testBit u = true := by
        cases e2 : T.testBit u with
        | true => rfl
        | false => rw [g.1 u e2, Nat.zero_testBit] at e; cases e
      rw [s3 i ((oth_bit n T G t i).mpr ⟨u, q_T_lt hT hTu, hu, hTu, e⟩)] at hi
      cases hi
  refine ⟨⟨fun v hv => ?_, fun v => ?_, fun v u i hvu hi => ?_⟩, fun u i hi => ?_⟩
  · rw [same v fun q => by rw [q.1, q.2] at hv; cases hv]; exact g.1 v hv
  · by_cases e : v = t ∧ T.testBit t = true
    · rw [e.1, new e.2]; exact s1
    · rw [same v e]; exact g.2.1 v
  · by_cases e : v = t ∧ T.testBit t = true
    · rw [e.1] at hi hvu
      rw [same u fun q => hvu q.1.symm]
      exact hno u i (Ne.symm hvu) e.2 hi
    · rw [same v e] at hi
      by_cases e2 : u = t ∧ T.testBit t = true
      · cases e3 : (gst n T c t G u).testBit i with
        | false => rfl
        | true =>
          rw [e2.1] at e3 hvu
          rw [hno v i hvu e2.2 e3] at hi
          cases hi
      · rw [same u e2]; exact g.2.2 v u i hvu hi
  · by_cases e : u = t ∧ T.testBit t = true
    · rw [e.1, new e.2]; rw [e.1] at hi; exact s2 i hi
    · rw [same u e]; exact hi
theorem gro_GI {n T : Nat} {c : Nat → Nat} {G : Nat → Nat} (hT : T < 2 ^ n) (g : GI n T G) : ∀ t, GI n T (gro n T c G t) ∧ ∀ u i, (G u).testBit i = true → (gro n T c G t u).testBit i = true
  | 0 => ⟨g, fun _ _ h => h⟩
  | t + 1 => by
    obtain ⟨a1, a2⟩ := gro_GI hT g t
    obtain ⟨b1, b2⟩ := gst_GI (c := c) hT a1 t
    exact ⟨b1, fun u i h => b2 u i (a2 u i h)⟩
theorem grs_GI {n T : Nat} {c : Nat → Nat} (hT : T < 2 ^ n) : ∀ k, GI n T (grs n T c k)
  | 0 => by
    refine ⟨fun t h => if_neg (by rw [h]; decide), fun t => ?_, fun t u i h1 h2 => ?_⟩
    · show (if T.testBit t then 2 ^ t else 0) < _
      split
      · rename_i h; exact Nat.pow_lt_pow_right (by decide) (q_T_lt hT h)
      · exact Nat.two_pow_pos n
    · have h2 : (if T.testBit t then 2 ^ t else 0).testBit i = true := h2
      show (if T.testBit u then 2 ^ u else 0).testBit i = false
      split at h2
      · rw [q_tw] at h2
        have h2 := of_decide_eq_true h2
        subst h2
        split
        · rw [q_tw]; exact decide_eq_false (Ne.symm h1)
        · exact Nat.zero_testBit _
      · rw [Nat.zero_testBit] at h2; cases h2
  | k + 1 => (gro_GI hT (grs_GI hT k) n).1
theorem grs_up {n T : Nat} {c : Nat → Nat} (hT : T < 2 ^ n) (k u i : Nat) (h : (grs n T c k u).testBit i = true) : (grs n T c (k + 1) u).testBit i = true := (gro_GI hT (grs_GI hT k) n).2 u i h
def chg (n T : Nat) (c : Nat → Nat) (k : Nat) : Prop := ∃ t, t < n ∧ grs n T c (k + 1) t ≠ grs n T c k t
theorem ct_lt {p q : Nat → Bool} : ∀ {n : Nat}, (∀ k, k < n → p k = true → q k = true) → (∃ k, k < n ∧ p k = false ∧ q k = true) → fb_ct p n < fb_ct q n
  | 0, _, ⟨k, h, _⟩ => absurd h (Nat.not_lt_zero k)
  | n + 1, h, ⟨k, hk, h1, h2⟩ => by
    rw [fb_ct_succ, fb_ct_succ]
    have hs : ∀ k, k < n → p k = true → q k = true := fun k z => h k (by omega)
    by_cases e : k = n
    · subst e
      rw [h1, h2]
      have := fb_ct_sub hs
      simp only [Bool.false_eq_true, if_false, if_true]
      omega
    · have := ct_lt hs ⟨k, by omega, h1, h2⟩
      have h3 : (if p n then 1 else 0) ≤ (if q n then 1 else 0) := by
        cases e2 : p n with
        | false => simp
        | true => rw [h n (by omega) e2]; exact Nat.le_refl _
      omega
theorem chg_lt {n T : Nat} {c : Nat → Nat} (hn : n ≤ 9) (hT : T < 2 ^ n) {k : Nat} (h : chg n T c k) : pcn (orF (grs n T c k) 9) < pcn (orF (grs n T c (k + 1)) 9) := by
  obtain ⟨t, ht, hne⟩ := h
  obtain ⟨g1, g2, g3⟩ := grs_GI (c := c) hT (k + 1)
  have hx : ∃ i, (grs n T c k t).testBit i = false ∧ (grs n T c (k + 1) t).testBit i = true := by
    refine Classical.byContradiction fun w => hne (Nat.eq_of_testBit_eq fun i => ?_)
    cases e : (grs n T c k t).testBit i with
    | true => exact grs_up hT k t i e
    | false =>
      cases e2 : (grs n T c (k + 1) t).testBit i with
      | false => rfl
      | true => exact absurd ⟨i, e, e2⟩ w
  obtain ⟨i, i1, i2⟩ := hx
  have hin : i < n := by
    refine Nat.not_le.mp fun q => ?_
    rw [Nat.testBit_lt_two_pow (Nat.lt_of_lt_of_le (g2 t) (Nat.pow_le_pow_right (by decide) q))] at i2
    cases i2
  refine ct_lt (fun j hj h => ?_) ⟨i, by omega, ?_, (orF_bit _ _ _).mpr ⟨t, by omega, i2⟩⟩
  · obtain ⟨o, o1, o2⟩ := (orF_bit _ _ _).mp h
    exact (orF_bit _ _ _).mpr ⟨o, o1, grs_up hT k o j o2⟩
  · cases e : (orF (grs n T c k) 9).testBit i with
    | false => rfl
    | true =>
      obtain ⟨o, o1, o2⟩ := (orF_bit _ _ _).mp e
      by_cases z : o = t
      · rw [z, i1] at o2; cases o2
      · rw [g3 o t i z (grs_up hT k o i o2)] at i2; cases i2
theorem chg_all {n T : Nat} {c : Nat → Nat} (hn : n ≤ 9) (hT : T < 2 ^ n) (h0 : T ≠ 0) : ∀ k, (∀ j, j < k → chg n T c j) → k + 1 ≤ pcn (orF (grs n T c k) 9)
  | 0, _ => by
    have hx : ∃ t, T.testBit t = true := by
      refine Classical.byContradiction fun w => h0 (Nat.eq_of_testBit_eq fun i => ?_)
      cases e : T.testBit i with
      | false => exact (Nat.zero_testBit _).symm
      | true => exact absurd ⟨i, e⟩ w
    obtain ⟨t, ht⟩ := hx
    have := q_T_lt hT ht
    refine fb_ct_pos.mpr ⟨t, by omega, (orF_bit _ _ _).mpr ⟨t, by omega, ?_⟩⟩
    show (if T.testBit t then 2 ^ t else 0).testBit t = true
    rw [if_pos ht, q_tw]
    simp
  | k + 1, h => by
    have a := chg_all hn hT h0 k (fun j z => h j (by omega))
    have b := chg_lt hn hT (h k (by omega))
    omega
theorem chg_no {n T : Nat} {c : Nat → Nat} (hn : n ≤ 9) (hT : T < 2 ^ n) (h0 : T ≠ 0) : ¬ ∀ j, j < 9 → chg n T c j := fun h => by
  have a := chg_all hn hT h0 9 h
  have b := pcn_le (orF (grs n T c 9) 9)
  omega
/-- how many rounds -/
def isR (n T : Nat) (c : Nat → Nat) (R : Nat) : Prop := (T = 0 ∧ R = 0) ∨ (T ≠ 0 ∧ 1 ≤ R ∧ R ≤ 9 ∧ (∀ k, k + 1 < R → chg n T c k) ∧ ¬ chg n T c (R - 1))
theorem isR.one {n T : Nat} {c : Nat → Nat} {a b : Nat} (ha : isR n T c a) (hb : isR n T c b) : a = b := by
  rcases ha with ⟨a1, a2⟩ | ⟨a1, a2, a3, a4, a5⟩ <;> rcases hb with ⟨b1, b2⟩ | ⟨b1, b2, b3, b4, b5⟩
  · omega
  · exact absurd a1 b1
  · exact absurd b1 a1
  · rcases Nat.lt_trichotomy a b with h | h | h
    · exact absurd (b4 (a - 1) (by omega)) a5
    · exact h
    · exact absurd (a4 (b - 1) (by omega)) b5
/-- the first of some -/
def fnd (p : Nat → Bool) : Nat → Option Nat
  | 0 => none
  | k + 1 => match fnd p k with
    | some x => some x
    | none => if p k then some k else none
theorem fnd_no {p : Nat → Bool} : ∀ {N : Nat}, (∀ k, k < N → p k = false) → fnd p N = none
  | 0, _ => rfl
  | N + 1, h => by rw [fnd, fnd_no (fun k z => h k (by omega))]; simp only; rw [if_neg (by rw [h N (by omega)]; decide)]
theorem fnd_hit {p : Nat → Bool} {i : Nat} (h : ∀ k, k < i → p k = false) (hi : p i = true) : ∀ {N : Nat}, i < N → fnd p N = some i
  | 0, z => absurd z (Nat.not_lt_zero _)
  | N + 1, z => by
    by_cases e : i = N
    · subst e; rw [fnd, fnd_no h]; simp only; rw [if_pos hi]
    · rw [fnd, fnd_hit h hi (by omega)]
theorem fnd_cong {p q : Nat → Bool} : ∀ {N : Nat}, (∀ k, k < N → p k = q k) → fnd p N = fnd q N
  | 0, _ => rfl
  | N + 1, h => by rw [fnd, fnd, fnd_cong (fun k z => h k (by omega)), h N (by omega)]
end
section
/-! THE EXACT SEARCH -/
/-- an assignment's cost among the first v vertices -/
def acost (m : Nat) (lo hi co : Nat → Nat) (A : Nat → Nat) (v : Nat) : Nat := sumE co (fun e => decide (hi e < v) && decide (A (lo e) ≠ A (hi e))) m
def avalid (n T : Nat) (A : Nat → Nat) : Prop := ∀ v, v < n → T.testBit (A v) = true ∧ (T.testBit v = true → A v = v)
/-- smaller at the first of the first v vertices where they differ -/
def llt (v : Nat) (A B : Nat → Nat) : Prop := ∃ u, u < v ∧ (∀ w, w < u → A w = B w) ∧ A u < B u
def lag (v : Nat) (A B : Nat → Nat) : Prop := ∀ w, w < v → A w = B w
theorem llt_no {v : Nat} {A B : Nat → Nat} (h1 : llt v A B) (h2 : llt v B A) : False := by
  obtain ⟨u, a1, a2, a3⟩ := h1
  obtain ⟨w, b1, b2, b3⟩ := h2
  rcases Nat.lt_trichotomy u w with h | h | h
  · have := b2 u h; omega
  · subst h; omega
  · have := a2 w h; omega
theorem llt_or {v : Nat} {A B : Nat → Nat} : llt v A B ∨ lag v A B ∨ llt v B A := by
  induction v with
  | zero => exact Or.inr (Or.inl fun w h => absurd h (Nat.not_lt_zero _))
  | succ v ih =>
    rcases ih with ⟨u, a1, a2⟩ | h | ⟨u, a1, a2⟩
    · exact Or.inl ⟨u, by omega, a2⟩
    · rcases Nat.lt_trichotomy (A v) (B v) with q | q | q
      · exact Or.inl ⟨v, by omega, h, q⟩
      · exact Or.inr (Or.inl fun w hw => by
          by_cases e : w = v
          · rw [e]; exact q
          · exact h w (by omega))
      · exact Or.inr (Or.inr ⟨v, by omega, fun w hw => (h w hw).symm, q⟩)
    · exact Or.inr (Or.inr ⟨u, by omega, a2⟩)
/-- the best of the assignments X: its cost and itself; MAX: none yet -/
abbrev xMAX : Nat := 2147483647
def xin (n m T : Nat) (lo hi co : Nat → Nat) (X : (Nat → Nat) → Prop) (bc : Nat) (bA : Nat → Nat) : Prop :=
  bc ≤ xMAX ∧ (∀ B, X B → avalid n T B → bc ≤ acost m lo hi co B n) ∧ (bc = xMAX ∨ (X bA ∧ avalid n T bA ∧ bc = acost m lo hi co bA n ∧ ∀ B, X B → avalid n T B → llt n B bA → bc < acost m lo hi co B n))
theorem xin.cong {n m T : Nat} {lo hi co : Nat → Nat} {X Y : (Nat → Nat) → Prop} {bc : Nat} {bA : Nat → Nat} (h : xin n m T lo hi co X bc bA) (e : ∀ B, avalid n T B → (X B ↔ Y B)) : xin n m T lo hi co Y bc bA :=
  ⟨h.1, fun B hY hv => h.2.1 B ((e B hv).mpr hY) hv, h.2.2.imp id fun ⟨a, b, c, d⟩ => ⟨(e _ b).mp a, b, c, fun B hY hv => d B ((e B hv).mpr hY) hv⟩⟩
theorem acost_mono {m : Nat} {lo hi co : Nat → Nat} (A : Nat → Nat) {v w : Nat} (h : v ≤ w) : acost m lo hi co A v ≤ acost m lo hi co A w := fb_sm_le fun k hk => by
  by_cases e : (decide (hi k < v) && decide (A (lo k) ≠ A (hi k))) = true
  · rw [if_pos e, if_pos (by simp only [Bool.and_eq_true, decide_eq_true_eq] at e ⊢; exact ⟨by omega, e.2⟩)]
    exact Nat.le_refl _
  · rw [if_neg e]; exact Nat.zero_le _
theorem acost_ag {n m : Nat} {lo hi co : Nat → Nat} {A B : Nat → Nat} {v : Nat} (hw : ∀ e, e < m → lo e < hi e ∧ hi e < n) (h : lag v A B) : acost m lo hi co A v = acost m lo hi co B v := sumE_cong fun k hk => by
  have := hw k hk
  show (decide (hi k < v) && decide (A (lo k) ≠ A (hi k))) = (decide (hi k < v) && decide (B (lo k) ≠ B (hi k)))
  by_cases e : hi k < v
  · rw [h (hi k) e, h (lo k) (by omega)]
  · simp only [e, decide_false, Bool.false_and]
theorem acost_le {m : Nat} {lo hi co : Nat → Nat} {A : Nat → Nat} {v : Nat} (hm : m ≤ 20) (hc : ∀ e, e < m → co e ≤ 9999) : acost m lo hi co A v ≤ 20 * 9999 := Nat.le_trans (sumE_le hc) (Nat.mul_le_mul_right _ hm)
/-- what v adds -/
def aadd (lo hi : Nat → Nat) (A : Nat → Nat) (v : Nat) (e : Nat) : Bool := decide (hi e = v) && decide (A (lo e) ≠ A v)
theorem acost_s {m : Nat} {lo hi co : Nat → Nat} (A : Nat → Nat) (v : Nat) : acost m lo hi co A (v + 1) = acost m lo hi co A v + sumE co (aadd lo hi A v) m := by
  unfold acost sumE
  rw [← fb_sm_add]
  refine fb_sm_cong fun k hk => ?_
  unfold aadd
  by_cases e : hi k = v
  · simp [e]
  · by_cases e2 : hi k < v
    · have : hi k < v + 1 := by omega
      simp [e, e2, this]
    · have : ¬ hi k < v + 1 := by omega
      simp [e, e2, this]
set_option maxHeartbeats 4000000 in
theorem c_costToEarlier {xs : am_X} {d : Nat} {h : am_H} {n m T : Nat} {lo hi co : Nat → Nat} (hd : 1 ≤ d) (hs : sh h) (hg : cg h 3 n m T lo hi) (hc : cco h 3 m co) {A : Nat → Nat} {v : Nat} (hv : v < n) (hA : ∀ w, w ≤ v → am_i h 82 w = nI (A w)) (hAl : ∀ w, A w < 1000) {Q : am_Q} (HQ : Q (.inl (some (.int (nI (sumE co (aadd lo hi A v) m))))) h) : am_C xs am_P0 d m_Ex_costToEarlier [.ref 80, .ref 3, .int (nI v)] h Q := by
  obtain ⟨⟨hk, ⟨k1, k2, k3, k4, k5, k6⟩, r3, r4, r5, r6, r7, r8⟩, ⟨h0, h1, h2⟩, he, ⟨hn, hm, hT⟩, hw⟩ := id hg
  refine am_C_le hd (am_enter (d := 0) ap_Ex_costToEarlier rfl ?_) (fun _ _ k => k)
  refine am_go (fun p => p == 5) (fun K cal Q' hK hC hQ => hK _ _ _ _ ?_)
  refine am_for m (fun i L h' => h' = h ∧ L = [.ref 80, .ref 3, .int (nI v), .int (nI (sumE co (aadd lo hi A v) i)), .int (nI i)]) ?_ ?_ 0 (Nat.zero_le _) _ _ ⟨rfl, rfl⟩
  · rintro i hi9 L h' ⟨rfl, rfl⟩ next
    obtain ⟨e1, e2⟩ := he i hi9
    obtain ⟨w1, w2⟩ := hw i hi9
    have e3 := (hc i hi9).1
    have eI : am_inc (nI i) (Int.ofNat 1) = nI (i + 1) := nI_1 i
    rw [← eI] at next
    have eA : am_i h' (am_r h' 3 6) (nI i).toNatClampNeg = nI (hi i) := by rw [r6, q_cl (by omega)]; exact e2
    have eB : am_i h' (am_r h' 3 5) (nI i).toNatClampNeg = nI (lo i) := by rw [r5, q_cl (by omega)]; exact e1
    have eC : am_i h' (am_r h' 3 8) (nI i).toNatClampNeg = nI (co i) := by rw [r8, q_cl (by omega)]; exact e3
    have s0 : aadd lo hi A v i = false → am_W xs (am_code at_Ex_costToEarlier) (am_hd ah_Ex_costToEarlier) (am_C xs am_P0 0) Q 5 [.ref 80, .ref 3, .int (nI v), .int (nI (sumE co (aadd lo hi A v) i)), .int (am_inc (nI i) (Int.ofNat 1))] [] h' := fun z => next _ _ ⟨rfl, by rw [sumE_s, z]; rfl⟩
    refine am_go (fun p => p == 5) (fun K cal Q' hK hC hQ => ?_)
    refine And.intro hk (And.intro (fun z => absurd z (q_ge h1 hi9 (by omega))) (fun _ => ?_))
    refine And.intro hk (And.intro (ck_row r6 k4 rfl (by omega) (by omega)) ?_)
    refine And.intro (fun z => ?_) (fun z => ?_)
    · have z : ¬ hi i = v := fun q => z (by rw [← q]; exact eA)
      exact hK _ _ _ _ (s0 (by unfold aadd; rw [decide_eq_false z]; rfl))
    · have z : hi i = v := (nI_eq (by omega) (by omega)).mp (eA.symm.trans (Classical.not_not.mp z))
      refine And.intro (sk_80 hs) (And.intro hk (And.intro (ck_row r5 k3 rfl (by omega) (by omega)) ?_))
      refine And.intro (ck_row (sr_80_2 hs) (sk_82 hs) eB (by omega) (by omega)) ?_
      refine And.intro (sk_80 hs) (And.intro (ck_row (sr_80_2 hs) (sk_82 hs) rfl (by omega) (by omega)) ?_)
      have eD : am_i h' (am_r h' 80 2) (am_i h' (am_r h' 3 5) (nI i).toNatClampNeg).toNatClampNeg = nI (A (lo i)) := by rw [eB, sr_80_2 hs, q_cl (by omega)]; exact hA _ (by omega)
      have eE : am_i h' (am_r h' 80 2) (nI v).toNatClampNeg = nI (A v) := by rw [sr_80_2 hs, q_cl (by omega)]; exact hA _ (by omega)
      have l1 := hAl (lo i)
      have l2 := hAl v
      refine And.intro (fun w => ?_) (fun w => ?_)
      · have w := (nI_eq (by omega) (by omega)).mp (eD.symm.trans (Eq.trans w eE))
        exact hK _ _ _ _ (s0 (by unfold aadd; rw [decide_eq_false (p := A (lo i) ≠ A v) (fun q => q w), Bool.and_false]))
      · have w : A (lo i) ≠ A v := fun q => w (eD.trans ((congrArg nI q).trans eE.symm))
        refine And.intro hk (And.intro (ck_row r8 k6 rfl (by omega) (by omega)) ?_)
        refine hK _ _ _ _ (next _ _ ⟨rfl, ?_⟩)
        rw [sumE_s, if_pos (by unfold aadd; rw [decide_eq_true z, decide_eq_true w]; rfl), ← nI_add, ← eC]
        rfl
  · rintro L h' ⟨rfl, rfl⟩
    refine am_go (fun p => p == 5) (fun K cal Q' hK hC hQ => ?_)
    exact And.intro hk (And.intro (fun _ => And.intro trivial (hQ _ _ HQ)) (fun z => absurd (q_le h1 (by omega)) z))
/-- explored before the prefix p of length v -/
def xE (v : Nat) (p B : Nat → Nat) : Prop := llt v B p
def setA (p : Nat → Nat) (v t : Nat) : Nat → Nat := fun w => if w = v then t else p w
theorem lag_set {v t : Nat} {p : Nat → Nat} : lag v (setA p v t) p := fun w hw => if_neg (by omega)
/-- the state of the search on the machine -/
def xst (h : am_H) (n bc : Nat) (bA : Nat → Nat) : Prop := am_i h 80 1 = nI bc ∧ ∀ w, w < n → am_i h 81 w = (if bc = xMAX then -nI 1 else nI (bA w))
set_option maxHeartbeats 8000000 in
theorem c_extend {xs : am_X} {n m T TS : Nat} {lo hi co : Nat → Nat} (hTS : TS < 2 ^ n) : ∀ (k v : Nat) (p : Nat → Nat) (h : am_H) (bc : Nat) (bA : Nat → Nat) (Q : am_Q), v + k = n → sh h → cg h 3 n m T lo hi → cco h 3 m co → xst h n bc bA →
    (∀ w, w < v → am_i h 82 w = nI (p w)) → (∀ w, p w < 9) → (∀ w, w < v → TS.testBit (p w) = true ∧ (TS.testBit w = true → p w = w)) → xin n m TS lo hi co (xE v p) bc bA →
    (∀ h' bc' bA', sm [80, 81, 82] h h' → xst h' n bc' bA' → (∀ w, w < v → am_i h' 82 w = nI (p w)) → xin n m TS lo hi co (fun B => xE v p B ∨ lag v B p) bc' bA' → Q (.inl none) h') →
    am_C xs am_P0 (k + 2) m_Ex_extend [.ref 80, .ref 3, .int (nI TS), .int (nI v), .int (nI (acost m lo hi co p v))] h Q := by
  intro k
  induction k with
  | zero =>
    intro v p h bc bA Q hvk hs hg hc hst htr hp9 hpv hin HQ
    rw [Nat.add_zero] at hvk
    subst hvk
    obtain ⟨⟨hk, ⟨k1, k2, k3, k4, k5, k6⟩, r3, r4, r5, r6, r7, r8⟩, ⟨h0, h1, h2⟩, he, ⟨hn, hm, hT⟩, hw⟩ := id hg
    have hcl : acost m lo hi co p v ≤ 20 * 9999 := acost_le hm fun e he => (hc e he).2.2
    have hbc := hin.1
    have hM : xMAX = 2147483647 := rfl
    refine am_enter (d := 1) ap_Ex_extend rfl ?_
    refine am_go (fun _ => false) (fun K cal Q' hK hC hQ => ?_)
    refine And.intro (sk_80 hs) (And.intro (fun z => ?_) (fun z => ?_))
    · have z : nI (acost m lo hi co p v) < nI bc := by rw [← hst.1]; exact z
      have z := (nI_ltI (by omega) (by omega)).mp z
      refine And.intro hk (And.intro (fun q => absurd q ?_) (fun _ => ?_))
      · show ¬ nI v < am_i h 3 0
        rw [h0]
        exact nI_nlt (Nat.le_refl _) (by omega)
      · refine And.intro (sk_80 hs) (And.intro (sk_80 hs) (And.intro (sk_80 hs) (And.intro hk ?_)))
        have eT : am_r (am_pi h 80 (1 % 64) (nI (acost m lo hi co p v))) 80 (2 % 64) = 82 := sr_80_2 hs
        have eB : am_r (am_pi h 80 (1 % 64) (nI (acost m lo hi co p v))) 80 (0 % 64) = 81 := sr_80_0 hs
        have eN : am_i (am_pi h 80 (1 % 64) (nI (acost m lo hi co p v))) 3 (128 % 64) = nI v := by rw [i_pi_ne (by decide)]; exact h0
        rw [eT, eB, eN]
        have k81 : am_k (am_pi h 80 (1 % 64) (nI (acost m lo hi co p v))) 81 = (2, 9) := sk_81 hs
        have k82 : am_k (am_pi h 80 (1 % 64) (nI (acost m lo hi co p v))) 82 = (2, 9) := sk_82 hs
        have c0 : (nI 0).toNatClampNeg = 0 := rfl
        have cv : (nI v).toNatClampNeg = v := q_cl (by omega)
        refine And.intro ⟨⟨by rw [k81], by rw [k82]⟩, ⟨by decide, by decide, nI_pos (by omega)⟩, ?_, ?_⟩ ?_
        · rw [k82, c0, cv]; show 0 + v ≤ 9; omega
        · rw [k81, c0, cv]; show 0 + v ≤ 9; omega
        · refine And.intro trivial (hQ _ _ ?_)
          rw [c0, cv]
          have ecp : ∀ a w, am_i (am_cp (am_pi h 80 (1 % 64) (nI (acost m lo hi co p v))) 82 0 81 0 v) a w = if a = 81 ∧ w < v then am_i h 82 w else am_i (am_pi h 80 (1 % 64) (nI (acost m lo hi co p v))) a w := by
            intro a w
            rw [i_cp]
            by_cases e : a = 81 ∧ w < v
            · rw [if_pos ⟨e.1, Nat.zero_le _, by omega⟩, if_pos e, i_pi_ne (by decide), Nat.sub_zero, Nat.zero_add]
            · rw [if_neg fun q => e ⟨q.1, by omega⟩, if_neg e]
          have ss : sm [80, 81, 82] h (am_cp (am_pi h 80 (1 % 64) (nI (acost m lo hi co p v))) 82 0 81 0 v) := (sm.rf.pi (by decide)).cp (by decide)
          refine HQ _ (acost m lo hi co p v) p ss ⟨?_, fun w hw9 => ?_⟩ (fun w hw9 => ?_) ?_
          · rw [ecp, if_neg (fun q => absurd q.1 (by decide))]; exact i_pi_at
          · rw [ecp, if_pos ⟨rfl, hw9⟩, htr w hw9, if_neg (by show ¬ _ = 2147483647; omega)]
          · rw [ecp, if_neg (fun q => absurd q.1 (by decide)), i_pi_ne (by decide)]; exact htr w hw9
          · refine ⟨by show _ ≤ 2147483647; omega, fun B hB hvB => ?_, Or.inr ⟨Or.inr fun w _ => rfl, fun w hw9 => hpv w hw9, rfl, fun B hB hvB hlt => ?_⟩⟩
            · rcases hB with hB | hB
              · have := hin.2.1 B hB hvB; omega
              · rw [acost_ag hw hB]; exact Nat.le_refl _
            · rcases hB with hB | hB
              · have := hin.2.1 B hB hvB; omega
              · obtain ⟨u, u1, u2, u3⟩ := hlt
                rw [hB u u1] at u3
                exact absurd u3 (Nat.lt_irrefl _)
    · have z : ¬ nI (acost m lo hi co p v) < nI bc := by rw [← hst.1]; exact z
      have z : bc ≤ acost m lo hi co p v := Nat.not_lt.mp fun q => z (nI_lt q (by omega))
      refine And.intro trivial (hQ _ _ (HQ _ bc bA sm.rf hst htr ?_))
      refine ⟨hin.1, fun B hB hvB => ?_, ?_⟩
      · rcases hB with hB | hB
        · exact hin.2.1 B hB hvB
        · rw [acost_ag hw hB]; exact z
      · refine hin.2.2.imp id fun ⟨a1, a2, a3, a4⟩ => ⟨Or.inl a1, a2, a3, fun B hB hvB hlt => ?_⟩
        rcases hB with hB | hB
        · exact a4 B hB hvB hlt
        · refine (llt_no hlt ?_).elim
          obtain ⟨u, u1, u2, u3⟩ := a1
          exact ⟨u, u1, fun w hw9 => (u2 w hw9).trans (hB w (by omega)).symm, by rw [hB u u1]; exact u3⟩
  | succ k ih =>
    intro v p h bc bA Q hvk hs hg hc hst htr hp9 hpv hin HQ
    obtain ⟨⟨hk, ⟨k1, k2, k3, k4, k5, k6⟩, r3, r4, r5, r6, r7, r8⟩, ⟨h0, h1, h2⟩, he, ⟨hn, hm, hT⟩, hw⟩ := id hg
    have hcl : ∀ A v, acost m lo hi co A v ≤ 20 * 9999 := fun A v => acost_le hm fun e he => (hc e he).2.2
    have hcl0 := hcl p v
    have hbc := hin.1
    have hM : xMAX = 2147483647 := rfl
    have hTS31 : TS < 2 ^ 31 := Nat.lt_trans hTS (pow_le31 (by omega))
    refine am_enter (d := k + 2) ap_Ex_extend rfl ?_
    refine am_go (fun p => p == 62) (fun K cal Q' hK hC hQ => ?_)
    refine And.intro (sk_80 hs) (And.intro (fun z => ?_) (fun z => ?_))
    · have z : nI (acost m lo hi co p v) < nI bc := by rw [← hst.1]; exact z
      have z := (nI_ltI (by omega) (by omega)).mp z
      refine And.intro hk (And.intro (fun _ => ?_) (fun q => absurd ?_ q))
      rotate_left
      · show nI v < am_i h 3 0
        rw [h0]
        exact nI_lt (by omega) (by omega)
      generalize hCh : (if TS.testBit v then 2 ^ v else TS) = Ch
      have hChl : Ch < 2 ^ 31 := by
        rw [← hCh]
        split
        · exact pow_le31 (by omega)
        · exact hTS31
      have chb : ∀ i, Ch.testBit i = true ↔ (TS.testBit i = true ∧ (TS.testBit v = true → i = v)) := by
        intro i
        rw [← hCh]
        by_cases q : TS.testBit v = true
        · rw [if_pos q, q_tw]
          exact ⟨fun w => by have w := of_decide_eq_true w; rw [← w]; exact ⟨q, fun _ => rfl⟩, fun w => decide_eq_true (w.2 q).symm⟩
        · rw [if_neg q]
          exact ⟨fun w => ⟨w, fun x => absurd x q⟩, fun w => w.1⟩
      have llt_set : ∀ i B, xE (v + 1) (setA p v i) B ↔ (xE v p B ∨ (lag v B p ∧ B v < i)) := by
        intro i B
        have e1 : ∀ w, w < v → setA p v i w = p w := fun w hw9 => if_neg (by omega)
        have e2 : setA p v i v = i := if_pos rfl
        constructor
        · rintro ⟨u, u1, u2, u3⟩
          by_cases e : u = v
          · subst e
            rw [e2] at u3
            exact Or.inr ⟨fun w hw9 => (u2 w hw9).trans (e1 w hw9), u3⟩
          · rw [e1 u (by omega)] at u3
            exact Or.inl ⟨u, by omega, fun w hw9 => (u2 w hw9).trans (e1 w (by omega)), u3⟩
        · rintro (⟨u, u1, u2, u3⟩ | ⟨q1, q2⟩)
          · exact ⟨u, by omega, fun w hw9 => (u2 w hw9).trans (e1 w (by omega)).symm, by rw [e1 u u1]; exact u3⟩
          · exact ⟨v, by omega, fun w hw9 => (q1 w hw9).trans (e1 w hw9).symm, by rw [e2]; exact q2⟩
      have W : am_W xs (am_code at_Ex_extend) (am_hd ah_Ex_extend) (am_C xs am_P0 (k + 2)) Q 62 [.ref 80, .ref 3, .int (nI TS), .int (nI v), .int (nI (acost m lo hi co p v)), .int (nI Ch), .int (nI 0), am_J] [] h := by
        refine am_for n (fun i L h' => ∃ bc bA v7, L = [.ref 80, .ref 3, .int (nI TS), .int (nI v), .int (nI (acost m lo hi co p v)), .int (nI Ch), .int (nI i), v7] ∧ sm [80, 81, 82] h h' ∧ xst h' n bc bA ∧ (∀ w, w < v → am_i h' 82 w = nI (p w)) ∧ xin n m TS lo hi co (fun B => xE v p B ∨ (lag v B p ∧ B v < i)) bc bA) ?_ ?_ 0 (Nat.zero_le _) _ _ ⟨bc, bA, am_J, rfl, sm.rf, hst, htr, hin.cong fun B _ => ⟨Or.inl, fun q => q.elim id fun w => absurd w.2 (Nat.not_lt_zero _)⟩⟩
        · rintro i hi9 L h' ⟨bc', bA', v7, rfl, s, hst', htr', hin'⟩ next
          have hs' := s.sh hs
          have hg' := hg.mv s (by decide) (by decide) (by decide)
          have hc' := hc.mv s (by decide)
          have eI : am_inc (nI i) (Int.ofNat 1) = nI (i + 1) := nI_1 i
          rw [← eI] at next
          have eA : (nI Ch >>> (nI i &&& 31)) &&& nI 1 = bI (Ch.testBit i) := q_bit hChl (by omega)
          refine am_go (fun p => p == 62) (fun K cal Q' hK hC hQ => ?_)
          refine And.intro hg'.1.1 (And.intro (fun z => absurd z (q_ge hg'.2.1.1 hi9 (by omega))) (fun _ => ?_))
          refine And.intro (fun w => ?_) (fun w => ?_)
          · have w := (bI_0 _).mp (eA.symm.trans w)
            refine hK _ _ _ _ (next _ _ ⟨bc', bA', v7, rfl, s, hst', htr', hin'.cong fun B hv => ⟨fun q => q.imp id fun r => ⟨r.1, by omega⟩, fun q => q.imp id fun r => ⟨r.1, Nat.lt_of_le_of_ne (by omega) fun x => ?_⟩⟩⟩)
            have := (chb i).mpr (by rw [← x]; exact hv v (by omega))
            rw [w] at this
            cases this
          · have w : Ch.testBit i = true := by
              cases e : Ch.testBit i with
              | true => rfl
              | false => rw [e] at eA; exact absurd eA w
            have wv := (chb i).mp w
            refine And.intro (sk_80 hs') (And.intro (ck_row (sr_80_2 hs') (sk_82 hs') rfl (by omega) (by omega)) ?_)
            have e82 : am_r h' 80 (2 % 64) = 82 := sr_80_2 hs'
            have ecl : (nI v).toNatClampNeg = v := q_cl (by omega)
            rw [e82, ecl]
            have s1 : sm [80, 81, 82] h' (am_pi h' 82 v (nI i)) := sm.rf.pi (by decide)
            have hs1 := s1.sh hs'
            have hg1 := hg'.mv s1 (by decide) (by decide) (by decide)
            have hc1 := hc'.mv s1 (by decide)
            have hA1 : ∀ w, w < v + 1 → am_i (am_pi h' 82 v (nI i)) 82 w = nI (setA p v i w) := by
              intro w hw9
              rw [i_pi_same]
              unfold setA
              by_cases e : w = v
              · rw [if_pos e, if_pos e]
              · rw [if_neg e, if_neg e]; exact htr' w (by omega)
            have hp1 : ∀ w, setA p v i w < 9 := fun w => by
              unfold setA
              split
              · omega
              · exact hp9 w
            refine And.intro (sk_80 hs1) (hC _ _ _ _ (c_costToEarlier (A := setA p v i) (by omega) hs1 hg1 hc1 (by omega) (fun w hw9 => hA1 w (by omega)) (fun w => by have := hp1 w; omega) ?_))
            have ecs : nI (acost m lo hi co p v) + nI (sumE co (aadd lo hi (setA p v i) v) m) = nI (acost m lo hi co (setA p v i) (v + 1)) := by
              rw [nI_add, acost_s, acost_ag hw (lag_set (v := v) (t := i) (p := p))]
            have ev1 : nI v + nI 1 = nI (v + 1) := nI_add v 1
            refine And.intro trivial ?_
            show cal m_Ex_extend [.ref 80, .ref 3, .int (nI TS), .int (nI v + nI 1), .int (nI (acost m lo hi co p v) + nI (sumE co (aadd lo hi (setA p v i) v) m))] _ _
            rw [ecs, ev1]
            refine hC _ _ _ _ (ih (v + 1) (setA p v i) _ bc' bA' _ (by omega) hs1 hg1 hc1 ⟨by rw [i_pi_ne (by decide)]; exact hst'.1, fun w hw9 => by rw [i_pi_ne (by decide)]; exact hst'.2 w hw9⟩ hA1 hp1 (fun w hw9 => ?_) (hin'.cong fun B _ => (llt_set i B).symm) (fun h2' bc2 bA2 s2 hst2 htr2 hin2 => ?_))
            · unfold setA
              by_cases e : w = v
              · rw [if_pos e, e]; exact wv
              · rw [if_neg e]; exact hpv w (by omega)
            · refine hK _ _ _ _ (next _ _ ⟨bc2, bA2, _, rfl, s.tr (s1.tr s2), hst2, fun w hw9 => ?_, hin2.cong fun B _ => ?_⟩)
              · rw [htr2 w (by omega)]; congr 1; exact if_neg (by omega)
              · rw [llt_set]
                constructor
                · rintro ((q | q) | q)
                  · exact Or.inl q
                  · exact Or.inr ⟨q.1, by omega⟩
                  · refine Or.inr ⟨fun w hw9 => (q w (by omega)).trans (if_neg (by omega)), ?_⟩
                    rw [q v (by omega), show setA p v i v = i from if_pos rfl]
                    omega
                · rintro (q | ⟨q1, q2⟩)
                  · exact Or.inl (Or.inl q)
                  · by_cases e : B v = i
                    · refine Or.inr fun w hw9 => ?_
                      unfold setA
                      by_cases e3 : w = v
                      · rw [if_pos e3, e3]; exact e
                      · rw [if_neg e3]; exact q1 w (by omega)
                    · exact Or.inl (Or.inr ⟨q1, by omega⟩)
        · rintro L h' ⟨bc', bA', v7, rfl, s, hst', htr', hin'⟩
          have hg' := hg.mv s (by decide) (by decide) (by decide)
          refine am_go (fun p => p == 62) (fun K cal Q' hK hC hQ => ?_)
          refine And.intro hg'.1.1 (And.intro (fun _ => And.intro trivial (hQ _ _ (HQ _ bc' bA' s hst' htr' (hin'.cong fun B hv => ⟨fun q => q.imp id fun r => r.1, fun q => q.imp id fun r => ⟨r, q_T_lt hTS (hv v (by omega)).1⟩⟩)))) (fun z => absurd (q_le hg'.2.1.1 (by omega)) z))
      have eA : (nI TS >>> (nI v &&& 31)) &&& nI 1 = bI (TS.testBit v) := q_bit hTS31 (by omega)
      have eB : nI 1 <<< (nI v &&& 31) = nI (2 ^ v) := q_shl v (by omega)
      refine And.intro (fun q => ?_) (fun q => ?_)
      · have q := (bI_0 _).mp (eA.symm.trans q)
        rw [if_neg (by rw [q]; decide)] at hCh
        rw [← hCh] at W
        exact hK _ _ _ _ W
      · have q : TS.testBit v = true := by
          cases e : TS.testBit v with
          | true => rfl
          | false => rw [e] at eA; exact absurd eA q
        rw [if_pos q] at hCh
        rw [← hCh, ← eB] at W
        exact hK _ _ _ _ W
    · have z : ¬ nI (acost m lo hi co p v) < nI bc := by rw [← hst.1]; exact z
      have z : bc ≤ acost m lo hi co p v := Nat.not_lt.mp fun q => z (nI_lt q (by omega))
      refine And.intro trivial (hQ _ _ (HQ _ bc bA sm.rf hst htr ?_))
      refine ⟨hin.1, fun B hB hvB => ?_, ?_⟩
      · rcases hB with hB | hB
        · exact hin.2.1 B hB hvB
        · have a1 := acost_ag (co := co) hw hB
          have a2 := acost_mono (m := m) (lo := lo) (hi := hi) (co := co) B (show v ≤ n by omega)
          omega
      · refine hin.2.2.imp id fun ⟨a1, a2, a3, a4⟩ => ⟨Or.inl a1, a2, a3, fun B hB hvB hlt => ?_⟩
        rcases hB with hB | hB
        · exact a4 B hB hvB hlt
        · refine (llt_no hlt ?_).elim
          obtain ⟨u, u1, u2, u3⟩ := a1
          exact ⟨u, by omega, fun w hw9 => (u2 w hw9).trans (hB w (by omega)).symm, by rw [hB u u1]; exact u3⟩
end
section
/-! THE EXACT SEARCH, its run -/
def isx (n m T : Nat) (lo hi co : Nat → Nat) (A : Nat → Nat) : Prop := avalid n T A ∧ (∀ B, avalid n T B → acost m lo hi co A n ≤ acost m lo hi co B n) ∧ ∀ B, avalid n T B → llt n B A → acost m lo hi co A n < acost m lo hi co B n
theorem isx.one {n m T : Nat} {lo hi co : Nat → Nat} {A B : Nat → Nat} (ha : isx n m T lo hi co A) (hb : isx n m T lo hi co B) : lag n A B := by
  rcases llt_or (v := n) (A := A) (B := B) with h | h | h
  · have := hb.2.2 A ha.1 h
    have := ha.2.1 B hb.1
    omega
  · exact h
  · have := ha.2.2 B hb.1 h
    have := hb.2.1 A ha.1
    omega
/-- what the exact search leaves: its cost, its labels -/
def exr (h : am_H) (n m T : Nat) (lo hi co : Nat → Nat) : Prop := (T = 0 ∧ am_i h 80 1 = nI 0 ∧ ∀ w, w < n → am_i h 81 w = -nI 1) ∨ (T ≠ 0 ∧ ∃ A, isx n m T lo hi co A ∧ am_i h 80 1 = nI (acost m lo hi co A n) ∧ ∀ w, w < n → am_i h 81 w = nI (A w))
theorem q_ex_T {T : Nat} (h0 : T ≠ 0) : ∃ t, T.testBit t = true := by
  refine Classical.byContradiction fun w => h0 (Nat.eq_of_testBit_eq fun i => ?_)
  cases e : T.testBit i with
  | false => exact (Nat.zero_testBit _).symm
  | true => exact absurd ⟨i, e⟩ w
set_option maxHeartbeats 4000000 in
theorem c_Ex_run {xs : am_X} {d : Nat} {h : am_H} {n m T TS : Nat} {lo hi co : Nat → Nat} (hd : 12 ≤ d) (hs : sh h) (hg : cg h 3 n m T lo hi) (hc : cco h 3 m co) (hTS : TS < 2 ^ n) {Q : am_Q}
    (HQ : ∀ h', sm [80, 81, 82] h h' → exr h' n m TS lo hi co → Q (.inl none) h') : am_C xs am_P0 d m_Ex_run [.ref 80, .ref 3, .int (nI TS)] h Q := by
  obtain ⟨⟨hk, -⟩, ⟨h0, h1, h2⟩, he, ⟨hn, hm, hT⟩, hw⟩ := id hg
  have hn9 := pow_le9 hn
  have hM : xMAX = 2147483647 := rfl
  refine am_C_le hd (am_enter (d := 11) ap_Ex_run rfl ?_) (fun _ _ k => k)
  refine am_go (fun _ => false) (fun K cal Q' hK hC hQ => ?_)
  refine And.intro (sk_80 hs) (And.intro (sk_80 hs) (And.intro trivial ?_))
  have s0 : sm [80, 81, 82] h (am_pi h 80 1 (nI 0)) := sm.rf.pi (by decide)
  have e81 : am_r (am_pi h 80 1 (nI 0)) 80 0 = 81 := sr_80_0 hs
  show cal m_JA_fill [.ref (am_r (am_pi h 80 1 (nI 0)) 80 0), .int (-nI 1)] (am_pi h 80 1 (nI 0)) _
  rw [e81]
  refine hC _ _ _ _ (c_fill (by decide) (sk_81 (s0.sh hs)) (by decide) _ (fun h1' s1 hv1 => ?_))
  have s1' : sm [80, 81, 82] h h1' := s0.tr (s1.mo (by decide))
  have hs1 := s1'.sh hs
  refine And.intro (fun z => ?_) (fun z => ?_)
  · have z : TS = 0 := (nI_eq (by omega) (by omega)).mp (show nI TS = nI 0 from z)
    refine And.intro trivial (hQ _ _ (HQ _ s1' (Or.inl ⟨z, ?_, fun w hw9 => hv1 w (by omega)⟩)))
    rw [s1.i (by decide)]
    exact i_pi_at
  · have z : TS ≠ 0 := fun q => z (by rw [q]; rfl)
    refine And.intro (sk_80 hs1) (And.intro trivial ?_)
    have s2 : sm [80, 81, 82] h (am_pi h1' 80 1 (nI 2147483647)) := s1'.pi (by decide)
    have e0 : nI (acost m lo hi co (fun _ => 0) 0) = nI 0 := by
      congr 1
      have : acost m lo hi co (fun _ => 0) 0 = sumE co (fun _ => false) m := sumE_cong fun e _ => by simp
      rw [this]
      have : ∀ k, sumE co (fun _ => false) k = 0 := fun k => by
        induction k with
        | zero => rfl
        | succ k ih => rw [sumE_s, ih]; rfl
      exact this m
    have X := c_extend (xs := xs) (co := co) (TS := TS) hTS n 0 (fun _ => 0) (am_pi h1' 80 1 (nI 2147483647)) xMAX (fun _ => 0) (fun r h' => r = .inl none ∧ sm [80, 81, 82] h h' ∧ exr h' n m TS lo hi co) (by omega) (s2.sh hs) (hg.mv s2 (by decide) (by decide) (by decide)) (hc.mv s2 (by decide)) ⟨i_pi_at, fun w hw9 => by rw [i_pi_ne (by decide), if_pos rfl]; exact hv1 w (by omega)⟩ (fun w q => absurd q (Nat.not_lt_zero _)) (fun _ => by decide) (fun w q => absurd q (Nat.not_lt_zero _)) ⟨Nat.le_refl _, fun B hB _ => by obtain ⟨u, u1, _⟩ := hB; exact absurd u1 (Nat.not_lt_zero _), Or.inl rfl⟩ (fun h' bc bA s3 hst _ hin => ⟨rfl, s2.tr s3, Or.inr ⟨z, ?_⟩⟩)
    · rw [e0] at X
      refine hC _ _ _ _ (am_C_le (show n + 2 ≤ 11 by omega) X (fun r h' q => ?_))
      obtain ⟨rfl, q2, q3⟩ := q
      exact And.intro trivial (hQ _ _ (HQ _ q2 q3))
    · obtain ⟨t, ht⟩ := q_ex_T z
      have hv : avalid n TS (fun v => if TS.testBit v then v else t) := fun v _ => by
        show TS.testBit (if TS.testBit v then v else t) = true ∧ (TS.testBit v = true → (if TS.testBit v then v else t) = v)
        by_cases q : TS.testBit v = true
        · rw [if_pos q]; exact ⟨q, fun _ => rfl⟩
        · rw [if_neg q]; exact ⟨ht, fun w => absurd w q⟩
      have hle := hin.2.1 _ (Or.inr fun w q => absurd q (Nat.not_lt_zero _)) hv
      have hc9 : acost m lo hi co (fun v => if TS.testBit v then v else t) n ≤ 20 * 9999 := acost_le hm fun e he => (hc e he).2.2
      have hne : bc ≠ xMAX := by omega
      rcases hin.2.2 with q | ⟨a1, a2, a3, a4⟩
      · exact absurd q hne
      · refine ⟨bA, ⟨a2, fun B hB => by rw [← a3]; exact hin.2.1 B (Or.inr fun w q => absurd q (Nat.not_lt_zero _)) hB, fun B hB hlt => by rw [← a3]; exact a4 B (Or.inr fun w q => absurd q (Nat.not_lt_zero _)) hB hlt⟩, by rw [← a3]; exact hst.1, fun w hw9 => ?_⟩
        have := hst.2 w hw9
        rw [if_neg hne] at this
        exact this
end
section
/-! NEAREST TERMINALS -/
def olt (a b : Nat × Nat) : Prop := a.1 < b.1 ∨ (a.1 = b.1 ∧ a.2 < b.2)
/-- an offer over an edge of length w from u to v -/
noncomputable def ofr (S : Nat → Option (Nat × Nat)) (u v w : Nat) : Nat → Option (Nat × Nat) := match S u with
  | none => S
  | some p => fun x => if x = v then (match S v with
    | none => some (p.1 + w, p.2)
    | some q => haveI := Classical.propDecidable (olt (p.1 + w, p.2) q); if olt (p.1 + w, p.2) q then some (p.1 + w, p.2) else some q) else S x
noncomputable def nep (lo hi co : Nat → Nat) (S : Nat → Option (Nat × Nat)) : Nat → Nat → Option (Nat × Nat)
  | 0 => S
  | e + 1 => ofr (ofr (nep lo hi co S e) (lo e) (hi e) (10000 / co e)) (hi e) (lo e) (10000 / co e)
noncomputable def ners (m T : Nat) (lo hi co : Nat → Nat) : Nat → Nat → Option (Nat × Nat)
  | 0 => fun v => if T.testBit v then some (0, v) else none
  | p + 1 => nep lo hi co (ners m T lo hi co p) m
def oG (o : Option (Nat × Nat)) : Int32 := match o with
  | none => -nI 1
  | some p => nI p.2
def oL (o : Option (Nat × Nat)) : Int32 := match o with
  | none => -nI 1
  | some p => nI p.1
def nst (h : am_H) (S : Nat → Option (Nat × Nat)) : Prop := ∀ v, v < 9 → am_i h 84 v = oG (S v) ∧ am_i h 85 v = oL (S v)
def nb (S : Nat → Option (Nat × Nat)) (K : Nat) : Prop := ∀ v p, S v = some p → p.1 ≤ 10000 * K ∧ p.2 < 9
theorem nb.ofr {S : Nat → Option (Nat × Nat)} {K u v w : Nat} (h : nb S K) (hw : w ≤ 10000) : nb (ofr S u v w) (K + 1) := by
  intro x p hp
  unfold Jvm.Pilot.@@N@@.ofr at hp
  cases e : S u with
  | none => rw [e] at hp; have := h x p hp; omega
  | some q =>
    rw [e] at hp
    have hq := h u q e
    dsimp only at hp
    by_cases ex : x = v
    · rw [if_pos ex] at hp
      cases e2 : S v with
      | none => rw [e2] at hp; cases hp; exact ⟨by show q.1 + w ≤ _; omega, hq.2⟩
      | some r =>
        rw [e2] at hp
        have hr := h v r e2
        dsimp only at hp
        split at hp
        · cases hp; exact ⟨by show q.1 + w ≤ _; omega, hq.2⟩
        · cases hp; omega
    · rw [if_neg ex] at hp
      have := h x p hp
      omega
theorem nI_neg1 {k : Nat} (h : k < 2 ^ 31) : ¬ nI k = -nI 1 := fun e => by
  rw [fa_eq, nI_toInt h, nI_m1] at e
  omega
set_option maxHeartbeats 4000000 in
theorem c_offer {xs : am_X} {d : Nat} {h : am_H} (hd : 1 ≤ d) (hs : sh h) {S : Nat → Option (Nat × Nat)} {K : Nat} (hS : nst h S) (hb : nb S K) (hK9 : K < 1000) {u v w : Nat} (hu : u < 9) (hv : v < 9) (hw : w ≤ 10000) {Q : am_Q} (HQ : ∀ h', sm [84, 85] h h' → nst h' (ofr S u v w) → Q (.inl none) h') : am_C xs am_P0 d m_Ne_offer [.ref 83, .int (nI u), .int (nI v), .int (nI w)] h Q := by
  have eU : am_i h (am_r h 83 0) (nI u).toNatClampNeg = oG (S u) := by rw [sr_83_0 hs, q_cl (by omega)]; exact (hS u hu).1
  have eV : am_i h (am_r h 83 0) (nI v).toNatClampNeg = oG (S v) := by rw [sr_83_0 hs, q_cl (by omega)]; exact (hS v hv).1
  have lU : am_i h (am_r h 83 1) (nI u).toNatClampNeg = oL (S u) := by rw [sr_83_1 hs, q_cl (by omega)]; exact (hS u hu).2
  have lV : am_i h (am_r h 83 1) (nI v).toNatClampNeg = oL (S v) := by rw [sr_83_1 hs, q_cl (by omega)]; exact (hS v hv).2
  refine am_C_le hd (am_enter (d := 0) ap_Ne_offer rfl ?_) (fun _ _ k => k)
  refine am_go (fun _ => false) (fun K cal Q' hK hC hQ => ?_)
  have ckg : ∀ {k : Nat}, k < 9 → am_arr h (am_r h 83 0) 2 (nI k) := fun hk => ck_row (sr_83_0 hs) (sk_84 hs) rfl hk (by omega)
  have ckl : ∀ {k : Nat}, k < 9 → am_arr h (am_r h 83 1) 2 (nI k) := fun hk => ck_row (sr_83_1 hs) (sk_85 hs) rfl hk (by omega)
  cases hSu : S u with
  | none =>
    rw [hSu] at eU
    refine And.intro (sk_83 hs) (And.intro (ckg hu) (And.intro (fun z => absurd eU z) (fun _ => ?_)))
    refine And.intro trivial (hQ _ _ (HQ _ sm.rf ?_))
    unfold ofr
    rw [hSu]
    exact hS
  | some p =>
    rw [hSu] at eU lU
    obtain ⟨p1, p2⟩ := hb u p hSu
    have eU : am_i h (am_r h 83 0) (nI u).toNatClampNeg = nI p.2 := eU
    have lU : am_i h (am_r h 83 1) (nI u).toNatClampNeg = nI p.1 := lU
    have eW : am_i h (am_r h 83 1) (nI u).toNatClampNeg + nI w = nI (p.1 + w) := by rw [lU]; exact nI_add _ _
    -- the write
    have wr : (ofr S u v w) = (fun x => if x = v then some (p.1 + w, p.2) else S x) → Q (.inl none) (am_pi (am_pi h (am_r h 83 0) (nI v).toNatClampNeg (am_i h (am_r h 83 0) (nI u).toNatClampNeg)) (am_r h 83 1) (nI v).toNatClampNeg (am_i h (am_r h 83 1) (nI u).toNatClampNeg + nI w)) := by
      intro e
      rw [eU, eW, sr_83_0 hs, sr_83_1 hs, q_cl (by omega)]
      refine HQ _ ((sm.rf.pi (by decide)).pi (by decide)) ?_
      rw [e]
      intro x hx
      rw [i_pi_ne (show (84 : Nat) ≠ 85 by decide), i_pi_same, i_pi_same, i_pi_ne (show (85 : Nat) ≠ 84 by decide)]
      by_cases ex : x = v
      · rw [if_pos ex, if_pos ex]
        simp only [ex, if_true]
        exact ⟨rfl, rfl⟩
      · rw [if_neg ex, if_neg ex]
        simp only [ex, if_false]
        exact hS x hx
    have kp : (ofr S u v w) = S → Q (.inl none) h := fun e => HQ _ sm.rf (by rw [e]; exact hS)
    refine And.intro (sk_83 hs) (And.intro (ckg hu) (And.intro (fun _ => ?_) (fun z => absurd (eU.symm.trans (Classical.not_not.mp z)) (nI_neg1 (by omega)))))
    refine And.intro (sk_83 hs) (And.intro (ckl hu) (And.intro (sk_83 hs) (And.intro (ckg hv) ?_)))
    have ways : ∀ (n : Nat), True := fun _ => trivial
    cases hSv : S v with
    | none =>
      rw [hSv] at eV
      have e9 : ofr S u v w = (fun x => if x = v then some (p.1 + w, p.2) else S x) := by
        unfold ofr
        rw [hSu]
        dsimp only
        rw [hSv]
      refine And.intro (fun _ => ?_) (fun z => absurd eV z)
      refine And.intro (fun _ => ?_) (fun z => absurd (show ¬ nI 1 = 0 by decide) z)
      refine And.intro (sk_83 hs) (And.intro (sk_83 hs) (And.intro (ckg hu) (And.intro (ckg hv) (And.intro (sk_83 hs) (And.intro (ckl hv) (And.intro trivial (hQ _ _ (wr e9))))))))
    | some q =>
      rw [hSv] at eV lV
      obtain ⟨q1, q2⟩ := hb v q hSv
      have eV : am_i h (am_r h 83 0) (nI v).toNatClampNeg = nI q.2 := eV
      have lV : am_i h (am_r h 83 1) (nI v).toNatClampNeg = nI q.1 := lV
      have eY : olt (p.1 + w, p.2) q → ofr S u v w = (fun x => if x = v then some (p.1 + w, p.2) else S x) := by
        intro hlt
        unfold ofr
        rw [hSu]
        dsimp only
        rw [hSv]
        dsimp only
        rw [if_pos hlt]
      have eN : ¬ olt (p.1 + w, p.2) q → ofr S u v w = S := by
        intro hlt
        unfold ofr
        rw [hSu]
        dsimp only
        rw [hSv]
        dsimp only
        rw [if_neg hlt]
        funext x
        by_cases ex : x = v
        · rw [if_pos ex, ex, hSv]
        · rw [if_neg ex]
      have fin : olt (p.1 + w, p.2) q → _ := fun hlt => And.intro (sk_83 hs) (And.intro (sk_83 hs) (And.intro (ckg hu) (And.intro (ckg hv) (And.intro (sk_83 hs) (And.intro (ckl hv) (And.intro trivial (hQ _ _ (wr (eY hlt)))))))))
      refine And.intro (fun z => absurd (eV.symm.trans z) (nI_neg1 (by omega))) (fun _ => ?_)
      refine And.intro (sk_83 hs) (And.intro (ckl hv) ?_)
      refine And.intro (fun z => ?_) (fun z => ?_)
      · have z : nI q.1 ≤ nI (p.1 + w) := by rw [← lV, ← eW]; exact z
        have z := (nI_leI (by omega) (by omega)).mp z
        refine And.intro (fun x => absurd rfl x) (fun _ => ?_)
        refine And.intro (sk_83 hs) (And.intro (ckl hv) ?_)
        refine And.intro (fun y => ?_) (fun y => ?_)
        · have y : ¬ nI (p.1 + w) = nI q.1 := by rw [← lV, ← eW]; exact y
          have y : ¬ p.1 + w = q.1 := fun r => y (congrArg nI r)
          refine And.intro trivial (hQ _ _ (kp (eN fun r => ?_)))
          rcases r with r | r
          · have r : p.1 + w < q.1 := r; omega
          · exact y r.1
        · have y : nI (p.1 + w) = nI q.1 := by rw [← lV, ← eW]; exact Classical.not_not.mp y
          have y := (nI_eq (by omega) (by omega)).mp y
          refine And.intro (sk_83 hs) (And.intro (ckg hu) (And.intro (sk_83 hs) (And.intro (ckg hv) ?_)))
          refine And.intro (fun t => ?_) (fun t => ?_)
          · have t : nI q.2 ≤ nI p.2 := by rw [← eV, ← eU]; exact t
            have t := (nI_leI (by omega) (by omega)).mp t
            refine And.intro trivial (hQ _ _ (kp (eN fun r => ?_)))
            rcases r with r | r
            · have r : p.1 + w < q.1 := r; omega
            · have r : p.2 < q.2 := r.2; omega
          · have t : ¬ nI q.2 ≤ nI p.2 := by rw [← eV, ← eU]; exact t
            have t : p.2 < q.2 := Nat.not_le.mp fun r => t (nI_le r (by omega))
            exact fin (Or.inr ⟨y, t⟩)
      · have z : ¬ nI q.1 ≤ nI (p.1 + w) := by rw [← lV, ← eW]; exact z
        have z : p.1 + w < q.1 := Nat.not_le.mp fun r => z (nI_le r (by omega))
        refine And.intro (fun _ => ?_) (fun x => absurd (show ¬ nI 1 = 0 by decide) x)
        exact fin (Or.inl z)
end
section
/-! NEAREST TERMINALS, the run -/
theorem isT_bit {n T k : Nat} (hT : T < 2 ^ n) (hn : n ≤ 9) (hk : k < 9) : isT n T (nI k) = T.testBit k := by
  cases e : T.testBit k with
  | true => rw [isT_nI (q_T_lt hT e) (by omega)]; exact e
  | false =>
    cases e2 : isT n T (nI k) with
    | false => rfl
    | true =>
      unfold isT at e2
      rw [q_cl (by omega), e, Bool.and_false] at e2
      cases e2
theorem nep_nb {lo hi co : Nat → Nat} {S : Nat → Option (Nat × Nat)} {K : Nat} (h : nb S K) : ∀ e, nb (nep lo hi co S e) (K + 2 * e)
  | 0 => h
  | e + 1 => by
    have a := ((nep_nb (lo := lo) (hi := hi) (co := co) h e).ofr (u := lo e) (v := hi e) (w := 10000 / co e) (Nat.div_le_self _ _)).ofr (u := hi e) (v := lo e) (w := 10000 / co e) (Nat.div_le_self _ _)
    rw [show K + 2 * (e + 1) = K + 2 * e + 1 + 1 by omega]
    exact a
theorem ners_nb {n m T : Nat} {lo hi co : Nat → Nat} (hm : m ≤ 20) (hT : T < 2 ^ n) (hn : n ≤ 9) : ∀ p, nb (ners m T lo hi co p) (40 * p)
  | 0 => fun v q h => by
    have h : (if T.testBit v then some (0, v) else none) = some q := h
    split at h
    · rename_i hv
      cases h
      have := q_T_lt hT hv
      exact ⟨Nat.zero_le _, by show v < 9; omega⟩
    · cases h
  | p + 1 => by
    have a := nep_nb (lo := lo) (hi := hi) (co := co) (ners_nb (m := m) (lo := lo) (hi := hi) (co := co) hm hT hn p) m
    intro v q h
    have := a v q h
    exact ⟨by omega, this.2⟩
theorem nb.up {S : Nat → Option (Nat × Nat)} {K L : Nat} (h : nb S K) (hl : K ≤ L) : nb S L := fun v p e => by
  have := h v p e
  exact ⟨by omega, this.2⟩
set_option maxHeartbeats 4000000 in
theorem c_Ne_run {xs : am_X} {d : Nat} {h : am_H} {n m T : Nat} {lo hi co : Nat → Nat} (hd : 3 ≤ d) (hs : sh h) (hg : cg h 3 n m T lo hi) (hc : cco h 3 m co) {Q : am_Q}
    (HQ : ∀ h', sm [84, 85] h h' → nst h' (ners m T lo hi co (n - 1)) → Q (.inl none) h') : am_C xs am_P0 d m_Ne_run [.ref 83, .ref 3] h Q := by
  obtain ⟨⟨hk, -⟩, ⟨h0, h1, h2⟩, he, ⟨hn, hm, hT⟩, hw⟩ := id hg
  refine am_C_le hd (am_enter (d := 2) ap_Ne_run rfl ?_) (fun _ _ k => k)
  refine am_go (fun p => p == 2) (fun K cal Q' hK hC hQ => hK _ _ _ _ ?_)
  refine am_for 9 (fun i L h' => ∃ v3, L = [.ref 83, .ref 3, .int (nI i), v3] ∧ sm [84, 85] h h' ∧ ∀ v, v < i → am_i h' 84 v = oG (ners m T lo hi co 0 v) ∧ am_i h' 85 v = oL (ners m T lo hi co 0 v)) ?_ ?_ 0 (Nat.zero_le _) _ _ ⟨am_J, rfl, sm.rf, fun v z => absurd z (Nat.not_lt_zero _)⟩
  · rintro i hi9 L h' ⟨v3, rfl, s, hv⟩ next
    have hs' := s.sh hs
    have hg' := hg.mv s (by decide) (by decide) (by decide)
    have eI : am_inc (nI i) (Int.ofNat 1) = nI (i + 1) := nI_1 i
    rw [← eI] at next
    have fin : ∀ (x y : Int32) (v3 : Value), x = oG (ners m T lo hi co 0 i) → y = oL (ners m T lo hi co 0 i) → am_W xs (am_code at_Ne_run) (am_hd ah_Ne_run) (am_C xs am_P0 2) Q 2 [.ref 83, .ref 3, .int (am_inc (nI i) (Int.ofNat 1)), v3] [] (am_pi (am_pi h' (am_r h' 83 0) (nI i).toNatClampNeg x) (am_r h' 83 1) (nI i).toNatClampNeg y) := by
      intro x y v3 hx hy
      rw [sr_83_0 hs', sr_83_1 hs', q_cl (by omega)]
      refine next _ _ ⟨_, rfl, (s.pi (by decide)).pi (by decide), fun v z => ?_⟩
      rw [i_pi_ne (show (84 : Nat) ≠ 85 by decide), i_pi_same, i_pi_same, i_pi_ne (show (85 : Nat) ≠ 84 by decide)]
      by_cases w : v = i
      · rw [if_pos w, if_pos w, w]; exact ⟨hx, hy⟩
      · rw [if_neg w, if_neg w]; exact hv v (by omega)
    refine am_go (fun p => p == 2) (fun K cal Q' hK hC hQ => ?_)
    refine And.intro (fun z => absurd z (q_ge rfl hi9 (by omega))) (fun _ => ?_)
    refine And.intro hg'.1.1 (hC _ _ _ _ (c_isTerminal (by decide) hg' _ ?_))
    rw [isT_bit hT hn hi9]
    have g0 : am_arr h' (am_r h' 83 0) 2 (nI i) := ck_row (sr_83_0 hs') (sk_84 hs') rfl hi9 (by omega)
    have g1 : am_arr h' (am_r h' 83 1) 2 (nI i) := ck_row (sr_83_1 hs') (sk_85 hs') rfl hi9 (by omega)
    have e0 : ners m T lo hi co 0 i = if T.testBit i then some (0, i) else none := rfl
    cases hTi : T.testBit i with
    | false =>
      rw [hTi] at e0
      refine And.intro (sk_83 hs') (And.intro (fun _ => ?_) (fun z => absurd rfl z))
      refine And.intro g0 (And.intro (sk_83 hs') (And.intro (fun _ => ?_) (fun z => absurd rfl z)))
      refine And.intro g1 (hK _ _ _ _ (fin _ _ _ (by rw [e0]; rfl) (by rw [e0]; rfl)))
    | true =>
      rw [hTi] at e0
      refine And.intro (sk_83 hs') (And.intro (fun z => absurd z q_t1) (fun _ => ?_))
      refine And.intro g0 (And.intro (sk_83 hs') (And.intro (fun z => absurd z q_t1) (fun _ => ?_)))
      refine And.intro g1 (hK _ _ _ _ (fin _ _ _ (by rw [e0]; rfl) (by rw [e0]; rfl)))
  · rintro L h' ⟨v3, rfl, s, hv⟩
    refine am_go (fun p => p == 2 || p == 52) (fun K cal Q' hK hC hQ => ?_)
    refine And.intro (fun _ => hK _ _ _ _ ?_) (fun z => absurd (q_le rfl (by omega)) z)
    refine am_for (n - 1) (fun i L h' => ∃ v3, L = [.ref 83, .ref 3, .int (nI (i + 1)), v3] ∧ sm [84, 85] h h' ∧ nst h' (ners m T lo hi co i)) ?_ ?_ 0 (Nat.zero_le _) _ _ ⟨v3, rfl, s, hv⟩
    · rintro i hi9 L h' ⟨v3, rfl, s, hv⟩ next
      have hs' := s.sh hs
      have hg' := hg.mv s (by decide) (by decide) (by decide)
      refine am_go (fun p => p == 52 || p == 62) (fun K cal Q' hK hC hQ => ?_)
      refine And.intro hg'.1.1 (And.intro (fun z => absurd z (q_ge hg'.2.1.1 (by omega) (by omega))) (fun _ => hK _ _ _ _ ?_))
      refine am_for m (fun e L h9 => L = [.ref 83, .ref 3, .int (nI (i + 1)), .int (nI e)] ∧ sm [84, 85] h h9 ∧ nst h9 (nep lo hi co (ners m T lo hi co i) e)) ?_ ?_ 0 (Nat.zero_le _) _ _ ⟨rfl, s, hv⟩
      · rintro e he9 L h9 ⟨rfl, s9, hv9⟩ next2
        have hs9 := s9.sh hs
        have hg9 := hg.mv s9 (by decide) (by decide) (by decide)
        have hc9 := hc.mv s9 (by decide)
        obtain ⟨⟨_, ⟨k1, k2, k3, k4, k5, k6⟩, r3, r4, r5, r6, r7, r8⟩, ⟨g0, g1, g2⟩, ge, _⟩ := id hg9
        obtain ⟨e1, e2⟩ := ge e he9
        obtain ⟨w1, w2⟩ := hw e he9
        have eI : am_inc (nI e) (Int.ofNat 1) = nI (e + 1) := nI_1 e
        rw [← eI] at next2
        have hnb := nep_nb (lo := lo) (hi := hi) (co := co) (ners_nb (m := m) (lo := lo) (hi := hi) (co := co) hm hT hn i) e
        have eA : am_i h9 (am_r h9 3 5) (nI e).toNatClampNeg = nI (lo e) := by rw [r5, q_cl (by omega)]; exact e1
        have eB : am_i h9 (am_r h9 3 6) (nI e).toNatClampNeg = nI (hi e) := by rw [r6, q_cl (by omega)]; exact e2
        refine am_go (fun p => p == 62) (fun K cal Q' hK hC hQ => ?_)
        refine And.intro hg9.1.1 (And.intro (fun z => absurd z (q_ge g1 he9 (by omega))) (fun _ => ?_))
        refine And.intro hg9.1.1 (And.intro (ck_row r5 k3 rfl (by omega) (by omega)) ?_)
        refine And.intro hg9.1.1 (And.intro (ck_row r6 k4 rfl (by omega) (by omega)) ?_)
        refine And.intro hg9.1.1 (hC _ _ _ _ (c_lengthOf (by decide) hg9 hc9 he9 ?_))
        refine And.intro (sk_83 hs9) ?_
        show cal m_Ne_offer [.ref 83, .int (am_i h9 (am_r h9 3 5) (nI e).toNatClampNeg), .int (am_i h9 (am_r h9 3 6) (nI e).toNatClampNeg), .int (nI (10000 / co e))] h9 _
        rw [eA, eB]
        refine hC _ _ _ _ (c_offer (by decide) hs9 hv9 hnb (by omega) (by omega) (by omega) (Nat.div_le_self _ _) (fun h10 s10 hv10 => ?_))
        have s10' := s9.tr s10
        have hs10 := s10'.sh hs
        have hg10 := hg.mv s10' (by decide) (by decide) (by decide)
        have hc10 := hc.mv s10' (by decide)
        have eA : am_i h10 (am_r h10 3 5) (nI e).toNatClampNeg = nI (lo e) := by rw [(gs_3 hs10).2.2.2.2.1, q_cl (by omega)]; exact (hg10.2.2.1 e he9).1
        have eB : am_i h10 (am_r h10 3 6) (nI e).toNatClampNeg = nI (hi e) := by rw [(gs_3 hs10).2.2.2.2.2.1, q_cl (by omega)]; exact (hg10.2.2.1 e he9).2
        refine And.intro hg10.1.1 (And.intro (ck_row (sr_3_6 hs10) (sk_7 hs10) rfl (by omega) (by omega)) ?_)
        refine And.intro hg10.1.1 (And.intro (ck_row (sr_3_5 hs10) (sk_6 hs10) rfl (by omega) (by omega)) ?_)
        refine And.intro hg10.1.1 (hC _ _ _ _ (c_lengthOf (by decide) hg10 hc10 he9 ?_))
        refine And.intro (sk_83 hs10) ?_
        show cal m_Ne_offer [.ref 83, .int (am_i h10 (am_r h10 3 6) (nI e).toNatClampNeg), .int (am_i h10 (am_r h10 3 5) (nI e).toNatClampNeg), .int (nI (10000 / co e))] h10 _
        rw [eA, eB]
        refine hC _ _ _ _ (c_offer (by decide) hs10 hv10 (hnb.ofr (Nat.div_le_self _ _)) (by omega) (by omega) (by omega) (Nat.div_le_self _ _) (fun h11 s11 hv11 => ?_))
        exact hK _ _ _ _ (next2 _ _ ⟨rfl, s10'.tr s11, hv11⟩)
      · rintro L h9 ⟨rfl, s9, hv9⟩
        have hg9 := hg.mv s9 (by decide) (by decide) (by decide)
        have eI : am_inc (nI (i + 1)) (Int.ofNat 1) = nI (i + 1 + 1) := nI_1 (i + 1)
        refine am_go (fun p => p == 52) (fun K cal Q' hK hC hQ => ?_)
        exact And.intro hg9.1.1 (And.intro (fun _ => hK _ _ _ _ (next _ _ ⟨_, by rw [← eI]; rfl, s9, hv9⟩)) (fun z => absurd (q_le hg9.2.1.2.1 (by omega)) z))
    · rintro L h' ⟨v3, rfl, s, hv⟩
      have hg' := hg.mv s (by decide) (by decide) (by decide)
      refine am_go (fun p => p == 52) (fun K cal Q' hK hC hQ => ?_)
      refine And.intro hg'.1.1 (And.intro (fun _ => And.intro trivial (hQ _ _ (HQ _ s hv))) (fun z => absurd ?_ z))
      show am_i h' 3 0 ≤ nI (n - 1 + 1)
      rw [hg'.2.1.1]
      exact nI_le (by omega) (by omega)
end
section
/-! THE BEST MOVE -/
/-- vertex, terminal, cost then -/
abbrev mvT : Type := Option (Nat × Nat × Nat)
def setL (lab : Nat → Int32) (v t : Nat) : Nat → Int32 := fun w => if w = v then nI t else lab w
def mvc (m : Nat) (lo hi co : Nat → Nat) (lab : Nat → Int32) (v t : Nat) : Nat := sumE co (dif lo hi (setL lab v t)) m
def mvu (o : mvT) (x : Nat × Nat × Nat) : mvT := match o with
  | none => some x
  | some q => if x.2.2 < q.2.2 then some x else some q
def mv1 (m T : Nat) (lo hi co : Nat → Nat) (lab : Nat → Int32) (v t : Nat) (o : mvT) : mvT :=
  if T.testBit v = false ∧ T.testBit t = true ∧ lab v ≠ nI t then mvu o (v, t, mvc m lo hi co lab v t) else o
def mvr (m T : Nat) (lo hi co : Nat → Nat) (lab : Nat → Int32) (v : Nat) (o : mvT) : Nat → mvT
  | 0 => o
  | t + 1 => mv1 m T lo hi co lab v t (mvr m T lo hi co lab v o t)
def mva (n m T : Nat) (lo hi co : Nat → Nat) (lab : Nat → Int32) : Nat → mvT
  | 0 => none
  | v + 1 => mvr m T lo hi co lab v (mva n m T lo hi co lab v) n
def oV1 (o : mvT) : Int32 := match o with
  | none => -nI 1
  | some q => nI q.1
def oT1 (o : mvT) : Int32 := match o with
  | none => -nI 1
  | some q => nI q.2.1
def oC1 (o : mvT) : Int32 := match o with
  | none => -nI 1
  | some q => nI q.2.2
def mst (h : am_H) (o : mvT) : Prop := am_i h 86 0 = oV1 o ∧ am_i h 86 1 = oT1 o ∧ am_i h 86 2 = oC1 o
def mok (n : Nat) (o : mvT) : Prop := ∀ q, o = some q → q.1 < n ∧ q.2.1 < n ∧ q.2.2 ≤ 20 * 9999
theorem mvc_le {m : Nat} {lo hi co : Nat → Nat} {lab : Nat → Int32} {v t : Nat} (hm : m ≤ 20) (hc : ∀ e, e < m → co e ≤ 9999) : mvc m lo hi co lab v t ≤ 20 * 9999 := Nat.le_trans (sumE_le hc) (Nat.mul_le_mul_right _ hm)
theorem mvu_ok {n : Nat} {o : mvT} {x : Nat × Nat × Nat} (ho : mok n o) (h1 : x.1 < n) (h2 : x.2.1 < n) (h3 : x.2.2 ≤ 20 * 9999) : mok n (mvu o x) := by
  intro q hq
  unfold mvu at hq
  split at hq
  · cases hq; exact ⟨h1, h2, h3⟩
  · split at hq
    · cases hq; exact ⟨h1, h2, h3⟩
    · cases hq; exact ho _ rfl
theorem mv1_ok {n m T : Nat} {lo hi co : Nat → Nat} {lab : Nat → Int32} {v t : Nat} {o : mvT} (hm : m ≤ 20) (hc : ∀ e, e < m → co e ≤ 9999) (ho : mok n o) (hv : v < n) (ht : t < n) : mok n (mv1 m T lo hi co lab v t o) := by
  unfold mv1
  split
  · exact mvu_ok ho hv ht (mvc_le hm hc)
  · exact ho
theorem mvr_ok {n m T : Nat} {lo hi co : Nat → Nat} {lab : Nat → Int32} {v : Nat} {o : mvT} (hm : m ≤ 20) (hc : ∀ e, e < m → co e ≤ 9999) (ho : mok n o) (hv : v < n) : ∀ t, t ≤ n → mok n (mvr m T lo hi co lab v o t)
  | 0, _ => ho
  | t + 1, h => mv1_ok hm hc (mvr_ok hm hc ho hv t (by omega)) hv (by omega)
theorem mva_ok {n m T : Nat} {lo hi co : Nat → Nat} {lab : Nat → Int32} (hm : m ≤ 20) (hc : ∀ e, e < m → co e ≤ 9999) : ∀ v, v ≤ n → mok n (mva n m T lo hi co lab v)
  | 0, _ => fun q h => by cases h
  | v + 1, h => mvr_ok hm hc (mva_ok hm hc v (by omega)) (by omega) n (Nat.le_refl _)
/-- whether the best move improves -/
def mvi (m : Nat) (lo hi co : Nat → Nat) (lab : Nat → Int32) (o : mvT) : Bool := match o with
  | none => false
  | some q => decide (q.2.2 < sumE co (dif lo hi lab) m)
def mvl (lab : Nat → Int32) (o : mvT) : Nat → Int32 := match o with
  | none => lab
  | some q => setL lab q.1 q.2.1
end
section
/-! GRAPH: the cost expression -/
/-- codes behind one another: what they leave on the pile -/
def foOp (c : Int) (x y : Int) : Int := max (-1000000) (min 1000000 (if c = -4 then x + y else if c = -5 then x - y else if c = -6 then x * y else if y = 0 then 0 else x.tdiv y))
def foVal (w l g : Int) (c : Int) : Int := if c = -1 then w else if c = -2 then l else if c = -3 then g else c
/-- one code on a pile (its top first) -/
def foPop (f : Int → Int → Int) : List Int → List Int
  | y :: x :: P => f x y :: P
  | P => P
def foStep (w l g : Int) (c : Int) (P : List Int) : List Int := if c ≤ -4 then foPop (foOp c) P else foVal w l g c :: P
def foRun (w l g : Int) : List Int → List Int → List Int
  | [], P => P
  | c :: cs, P => foRun w l g cs (foStep w l g c P)
/-- codes that are well made: from a pile of height k they come to one of height j, never above 11; an operation finds two -/
def foOk : List Int → Nat → Nat → Prop
  | [], k, j => k = j
  | c :: cs, k, j => (-7 ≤ c ∧ c ≤ 9999) ∧ (if c ≤ -4 then 2 ≤ k ∧ foOk cs (k - 1) j else k < 11 ∧ foOk cs (k + 1) j)
theorem foOp_rng (c x y : Int) : -1000000 ≤ foOp c x y ∧ foOp c x y ≤ 1000000 := by
  unfold foOp
  omega
set_option maxHeartbeats 4000000 in
theorem c_operand {xs : am_X} {d : Nat} {h : am_H} (hd : 1 ≤ d) {c w l g : Int32} {ci wi li gi : Int} (hc : c.toInt = ci) (hw : w.toInt = wi) (hl : l.toInt = li) (hg : g.toInt = gi) {Q : am_Q} (HQ : ∀ r : Int32, r.toInt = foVal wi li gi ci → Q (.inl (some (.int r))) h) : am_C xs am_P0 d m_Fo_operand [.int c, .int w, .int l, .int g] h Q := by
  have e1 : (-nI 1 : Int32).toInt = -1 := by decide
  have e2 : (-nI 2 : Int32).toInt = -2 := by decide
  have e3 : (-nI 3 : Int32).toInt = -3 := by decide
  refine am_C_le hd (am_enter (d := 0) ap_Fo_operand rfl ?_) (fun _ _ k => k)
  refine am_go (fun _ => false) (fun K cal Q' hK hC hQ => ?_)
  unfold foVal at HQ
  refine And.intro (fun z => ?_) (fun z => ?_)
  · have z : ci ≠ -1 := fun q => z ((fa_eq _ _).mpr (by rw [hc, e1, q]))
    rw [if_neg z] at HQ
    refine And.intro (fun z2 => ?_) (fun z2 => ?_)
    · have z2 : ci ≠ -2 := fun q => z2 ((fa_eq _ _).mpr (by rw [hc, e2, q]))
      rw [if_neg z2] at HQ
      refine And.intro (fun z3 => ?_) (fun z3 => ?_)
      · have z3 : ci ≠ -3 := fun q => z3 ((fa_eq _ _).mpr (by rw [hc, e3, q]))
        rw [if_neg z3] at HQ
        exact And.intro trivial (hQ _ _ (HQ _ hc))
      · have z3 : ci = -3 := by rw [← hc, ← e3]; exact (fa_eq _ _).mp (Classical.not_not.mp z3)
        rw [if_pos z3] at HQ
        exact And.intro trivial (hQ _ _ (HQ _ hg))
    · have z2 : ci = -2 := by rw [← hc, ← e2]; exact (fa_eq _ _).mp (Classical.not_not.mp z2)
      rw [if_pos z2] at HQ
      exact And.intro trivial (hQ _ _ (HQ _ hl))
  · have z : ci = -1 := by rw [← hc, ← e1]; exact (fa_eq _ _).mp (Classical.not_not.mp z)
    rw [if_pos z] at HQ
    exact And.intro trivial (hQ _ _ (HQ _ hw))
end
section
/-! THE COST EXPRESSION, on the machine -/
theorem q_L (x : Int32) : x.toInt64.toInt = x.toInt := Int32.toInt_toInt64 x
theorem q_clampL {z : Int64} : (if (if z < lN 1000000 then z else lN 1000000) < Int64.ofInt (Int.negSucc 999999) then Int64.ofInt (Int.negSucc 999999) else (if z < lN 1000000 then z else lN 1000000)).toInt32.toInt = max (-1000000) (min 1000000 z.toInt) := by
  have e1 : (lN 1000000).toInt = 1000000 := by decide +kernel
  have e2 : (Int64.ofInt (Int.negSucc 999999)).toInt = -1000000 := by decide +kernel
  rw [Int64.toInt_toInt32]
  have key : (if (if z < lN 1000000 then z else lN 1000000) < Int64.ofInt (Int.negSucc 999999) then Int64.ofInt (Int.negSucc 999999) else (if z < lN 1000000 then z else lN 1000000)).toInt = max (-1000000) (min 1000000 z.toInt) := by
    by_cases h : z < lN 1000000
    · rw [if_pos h]
      rw [fa_lt64, e1] at h
      by_cases h2 : z < Int64.ofInt (Int.negSucc 999999)
      · rw [if_pos h2, e2]; rw [fa_lt64, e2] at h2; omega
      · rw [if_neg h2]; rw [fa_lt64, e2] at h2; omega
    · rw [if_neg h]
      rw [fa_lt64, e1] at h
      rw [if_neg (by rw [fa_lt64, e1, e2]; omega), e1]
      omega
  rw [key]
  exact fb_bmod (by omega) (by omega)
set_option maxHeartbeats 4000000 in
theorem c_combine {xs : am_X} {d : Nat} {h : am_H} (hd : 1 ≤ d) {c x y : Int32} {ci xi yi : Int} (hc : c.toInt = ci) (hx : x.toInt = xi) (hy : y.toInt = yi) (bx : -1000000 ≤ xi ∧ xi ≤ 1000000) (by9 : -1000000 ≤ yi ∧ yi ≤ 1000000) {Q : am_Q} (HQ : ∀ r : Int32, r.toInt = foOp ci xi yi → Q (.inl (some (.int r))) h) : am_C xs am_P0 d m_Fo_combine [.int c, .int x, .int y] h Q := by
  have e4 : (-nI 4 : Int32).toInt = -4 := by decide
  have e5 : (-nI 5 : Int32).toInt = -5 := by decide
  have e6 : (-nI 6 : Int32).toInt = -6 := by decide
  refine am_C_le hd (am_enter (d := 0) ap_Fo_combine rfl ?_) (fun _ _ k => k)
  refine am_go (fun _ => false) (fun K cal Q' hK hC hQ => ?_)
  unfold foOp at HQ
  refine And.intro (fun z => ?_) (fun z => ?_)
  · have z : ci ≠ -4 := fun q => z ((fa_eq _ _).mpr (by rw [hc, e4, q]))
    rw [if_neg z] at HQ
    refine And.intro (fun z2 => ?_) (fun z2 => ?_)
    · have z2 : ci ≠ -5 := fun q => z2 ((fa_eq _ _).mpr (by rw [hc, e5, q]))
      rw [if_neg z2] at HQ
      refine And.intro (fun z3 => ?_) (fun z3 => ?_)
      · have z3 : ci ≠ -6 := fun q => z3 ((fa_eq _ _).mpr (by rw [hc, e6, q]))
        rw [if_neg z3] at HQ
        refine And.intro (fun z4 => ?_) (fun z4 => ?_)
        · have z4 : yi = 0 := by rw [← hy]; exact (fa_eq _ _).mp z4
          rw [if_pos z4] at HQ
          refine And.intro trivial (hQ _ _ (HQ _ ?_))
          exact q_clampL.trans rfl
        · have z4' : yi ≠ 0 := fun q => z4 ((fa_eq _ _).mpr (by rw [hy, q]; rfl))
          rw [if_neg z4'] at HQ
          refine And.intro z4 (And.intro trivial (hQ _ _ (HQ _ ?_)))
          refine q_clampL.trans ?_
          congr 2
          show (x / y).toInt64.toInt = _
          rw [q_L, Int32.toInt_div, hx, hy]
          have := Int.natAbs_tdiv_le_natAbs xi yi
          exact fb_bmod (by omega) (by omega)
      · have z3 : ci = -6 := by rw [← hc, ← e6]; exact (fa_eq _ _).mp (Classical.not_not.mp z3)
        rw [if_pos z3] at HQ
        refine And.intro trivial (hQ _ _ (HQ _ ?_))
        refine q_clampL.trans ?_
        congr 2
        have hb : -1000000000000 ≤ xi * yi ∧ xi * yi ≤ 1000000000000 := q_mul6 bx by9
        show (x.toInt64 * y.toInt64).toInt = _
        rw [fb_mulL (by rw [q_L, q_L, hx, hy]; omega) (by rw [q_L, q_L, hx, hy]; omega), q_L, q_L, hx, hy]
    · have z2 : ci = -5 := by rw [← hc, ← e5]; exact (fa_eq _ _).mp (Classical.not_not.mp z2)
      rw [if_pos z2] at HQ
      refine And.intro trivial (hQ _ _ (HQ _ ?_))
      refine q_clampL.trans ?_
      congr 2
      show (x.toInt64 - y.toInt64).toInt = _
      rw [fb_subL (by rw [q_L, q_L, hx, hy]; omega) (by rw [q_L, q_L, hx, hy]; omega), q_L, q_L, hx, hy]
  · have z : ci = -4 := by rw [← hc, ← e4]; exact (fa_eq _ _).mp (Classical.not_not.mp z)
    rw [if_pos z] at HQ
    refine And.intro trivial (hQ _ _ (HQ _ ?_))
    refine q_clampL.trans ?_
    congr 2
    show (x.toInt64 + y.toInt64).toInt = _
    rw [fb_addL (by rw [q_L, q_L, hx, hy]; omega) (by rw [q_L, q_L, hx, hy]; omega), q_L, q_L, hx, hy]
/-- a formula's cells: its codes -/
def fcs (h : am_H) (F : Nat) (cs : List Int) : Prop := am_k h F = (1, 1) ∧ am_r h F 0 = F + 1 ∧ am_r h F 1 = F + 2 ∧ am_k h (F + 1) = (2, cs.length) ∧ am_k h (F + 2) = (2, 11) ∧ (∀ k, k < cs.length → (am_i h (F + 1) k).toInt = cs.getD k 0) ∧ cs.length < 700
def foEv (cs : List Int) (w l g : Int) : Int := (foRun w l g cs []).headD 0
def pileAt (P : List Int) (j : Nat) : Int := P.getD (P.length - 1 - j) 0
theorem pileAt_cons {P : List Int} {v : Int} {j : Nat} (hj : j < P.length + 1) : pileAt (v :: P) j = if j = P.length then v else pileAt P j := by
  unfold pileAt
  rw [List.length_cons]
  by_cases e : j = P.length
  · rw [if_pos e, e]; simp
  · rw [if_neg e, show P.length + 1 - 1 - j = (P.length - 1 - j) + 1 by omega]; rfl
theorem foVal_rng {w l g c : Int} (hw : 0 ≤ w ∧ w ≤ 99) (hl : 0 ≤ l ∧ l ≤ 99) (hg : 0 ≤ g ∧ g ≤ 99) (hc : -4 < c ∧ c ≤ 9999) : -1000000 ≤ foVal w l g c ∧ foVal w l g c ≤ 1000000 := by
  unfold foVal
  split
  · omega
  · split
    · omega
    · split <;> omega
set_option maxHeartbeats 8000000 in
theorem c_evaluate {xs : am_X} {d : Nat} {h : am_H} {F : Nat} {cs : List Int} (hd : 2 ≤ d) (hF : fcs h F cs) (hok : foOk cs 0 1) {w l g : Int32} {wi li gi : Int} (hw : w.toInt = wi) (hl : l.toInt = li) (hg : g.toInt = gi) (bw : 0 ≤ wi ∧ wi ≤ 99) (bl : 0 ≤ li ∧ li ≤ 99) (bg : 0 ≤ gi ∧ gi ≤ 99) {Q : am_Q}
    (HQ : ∀ h' (r : Int32), sm [F + 2] h h' → r.toInt = foEv cs wi li gi → Q (.inl (some (.int r))) h') : am_C xs am_P0 d m_Fo_evaluate [.ref F, .int w, .int l, .int g] h Q := by
  obtain ⟨kF, rC, rW, kC, kW, hcs, hlen⟩ := hF
  refine am_C_le hd (am_enter (d := 1) ap_Fo_evaluate rfl ?_) (fun _ _ k => k)
  refine am_go (fun p => p == 6) (fun K cal Q' hK hC hQ => hK _ _ _ _ ?_)
  have nC : F + 1 ∉ [F + 2] := fun z => by have := List.mem_singleton.mp z; omega
  have nF : F ∉ [F + 2] := fun z => by have := List.mem_singleton.mp z; omega
  refine am_for cs.length (fun i L h' => ∃ (P : List Int) (v6 : Value), L = [.ref F, .int w, .int l, .int g, .int (nI P.length), .int (nI i), v6] ∧ sm [F + 2] h h' ∧ P.length ≤ 11 ∧ (∀ j, j < P.length → (am_i h' (F + 2) j).toInt = pileAt P j) ∧ (∀ z ∈ P, -1000000 ≤ z ∧ z ≤ 1000000) ∧ foOk (cs.drop i) P.length 1 ∧ foRun wi li gi (cs.drop i) P = foRun wi li gi cs []) ?_ ?_ 0 (Nat.zero_le _) _ _ ⟨[], am_J, rfl, sm.rf, Nat.zero_le _, fun j z => absurd z (Nat.not_lt_zero _), (fun z hz => absurd hz List.not_mem_nil), hok, rfl⟩
  · rintro i hi9 L h' ⟨P, v6, rfl, s, hPl, hPw, hPb, hok9, hrun⟩ next
    have kF' := (s.k F).trans kF
    have rC' := (s.r F 0).trans rC
    have rW' := (s.r F 1).trans rW
    have kC' := (s.k (F + 1)).trans kC
    have kW' := (s.k (F + 2)).trans kW
    have hd9 : cs.drop i = cs.getD i 0 :: cs.drop (i + 1) := by
      rw [List.drop_eq_getElem_cons hi9]
      congr 1
      rw [List.getD_eq_getElem?_getD, List.getElem?_eq_getElem hi9]
      rfl
    rw [hd9] at hok9 hrun
    have eI : am_inc (nI i) (Int.ofNat 1) = nI (i + 1) := nI_1 i
    rw [← eI] at next
    generalize hcv : cs.getD i 0 = cv at hok9 hrun
    have hcode : (am_i h' (am_r h' F 0) (nI i).toNatClampNeg).toInt = cv := by rw [rC', q_cl (by omega), s.i nC, hcs i hi9, hcv]
    have e4 : (-nI 4 : Int32).toInt = -4 := by decide
    refine am_go (fun p => p == 6) (fun K cal Q' hK hC hQ => ?_)
    refine And.intro kF' (And.intro ⟨by rw [rC', kC']; exact Nat.le_refl 2, by rw [rC', kC']; exact (by decide : 2 ≤ 6)⟩ ?_)
    have eN : nI (am_k h' (am_r h' F 0)).2 = nI cs.length := by rw [rC', kC']
    refine And.intro (fun z => absurd (show nI cs.length ≤ nI i from eN ▸ z) (nI_ge hi9 (by omega))) (fun _ => ?_)
    refine And.intro kF' (And.intro (ck_row rC' kC' rfl hi9 (by omega)) ?_)
    generalize am_i h' (am_r h' F 0) (nI i).toNatClampNeg = code at hcode
    have rng := hok9.1
    by_cases hop : cv ≤ -4
    · have hok2 := hok9.2
      rw [if_pos hop] at hok2
      obtain ⟨h2k, hok2⟩ := hok2
      have hstep : foStep wi li gi cv P = foPop (foOp cv) P := if_pos hop
      rcases P with _ | ⟨y, _ | ⟨x, P0⟩⟩
      · exact absurd h2k (show ¬ 2 ≤ 0 by decide)
      · exact absurd h2k (show ¬ 2 ≤ 1 by decide)
      · have by9 := hPb y (List.mem_cons_self)
        have bx9 := hPb x (List.mem_cons_of_mem _ List.mem_cons_self)
        have lP : (y :: x :: P0).length = P0.length + 2 := rfl
        rw [lP] at hPl hPw h2k hok2
        refine And.intro (fun z => absurd z ?_) (fun _ => ?_)
        · show ¬ (-nI 4 < code)
          rw [fa_lt, hcode, e4]; omega
        · refine And.intro (fun z => absurd z ?_) (fun _ => ?_)
          · show ¬ nI (P0.length + 2) < nI 2
            exact nI_nlt (by omega) (by omega)
          · refine And.intro kF' (And.intro kF' ?_)
            have eD : am_inc (nI (y :: x :: P0).length) (Int.negSucc 0) = nI (P0.length + 1) := nI_pred (P0.length + 1)
            have eD2 : am_inc (nI (y :: x :: P0).length) (Int.negSucc 0) - nI 1 = nI P0.length := by rw [eD]; exact nI_pred P0.length
            refine And.intro (ck_row rW' kW' eD2 (by omega) (by omega)) ?_
            refine And.intro kF' (And.intro (ck_row rW' kW' eD (by omega) (by omega)) ?_)
            refine And.intro trivial ?_
            have vx : (am_i h' (am_r h' F 1) (am_inc (nI (y :: x :: P0).length) (Int.negSucc 0) - nI 1).toNatClampNeg).toInt = x := by
              rw [eD2, rW', q_cl (by omega), hPw _ (by omega), pileAt_cons (by rw [List.length_cons]; omega), if_neg (by rw [List.length_cons]; omega), pileAt_cons (by omega), if_pos rfl]
            have vy : (am_i h' (am_r h' F 1) (am_inc (nI (y :: x :: P0).length) (Int.negSucc 0)).toNatClampNeg).toInt = y := by
              rw [eD, rW', q_cl (by omega), hPw _ (by omega), pileAt_cons (by rw [List.length_cons]; omega), if_pos (by rw [List.length_cons])]
            refine hC _ _ _ _ (c_combine (by decide) hcode vx vy bx9 by9 (fun r hr => ?_))
            refine And.intro (ck_row rW' kW' eD2 (by omega) (by omega)) ?_
            refine hK _ _ _ _ (next _ _ ⟨foOp cv x y :: P0, .int code, ?_, ?_, ?_, ?_, ?_, ?_, ?_⟩)
            · rw [show (foOp cv x y :: P0).length = P0.length + 1 from rfl, ← eD]; rfl
            · rw [show am_r h' F (65 % 64) = F + 2 from rW']; exact s.pi (List.mem_singleton.mpr rfl)
            · rw [List.length_cons]; omega
            · intro j hj
              rw [List.length_cons] at hj
              rw [show am_r h' F (65 % 64) = F + 2 from rW', eD2, q_cl (by omega), i_pi_same, pileAt_cons (by omega)]
              by_cases e : j = P0.length
              · rw [if_pos e, if_pos e]; exact hr
              · rw [if_neg e, if_neg e, hPw j (by omega), pileAt_cons (by rw [List.length_cons]; omega), if_neg (by rw [List.length_cons]; omega), pileAt_cons (by omega), if_neg e]
            · intro z hz
              rcases List.mem_cons.mp hz with rfl | hz
              · exact foOp_rng _ _ _
              · exact hPb z (List.mem_cons_of_mem _ (List.mem_cons_of_mem _ hz))
            · rw [List.length_cons]; exact hok2
            · rw [← hrun]
              show foRun _ _ _ _ _ = foRun _ _ _ _ (foStep wi li gi cv (y :: x :: P0))
              rw [hstep]
              rfl
    · have hok2 := hok9.2
      rw [if_neg hop] at hok2
      obtain ⟨hk11, hok2⟩ := hok2
      have hstep : foStep wi li gi cv P = foVal wi li gi cv :: P := if_neg hop
      refine And.intro (fun _ => ?_) (fun z => absurd ?_ z)
      rotate_left
      · show -nI 4 < code
        rw [fa_lt, hcode, e4]; omega
      refine And.intro (fun z => absurd z ?_) (fun _ => ?_)
      · show ¬ code ≤ -nI 4
        rw [fa_le, hcode, e4]; omega
      refine And.intro (fun z => absurd z (nI_ge hk11 (by omega))) (fun _ => ?_)
      refine And.intro kF' (And.intro trivial (hC _ _ _ _ (c_operand (by decide) hcode hw hl hg (fun r hr => ?_))))
      refine And.intro (ck_row rW' kW' rfl hk11 (by omega)) ?_
      refine hK _ _ _ _ (next _ _ ⟨foVal wi li gi cv :: P, .int code, ?_, ?_, ?_, ?_, ?_, ?_, ?_⟩)
      · rw [List.length_cons, ← nI_1 P.length]; rfl
      · rw [show am_r h' F (65 % 64) = F + 2 from rW']; exact s.pi (List.mem_singleton.mpr rfl)
      · rw [List.length_cons]; omega
      · intro j hj
        rw [List.length_cons] at hj
        rw [show am_r h' F (65 % 64) = F + 2 from rW', q_cl (by omega), i_pi_same, pileAt_cons hj]
        by_cases e : j = P.length
        · rw [if_pos e, if_pos e]; exact hr
        · rw [if_neg e, if_neg e]; exact hPw j (by omega)
      · intro z hz
        rcases List.mem_cons.mp hz with rfl | hz
        · exact foVal_rng bw bl bg ⟨by omega, by omega⟩
        · exact hPb z hz
      · rw [List.length_cons]; exact hok2
      · rw [← hrun]
        show foRun _ _ _ _ _ = foRun _ _ _ _ (foStep wi li gi cv P)
        rw [hstep]
  · rintro L h' ⟨P, v6, rfl, s, hPl, hPw, hPb, hok9, hrun⟩
    have kF' := (s.k F).trans kF
    have rC' := (s.r F 0).trans rC
    have rW' := (s.r F 1).trans rW
    have kC' := (s.k (F + 1)).trans kC
    have kW' := (s.k (F + 2)).trans kW
    rw [List.drop_length] at hok9 hrun
    have h1 : P.length = 1 := hok9
    have hP : ∃ z, P = [z] := List.length_eq_one_iff.mp h1
    obtain ⟨z, rfl⟩ := hP
    refine am_go (fun p => p == 6) (fun K cal Q' hK hC hQ => ?_)
    refine And.intro kF' (And.intro ⟨by rw [rC', kC']; exact Nat.le_refl 2, by rw [rC', kC']; exact (by decide : 2 ≤ 6)⟩ ?_)
    have eN : nI (am_k h' (am_r h' F 0)).2 = nI cs.length := by rw [rC', kC']
    refine And.intro (fun _ => ?_) (fun q => absurd (show nI (am_k h' (am_r h' F 0)).2 ≤ nI cs.length by rw [eN]; exact nI_le (Nat.le_refl _) (by omega)) q)
    refine And.intro kF' (And.intro (ck_row rW' kW' (e := 0) rfl (by decide) (by decide)) (And.intro trivial (hQ _ _ (HQ _ _ s ?_))))
    show (am_i h' (am_r h' F 1) (nI 0).toNatClampNeg).toInt = _
    rw [rW', q_cl (by decide), hPw 0 Nat.one_pos]
    unfold foEv
    rw [← hrun]
    rfl
end
section
/-! GRAPH: writes -/
theorem cg.gs {h : am_H} {a n m T : Nat} {lo hi : Nat → Nat} (hg : cg h a n m T lo hi) : gs h a := hg.1
/-- the cost of an edge: by its codes, if there are any -/
def coF (cs : Option (List Int)) (w l g : Nat) : Nat := match cs with
  | none => w
  | some cs => (max 1 (min 9999 (foEv cs w l g))).toNat
/-- the formula of a graph -/
def gfo (h : am_H) (a : Nat) (cs : Option (List Int)) : Prop := match cs with
  | none => am_r h a 9 = 0
  | some cs => 95 ≤ am_r h a 9 ∧ fcs h (am_r h a 9) cs ∧ foOk cs 0 1
theorem q_clamp {v : Int32} {z : Int} (hv : v.toInt = z) : (if nI 1 < (if v < nI 9999 then v else nI 9999) then (if v < nI 9999 then v else nI 9999) else nI 1) = nI (max 1 (min 9999 z)).toNat := by
  have e1 : (nI 9999).toInt = 9999 := by decide
  have e2 : (nI 1).toInt = 1 := by decide
  rw [fa_eq, nI_toInt (by omega)]
  by_cases h : v < nI 9999
  · rw [if_pos h]
    rw [fa_lt, e1, hv] at h
    by_cases h2 : nI 1 < v
    · rw [if_pos h2, hv]; rw [fa_lt, e2, hv] at h2; omega
    · rw [if_neg h2, e2]; rw [fa_lt, e2, hv] at h2; omega
  · rw [if_neg h]
    rw [fa_lt, e1, hv] at h
    rw [if_pos (by decide), e1]
    omega
def gfX (h : am_H) (a : Nat) (cs : Option (List Int)) : List Nat := match cs with
  | none => [a + 6]
  | some _ => [a + 6, am_r h a 9 + 2]
set_option maxHeartbeats 4000000 in
theorem c_updateCost {xs : am_X} {d : Nat} {h : am_H} {a e w l g lo hi : Nat} {cs : Option (List Int)} (hd : 3 ≤ d) (ha : a + 6 < 95) (hg : gs h a) (hf : gfo h a cs) (he : e < 20) (hlo : am_i h (a + 3) e = nI lo) (hhi : am_i h (a + 4) e = nI hi) (hw : am_i h (a + 5) e = nI w) (hl : am_i h (a + 1) lo = nI l) (hh : am_i h (a + 1) hi = nI g) (b1 : lo < 9) (b2 : hi < 9) (b3 : 1 ≤ w ∧ w ≤ 99) (b4 : l ≤ 99) (b5 : g ≤ 99) {Q : am_Q}
    (HQ : ∀ h', sm (gfX h a cs) h h' → (∀ k, am_i h' (a + 6) k = if k = e then nI (coF cs w l g) else am_i h (a + 6) k) → Q (.inl none) h') : am_C xs am_P0 d m_Gr_updateCost [.ref a, .int (nI e)] h Q := by
  obtain ⟨hk, ⟨k1, k2, k3, k4, k5, k6⟩, r3, r4, r5, r6, r7, r8⟩ := hg
  refine am_C_le hd (am_enter (d := 2) ap_Gr_updateCost rfl ?_) (fun _ _ k => k)
  refine am_go (fun p => p == 45) (fun K cal Q' hK hC hQ => ?_)
  refine And.intro hk (And.intro (ck_row r7 k5 rfl he (by omega)) (And.intro hk ?_))
  have cl : (nI e).toNatClampNeg = e := q_cl (by omega)
  have eW : am_i h (am_r h a 7) (nI e).toNatClampNeg = nI w := by rw [r7, cl]; exact hw
  have fin : ∀ (v : Int32) (h1 : am_H), sm (gfX h a cs) h h1 → (∀ k, am_i h1 (a + 6) k = am_i h (a + 6) k) → (if nI 1 < (if v < nI 9999 then v else nI 9999) then (if v < nI 9999 then v else nI 9999) else nI 1) = nI (coF cs w l g) → am_W xs (am_code at_Gr_updateCost) (am_hd ah_Gr_updateCost) (am_C xs am_P0 2) Q 45 [.ref a, .int (nI e), .int v] [] h1 := by
    intro v h1 s h6 hv
    refine am_go (fun _ => false) (fun K cal Q' hK hC hQ => ?_)
    refine And.intro ((s.k a).trans hk) (And.intro (ck_row ((s.r a 8).trans r8) ((s.k _).trans k6) rfl he (by omega)) (And.intro trivial (hQ _ _ ?_)))
    rw [show am_r h1 a (136 % 64) = a + 6 from (s.r a 8).trans r8, cl, hv]
    refine HQ _ (s.pi (by cases cs <;> exact List.mem_cons_self)) (fun k => ?_)
    rw [i_pi_same]
    by_cases q : k = e
    · rw [if_pos q, if_pos q]
    · rw [if_neg q, if_neg q]; exact h6 k
  cases cs with
  | none =>
    have hf : am_r h a 9 = 0 := hf
    refine And.intro (fun _ => hK _ _ _ _ ?_) (fun z => absurd hf z)
    have := fin (nI w) h sm.rf (fun _ => rfl) ?_
    · rw [← eW] at this; exact this
    · rw [q_clamp (nI_toInt (by omega))]
      congr 1
      show _ = w
      omega
  | some cs =>
    obtain ⟨hF, hcs, hok⟩ := hf
    refine And.intro (fun z => absurd (show am_r h a 9 = 0 from z) (by omega)) (fun _ => ?_)
    have eL : am_i h (am_r h a 5) (nI e).toNatClampNeg = nI lo := by rw [r5, cl]; exact hlo
    have eH : am_i h (am_r h a 6) (nI e).toNatClampNeg = nI hi := by rw [r6, cl]; exact hhi
    refine And.intro hk (And.intro hk (And.intro hk (And.intro (ck_row r5 k3 rfl he (by omega)) ?_)))
    refine And.intro (ck_row r3 k1 eL b1 (by omega)) ?_
    refine And.intro hk (And.intro hk (And.intro (ck_row r6 k4 rfl he (by omega)) ?_))
    refine And.intro (ck_row r3 k1 eH b2 (by omega)) ?_
    have vL : am_i h (am_r h a 3) (am_i h (am_r h a 5) (nI e).toNatClampNeg).toNatClampNeg = nI l := by rw [eL, r3, q_cl (by omega)]; exact hl
    have vH : am_i h (am_r h a 3) (am_i h (am_r h a 6) (nI e).toNatClampNeg).toNatClampNeg = nI g := by rw [eH, r3, q_cl (by omega)]; exact hh
    refine And.intro hcs.1 (hC _ _ _ _ (c_evaluate (by decide) hcs hok (wi := w) (li := l) (gi := g) (by rw [eW]; exact nI_toInt (by omega)) (by rw [vL]; exact nI_toInt (by omega)) (by rw [vH]; exact nI_toInt (by omega)) (by omega) (by omega) (by omega) (fun h1 r s hr => ?_)))
    have n6 : a + 6 ∉ [am_r h a 9 + 2] := fun z => by have := List.mem_singleton.mp z; omega
    refine hK _ _ _ _ (fin r h1 (s.mo fun x hx => ?_) (fun k => s.i n6 k) ?_)
    · exact List.mem_cons_of_mem _ hx
    · exact q_clamp hr
set_option maxHeartbeats 4000000 in
theorem c_putEdge {xs : am_X} {d : Nat} {h : am_H} {a m : Nat} (hd : 1 ≤ d) (hg : gs h a) (hm : am_i h a 1 = nI m) (hm20 : m < 20) {u v w : Nat} (hu : u < 9) (hv : v < 9) {Q : am_Q}
    (HQ : ∀ h', sm [a, a + 3, a + 4, a + 5] h h' → (∀ k, am_i h' a k = if k = 1 then nI (m + 1) else am_i h a k) → (∀ k, am_i h' (a + 3) k = if k = m then nI (Nat.min u v) else am_i h (a + 3) k) → (∀ k, am_i h' (a + 4) k = if k = m then nI (Nat.max u v) else am_i h (a + 4) k) → (∀ k, am_i h' (a + 5) k = if k = m then nI w else am_i h (a + 5) k) → Q (.inl none) h') : am_C xs am_P0 d m_Gr_putEdge [.ref a, .int (nI u), .int (nI v), .int (nI w)] h Q := by
  obtain ⟨hk, ⟨k1, k2, k3, k4, k5, k6⟩, r3, r4, r5, r6, r7, r8⟩ := hg
  have eMin : (if nI v < nI u then nI v else nI u) = nI (Nat.min u v) := by
    by_cases q : v < u
    · rw [if_pos (nI_lt q (by omega))]; congr 1; exact (Nat.min_eq_right (by omega)).symm
    · rw [if_neg (nI_nlt (by omega) (by omega))]; congr 1; exact (Nat.min_eq_left (by omega)).symm
  have eMax : (if nI u < nI v then nI v else nI u) = nI (Nat.max u v) := by
    by_cases q : u < v
    · rw [if_pos (nI_lt q (by omega))]; congr 1; exact (Nat.max_eq_right (by omega)).symm
    · rw [if_neg (nI_nlt (by omega) (by omega))]; congr 1; exact (Nat.max_eq_left (by omega)).symm
  refine am_C_le hd (am_enter (d := 0) ap_Gr_putEdge rfl ?_) (fun _ _ k => k)
  refine am_go (fun _ => false) (fun K cal Q' hK hC hQ => ?_)
  refine And.intro hk (And.intro (fun _ => ?_) (fun z => absurd ?_ z))
  rotate_left
  · show am_i h a 1 < nI 20
    rw [hm]; exact nI_lt hm20 (by omega)
  refine And.intro hk (And.intro hk (And.intro (ck_row r5 k3 hm hm20 (by omega)) ?_))
  have m1 : (am_i h a 1).toNatClampNeg = m := by rw [hm]; exact q_cl (by omega)
  have e3 : am_r h a (133 % 64) = a + 3 := r5
  have m1' : (am_i h a (129 % 64)).toNatClampNeg = m := m1
  rw [e3, m1', eMin]
  have na : a ≠ a + 3 := by omega
  have hm1 : am_i (am_pi h (a + 3) m (nI (Nat.min u v))) a 1 = nI m := by rw [i_pi_ne na]; exact hm
  refine And.intro hk (And.intro hk (And.intro (ck_row r6 k4 hm1 hm20 (by omega)) ?_))
  have e4 : am_r (am_pi h (a + 3) m (nI (Nat.min u v))) a (134 % 64) = a + 4 := r6
  have m2 : (am_i (am_pi h (a + 3) m (nI (Nat.min u v))) a (129 % 64)).toNatClampNeg = m := by rw [show am_i (am_pi h (a + 3) m (nI (Nat.min u v))) a (129 % 64) = nI m from hm1]; exact q_cl (by omega)
  rw [e4, m2, eMax]
  have hm2 : am_i (am_pi (am_pi h (a + 3) m (nI (Nat.min u v))) (a + 4) m (nI (Nat.max u v))) a 1 = nI m := by rw [i_pi_ne (by omega)]; exact hm1
  refine And.intro hk (And.intro hk (And.intro (ck_row r7 k5 hm2 hm20 (by omega)) ?_))
  have e5 : am_r (am_pi (am_pi h (a + 3) m (nI (Nat.min u v))) (a + 4) m (nI (Nat.max u v))) a (135 % 64) = a + 5 := r7
  have m3 : (am_i (am_pi (am_pi h (a + 3) m (nI (Nat.min u v))) (a + 4) m (nI (Nat.max u v))) a (129 % 64)).toNatClampNeg = m := by rw [show am_i (am_pi (am_pi h (a + 3) m (nI (Nat.min u v))) (a + 4) m (nI (Nat.max u v))) a (129 % 64) = nI m from hm2]; exact q_cl (by omega)
  rw [e5, m3]
  have hm3 : am_i (am_pi (am_pi (am_pi h (a + 3) m (nI (Nat.min u v))) (a + 4) m (nI (Nat.max u v))) (a + 5) m (nI w)) a 1 = nI m := by rw [i_pi_ne (by omega)]; exact hm2
  refine And.intro hk (And.intro hk (And.intro trivial (hQ _ _ ?_)))
  have e9 : am_i (am_pi (am_pi (am_pi h (a + 3) m (nI (Nat.min u v))) (a + 4) m (nI (Nat.max u v))) (a + 5) m (nI w)) a (129 % 64) + nI 1 = nI (m + 1) := by rw [show am_i (am_pi (am_pi (am_pi h (a + 3) m (nI (Nat.min u v))) (a + 4) m (nI (Nat.max u v))) (a + 5) m (nI w)) a (129 % 64) = nI m from hm3]; exact nI_add m 1
  rw [e9]
  refine HQ _ ((((sm.rf.pi (by simp)).pi (by simp)).pi (by simp)).pi (by simp)) (fun k => ?_) (fun k => ?_) (fun k => ?_) (fun k => ?_)
  · rw [i_pi_same, i_pi_ne (by omega), i_pi_ne (by omega), i_pi_ne (by omega)]
  · rw [i_pi_ne (by omega), i_pi_ne (by omega), i_pi_ne (by omega), i_pi_same]
  · rw [i_pi_ne (by omega), i_pi_ne (by omega), i_pi_same, i_pi_ne (by omega)]
  · rw [i_pi_ne (by omega), i_pi_same, i_pi_ne (by omega), i_pi_ne (by omega)]
end
section
set_option maxHeartbeats 4000000 in
theorem c_takeLabels {xs : am_X} {d : Nat} {h : am_H} {a n b : Nat} (hd : 1 ≤ d) (hg : gs h a) (hn : am_i h a 0 = nI n) (hn9 : n ≤ 9) (hb : am_k h b = (2, 9)) (hba : b ≠ a + 2) {Q : am_Q}
    (HQ : ∀ h', sm [a + 2] h h' → (∀ k, k < n → am_i h' (a + 2) k = am_i h b k) → Q (.inl none) h') : am_C xs am_P0 d m_Gr_takeLabels [.ref a, .ref b] h Q := by
  obtain ⟨hk, ⟨k1, k2, k3, k4, k5, k6⟩, r3, r4, r5, r6, r7, r8⟩ := hg
  refine am_C_le hd (am_enter (d := 0) ap_Gr_takeLabels rfl ?_) (fun _ _ k => k)
  refine am_go (fun p => p == 2) (fun K cal Q' hK hC hQ => hK _ _ _ _ ?_)
  have na : a ∉ [a + 2] := fun z => by have := List.mem_singleton.mp z; omega
  have nb : b ∉ [a + 2] := fun z => hba (List.mem_singleton.mp z)
  refine am_for n (fun i L h' => L = [.ref a, .ref b, .int (nI i)] ∧ sm [a + 2] h h' ∧ ∀ k, k < i → am_i h' (a + 2) k = am_i h b k) ?_ ?_ 0 (Nat.zero_le _) _ _ ⟨rfl, sm.rf, fun k z => absurd z (Nat.not_lt_zero _)⟩
  · rintro i hi9 L h' ⟨rfl, s, hv9⟩ next
    have eI : am_inc (nI i) (Int.ofNat 1) = nI (i + 1) := nI_1 i
    rw [← eI] at next
    have r4' : am_r h' a 4 = a + 2 := (s.r a 4).trans r4
    have k2' := (s.k (a + 2)).trans k2
    have hk' := (s.k a).trans hk
    have hb' := (s.k b).trans hb
    have hn' : am_i h' a 0 = nI n := (s.i na 0).trans hn
    refine am_go (fun p => p == 2) (fun K cal Q' hK hC hQ => ?_)
    refine And.intro hk' (And.intro (fun z => absurd z (q_ge hn' hi9 (by omega))) (fun _ => ?_))
    refine And.intro ⟨by rw [hb']; exact Nat.le_refl 2, by rw [hb']; exact (by decide : 2 ≤ 6)⟩ (And.intro (fun z => absurd z ?_) (fun _ => ?_))
    · show ¬ nI (am_k h' b).2 ≤ nI i
      rw [hb']
      exact nI_ge (show i < 9 by omega) (by omega)
    · refine And.intro hk' (And.intro (ck_arr hb' rfl (by omega) (by omega)) (And.intro (ck_row r4' k2' rfl (by omega) (by omega)) ?_))
      rw [show am_r h' a (132 % 64) = a + 2 from r4', q_cl (by omega), s.i nb]
      refine hK _ _ _ _ (next _ _ ⟨rfl, s.pi (by simp), fun k z => ?_⟩)
      rw [i_pi_same]
      by_cases w : k = i
      · rw [if_pos w, w]
      · rw [if_neg w]; exact hv9 k (by omega)
  · rintro L h' ⟨rfl, s, hv9⟩
    have hn' : am_i h' a 0 = nI n := (s.i na 0).trans hn
    refine am_go (fun p => p == 2) (fun K cal Q' hK hC hQ => ?_)
    exact And.intro ((s.k a).trans hk) (And.intro (fun _ => And.intro trivial (hQ _ _ (HQ _ s hv9))) (fun z => absurd (q_le hn' (by omega)) z))
end
section
/-! GRAPH: copies -/
/-- only the ints of the cells X and one reference field of a have changed -/
def smf (X : List Nat) (a : Nat) (h h' : am_H) : Prop := h'.1 = h.1 ∧ (∀ x k, ¬ (x = a ∧ k = 9) → am_r h' x k = am_r h x k) ∧ (am_n h' = am_n h ∧ am_cs h' = am_cs h) ∧ ∀ x, x ∉ X → am_i h' x = am_i h x ∧ am_l h' x = am_l h x
theorem smf.of {X : List Nat} {a : Nat} {h h' : am_H} (s : sm X h h') : smf X a h h' := ⟨s.1, fun x k _ => s.r x k, ⟨s.n, s.cs⟩, s.2.2⟩
theorem smf.tr {X : List Nat} {a : Nat} {h h1 h2 : am_H} (s : smf X a h h1) (t : smf X a h1 h2) : smf X a h h2 := ⟨t.1.trans s.1, fun x k z => (t.2.1 x k z).trans (s.2.1 x k z), ⟨t.2.2.1.1.trans s.2.2.1.1, t.2.2.1.2.trans s.2.2.1.2⟩, fun x hx => ⟨(t.2.2.2 x hx).1.trans (s.2.2.2 x hx).1, (t.2.2.2 x hx).2.trans (s.2.2.2 x hx).2⟩⟩
theorem smf.mo {X Y : List Nat} {a : Nat} {h h1 : am_H} (s : smf X a h h1) (hs : ∀ x, x ∈ X → x ∈ Y) : smf Y a h h1 := ⟨s.1, s.2.1, s.2.2.1, fun x hx => s.2.2.2 x fun z => hx (hs x z)⟩
theorem smf.k {X : List Nat} {a : Nat} {h h' : am_H} (s : smf X a h h') (x : Nat) : am_k h' x = am_k h x := by unfold am_k; rw [s.1]
theorem smf.i {X : List Nat} {a : Nat} {h h' : am_H} (s : smf X a h h') {x : Nat} (hx : x ∉ X) (k : Nat) : am_i h' x k = am_i h x k := by rw [(s.2.2.2 x hx).1]
theorem smf.pr {X : List Nat} {a : Nat} {h h1 : am_H} (s : smf X a h h1) {v : Nat} : smf X a h (am_pr h1 a 9 v) := ⟨s.1, fun x k z => by
  rw [r_pr]
  by_cases e : x = a
  · rw [if_pos e, if_neg fun q => z ⟨e, q⟩, e]
    have := s.2.1 a k (fun q => z ⟨e, q.2⟩)
    exact this
  · rw [if_neg e]; exact s.2.1 x k z, s.2.2.1, s.2.2.2⟩
theorem sh_no9 : ∀ q ∈ sh_rl, ¬ (q.2.1 = 9 ∧ q.1 ≠ 1) := by decide +kernel
theorem smf.sh {X : List Nat} {a : Nat} {h h' : am_H} (s : smf X a h h') (ha : a ≠ 1) (hs : sh h) : sh h' := ⟨fun x hx => (s.k x).trans (hs.1 x hx), fun q hq => (s.2.1 _ _ fun z => sh_no9 q hq ⟨z.2, by rw [z.1]; exact ha⟩).trans (hs.2.1 q hq), by rw [s.2.2.1.1]; exact hs.2.2⟩
theorem smf.gx {X : List Nat} {a : Nat} {h h' : am_H} (s : smf X a h h') {b : Nat} (g : gs h b) : gs h' b := by
  obtain ⟨hk, ⟨k1, k2, k3, k4, k5, k6⟩, r3, r4, r5, r6, r7, r8⟩ := g
  have R : ∀ k, k ≠ 9 → am_r h' b k = am_r h b k := fun k z => s.2.1 b k fun q => z q.2
  exact ⟨(s.k _).trans hk, ⟨(s.k _).trans k1, (s.k _).trans k2, (s.k _).trans k3, (s.k _).trans k4, (s.k _).trans k5, (s.k _).trans k6⟩, (R 3 (by decide)).trans r3, (R 4 (by decide)).trans r4, (R 5 (by decide)).trans r5, (R 6 (by decide)).trans r6, (R 7 (by decide)).trans r7, (R 8 (by decide)).trans r8⟩
abbrev gX7 (a : Nat) : List Nat := [a, a + 1, a + 2, a + 3, a + 4, a + 5, a + 6]
def gln (i : Nat) : Nat := if i ≤ 2 then 9 else 20
/-- j rows of b are copied -/
def cpJ (h : am_H) (a b j : Nat) (h' : am_H) : Prop := smf (gX7 a) a h h' ∧ (∀ k, k < 3 → am_i h' a k = am_i h b k) ∧ am_r h' a 9 = am_r h b 9 ∧ ∀ i, 1 ≤ i → i ≤ j → ∀ k, k < gln i → am_i h' (a + i) k = am_i h (b + i) k
theorem cpJ.s {h h' : am_H} {a b j : Nat} (J : cpJ h a b j h') (hj : j < 6) (hab : a + 7 ≤ b ∨ b + 7 ≤ a) : cpJ h a b (j + 1) (am_cp h' (b + (j + 1)) 0 (a + (j + 1)) 0 (gln (j + 1))) := by
  obtain ⟨s, h1, h2, h3⟩ := J
  have hm : a + (j + 1) ∈ gX7 a := by
    have : j = 0 ∨ j = 1 ∨ j = 2 ∨ j = 3 ∨ j = 4 ∨ j = 5 := by omega
    rcases this with rfl | rfl | rfl | rfl | rfl | rfl <;> simp [gX7]
  have hb : b + (j + 1) ∉ gX7 a := by simp [gX7]; omega
  refine ⟨s.tr (smf.of (sm.rf.cp hm)), fun k hk => ?_, h2, fun i i1 i2 k hk => ?_⟩
  · rw [i_cp, if_neg fun q => by omega]; exact h1 k hk
  · rw [i_cp]
    by_cases e : i = j + 1
    · subst e
      rw [if_pos ⟨rfl, Nat.zero_le _, by omega⟩, Nat.sub_zero, Nat.zero_add]
      exact s.i hb k
    · rw [if_neg fun q => by omega]
      exact h3 i i1 (by omega) k hk
theorem ck_cp {h : am_H} {x y A B N : Nat} {n : Int32} (hx : x = A) (hy : y = B) (kA : am_k h A = (2, N)) (kB : am_k h B = (2, N)) (hn : n = nI N) (hN : N < 1000) : ((am_k h x).1 = 2 ∧ (am_k h y).1 = 2) ∧ (¬ nI 0 < 0 ∧ ¬ nI 0 < 0 ∧ ¬ n < 0) ∧ (nI 0).toNatClampNeg + n.toNatClampNeg ≤ (am_k h y).2 ∧ (nI 0).toNatClampNeg + n.toNatClampNeg ≤ (am_k h x).2 := by
  subst hx hy hn
  rw [kA, kB, q_cl (by omega), q_cl (by omega)]
  exact ⟨⟨rfl, rfl⟩, ⟨by decide, by decide, nI_pos (by omega)⟩, by show 0 + N ≤ N; omega, by show 0 + N ≤ N; omega⟩
set_option maxHeartbeats 4000000 in
theorem c_copyFrom {xs : am_X} {d : Nat} {h : am_H} {a b : Nat} (hd : 1 ≤ d) (hga : gs h a) (hgb : gs h b) (hab : a + 7 ≤ b ∨ b + 7 ≤ a) {Q : am_Q} (HQ : ∀ h', cpJ h a b 6 h' → Q (.inl none) h') : am_C xs am_P0 d m_Gr_copyFrom [.ref a, .ref b] h Q := by
  obtain ⟨hka, ⟨a1, a2, a3, a4, a5, a6⟩, ar3, ar4, ar5, ar6, ar7, ar8⟩ := id hga
  obtain ⟨hkb, ⟨b1, b2, b3, b4, b5, b6⟩, br3, br4, br5, br6, br7, br8⟩ := id hgb
  have hne : b ≠ a := by omega
  refine am_C_le hd (am_enter (d := 0) ap_Gr_copyFrom rfl ?_) (fun _ _ k => k)
  refine am_go (fun _ => false) (fun K cal Q' hK hC hQ => ?_)
  refine And.intro hkb (And.intro hka (And.intro hkb (And.intro hka (And.intro hkb (And.intro hka (And.intro hkb (And.intro hka ?_)))))))
  -- the heap ahead of the rows
  have J0 : cpJ h a b 0 (am_pr (am_pi (am_pi (am_pi h a (128 % 64) (am_i h b (128 % 64))) a (129 % 64) (am_i (am_pi h a (128 % 64) (am_i h b (128 % 64))) b (129 % 64))) a (130 % 64) (am_i (am_pi (am_pi h a (128 % 64) (am_i h b (128 % 64))) a (129 % 64) (am_i (am_pi h a (128 % 64) (am_i h b (128 % 64))) b (129 % 64))) b (130 % 64))) a 9 (am_r h b 9)) := by
    refine ⟨(smf.of (((sm.rf.pi (by simp)).pi (by simp)).pi (by simp))).pr, fun k hk => ?_, ?_, fun i i1 i2 => absurd i1 (by omega)⟩
    · rw [i_pr, i_pi_same, i_pi_same, i_pi_same, i_pi_ne hne, i_pi_ne hne]
      have : k = 0 ∨ k = 1 ∨ k = 2 := by omega
      rcases this with rfl | rfl | rfl <;> rfl
    · rw [r_pr, if_pos rfl, if_pos rfl]
  have c0 : (nI 0).toNatClampNeg = 0 := rfl
  have c9 : (nI 9).toNatClampNeg = 9 := rfl
  have c20 : (nI 20).toNatClampNeg = 20 := rfl
  show am_ev _ _ _ _ _ _ _ _ _ _ _ (am_pr (am_pi (am_pi (am_pi h a (128 % 64) (am_i h b (128 % 64))) a (129 % 64) (am_i (am_pi h a (128 % 64) (am_i h b (128 % 64))) b (129 % 64))) a (130 % 64) (am_i (am_pi (am_pi h a (128 % 64) (am_i h b (128 % 64))) a (129 % 64) (am_i (am_pi h a (128 % 64) (am_i h b (128 % 64))) b (129 % 64))) b (130 % 64))) a 9 (am_r h b 9))
  generalize am_pr (am_pi (am_pi (am_pi h a (128 % 64) (am_i h b (128 % 64))) a (129 % 64) (am_i (am_pi h a (128 % 64) (am_i h b (128 % 64))) b (129 % 64))) a (130 % 64) (am_i (am_pi (am_pi h a (128 % 64) (am_i h b (128 % 64))) a (129 % 64) (am_i (am_pi h a (128 % 64) (am_i h b (128 % 64))) b (129 % 64))) b (130 % 64))) a 9 (am_r h b 9) = h0 at J0
  have ka : ∀ {j h'}, cpJ h a b j h' → am_k h' a = (1, 2) := fun J => (J.1.k a).trans hka
  have kb : ∀ {j h'}, cpJ h a b j h' → am_k h' b = (1, 2) := fun J => (J.1.k b).trans hkb
  have ra : ∀ {j h' k}, cpJ h a b j h' → k ≠ 9 → am_r h' a k = am_r h a k := fun J hk => J.1.2.1 a _ fun q => hk q.2
  have rb : ∀ {j h' k}, cpJ h a b j h' → am_r h' b k = am_r h b k := fun J => J.1.2.1 b _ fun q => hne q.1
  refine And.intro (kb J0) (And.intro (ka J0) (And.intro (ck_cp ((ra J0 (by decide)).trans ar3) ((rb J0).trans br3) ((J0.1.k _).trans a1) ((J0.1.k _).trans b1) rfl (by decide)) ?_))
  rw [show am_r h0 b (131 % 64) = b + 1 from (rb J0).trans br3, show am_r h0 a (131 % 64) = a + 1 from (ra J0 (by decide)).trans ar3, c0, c9]
  have J1 := J0.s (by decide) hab
  rw [show gln (0 + 1) = 9 from rfl] at J1
  generalize am_cp h0 (b + 1) 0 (a + 1) 0 9 = h1 at J1
  refine And.intro (kb J1) (And.intro (ka J1) (And.intro (ck_cp ((ra J1 (by decide)).trans ar4) ((rb J1).trans br4) ((J1.1.k _).trans a2) ((J1.1.k _).trans b2) rfl (by decide)) ?_))
  rw [show am_r h1 b (132 % 64) = b + 2 from (rb J1).trans br4, show am_r h1 a (132 % 64) = a + 2 from (ra J1 (by decide)).trans ar4, c0, c9]
  have J2 := J1.s (by decide) hab
  rw [show gln (0 + 1 + 1) = 9 from rfl] at J2
  generalize hh2 : am_cp h1 (b + 2) 0 (a + 2) 0 9 = h2
  have J2 : cpJ h a b 2 h2 := by rw [← hh2]; exact J2
  refine And.intro (kb J2) (And.intro (ka J2) (And.intro (ck_cp ((ra J2 (by decide)).trans ar5) ((rb J2).trans br5) ((J2.1.k _).trans a3) ((J2.1.k _).trans b3) rfl (by decide)) ?_))
  rw [show am_r h2 b (133 % 64) = b + 3 from (rb J2).trans br5, show am_r h2 a (133 % 64) = a + 3 from (ra J2 (by decide)).trans ar5, c0, c20]
  have J3 := J2.s (by decide) hab
  generalize hh3 : am_cp h2 (b + 3) 0 (a + 3) 0 20 = h3
  have J3 : cpJ h a b 3 h3 := by rw [← hh3]; exact J3
  refine And.intro (kb J3) (And.intro (ka J3) (And.intro (ck_cp ((ra J3 (by decide)).trans ar6) ((rb J3).trans br6) ((J3.1.k _).trans a4) ((J3.1.k _).trans b4) rfl (by decide)) ?_))
  rw [show am_r h3 b (134 % 64) = b + 4 from (rb J3).trans br6, show am_r h3 a (134 % 64) = a + 4 from (ra J3 (by decide)).trans ar6, c0, c20]
  have J4 := J3.s (by decide) hab
  generalize hh4 : am_cp h3 (b + 4) 0 (a + 4) 0 20 = h4
  have J4 : cpJ h a b 4 h4 := by rw [← hh4]; exact J4
  refine And.intro (kb J4) (And.intro (ka J4) (And.intro (ck_cp ((ra J4 (by decide)).trans ar7) ((rb J4).trans br7) ((J4.1.k _).trans a5) ((J4.1.k _).trans b5) rfl (by decide)) ?_))
  rw [show am_r h4 b (135 % 64) = b + 5 from (rb J4).trans br7, show am_r h4 a (135 % 64) = a + 5 from (ra J4 (by decide)).trans ar7, c0, c20]
  have J5 := J4.s (by decide) hab
  generalize hh5 : am_cp h4 (b + 5) 0 (a + 5) 0 20 = h5
  have J5 : cpJ h a b 5 h5 := by rw [← hh5]; exact J5
  refine And.intro (kb J5) (And.intro (ka J5) (And.intro (ck_cp ((ra J5 (by decide)).trans ar8) ((rb J5).trans br8) ((J5.1.k _).trans a6) ((J5.1.k _).trans b6) rfl (by decide)) ?_))
  rw [show am_r h5 b (136 % 64) = b + 6 from (rb J5).trans br8, show am_r h5 a (136 % 64) = a + 6 from (ra J5 (by decide)).trans ar8, c0, c20]
  exact And.intro trivial (hQ _ _ (HQ _ (J5.s (by decide) hab)))
end
section
/-! THE STATE: a graph's data, its picture in the class's cells; the history -/
abbrev gD : Type := (Nat × Nat × Nat) × (Nat → Nat) × (Nat → Nat) × (Nat → Nat) × (Nat → Nat) × (Nat → Int32) × Option (List Int)
def gN (g : gD) : Nat := g.1.1
def gM (g : gD) : Nat := g.1.2.1
def gT (g : gD) : Nat := g.1.2.2
def gLo (g : gD) : Nat → Nat := g.2.1
def gHi (g : gD) : Nat → Nat := g.2.2.1
def gWt (g : gD) : Nat → Nat := g.2.2.2.1
def gLd (g : gD) : Nat → Nat := g.2.2.2.2.1
def gLab (g : gD) : Nat → Int32 := g.2.2.2.2.2.1
def gCs (g : gD) : Option (List Int) := g.2.2.2.2.2.2
def gCo (g : gD) (e : Nat) : Nat := coF (gCs g) (gWt g e) (gLd g (gLo g e)) (gLd g (gHi g e))
def gwf (g : gD) : Prop := (gN g ≤ 9 ∧ gM g ≤ 20 ∧ gT g < 2 ^ gN g) ∧ (∀ e, e < gM g → gLo g e < gHi g e ∧ gHi g e < gN g) ∧ (∀ e, e < gM g → 1 ≤ gWt g e ∧ gWt g e ≤ 99) ∧ (∀ v, v < gN g → gLd g v ≤ 99) ∧ ∀ cs, gCs g = some cs → foOk cs 0 1 ∧ cs.length < 700
/-- a graph in the class's cells -/
def cgp (h : am_H) (a : Nat) (g : gD) : Prop := cg h a (gN g) (gM g) (gT g) (gLo g) (gHi g) ∧ (∀ e, e < gM g → am_i h (a + 5) e = nI (gWt g e)) ∧ (∀ v, v < gN g → am_i h (a + 1) v = nI (gLd g v)) ∧ (∀ v, v < gN g → am_i h (a + 2) v = gLab g v) ∧ (∀ e, e < gM g → am_i h (a + 6) e = nI (gCo g e)) ∧ gfo h a (gCs g) ∧ gwf g
theorem coF_rng {cs : Option (List Int)} {w l g : Nat} (hw : 1 ≤ w ∧ w ≤ 99) : 1 ≤ coF cs w l g ∧ coF cs w l g ≤ 9999 := by
  unfold coF
  split <;> omega
theorem cgp.co {h : am_H} {a : Nat} {g : gD} (p : cgp h a g) : cco h a (gM g) (gCo g) := fun e he => ⟨p.2.2.2.2.1 e he, coF_rng (p.2.2.2.2.2.2.2.2.1 e he)⟩
theorem fcs.mv {h h' : am_H} {F : Nat} {cs : List Int} (f : fcs h F cs) (hk : am_k h' F = am_k h F ∧ am_k h' (F + 1) = am_k h (F + 1) ∧ am_k h' (F + 2) = am_k h (F + 2)) (hr : ∀ k, k < 9 → am_r h' F k = am_r h F k) (hi : ∀ k, am_i h' (F + 1) k = am_i h (F + 1) k) : fcs h' F cs := by
  obtain ⟨f1, f2, f3, f4, f5, f6, f7⟩ := f
  exact ⟨hk.1.trans f1, (hr 0 (by decide)).trans f2, (hr 1 (by decide)).trans f3, hk.2.1.trans f4, hk.2.2.trans f5, fun k z => by rw [hi]; exact f6 k z, f7⟩
theorem gfo.mv {h h' : am_H} {a : Nat} {cs : Option (List Int)} (f : gfo h a cs) (h9 : am_r h' a 9 = am_r h a 9) (hF : ∀ F, 95 ≤ F → am_k h F = (1, 1) → (am_k h' F = am_k h F ∧ am_k h' (F + 1) = am_k h (F + 1) ∧ am_k h' (F + 2) = am_k h (F + 2)) ∧ (∀ k, k < 9 → am_r h' F k = am_r h F k) ∧ ((∃ N, am_k h (F + 1) = (2, N)) → ∀ k, am_i h' (F + 1) k = am_i h (F + 1) k)) : gfo h' a cs := by
  cases cs with
  | none => exact h9.trans f
  | some cs =>
    obtain ⟨f1, f2, f3⟩ := f
    have := hF _ f1 f2.1
    refine ⟨by rw [h9]; exact f1, ?_, f3⟩
    rw [h9]
    exact f2.mv this.1 this.2.1 (this.2.2 ⟨_, f2.2.2.2.1⟩)
/-- a copy: what stands at b stands at a -/
theorem cgp.copy {h h' : am_H} {a b : Nat} {g : gD} (p : cgp h b g) (J : cpJ h a b 6 h') (hga : gs h a) (ha : a + 6 < 95) : cgp h' a g := by
  obtain ⟨⟨p1, p2, p3, p4⟩, q1, q2, q3, q4, q5, q6⟩ := p
  obtain ⟨s, j1, j2, j3⟩ := J
  obtain ⟨w1, w2, w3⟩ := q6.1
  have J : ∀ i k, 1 ≤ i → i ≤ 6 → k < gln i → am_i h' (a + i) k = am_i h (b + i) k := fun i k z1 z2 z3 => j3 i z1 z2 k z3
  have g9 : gln 1 = 9 := rfl
  have g92 : gln 2 = 9 := rfl
  have g20 : gln 3 = 20 := rfl
  have g204 : gln 4 = 20 := rfl
  have g205 : gln 5 = 20 := rfl
  have g206 : gln 6 = 20 := rfl
  refine ⟨⟨s.gx hga, ⟨(j1 0 (by decide)).trans p2.1, (j1 1 (by decide)).trans p2.2.1, (j1 2 (by decide)).trans p2.2.2⟩, fun e he => ⟨(J 3 e (by decide) (by decide) (by omega)).trans (p3 e he).1, (J 4 e (by decide) (by decide) (by omega)).trans (p3 e he).2⟩, p4⟩, fun e he => (J 5 e (by decide) (by decide) (by omega)).trans (q1 e he), fun v hv => (J 1 v (by decide) (by decide) (by omega)).trans (q2 v hv), fun v hv => (J 2 v (by decide) (by decide) (by omega)).trans (q3 v hv), fun e he => (J 6 e (by decide) (by decide) (by omega)).trans (q4 e he), ?_, q6⟩
  cases hcs : gCs g with
  | none => rw [hcs] at q5; exact j2.trans q5
  | some cs =>
    rw [hcs] at q5
    obtain ⟨f1, f2, f3⟩ := q5
    refine ⟨by rw [j2]; exact f1, ?_, f3⟩
    rw [j2]
    refine f2.mv ⟨s.k _, s.k _, s.k _⟩ (fun k hk => s.2.1 _ k fun z => by omega) (fun k => s.i (by simp [gX7]; omega) k)
/-- another graph stays -/
theorem cgp.mvf {h h' : am_H} {a b : Nat} {g : gD} (p : cgp h b g) (s : smf (gX7 a) a h h') (ha : a + 6 < 95) (hab : a + 7 ≤ b ∨ b + 7 ≤ a) : cgp h' b g := by
  obtain ⟨⟨p1, p2, p3, p4⟩, q1, q2, q3, q4, q5, q6⟩ := p
  have I : ∀ i k, i ≤ 6 → am_i h' (b + i) k = am_i h (b + i) k := fun i k hi => s.i (by simp [gX7]; omega) k
  refine ⟨⟨s.gx p1, ⟨(I 0 0 (by decide)).trans p2.1, (I 0 1 (by decide)).trans p2.2.1, (I 0 2 (by decide)).trans p2.2.2⟩, fun e he => ⟨(I 3 e (by decide)).trans (p3 e he).1, (I 4 e (by decide)).trans (p3 e he).2⟩, p4⟩, fun e he => (I 5 e (by decide)).trans (q1 e he), fun v hv => (I 1 v (by decide)).trans (q2 v hv), fun v hv => (I 2 v (by decide)).trans (q3 v hv), fun e he => (I 6 e (by decide)).trans (q4 e he), ?_, q6⟩
  refine q5.mv (s.2.1 _ _ fun z => by omega) fun F hF _ => ⟨⟨s.k _, s.k _, s.k _⟩, fun k hk => s.2.1 _ k fun z => by omega, fun _ k => s.i (by simp [gX7]; omega) k⟩
/-- scratch cells leave a graph alone -/
theorem cgp.mvs {h h' : am_H} {X : List Nat} {a : Nat} {g : gD} (p : cgp h a g) (s : sm X h h') (hX : ∀ x, x ∈ X → x < a ∨ a + 7 ≤ x) (hX2 : ∀ x, x ∈ X → x < 95) : cgp h' a g := by
  obtain ⟨⟨p1, p2, p3, p4⟩, q1, q2, q3, q4, q5, q6⟩ := p
  have I : ∀ i k, i ≤ 6 → am_i h' (a + i) k = am_i h (a + i) k := fun i k hi => s.i (fun z => by have := hX _ z; omega) k
  refine ⟨⟨s.gx p1, ⟨(I 0 0 (by decide)).trans p2.1, (I 0 1 (by decide)).trans p2.2.1, (I 0 2 (by decide)).trans p2.2.2⟩, fun e he => ⟨(I 3 e (by decide)).trans (p3 e he).1, (I 4 e (by decide)).trans (p3 e he).2⟩, p4⟩, fun e he => (I 5 e (by decide)).trans (q1 e he), fun v hv => (I 1 v (by decide)).trans (q2 v hv), fun v hv => (I 2 v (by decide)).trans (q3 v hv), fun e he => (I 6 e (by decide)).trans (q4 e he), ?_, q6⟩
  exact q5.mv (s.r _ _) fun F hF _ => ⟨⟨s.k _, s.k _, s.k _⟩, fun k _ => s.r _ k, fun _ k => s.i (fun z => by have := hX2 _ z; omega) k⟩
/-- the class's history: the latest first -/
def hrow (i : Nat) : Nat := 12 + 7 * i
def chi (h : am_H) (hist : List gD) : Prop := ∃ nx, nx < 8 ∧ am_i h 10 1 = nI nx ∧ am_i h 10 2 = nI hist.length ∧ hist.length ≤ 8 ∧ ∀ j g, hist[j]? = some g → cgp h (hrow ((nx + 7 - j) % 8)) g
theorem gs_row {h : am_H} (hs : sh h) : ∀ i, i < 8 → gs h (hrow i) ∧ am_r h 11 i = hrow i := by
  intro i hi
  have : i = 0 ∨ i = 1 ∨ i = 2 ∨ i = 3 ∨ i = 4 ∨ i = 5 ∨ i = 6 ∨ i = 7 := by omega
  rcases this with rfl | rfl | rfl | rfl | rfl | rfl | rfl | rfl
  · exact ⟨gs_12 hs, sr_11_0 hs⟩
  · exact ⟨gs_19 hs, sr_11_1 hs⟩
  · exact ⟨gs_26 hs, sr_11_2 hs⟩
  · exact ⟨gs_33 hs, sr_11_3 hs⟩
  · exact ⟨gs_40 hs, sr_11_4 hs⟩
  · exact ⟨gs_47 hs, sr_11_5 hs⟩
  · exact ⟨gs_54 hs, sr_11_6 hs⟩
  · exact ⟨gs_61 hs, sr_11_7 hs⟩
/-- what a change of the class's graph and history leaves alone: all but the cells 3 to 67 and those of formulas -/
def clG (h h' : am_H) : Prop := sh h' ∧ h'.1 = h.1 ∧ (am_n h' = am_n h ∧ am_cs h' = am_cs h) ∧ (∀ x k, ¬ (3 ≤ x ∧ x ≤ 67) → am_r h' x k = am_r h x k) ∧ ∀ x, ¬ (3 ≤ x ∧ x ≤ 67) → am_i h' x = am_i h x ∧ am_l h' x = am_l h x
theorem q_mod8 : ∀ x, x < 8 → nI x + nI 1 - (nI x + nI 1) / nI 8 * nI 8 = nI ((x + 1) % 8) := by decide +kernel
set_option maxHeartbeats 4000000 in
theorem c_save {xs : am_X} {d : Nat} {h : am_H} {cur : gD} {hist : List gD} (hd : 2 ≤ d) (hs : sh h) (hp : cgp h 3 cur) (hh : chi h hist) {Q : am_Q}
    (HQ : ∀ h', clG h h' → cgp h' 3 cur → chi h' ((cur :: hist).take 8) → Q (.inl none) h') : am_C xs am_P0 d m_Hi_save [.ref 10, .ref 3] h Q := by
  obtain ⟨nx, n8, e1, e2, l8, hj⟩ := hh
  obtain ⟨grow, rrow⟩ := gs_row hs nx n8
  refine am_C_le hd (am_enter (d := 1) ap_Hi_save rfl ?_) (fun _ _ k => k)
  refine am_go (fun _ => false) (fun K cal Q' hK hC hQ => ?_)
  refine And.intro (sk_10 hs) (And.intro (sk_10 hs) (And.intro (ck_row (sr_10_0 hs) (sk_11 hs) e1 n8 (by omega)) ?_))
  have er : am_r h (am_r h 10 0) (am_i h 10 1).toNatClampNeg = hrow nx := by rw [sr_10_0 hs, e1, q_cl (by omega)]; exact rrow
  refine And.intro (by show am_k h (am_r h (am_r h 10 0) (am_i h 10 1).toNatClampNeg) = (1, 2); rw [er]; exact grow.1) ?_
  show cal m_Gr_copyFrom [.ref (am_r h (am_r h 10 0) (am_i h 10 1).toNatClampNeg), .ref 3] h _
  rw [er]
  refine hC _ _ _ _ (c_copyFrom (by decide) grow (gs_3 hs) (by unfold hrow; omega) (fun h1 J => ?_))
  have hr6 : hrow nx + 6 < 95 := by unfold hrow; omega
  have s := J.1
  have hs1 : sh h1 := s.sh (by unfold hrow; omega) hs
  have nin : ∀ x, ¬ (hrow nx ≤ x ∧ x ≤ hrow nx + 6) → x ∉ gX7 (hrow nx) := fun x hx z => by
    simp [gX7] at z
    omega
  have f1 : am_i h1 10 1 = nI nx := (s.i (nin 10 (by unfold hrow; omega)) 1).trans e1
  have f2 : am_i h1 10 2 = nI hist.length := (s.i (nin 10 (by unfold hrow; omega)) 2).trans e2
  refine And.intro (sk_10 hs1) (And.intro (show ¬ nI 8 = 0 by decide) (And.intro (sk_10 hs1) ?_))
  have em : am_i h1 10 (257 % 64) + nI 1 - (am_i h1 10 (257 % 64) + nI 1) / nI 8 * nI 8 = nI ((nx + 1) % 8) := by rw [show am_i h1 10 (257 % 64) = nI nx from f1]; exact q_mod8 nx n8
  rw [em]
  refine And.intro (sk_10 hs1) (And.intro (sk_10 hs1) (And.intro trivial (hQ _ _ ?_)))
  have f2' : am_i (am_pi h1 10 (257 % 64) (nI ((nx + 1) % 8))) 10 (258 % 64) = nI hist.length := by rw [i_pi_k (by decide)]; exact f2
  have en : (if am_i (am_pi h1 10 (257 % 64) (nI ((nx + 1) % 8))) 10 (258 % 64) + nI 1 < nI 8 then am_i (am_pi h1 10 (257 % 64) (nI ((nx + 1) % 8))) 10 (258 % 64) + nI 1 else nI 8) = nI (((cur :: hist).take 8).length) := by
    rw [f2', nI_add, List.length_take, List.length_cons]
    by_cases q : hist.length + 1 < 8
    · rw [if_pos (nI_lt q (by omega))]; congr 1; omega
    · rw [if_neg (nI_nlt (by omega) (by omega))]; congr 1; omega
  rw [en]
  generalize hh9 : am_pi (am_pi h1 10 (257 % 64) (nI ((nx + 1) % 8))) 10 (258 % 64) (nI (((cur :: hist).take 8).length)) = h9
  have s9 : sm [10] h1 h9 := by rw [← hh9]; exact (sm.rf.pi (by decide)).pi (by decide)
  have mv9 : ∀ {b g}, cgp h1 b g → (b = 3 ∨ 12 ≤ b) → cgp h9 b g := fun p hb => p.mvs s9 (fun x hx => by have := List.mem_singleton.mp hx; omega) (fun x hx => by have := List.mem_singleton.mp hx; omega)
  refine HQ h9 ⟨s9.sh hs1, s9.1.trans s.1, ⟨s9.n.trans s.2.2.1.1, s9.cs.trans s.2.2.1.2⟩, fun x k hx => (s9.r x k).trans (s.2.1 x k fun z => by unfold hrow at z; omega), fun x hx => ?_⟩ ?_ ⟨(nx + 1) % 8, Nat.mod_lt _ (by decide), ?_, ?_, ?_, fun j g hg => ?_⟩
  · have a1 := s9.2.2 x (fun z => by have := List.mem_singleton.mp z; omega)
    have a2 := s.2.2.2 x (nin x (by unfold hrow; omega))
    exact ⟨a1.1.trans a2.1, a1.2.trans a2.2⟩
  · exact mv9 (hp.mvf s hr6 (by unfold hrow; omega)) (Or.inl rfl)
  · rw [← hh9, i_pi_k (by decide)]; exact i_pi_at
  · rw [← hh9]; exact i_pi_at
  · rw [List.length_take]; omega
  · rw [List.getElem?_take] at hg
    split at hg
    · rename_i hj8
      cases j with
      | zero =>
        cases hg
        rw [show ((nx + 1) % 8 + 7 - 0) % 8 = nx by omega]
        exact mv9 (hp.copy J grow hr6) (by unfold hrow; omega)
      | succ j =>
        have hg : hist[j]? = some g := hg
        have hne : (nx + 7 - j) % 8 ≠ nx := by omega
        rw [show ((nx + 1) % 8 + 7 - (j + 1)) % 8 = (nx + 7 - j) % 8 by omega]
        exact mv9 ((hj j g hg).mvf s hr6 (by unfold hrow; omega)) (by unfold hrow; omega)
    · cases hg
end
section
/-! HISTORY: one back; an edge dropped -/
theorem q_back8 : ∀ x, x < 8 → nI x + nI 8 - nI 1 - (nI x + nI 8 - nI 1) / nI 8 * nI 8 = nI ((x + 7) % 8) := by decide +kernel
/-- rows behind an edge come one nearer -/
def drp {α : Type} (e : Nat) (f : Nat → α) : Nat → α := fun k => if k < e then f k else f (k + 1)
end
section
/-! THE CLASS'S STATE -/
abbrev stD : Type := gD × List gD × (Nat × (Nat → Nat)) × Int32
/-- a byte as the class's row holds it -/
def bS (b : Nat) : Int32 := if b < 128 then nI b else nI b - nI 256
def CI (h : am_H) (st : stD) : Prop := sh h ∧ cgp h 3 st.1 ∧ chi h st.2.1 ∧ (st.2.2.1.1 ≤ 700 ∧ am_i h 1 1 = nI st.2.2.1.1 ∧ ∀ k, k < st.2.2.1.1 → am_i h 2 k = bS (st.2.2.1.2 k) ∧ st.2.2.1.2 k < 256) ∧ am_i h 1 2 = st.2.2.2
/-- what a call of the class leaves alone: the model's cells and the law's row -/
def clF (h h' : am_H) : Prop := (∀ a, a < am_n h ∨ am_n h' ≤ a → am_k h' a = am_k h a) ∧ (∀ a, 87 ≤ a → a < am_n h → am_i h' a = am_i h a ∧ am_l h' a = am_l h a ∧ am_r h' a = am_r h a) ∧ (am_n h ≤ am_n h' ∧ am_n h' ≤ am_n h + 3) ∧ am_cs h' ≤ am_cs h + 720
theorem clF.rf {h : am_H} : clF h h := ⟨fun _ _ => rfl, fun _ _ _ => ⟨rfl, rfl, rfl⟩, ⟨Nat.le_refl _, by omega⟩, by omega⟩
theorem CI.sh {h : am_H} {st : stD} (I : CI h st) : sh h := I.1
theorem cgp.mv5 {h h' : am_H} {X : List Nat} {g : gD} (p : cgp h 3 g) (s : sm X h h') (h5 : ∀ w, am_i h' 5 w = am_i h 5 w) (hX : ∀ x, x ∈ X → x = 5 ∨ (10 ≤ x ∧ x < 95)) : cgp h' 3 g := by
  obtain ⟨⟨p1, p2, p3, p4⟩, q1, q2, q3, q4, q5, q6⟩ := p
  have I : ∀ i k, i ≤ 6 → am_i h' (3 + i) k = am_i h (3 + i) k := fun i k hi => by
    by_cases e : i = 2
    · subst e; exact h5 k
    · exact s.i (fun z => by have := hX _ z; omega) k
  refine ⟨⟨s.gx p1, ⟨(I 0 0 (by decide)).trans p2.1, (I 0 1 (by decide)).trans p2.2.1, (I 0 2 (by decide)).trans p2.2.2⟩, fun e he => ⟨(I 3 e (by decide)).trans (p3 e he).1, (I 4 e (by decide)).trans (p3 e he).2⟩, p4⟩, fun e he => (I 5 e (by decide)).trans (q1 e he), fun v hv => (I 1 v (by decide)).trans (q2 v hv), fun v hv => (I 2 v (by decide)).trans (q3 v hv), fun e he => (I 6 e (by decide)).trans (q4 e he), ?_, q6⟩
  exact q5.mv (s.r _ _) fun F hF _ => ⟨⟨s.k _, s.k _, s.k _⟩, fun k _ => s.r _ k, fun _ k => s.i (fun z => by have := hX _ z; omega) k⟩
/-- scratch cells -/
def scr (X : List Nat) : Bool := X.all (fun x => Nat.ble 68 x && Nat.ble x 86)
theorem scr_x {X : List Nat} (h : scr X = true) : ∀ x, x ∈ X → 68 ≤ x ∧ x ≤ 86 := fun x hx => by
  have := List.all_eq_true.mp h x hx
  rw [Bool.and_eq_true] at this
  exact ⟨Nat.le_of_ble_eq_true this.1, Nat.le_of_ble_eq_true this.2⟩
theorem clF.sm {h h' : am_H} {X : List Nat} (s : sm X h h') (hX : ∀ x, x ∈ X → x < 87) : clF h h' := ⟨fun a _ => s.k a, fun a h1 h2 => by
  have q := s.2.2 a fun z => by have := hX a z; omega
  exact ⟨q.1, q.2, funext fun k => s.r a k⟩, ⟨by rw [s.n]; exact Nat.le_refl _, by rw [s.n]; omega⟩, by rw [s.cs]; omega⟩
theorem chi.mvs {h h' : am_H} {X : List Nat} {hist : List gD} (c : chi h hist) (s : sm X h h') (hX : ∀ x, x ∈ X → x < 10 ∨ (68 ≤ x ∧ x < 95)) : chi h' hist := by
  obtain ⟨nx, n8, e1, e2, l8, hj⟩ := c
  have n10 : (10 : Nat) ∉ X := fun z => by have := hX _ z; omega
  exact ⟨nx, n8, (s.i n10 1).trans e1, (s.i n10 2).trans e2, l8, fun j g hg => (hj j g hg).mvs s (fun x hx => by have := hX x hx; unfold hrow; omega) (fun x hx => by have := hX x hx; omega)⟩
theorem CI.mv5 {h h' : am_H} {X : List Nat} {st : stD} (I : CI h st) (s : sm X h h') (h5 : ∀ w, am_i h' 5 w = am_i h 5 w) (hX : ∀ x, x ∈ X → x = 5 ∨ (68 ≤ x ∧ x ≤ 86)) : CI h' st ∧ clF h h' := by
  obtain ⟨i1, i2, i3, ⟨i4, i5, i6⟩, i7⟩ := I
  have n1 : (1 : Nat) ∉ X := fun z => by have := hX _ z; omega
  have n2 : (2 : Nat) ∉ X := fun z => by have := hX _ z; omega
  exact ⟨⟨s.sh i1, i2.mv5 s h5 (fun x hx => by have := hX x hx; omega), i3.mvs s (fun x hx => by have := hX x hx; omega), ⟨i4, (s.i n1 _).trans i5, fun k hk => ⟨(s.i n2 k).trans (i6 k hk).1, (i6 k hk).2⟩⟩, (s.i n1 _).trans i7⟩, clF.sm s (fun x hx => by have := hX x hx; omega)⟩
theorem CI.q {h h' : am_H} {X : List Nat} {st : stD} (I : CI h st) (s : sm X h h') (hX : scr X = true) : CI h' st ∧ clF h h' := by
  have hX := scr_x hX
  exact I.mv5 s (fun w => s.i (fun z => by have := hX _ z; omega) w) (fun x hx => Or.inr (hX x hx))
theorem cgp.thr {h : am_H} {a : Nat} {g : gD} (p : cgp h a g) : cgp (am_thr h) a g := p
theorem CI.thr {h : am_H} {st : stD} (I : CI h st) : CI (am_thr h) st ∧ clF h (am_thr h) := by
  obtain ⟨⟨a1, a2, a3⟩, i2, i3, i4, i7⟩ := I
  exact ⟨⟨⟨a1, a2, Nat.le_succ_of_le a3⟩, i2, i3, i4, i7⟩, fun _ _ => rfl, fun _ _ _ => ⟨rfl, rfl, rfl⟩, ⟨Nat.le_succ _, by show am_n h + 1 ≤ _; omega⟩, by show am_cs h + 6 ≤ _; omega⟩
/-- an answer: its code and its value; the codes' exceptions -/
def aR (E1 E2 E3 : Nat) (p : Nat × Int32) : am_R := match p.1 with
  | 0 => .inl (some (.int p.2))
  | 1 => .inr E1
  | 2 => .inr E2
  | _ => .inr E3
def vin (n : Nat) (v : Int32) : Bool := decide (0 ≤ v ∧ v < nI n)
abbrev topN (h : am_H) : Prop := am_n h < 900000
theorem top_lt {h : am_H} (hN : topN h) : am_n h < am_top := Nat.lt_trans hN (by decide)
set_option maxHeartbeats 4000000 in
theorem c_requireVertex {xs : am_X} {d : Nat} {h : am_H} {st : stD} (hd : 2 ≤ d) (I : CI h st) (hN : topN h) (v : Int32) {Q : am_Q} (H1 : ∀ k, k < gN st.1 → v = nI k → Q (.inl none) h) (H2 : vin (gN st.1) v = false → Q (.inr 2) (am_thr h)) : am_C xs am_P0 d m_Mc_requireVertex [.ref 1, .int v] h Q := by
  have hs := I.1
  have hg := I.2.1.1
  refine am_C_le hd (am_enter (d := 1) ap_Mc_requireVertex rfl ?_) (fun _ _ k => k)
  refine am_go (fun _ => false) (fun K cal Q' hK hC hQ => ?_)
  refine And.intro (sk_1 hs) (And.intro (by show am_k h (am_r h 1 3) = (1, 2); rw [sr_1_3 hs]; exact sk_3 hs) ?_)
  show cal m_Gr_hasVertex [.ref (am_r h 1 3), .int v] h _
  rw [sr_1_3 hs]
  refine hC _ _ _ _ (c_hasVertex (by decide) (sk_3 hs) hg.2.1.1 v ?_)
  have hn := hg.2.2.2.1.1
  cases e : decide (0 ≤ v ∧ v < nI (gN st.1)) with
  | true =>
    refine And.intro (fun _ => And.intro trivial (hQ _ _ ?_)) (fun z => absurd q_t1 z)
    obtain ⟨k, k1, k2⟩ := q_range_of (by omega) e
    exact H1 k k1 k2
  | false => exact And.intro (fun z => absurd rfl z) (fun _ => And.intro (top_lt hN) (hQ _ _ (H2 e)))
set_option maxHeartbeats 4000000 in
theorem c_requireTerminal {xs : am_X} {d : Nat} {h : am_H} {st : stD} (hd : 3 ≤ d) (I : CI h st) (hN : topN h) (v : Int32) {Q : am_Q} (H1 : ∀ k, k < gN st.1 → v = nI k → (gT st.1).testBit k = true → Q (.inl none) h) (H2 : isT (gN st.1) (gT st.1) v = false → Q (.inr 1) (am_thr h)) : am_C xs am_P0 d m_Mc_requireTerminal [.ref 1, .int v] h Q := by
  have hs := I.1
  have hg := I.2.1.1
  have hn := hg.2.2.2.1.1
  refine am_C_le hd (am_enter (d := 2) ap_Mc_requireTerminal rfl ?_) (fun _ _ k => k)
  refine am_go (fun _ => false) (fun K cal Q' hK hC hQ => ?_)
  refine And.intro (sk_1 hs) (And.intro (by show am_k h (am_r h 1 3) = (1, 2); rw [sr_1_3 hs]; exact sk_3 hs) ?_)
  show cal m_Gr_isTerminal [.ref (am_r h 1 3), .int v] h _
  rw [sr_1_3 hs]
  refine hC _ _ _ _ (c_isTerminal (by decide) hg v ?_)
  cases e : isT (gN st.1) (gT st.1) v with
  | true =>
    refine And.intro (fun _ => And.intro trivial (hQ _ _ ?_)) (fun z => absurd q_t1 z)
    have e0 := e
    unfold isT at e
    rw [Bool.and_eq_true] at e
    obtain ⟨k, k1, k2⟩ := q_range_of (by omega) e.1
    refine H1 k k1 k2 ?_
    rw [k2, isT_nI k1 (by omega)] at e0
    exact e0
  | false => exact And.intro (fun z => absurd rfl z) (fun _ => And.intro (top_lt hN) (hQ _ _ (H2 e)))
set_option maxHeartbeats 4000000 in
theorem c_requireSome {xs : am_X} {d : Nat} {h : am_H} {st : stD} (hd : 1 ≤ d) (I : CI h st) (hN : topN h) {Q : am_Q} (H1 : gT st.1 ≠ 0 → Q (.inl none) h) (H2 : gT st.1 = 0 → Q (.inr 3) (am_thr h)) : am_C xs am_P0 d m_Mc_requireSomeTerminal [.ref 1] h Q := by
  have hs := I.1
  have hg := I.2.1.1
  have hn9 := pow_le9 hg.2.2.2.1.1
  have hT := hg.2.2.2.1.2.2
  have e1 : am_i h 3 2 = nI (gT st.1) := hg.2.1.2.2
  refine am_C_le hd (am_enter (d := 0) ap_Mc_requireSomeTerminal rfl ?_) (fun _ _ k => k)
  refine am_go (fun _ => false) (fun K cal Q' hK hC hQ => ?_)
  refine And.intro (sk_1 hs) (And.intro (by show am_k h (am_r h 1 3) = (1, 2); rw [sr_1_3 hs]; exact sk_3 hs) ?_)
  refine And.intro (fun c2 => ?_) (fun c2 => ?_)
  · have c2 : ¬ am_i h (am_r h 1 3) 2 = 0 := c2
    rw [sr_1_3 hs, e1] at c2
    exact And.intro trivial (hQ _ _ (H1 fun z => c2 (by rw [z]; rfl)))
  · have c2 : am_i h (am_r h 1 3) 2 = nI 0 := Classical.not_not.mp c2
    rw [sr_1_3 hs, e1] at c2
    exact And.intro (top_lt hN) (hQ _ _ (H2 ((nI_eq (by omega) (by omega)).mp c2)))
end
section
/-! THE CLASS'S QUESTIONS -/
theorem k13 {h : am_H} (hs : sh h) : am_k h (am_r h 1 3) = (1, 2) := by rw [sr_1_3 hs]; exact sk_3 hs
theorem k14 {h : am_H} (hs : sh h) : am_k h (am_r h 1 4) = (1, 4) := by rw [sr_1_4 hs]; exact sk_10 hs
theorem k15 {h : am_H} (hs : sh h) : am_k h (am_r h 1 5) = (1, 7) := by rw [sr_1_5 hs]; exact sk_68 hs
theorem k16 {h : am_H} (hs : sh h) : am_k h (am_r h 1 6) = (1, 3) := by rw [sr_1_6 hs]; exact sk_78 hs
theorem k17 {h : am_H} (hs : sh h) : am_k h (am_r h 1 7) = (1, 0) := by rw [sr_1_7 hs]; exact sk_80 hs
theorem k18 {h : am_H} (hs : sh h) : am_k h (am_r h 1 8) = (1, 6) := by rw [sr_1_8 hs]; exact sk_83 hs
theorem k19 {h : am_H} (hs : sh h) : am_k h (am_r h 1 9) = (1, 5) := by rw [sr_1_9 hs]; exact sk_86 hs
theorem vin_nI {n k : Nat} (hk : k < n) (hn : n < 1000) : vin n (nI k) = true := q_range hk hn
def gCC (g : gD) (S : Nat) : Nat := cutc (gM g) (gLo g) (gHi g) (gCo g) S
noncomputable def gIV (g : gD) (t : Nat) : Nat := isv (gN g) (gM g) (gT g) (gLo g) (gHi g) (gCo g) t
noncomputable def gIS (g : gD) (t : Nat) : Nat := iso (gN g) (gCC g) (gT g) t
def sBurden (g : gD) (v : Int32) : Nat × Int32 := if vin (gN g) v = true then (0, nI (gLd g v.toNatClampNeg)) else (1, 0)
def sLabel (g : gD) (v : Int32) : Nat × Int32 := if vin (gN g) v = true then (0, gLab g v.toNatClampNeg) else (1, 0)
def sEdge (g : gD) (e w : Int32) : Nat × Int32 := if vin (gM g) e = true then (if w = nI 0 then (0, nI (gLo g e.toNatClampNeg)) else if w = nI 1 then (0, nI (gHi g e.toNatClampNeg)) else if w = nI 2 then (0, nI (gWt g e.toNatClampNeg)) else if w = nI 3 then (0, nI (gCo g e.toNatClampNeg)) else if w = nI 4 then (0, nI (10000 / gCo g e.toNatClampNeg)) else (2, 0)) else (1, 0)
def sCutCost (g : gD) (s : Int32) : Nat × Int32 := if vin (2 ^ gN g) s = true then (0, nI (gCC g s.toNatClampNeg)) else (1, 0)
def sSep (g : gD) (s : Int32) : Nat × Int32 := if vin (2 ^ gM g) s = true then (0, bI (kap (gN g) (gM g) (gT g) (gLo g) (gHi g) s.toNatClampNeg)) else (1, 0)
noncomputable def sIsoV (g : gD) (t : Int32) : Nat × Int32 := if isT (gN g) (gT g) t = true then (0, nI (gIV g t.toNatClampNeg)) else (1, 0)
noncomputable def sIsoS (g : gD) (t : Int32) : Nat × Int32 := if isT (gN g) (gT g) t = true then (0, nI (gIS g t.toNatClampNeg)) else (1, 0)
noncomputable def gSum (g : gD) (v : Nat) : Nat := fb_sm (fun v => if (gT g).testBit v then gIV g v else 0) v
noncomputable def sLow (g : gD) : Int32 := nI ((gSum g (gN g) + 1) / 2)
noncomputable def gDe (g : gD) : Option Nat := dea (gIV g) (gT g) (gN g)
noncomputable def sDear (g : gD) : Nat × Int32 := if gT g = 0 then (1, 0) else (0, oI (gDe g))
noncomputable def gUn (g : gD) : Nat := cutm (uniB (gN g) (gLo g) (gHi g) (gIS g) (gT g) (gDe g)) (gM g)
noncomputable def sUni (g : gD) : Nat × Int32 := if gT g = 0 then (1, 0) else (0, nI (gUn g))
noncomputable def sUniC (g : gD) : Nat × Int32 := if gT g = 0 then (1, 0) else (0, nI (sumE (gCo g) (gUn g).testBit (gM g)))
noncomputable def gR (g : gD) : Nat := Classical.epsilon (isR (gN g) (gT g) (gCC g))
theorem gR_eq {g : gD} {R : Nat} (h : isR (gN g) (gT g) (gCC g) R) : gR g = R := isR.one (Classical.epsilon_spec ⟨R, h⟩) h
noncomputable def sFixed (g : gD) (v : Int32) : Nat × Int32 := if vin (gN g) v = true then (0, oI (fnd (fun t => (grs (gN g) (gT g) (gCC g) (gR g) t).testBit v.toNatClampNeg) 9)) else (1, 0)
noncomputable def exA (g : gD) (T : Nat) : Nat → Nat := Classical.epsilon (isx (gN g) (gM g) T (gLo g) (gHi g) (gCo g))
noncomputable def eC (g : gD) (T : Nat) : Nat := if T = 0 then 0 else acost (gM g) (gLo g) (gHi g) (gCo g) (exA g T) (gN g)
noncomputable def eL (g : gD) (T w : Nat) : Int32 := if T = 0 then -nI 1 else nI (exA g T w)
theorem exA_eq {g : gD} {T : Nat} {A : Nat → Nat} (h : isx (gN g) (gM g) T (gLo g) (gHi g) (gCo g) A) : lag (gN g) A (exA g T) := isx.one h (Classical.epsilon_spec ⟨A, h⟩)
theorem exr_eq {h : am_H} {g : gD} {T : Nat} (hw : ∀ e, e < gM g → gLo g e < gHi g e ∧ gHi g e < gN g) (r : exr h (gN g) (gM g) T (gLo g) (gHi g) (gCo g)) : am_i h 80 1 = nI (eC g T) ∧ ∀ w, w < gN g → am_i h 81 w = eL g T w := by
  unfold eC eL
  rcases r with ⟨r1, r2, r3⟩ | ⟨r1, A, r2, r3, r4⟩
  · rw [if_pos r1]
    exact ⟨r2, fun w hw9 => by rw [if_pos r1]; exact r3 w hw9⟩
  · rw [if_neg r1]
    have l := exA_eq r2
    exact ⟨by rw [r3, acost_ag hw l], fun w hw9 => by rw [if_neg r1, r4 w hw9, l w hw9]⟩
noncomputable def sEx (g : gD) (v : Int32) : Nat × Int32 := if vin (gN g) v = true then (0, eL g (gT g) v.toNatClampNeg) else (1, 0)
noncomputable def sPrice (g : gD) (t : Int32) : Nat × Int32 := if isT (gN g) (gT g) t = true then (0, nI (eC g (gT g)) - nI (eC g (andn (gT g) (2 ^ t.toNatClampNeg)))) else (1, 0)
noncomputable def gNe (g : gD) : Nat → Option (Nat × Nat) := ners (gM g) (gT g) (gLo g) (gHi g) (gCo g) (gN g - 1)
noncomputable def sNear (g : gD) (v : Int32) : Nat × Int32 := if vin (gN g) v = true then (0, oG (gNe g v.toNatClampNeg)) else (1, 0)
noncomputable def sDist (g : gD) (v : Int32) : Nat × Int32 := if vin (gN g) v = true then (0, oL (gNe g v.toNatClampNeg)) else (1, 0)
def gCost (g : gD) : Nat := sumE (gCo g) (dif (gLo g) (gHi g) (gLab g)) (gM g)
def sCut (g : gD) : Int32 := nI (cutm (dif (gLo g) (gHi g) (gLab g)) (gM g))
def gMv (g : gD) : mvT := mva (gN g) (gM g) (gT g) (gLo g) (gHi g) (gCo g) (gLab g) (gN g)
def sMove (g : gD) (w : Int32) : Nat × Int32 := if w = nI 0 then (0, oV1 (gMv g)) else if w = nI 1 then (0, oT1 (gMv g)) else if w = nI 2 then (0, oC1 (gMv g)) else (1, 0)
section
variable {xs : am_X} {d : Nat} {h : am_H} {st : stD} {Q : am_Q}
set_option maxHeartbeats 4000000 in
theorem k_terminals (hd : 1 ≤ d) (I : CI h st) (HQ : ∀ h', CI h' st → clF h h' → Q (.inl (some (.int (nI (gT st.1))))) h') : am_C xs am_P0 d m_Mc_terminals [.ref 1] h Q := by
  have e : am_i h (am_r h 1 3) 2 = nI (gT st.1) := by rw [sr_1_3 I.1]; exact I.2.1.1.2.1.2.2
  refine am_C_le hd (am_enter (d := 0) ap_Mc_terminals rfl ?_) (fun _ _ k => k)
  refine am_go (fun _ => false) (fun K cal Q' hK hC hQ => ?_)
  refine And.intro (sk_1 I.1) (And.intro (k13 I.1) (And.intro trivial (hQ _ _ ?_)))
  rw [show am_i h (am_r h 1 (515 % 64)) (130 % 64) = _ from e]
  exact HQ h I clF.rf
end
end
section
/-! THE CLASS'S QUESTIONS, 2 -/
theorem vin_of {n : Nat} {v : Int32} (hn : n < 2 ^ 30) (h : vin n v = true) : ∃ k, k < n ∧ v = nI k := by
  have h := of_decide_eq_true h
  obtain ⟨j, hj, e⟩ := nI_of (x := v) (by have := h.1; rw [fa_le] at this; rw [fa_lt]; omega)
  refine ⟨j, ?_, e⟩
  have h2 := h.2
  rw [e] at h2
  exact (nI_ltI hj (by omega)).mp h2
theorem vin_big {n k : Nat} (hk : k < n) (hn : n < 2 ^ 30) : vin n (nI k) = true := decide_eq_true ⟨nI_pos' (by omega), nI_lt hk (by omega)⟩
section
variable {xs : am_X} {d : Nat} {h : am_H} {st : stD} {Q : am_Q}
set_option maxHeartbeats 4000000 in
theorem k_cutCost (hd : 3 ≤ d) (I : CI h st) (hN : topN h) (s : Int32) (HQ : ∀ h', CI h' st → clF h h' → Q (aR 1 0 0 (sCutCost st.1 s)) h') : am_C xs am_P0 d m_Mc_cutCost [.ref 1, .int s] h Q := by
  have hn := I.2.1.1.2.2.2.1.1
  have hn9 := pow_le9 hn
  have hp := Nat.two_pow_pos (gN st.1)
  have no : vin (2 ^ gN st.1) s = false → Q (.inr 1) (am_thr h) := fun z => by
    have := HQ _ I.thr.1 I.thr.2
    unfold sCutCost at this
    rw [if_neg (by rw [z]; decide)] at this
    exact this
  refine am_C_le hd (am_enter (d := 2) ap_Mc_cutCost rfl ?_) (fun _ _ k => k)
  refine am_go (fun _ => false) (fun K cal Q' hK hC hQ => ?_)
  refine And.intro (fun c => ?_) (fun c => ?_)
  · have c : s < 0 := c
    exact And.intro (top_lt hN) (hQ _ _ (no (decide_eq_false fun z => by have := z.1; rw [fa_le] at this; rw [fa_lt] at c; omega)))
  · have c : ¬ s < 0 := c
    refine And.intro (sk_1 I.1) (And.intro (k13 I.1) ?_)
    show cal m_Gr_allVertices [.ref (am_r h 1 3)] h _
    rw [sr_1_3 I.1]
    refine hC _ _ _ _ (c_allVertices (by decide) (sk_3 I.1) I.2.1.1.2.1.1 hn ?_)
    refine And.intro (fun c2 => ?_) (fun c2 => ?_)
    · have c2 : s ≤ nI (2 ^ gN st.1 - 1) := c2
      obtain ⟨j, j1, j2⟩ := nI_of c
      subst j2
      have c2 := (nI_leI j1 (by omega)).mp c2
      refine And.intro (sk_1 I.1) (And.intro (k13 I.1) ?_)
      show cal m_Gr_costOfSet [.ref (am_r h 1 3), .int (nI j)] h _
      rw [sr_1_3 I.1]
      refine hC _ _ _ _ (c_costOfSet (by decide) I.2.1.1 I.2.1.co j1 (And.intro trivial (hQ _ _ ?_)))
      have := HQ _ I clF.rf
      unfold sCutCost at this
      rw [if_pos (vin_big (by omega) (by omega)), q_cl j1] at this
      exact this
    · have c2 : ¬ s ≤ nI (2 ^ gN st.1 - 1) := c2
      refine And.intro (top_lt hN) (hQ _ _ (no ?_))
      cases e : vin (2 ^ gN st.1) s with
      | false => rfl
      | true =>
        obtain ⟨k, k1, k2⟩ := vin_of (by omega) e
        exact absurd (by rw [k2]; exact nI_le (by omega) (by omega)) c2
set_option maxHeartbeats 4000000 in
theorem k_isolatingValue (hd : 6 ≤ d) (I : CI h st) (hN : topN h) (t : Int32) (HQ : ∀ h', CI h' st → clF h h' → Q (aR 1 0 0 (sIsoV st.1 t)) h') : am_C xs am_P0 d m_Mc_isolatingValue [.ref 1, .int t] h Q := by
  have hn := I.2.1.1.2.2.2.1.1
  refine am_C_le hd (am_enter (d := 5) ap_Mc_isolatingValue rfl ?_) (fun _ _ k => k)
  refine am_go (fun _ => false) (fun K cal Q' hK hC hQ => ?_)
  refine And.intro (sk_1 I.1) (hC _ _ _ _ (c_requireTerminal (by decide) I hN t (fun k k1 k2 k3 => ?_) (fun z => ?_)))
  · subst k2
    refine And.intro (sk_1 I.1) (And.intro trivial ?_)
    show cal m_Cu_valueOf [.ref (am_r h 1 3), .int (nI k)] h _
    rw [sr_1_3 I.1]
    refine hC _ _ _ _ (c_valueOf (by decide) I.2.1.1 I.2.1.co k1 k3 (And.intro trivial (hQ _ _ ?_)))
    have := HQ _ I clF.rf
    unfold sIsoV at this
    rw [if_pos (by rw [isT_nI k1 (by omega)]; exact k3), q_cl (by omega)] at this
    exact this
  · have := HQ _ I.thr.1 I.thr.2
    unfold sIsoV at this
    rw [if_neg (by rw [z]; decide)] at this
    exact hQ _ _ this
set_option maxHeartbeats 4000000 in
theorem k_isolatingSet (hd : 5 ≤ d) (I : CI h st) (hN : topN h) (t : Int32) (HQ : ∀ h', CI h' st → clF h h' → Q (aR 1 0 0 (sIsoS st.1 t)) h') : am_C xs am_P0 d m_Mc_isolatingSet [.ref 1, .int t] h Q := by
  have hn := I.2.1.1.2.2.2.1.1
  refine am_C_le hd (am_enter (d := 4) ap_Mc_isolatingSet rfl ?_) (fun _ _ k => k)
  refine am_go (fun _ => false) (fun K cal Q' hK hC hQ => ?_)
  refine And.intro (sk_1 I.1) (hC _ _ _ _ (c_requireTerminal (by decide) I hN t (fun k k1 k2 k3 => ?_) (fun z => ?_)))
  · subst k2
    refine And.intro (sk_1 I.1) (And.intro trivial ?_)
    show cal m_Cu_setOf [.ref (am_r h 1 3), .int (nI k)] h _
    rw [sr_1_3 I.1]
    refine hC _ _ _ _ (c_setOf (by decide) I.2.1.1 I.2.1.co k1 k3 (And.intro trivial (hQ _ _ ?_)))
    have := HQ _ I clF.rf
    unfold sIsoS at this
    rw [if_pos (by rw [isT_nI k1 (by omega)]; exact k3), q_cl (by omega)] at this
    exact this
  · have := HQ _ I.thr.1 I.thr.2
    unfold sIsoS at this
    rw [if_neg (by rw [z]; decide)] at this
    exact hQ _ _ this
theorem gSum_s (g : gD) (v : Nat) : gSum g (v + 1) = gSum g v + (if (gT g).testBit v then gIV g v else 0) := rfl
theorem gSum_le {g : gD} (hw : gwf g) (v : Nat) : gSum g v ≤ v * (20 * 9999) := fb_sm_bound fun k _ => by
  have : gIV g k ≤ 20 * 9999 := cutc_le hw.1.2.1 (fun e he => (coF_rng (hw.2.2.1 e he)).2) _
  show (if (gT g).testBit k then gIV g k else 0) ≤ _
  split <;> omega
set_option maxHeartbeats 4000000 in
theorem k_lowerBound (hd : 6 ≤ d) (I : CI h st) (HQ : ∀ h', CI h' st → clF h h' → Q (.inl (some (.int (sLow st.1)))) h') : am_C xs am_P0 d m_Mc_lowerBound [.ref 1] h Q := by
  have hn := I.2.1.1.2.2.2.1.1
  have e0 : am_i h (am_r h 1 3) 0 = nI (gN st.1) := by rw [sr_1_3 I.1]; exact I.2.1.1.2.1.1
  refine am_C_le hd (am_enter (d := 5) ap_Mc_lowerBound rfl ?_) (fun _ _ k => k)
  refine am_go (fun p => p == 4) (fun K cal Q' hK hC hQ => hK _ _ _ _ ?_)
  refine am_for (gN st.1) (fun i L h' => h' = h ∧ L = [.ref 1, .int (nI (gSum st.1 i)), .int (nI i)]) ?_ ?_ 0 (Nat.zero_le _) _ _ ⟨rfl, rfl⟩
  · rintro i hi9 L h' ⟨rfl, rfl⟩ next
    have eI : am_inc (nI i) (Int.ofNat 1) = nI (i + 1) := nI_1 i
    rw [← eI] at next
    refine am_go (fun p => p == 4) (fun K cal Q' hK hC hQ => ?_)
    refine And.intro (sk_1 I.1) (And.intro (k13 I.1) (And.intro (fun z => absurd z (q_ge e0 hi9 (by omega))) (fun _ => ?_)))
    refine And.intro (sk_1 I.1) (And.intro (k13 I.1) ?_)
    show cal m_Gr_isTerminal [.ref (am_r h' 1 3), .int (nI i)] h' _
    rw [sr_1_3 I.1]
    refine hC _ _ _ _ (c_isTerminal (by decide) I.2.1.1 _ ?_)
    rw [isT_nI hi9 (by omega)]
    cases hT : (gT st.1).testBit i with
    | false =>
      refine And.intro (fun _ => hK _ _ _ _ (next _ _ ⟨rfl, ?_⟩)) (fun z => absurd rfl z)
      rw [gSum_s, hT]; rfl
    | true =>
      refine And.intro (fun z => absurd z q_t1) (fun _ => ?_)
      refine And.intro (sk_1 I.1) (And.intro trivial ?_)
      show cal m_Cu_valueOf [.ref (am_r h' 1 3), .int (nI i)] h' _
      rw [sr_1_3 I.1]
      refine hC _ _ _ _ (c_valueOf (by decide) I.2.1.1 I.2.1.co hi9 hT (hK _ _ _ _ (next _ _ ⟨rfl, ?_⟩)))
      rw [gSum_s, if_pos hT, ← nI_add]
      rfl
  · rintro L h' ⟨rfl, rfl⟩
    have hsl := gSum_le I.2.1.2.2.2.2.2.2 (gN st.1)
    refine am_go (fun p => p == 4) (fun K cal Q' hK hC hQ => ?_)
    refine And.intro (sk_1 I.1) (And.intro (k13 I.1) (And.intro (fun _ => ?_) (fun z => absurd (q_le e0 (by omega)) z)))
    refine And.intro (show ¬ nI 2 = 0 by decide) (And.intro trivial (hQ _ _ ?_))
    have hb : gSum st.1 (gN st.1) + 1 < 2 ^ 31 := by
      have : gN st.1 * (20 * 9999) ≤ 9 * (20 * 9999) := Nat.mul_le_mul_right _ hn
      omega
    rw [nI_add, q_div hb (by omega)]
    exact HQ _ I clF.rf
set_option maxHeartbeats 4000000 in
theorem k_dearest (hd : 7 ≤ d) (I : CI h st) (hN : topN h) (HQ : ∀ h', CI h' st → clF h h' → Q (aR 3 0 0 (sDear st.1)) h') : am_C xs am_P0 d m_Mc_dearest [.ref 1] h Q := by
  refine am_C_le hd (am_enter (d := 6) ap_Mc_dearest rfl ?_) (fun _ _ k => k)
  refine am_go (fun _ => false) (fun K cal Q' hK hC hQ => ?_)
  refine And.intro (sk_1 I.1) (hC _ _ _ _ (c_requireSome (by decide) I hN (fun z => ?_) (fun z => ?_)))
  · refine And.intro (sk_1 I.1) (And.intro trivial ?_)
    show cal m_Cu_dearestOf [.ref (am_r h 1 3)] h _
    rw [sr_1_3 I.1]
    refine hC _ _ _ _ (c_dearestOf (by decide) I.2.1.1 I.2.1.co (And.intro trivial (hQ _ _ ?_)))
    have := HQ _ I clF.rf
    unfold sDear at this
    rw [if_neg z] at this
    exact this
  · have := HQ _ I.thr.1 I.thr.2
    unfold sDear at this
    rw [if_pos z] at this
    exact hQ _ _ this
end
end
section
/-! THE CLASS'S QUESTIONS, 3 -/
theorem cgp.T {h : am_H} {a : Nat} {g : gD} (p : cgp h a g) : am_i h a 2 = nI (gT g) := p.1.2.1.2.2
section
variable {xs : am_X} {d : Nat} {h : am_H} {st : stD} {Q : am_Q}
theorem eT3 (I : CI h st) : am_i h (am_r h 1 3) 2 = nI (gT st.1) := by rw [sr_1_3 I.1]; exact I.2.1.T
set_option maxHeartbeats 4000000 in
theorem k_exactCost (hd : 13 ≤ d) (I : CI h st) (HQ : ∀ h', CI h' st → clF h h' → Q (.inl (some (.int (nI (eC st.1 (gT st.1)))))) h') : am_C xs am_P0 d m_Mc_exactCost [.ref 1] h Q := by
  refine am_C_le hd (am_enter (d := 12) ap_Mc_exactCost rfl ?_) (fun _ _ k => k)
  refine am_go (fun _ => false) (fun K cal Q' hK hC hQ => ?_)
  refine And.intro (sk_1 I.1) (And.intro (sk_1 I.1) (And.intro (sk_1 I.1) (And.intro (k13 I.1) (And.intro (k17 I.1) ?_))))
  show cal m_Ex_run [.ref (am_r h 1 7), .ref (am_r h 1 3), .int (am_i h (am_r h 1 3) 2)] h _
  rw [eT3 I, sr_1_3 I.1, sr_1_7 I.1]
  refine hC _ _ _ _ (c_Ex_run (by decide) I.1 I.2.1.1 I.2.1.co I.2.1.1.2.2.2.1.2.2 (fun h' s r => ?_))
  obtain ⟨I', F⟩ := I.q s rfl
  obtain ⟨r1, r2⟩ := exr_eq I.2.1.1.2.2.2.2 r
  refine And.intro (sk_1 I'.1) (And.intro (k17 I'.1) (And.intro trivial (hQ _ _ ?_)))
  show Q (.inl (some (.int (am_i h' (am_r h' 1 7) 1)))) h'
  rw [sr_1_7 I'.1, r1]
  exact HQ _ I' F
set_option maxHeartbeats 4000000 in
theorem k_exact (hd : 13 ≤ d) (I : CI h st) (hN : topN h) (v : Int32) (HQ : ∀ h', CI h' st → clF h h' → Q (aR 2 0 0 (sEx st.1 v)) h') : am_C xs am_P0 d m_Mc_exact [.ref 1, .int v] h Q := by
  have hn := I.2.1.1.2.2.2.1.1
  refine am_C_le hd (am_enter (d := 12) ap_Mc_exact rfl ?_) (fun _ _ k => k)
  refine am_go (fun _ => false) (fun K cal Q' hK hC hQ => ?_)
  refine And.intro (sk_1 I.1) (hC _ _ _ _ (c_requireVertex (by decide) I hN v (fun k k1 k2 => ?_) (fun z => ?_)))
  · subst k2
    refine And.intro (sk_1 I.1) (And.intro (sk_1 I.1) (And.intro (sk_1 I.1) (And.intro (k13 I.1) (And.intro (k17 I.1) ?_))))
    show cal m_Ex_run [.ref (am_r h 1 7), .ref (am_r h 1 3), .int (am_i h (am_r h 1 3) 2)] h _
    rw [eT3 I, sr_1_3 I.1, sr_1_7 I.1]
    refine hC _ _ _ _ (c_Ex_run (by decide) I.1 I.2.1.1 I.2.1.co I.2.1.1.2.2.2.1.2.2 (fun h' s r => ?_))
    obtain ⟨I', F⟩ := I.q s rfl
    obtain ⟨r1, r2⟩ := exr_eq I.2.1.1.2.2.2.2 r
    refine And.intro (sk_1 I'.1) (And.intro (k17 I'.1) (And.intro (ck_row (x := am_r h' (am_r h' 1 7) 0) (by rw [sr_1_7 I'.1]; exact sr_80_0 I'.1) (sk_81 I'.1) rfl (by omega) (by omega)) (And.intro trivial (hQ _ _ ?_))))
    show Q (.inl (some (.int (am_i h' (am_r h' (am_r h' 1 7) 0) (nI k).toNatClampNeg)))) h'
    rw [sr_1_7 I'.1, sr_80_0 I'.1, q_cl (by omega), r2 k k1]
    have := HQ _ I' F
    unfold sEx at this
    rw [if_pos (vin_nI k1 (by omega)), q_cl (by omega)] at this
    exact this
  · have := HQ _ I.thr.1 I.thr.2
    unfold sEx at this
    rw [if_neg (by rw [z]; decide)] at this
    exact hQ _ _ this
set_option maxHeartbeats 4000000 in
theorem k_price (hd : 13 ≤ d) (I : CI h st) (hN : topN h) (t : Int32) (HQ : ∀ h', CI h' st → clF h h' → Q (aR 1 0 0 (sPrice st.1 t)) h') : am_C xs am_P0 d m_Mc_price [.ref 1, .int t] h Q := by
  have hn := I.2.1.1.2.2.2.1.1
  refine am_C_le hd (am_enter (d := 12) ap_Mc_price rfl ?_) (fun _ _ k => k)
  refine am_go (fun _ => false) (fun K cal Q' hK hC hQ => ?_)
  refine And.intro (sk_1 I.1) (hC _ _ _ _ (c_requireTerminal (by decide) I hN t (fun k k1 k2 k3 => ?_) (fun z => ?_)))
  · subst k2
    refine And.intro (sk_1 I.1) (And.intro (sk_1 I.1) (And.intro (sk_1 I.1) (And.intro (k13 I.1) (And.intro (k17 I.1) ?_))))
    show cal m_Ex_run [.ref (am_r h 1 7), .ref (am_r h 1 3), .int (am_i h (am_r h 1 3) 2)] h _
    rw [eT3 I, sr_1_3 I.1, sr_1_7 I.1]
    refine hC _ _ _ _ (c_Ex_run (by decide) I.1 I.2.1.1 I.2.1.co I.2.1.1.2.2.2.1.2.2 (fun h' s r => ?_))
    obtain ⟨I', F⟩ := I.q s rfl
    obtain ⟨r1, r2⟩ := exr_eq I.2.1.1.2.2.2.2 r
    refine And.intro (sk_1 I'.1) (And.intro (k17 I'.1) (And.intro (sk_1 I'.1) (And.intro (sk_1 I'.1) (And.intro (sk_1 I'.1) (And.intro (k13 I'.1) (And.intro (k17 I'.1) ?_))))))
    have e1 : am_i h' (am_r h' 1 3) 2 &&& ((nI 1 <<< (nI k &&& 31)) ^^^ -nI 1) = nI (andn (gT st.1) (2 ^ k)) := by rw [eT3 I', q_shl k (by omega)]; exact q_andn _ _
    show cal m_Ex_run [.ref (am_r h' 1 7), .ref (am_r h' 1 3), .int (am_i h' (am_r h' 1 3) 2 &&& ((nI 1 <<< (nI k &&& 31)) ^^^ -nI 1))] h' _
    rw [e1, sr_1_3 I'.1, sr_1_7 I'.1]
    refine hC _ _ _ _ (c_Ex_run (by decide) I'.1 I'.2.1.1 I'.2.1.co (andn_lt _ I.2.1.1.2.2.2.1.2.2) (fun h2 s2 r3 => ?_))
    obtain ⟨I2, F2⟩ := I.q (s.tr s2) rfl
    obtain ⟨r4, r5⟩ := exr_eq I.2.1.1.2.2.2.2 r3
    refine And.intro (sk_1 I2.1) (And.intro (k17 I2.1) (And.intro trivial (hQ _ _ ?_)))
    show Q (.inl (some (.int (am_i h' 80 1 - am_i h2 (am_r h2 1 7) 1)))) h2
    rw [sr_1_7 I2.1, r1, r4]
    have := HQ _ I2 F2
    unfold sPrice at this
    rw [if_pos (by rw [isT_nI k1 (by omega)]; exact k3), q_cl (by omega)] at this
    exact this
  · have := HQ _ I.thr.1 I.thr.2
    unfold sPrice at this
    rw [if_neg (by rw [z]; decide)] at this
    exact hQ _ _ this
set_option maxHeartbeats 4000000 in
theorem k_nearest (hd : 4 ≤ d) (I : CI h st) (hN : topN h) (v : Int32) (HQ : ∀ h', CI h' st → clF h h' → Q (aR 2 0 0 (sNear st.1 v)) h') : am_C xs am_P0 d m_Mc_nearest [.ref 1, .int v] h Q := by
  have hn := I.2.1.1.2.2.2.1.1
  refine am_C_le hd (am_enter (d := 3) ap_Mc_nearest rfl ?_) (fun _ _ k => k)
  refine am_go (fun _ => false) (fun K cal Q' hK hC hQ => ?_)
  refine And.intro (sk_1 I.1) (hC _ _ _ _ (c_requireVertex (by decide) I hN v (fun k k1 k2 => ?_) (fun z => ?_)))
  · subst k2
    refine And.intro (sk_1 I.1) (And.intro (sk_1 I.1) (And.intro (k18 I.1) ?_))
    show cal m_Ne_run [.ref (am_r h 1 8), .ref (am_r h 1 3)] h _
    rw [sr_1_3 I.1, sr_1_8 I.1]
    refine hC _ _ _ _ (c_Ne_run (by decide) I.1 I.2.1.1 I.2.1.co (fun h' s r => ?_))
    obtain ⟨I', F⟩ := I.q s rfl
    refine And.intro (sk_1 I'.1) (And.intro (k18 I'.1) (And.intro (ck_row (x := am_r h' (am_r h' 1 8) 0) (by rw [sr_1_8 I'.1]; exact sr_83_0 I'.1) (sk_84 I'.1) rfl (by omega) (by omega)) (And.intro trivial (hQ _ _ ?_))))
    show Q (.inl (some (.int (am_i h' (am_r h' (am_r h' 1 8) 0) (nI k).toNatClampNeg)))) h'
    rw [sr_1_8 I'.1, sr_83_0 I'.1, q_cl (by omega), (r k (by omega)).1]
    have := HQ _ I' F
    unfold sNear at this
    rw [if_pos (vin_nI k1 (by omega)), q_cl (by omega)] at this
    exact this
  · have := HQ _ I.thr.1 I.thr.2
    unfold sNear at this
    rw [if_neg (by rw [z]; decide)] at this
    exact hQ _ _ this
set_option maxHeartbeats 4000000 in
theorem k_distance (hd : 4 ≤ d) (I : CI h st) (hN : topN h) (v : Int32) (HQ : ∀ h', CI h' st → clF h h' → Q (aR 2 0 0 (sDist st.1 v)) h') : am_C xs am_P0 d m_Mc_distance [.ref 1, .int v] h Q := by
  have hn := I.2.1.1.2.2.2.1.1
  refine am_C_le hd (am_enter (d := 3) ap_Mc_distance rfl ?_) (fun _ _ k => k)
  refine am_go (fun _ => false) (fun K cal Q' hK hC hQ => ?_)
  refine And.intro (sk_1 I.1) (hC _ _ _ _ (c_requireVertex (by decide) I hN v (fun k k1 k2 => ?_) (fun z => ?_)))
  · subst k2
    refine And.intro (sk_1 I.1) (And.intro (sk_1 I.1) (And.intro (k18 I.1) ?_))
    show cal m_Ne_run [.ref (am_r h 1 8), .ref (am_r h 1 3)] h _
    rw [sr_1_3 I.1, sr_1_8 I.1]
    refine hC _ _ _ _ (c_Ne_run (by decide) I.1 I.2.1.1 I.2.1.co (fun h' s r => ?_))
    obtain ⟨I', F⟩ := I.q s rfl
    refine And.intro (sk_1 I'.1) (And.intro (k18 I'.1) (And.intro (ck_row (x := am_r h' (am_r h' 1 8) 1) (by rw [sr_1_8 I'.1]; exact sr_83_1 I'.1) (sk_85 I'.1) rfl (by omega) (by omega)) (And.intro trivial (hQ _ _ ?_))))
    show Q (.inl (some (.int (am_i h' (am_r h' (am_r h' 1 8) 1) (nI k).toNatClampNeg)))) h'
    rw [sr_1_8 I'.1, sr_83_1 I'.1, q_cl (by omega), (r k (by omega)).2]
    have := HQ _ I' F
    unfold sDist at this
    rw [if_pos (vin_nI k1 (by omega)), q_cl (by omega)] at this
    exact this
  · have := HQ _ I.thr.1 I.thr.2
    unfold sDist at this
    rw [if_neg (by rw [z]; decide)] at this
    exact hQ _ _ this
set_option maxHeartbeats 4000000 in
theorem k_cost (hd : 3 ≤ d) (I : CI h st) (HQ : ∀ h', CI h' st → clF h h' → Q (.inl (some (.int (nI (gCost st.1))))) h') : am_C xs am_P0 d m_Mc_cost [.ref 1] h Q := by
  refine am_C_le hd (am_enter (d := 2) ap_Mc_cost rfl ?_) (fun _ _ k => k)
  refine am_go (fun _ => false) (fun K cal Q' hK hC hQ => ?_)
  refine And.intro (sk_1 I.1) (And.intro (k13 I.1) ?_)
  show cal m_Gr_presentCost [.ref (am_r h 1 3)] h _
  rw [sr_1_3 I.1]
  exact hC _ _ _ _ (c_presentCost (by decide) I.2.1.1 I.2.1.co I.2.1.2.2.2.1 (And.intro trivial (hQ _ _ (HQ _ I clF.rf))))
end
end
section
/-! THE CLASS'S CHANGES -/
def gL (g : gD) (f : Nat → Int32) : gD := (g.1, g.2.1, g.2.2.1, g.2.2.2.1, g.2.2.2.2.1, f, g.2.2.2.2.2.2)
theorem CI.ch {h h1 h2 : am_H} {X : List Nat} {st : stD} {hist' : List gD} {g' : gD} (I : CI h st) (c : clG h h1) (hh : chi h1 hist') (s : sm X h1 h2) (hX : ∀ x, x ∈ X → 3 ≤ x ∧ (x < 10 ∨ (68 ≤ x ∧ x ≤ 86))) (p : cgp h2 3 g') : CI h2 (g', hist', st.2.2) ∧ clF h h2 := by
  obtain ⟨i1, i2, i3, ⟨i4, i5, i6⟩, i7⟩ := I
  have n1 : (1 : Nat) ∉ X := fun z => by have := hX _ z; omega
  have n2 : (2 : Nat) ∉ X := fun z => by have := hX _ z; omega
  have J : ∀ a, a ≤ 2 → ∀ k, am_i h2 a k = am_i h a k := fun a ha k => (s.i (fun z => by have := hX _ z; omega) k).trans (by rw [(c.2.2.2.2 a (by omega)).1])
  refine ⟨⟨s.sh c.1, p, hh.mvs s (fun x hx => by have := hX x hx; omega), ⟨i4, (J 1 (by decide) _).trans i5, fun k hk => ⟨(J 2 (by decide) k).trans (i6 k hk).1, (i6 k hk).2⟩⟩, (J 1 (by decide) _).trans i7⟩, fun a _ => (s.k a).trans (by unfold am_k; rw [c.2.1]), fun a h1' h2' => ?_, ⟨by rw [s.n, c.2.2.1.1]; exact Nat.le_refl _, by rw [s.n, c.2.2.1.1]; omega⟩, by rw [s.cs, c.2.2.1.2]; omega⟩
  have a1 := s.2.2 a (fun z => by have := hX a z; omega)
  have a2 := c.2.2.2.2 a (by omega)
  exact ⟨a1.1.trans a2.1, a1.2.trans a2.2, funext fun k => (s.r a k).trans (c.2.2.2.1 a k (by omega))⟩
theorem cgp.lab {h h' : am_H} {X : List Nat} {g : gD} {f : Nat → Int32} (p : cgp h 3 g) (s : sm X h h') (hX : ∀ x, x ∈ X → x = 5 ∨ (10 ≤ x ∧ x < 95)) (h5 : ∀ v, v < gN g → am_i h' 5 v = f v) : cgp h' 3 (gL g f) := by
  obtain ⟨⟨p1, p2, p3, p4⟩, q1, q2, q3, q4, q5, q6⟩ := p
  have I : ∀ i k, i ≤ 6 → i ≠ 2 → am_i h' (3 + i) k = am_i h (3 + i) k := fun i k hi h2 => s.i (fun z => by have := hX _ z; omega) k
  refine ⟨⟨s.gx p1, ⟨(I 0 0 (by decide) (by decide)).trans p2.1, (I 0 1 (by decide) (by decide)).trans p2.2.1, (I 0 2 (by decide) (by decide)).trans p2.2.2⟩, fun e he => ⟨(I 3 e (by decide) (by decide)).trans (p3 e he).1, (I 4 e (by decide) (by decide)).trans (p3 e he).2⟩, p4⟩, fun e he => (I 5 e (by decide) (by decide)).trans (q1 e he), fun v hv => (I 1 v (by decide) (by decide)).trans (q2 v hv), h5, fun e he => (I 6 e (by decide) (by decide)).trans (q4 e he), ?_, q6⟩
  exact q5.mv (s.r _ _) fun F hF _ => ⟨⟨s.k _, s.k _, s.k _⟩, fun k _ => s.r _ k, fun _ k => s.i (fun z => by have := hX _ z; omega) k⟩
/-- the state behind a change of the graph -/
def stC (st : stD) (g : gD) : stD := (g, (st.1 :: st.2.1).take 8, st.2.2)
section
variable {xs : am_X} {d : Nat} {h : am_H} {st : stD} {Q : am_Q}
def labV (g : gD) (v : Nat) (t : Int32) : gD := gL g (fun w => if w = v then t else gLab g w)
/-- setLabel: its code, its graph -/
def sSetLab (g : gD) (v t : Int32) : Nat := if vin (gN g) v = true then (if t = -nI 1 ∨ isT (gN g) (gT g) t = true then (if (gT g).testBit v.toNatClampNeg = true then 3 else 0) else 2) else 1
set_option maxHeartbeats 8000000 in
theorem k_setLabel (hd : 4 ≤ d) (I : CI h st) (hN : topN h) (v t : Int32) (HX : ∀ k h', sSetLab st.1 v t = k → k ≠ 0 → CI h' st → clF h h' → Q (aR 2 1 3 (k, 0)) h')
    (HQ : ∀ h', sSetLab st.1 v t = 0 → CI h' (stC st (labV st.1 v.toNatClampNeg t)) → clF h h' → Q (.inl (some (.int (nI (gCost (labV st.1 v.toNatClampNeg t)))))) h') : am_C xs am_P0 d m_Mc_setLabel [.ref 1, .int v, .int t] h Q := by
  have hn := I.2.1.1.2.2.2.1.1
  refine am_C_le hd (am_enter (d := 3) ap_Mc_setLabel rfl ?_) (fun _ _ k => k)
  refine am_go (fun p => p == 15) (fun K cal Q' hK hC hQ => ?_)
  refine And.intro (sk_1 I.1) (hC _ _ _ _ (c_requireVertex (by decide) I hN v (fun k k1 k2 => ?_) (fun z => hQ _ _ (HX 1 _ (by unfold sSetLab; rw [if_neg (by rw [z]; decide)]) (by decide) I.thr.1 I.thr.2))))
  subst k2
  rw [q_cl (by omega)] at HQ
  have W : (t = -nI 1 ∨ isT (gN st.1) (gT st.1) t = true) → am_W xs (am_code at_Mc_setLabel) (am_hd ah_Mc_setLabel) (am_C xs am_P0 3) Q 15 [.ref 1, .int (nI k), .int t] [] h := by
    intro hor
    refine am_go (fun _ => false) (fun K cal Q' hK hC hQ => ?_)
    refine And.intro (sk_1 I.1) (And.intro (k13 I.1) ?_)
    show cal m_Gr_isTerminal [.ref (am_r h 1 3), .int (nI k)] h _
    rw [sr_1_3 I.1]
    refine hC _ _ _ _ (c_isTerminal (by decide) I.2.1.1 _ ?_)
    rw [isT_nI k1 (by omega)]
    cases hT : (gT st.1).testBit k with
    | true =>
      refine And.intro (fun z => absurd z q_t1) (fun _ => And.intro (top_lt hN) (hQ _ _ (HX 3 _ ?_ (by decide) I.thr.1 I.thr.2)))
      unfold sSetLab
      rw [if_pos (vin_nI k1 (by omega)), if_pos hor, q_cl (by omega), if_pos hT]
    | false =>
      refine And.intro (fun _ => ?_) (fun z => absurd rfl z)
      have code : sSetLab st.1 (nI k) t = 0 := by
        unfold sSetLab
        rw [if_pos (vin_nI k1 (by omega)), if_pos hor, q_cl (by omega), if_neg (by rw [hT]; decide)]
      refine And.intro (sk_1 I.1) (And.intro (sk_1 I.1) (And.intro (k14 I.1) ?_))
      show cal m_Hi_save [.ref (am_r h 1 4), .ref (am_r h 1 3)] h _
      rw [sr_1_3 I.1, sr_1_4 I.1]
      refine hC _ _ _ _ (c_save (by decide) I.1 I.2.1 I.2.2.1 (fun h1 c p hh => ?_))
      refine And.intro (sk_1 c.1) (And.intro (k13 c.1) (And.intro (ck_row (x := am_r h1 (am_r h1 1 3) 4) (by rw [sr_1_3 c.1]; exact sr_3_4 c.1) (sk_5 c.1) rfl (by omega) (by omega)) ?_))
      have e5 : am_r h1 (am_r h1 1 (515 % 64)) (132 % 64) = 5 := by rw [show am_r h1 1 (515 % 64) = 3 from sr_1_3 c.1]; exact sr_3_4 c.1
      rw [e5, q_cl (by omega)]
      have s : sm [5] h1 (am_pi h1 5 k t) := sm.rf.pi (by decide)
      have p2 : cgp (am_pi h1 5 k t) 3 (labV st.1 k t) := p.lab s (fun x hx => Or.inl (List.mem_singleton.mp hx)) (fun w hw => by
        rw [i_pi_same]
        by_cases e : w = k
        · rw [if_pos e, if_pos e]
        · rw [if_neg e, if_neg e]; exact p.2.2.2.1 w hw)
      obtain ⟨I', F⟩ := I.ch c hh s (fun x hx => by have := List.mem_singleton.mp hx; omega) p2
      refine And.intro (sk_1 I'.1) (And.intro (k13 I'.1) ?_)
      show cal m_Gr_presentCost [.ref (am_r (am_pi h1 5 k t) 1 3)] _ _
      rw [sr_1_3 I'.1]
      exact hC _ _ _ _ (c_presentCost (by decide) I'.2.1.1 I'.2.1.co I'.2.1.2.2.2.1 (And.intro trivial (hQ _ _ (HQ _ code I' F))))
  refine And.intro (fun z => hK _ _ _ _ (W (Or.inl z))) (fun z => ?_)
  have z : ¬ t = -nI 1 := z
  refine And.intro (sk_1 I.1) (hC _ _ _ _ (c_requireTerminal (by decide) I hN t (fun j j1 j2 j3 => hK _ _ _ _ (W (Or.inr (by rw [j2, isT_nI j1 (by omega)]; exact j3)))) (fun w => hQ _ _ (HX 2 _ ?_ (by decide) I.thr.1 I.thr.2))))
  unfold sSetLab
  rw [if_pos (vin_nI k1 (by omega)), if_neg (fun q => q.elim z (fun y => by rw [w] at y; cases y))]
noncomputable def gUseN (g : gD) : gD := gL g (fun v => oG (gNe g v))
noncomputable def gUseU (g : gD) : gD := gL g (fun v => lun (gT g) (gIS g) (gDe g) (gN g) v)
noncomputable def gUseE (g : gD) : gD := gL g (fun v => eL g (gT g) v)
set_option maxHeartbeats 4000000 in
theorem k_useExact (hd : 13 ≤ d) (I : CI h st) (HQ : ∀ h', CI h' (stC st (gUseE st.1)) → clF h h' → Q (.inl (some (.int (nI (gCost (gUseE st.1)))))) h') : am_C xs am_P0 d m_Mc_useExact [.ref 1] h Q := by
  have hn := I.2.1.1.2.2.2.1.1
  refine am_C_le hd (am_enter (d := 12) ap_Mc_useExact rfl ?_) (fun _ _ k => k)
  refine am_go (fun _ => false) (fun K cal Q' hK hC hQ => ?_)
  refine And.intro (sk_1 I.1) (And.intro (sk_1 I.1) (And.intro (k14 I.1) ?_))
  show cal m_Hi_save [.ref (am_r h 1 4), .ref (am_r h 1 3)] h _
  rw [sr_1_3 I.1, sr_1_4 I.1]
  refine hC _ _ _ _ (c_save (by decide) I.1 I.2.1 I.2.2.1 (fun h1 c p hh => ?_))
  have eT : am_i h1 (am_r h1 1 3) 2 = nI (gT st.1) := by rw [sr_1_3 c.1]; exact p.T
  refine And.intro (sk_1 c.1) (And.intro (sk_1 c.1) (And.intro (sk_1 c.1) (And.intro (k13 c.1) (And.intro (k17 c.1) ?_))))
  show cal m_Ex_run [.ref (am_r h1 1 7), .ref (am_r h1 1 3), .int (am_i h1 (am_r h1 1 3) 2)] h1 _
  rw [eT, sr_1_3 c.1, sr_1_7 c.1]
  refine hC _ _ _ _ (c_Ex_run (by decide) c.1 p.1 p.co p.1.2.2.2.1.2.2 (fun h2 s2 r2 => ?_))
  obtain ⟨e1, e2⟩ := exr_eq p.1.2.2.2.2 r2
  have hs2 := s2.sh c.1
  refine And.intro (sk_1 hs2) (And.intro (sk_1 hs2) (And.intro (k17 hs2) (And.intro (k13 hs2) ?_)))
  show cal m_Gr_takeLabels [.ref (am_r h2 1 3), .ref (am_r h2 (am_r h2 1 7) 0)] h2 _
  rw [sr_1_3 hs2, sr_1_7 hs2, sr_80_0 hs2]
  have g2 := p.1.mv s2 (by decide) (by decide) (by decide)
  refine hC _ _ _ _ (c_takeLabels (by decide) (gs_3 hs2) g2.2.1.1 hn (sk_81 hs2) (by decide) (fun h3 s3 r3 => ?_))
  have s23 : sm [5, 80, 81, 82] h1 h3 := (s2.mo (by decide)).tr (s3.mo (by decide))
  have p3 : cgp h3 3 (gUseE st.1) := p.lab s23 (fun x hx => by simp at hx; omega) (fun v hv => (r3 v hv).trans (e2 v hv))
  obtain ⟨I', F⟩ := I.ch c hh s23 (fun x hx => by simp at hx; omega) p3
  refine And.intro (sk_1 I'.1) (And.intro (k13 I'.1) ?_)
  show cal m_Gr_presentCost [.ref (am_r h3 1 3)] _ _
  rw [sr_1_3 I'.1]
  exact hC _ _ _ _ (c_presentCost (by decide) I'.2.1.1 I'.2.1.co I'.2.1.2.2.2.1 (And.intro trivial (hQ _ _ (HQ _ I' F))))
/-- one improvement; some of them, at most k -/
def gBet (g : gD) : Bool := mvi (gM g) (gLo g) (gHi g) (gCo g) (gLab g) (gMv g)
def gImp (g : gD) : gD := gL g (mvl (gLab g) (gMv g))
def gImps : Nat → gD → gD × Nat
  | 0, g => (g, 0)
  | k + 1, g => if gBet g = true then ((gImps k (gImp g)).1, (gImps k (gImp g)).2 + 1) else (g, 0)
end
end
section
/-! THE CLASS'S CHANGES, 3: the graph -/
def setN (f : Nat → Nat) (k x : Nat) : Nat → Nat := fun j => if j = k then x else f j
def gW (g : gD) (e w : Nat) : gD := (g.1, g.2.1, g.2.2.1, setN (gWt g) e w, g.2.2.2.2.1, g.2.2.2.2.2.1, g.2.2.2.2.2.2)
def gAdd (g : gD) (u v w : Nat) : gD := ((gN g, gM g + 1, gT g), setN (gLo g) (gM g) (Nat.min u v), setN (gHi g) (gM g) (Nat.max u v), setN (gWt g) (gM g) w, g.2.2.2.2.1, g.2.2.2.2.2.1, g.2.2.2.2.2.2)
def gOn (g : gD) (v : Nat) : gD := ((gN g, gM g, gT g ||| 2 ^ v), g.2.1, g.2.2.1, g.2.2.2.1, g.2.2.2.2.1, (fun w => if w = v then nI v else gLab g w), g.2.2.2.2.2.2)
end
section
/-! APPEND, CHECKSUM -/
theorem q_ge' {x : Int32} {m n : Nat} (hx : x = nI m) (hm : m < n) (hn : n < 100000 := by omega) : ¬ nI n ≤ x := by rw [hx]; exact nI_ge hm (by omega)
/-- a byte of a word -/
def byt (w : Int32) (s : Nat) : Nat := ((w >>> (nI s &&& 31)) &&& 255).toNatClampNeg
theorem byt_and (x : Int32) : ∃ k, k < 256 ∧ x &&& 255 = nI k := by
  refine ⟨x.toBitVec.toNat % 256, Nat.mod_lt _ (by decide), ?_⟩
  have h : x = nI x.toBitVec.toNat := Int32.toBitVec_inj.mp (by show _ = BitVec.ofNat 32 _; simp)
  have h2 := fa_mask x.toBitVec.toNat 8
  rw [← h] at h2
  exact h2
theorem byt_lt (w : Int32) (s : Nat) : byt w s < 256 := by
  unfold byt
  obtain ⟨k, k1, k2⟩ := byt_and (w >>> (nI s &&& 31))
  rw [k2, q_cl (by omega)]
  exact k1
theorem bS_small : ∀ k, k < 256 → vp_nar .byte ((nI k).toInt8.toInt32) = bS k := by decide +kernel
theorem byt_bS (w : Int32) (s : Nat) : vp_nar .byte ((w >>> (nI s &&& 31)).toInt8.toInt32) = bS (byt w s) := by
  unfold byt
  obtain ⟨k, k1, k2⟩ := byt_and (w >>> (nI s &&& 31))
  have h := fa_byte_low (w >>> (nI s &&& 31))
  rw [← h, k2, q_cl (by omega)]
  exact bS_small k k1
def shf : Nat → Int32
  | 0 => nI 24
  | i + 1 => shf i - nI 8
theorem shf_i : ∀ i, i < 4 → shf i = nI (24 - 8 * i) ∧ ¬ shf i < 0 := by decide
theorem shf_4 : shf 4 < 0 := by decide
set_option maxHeartbeats 4000000 in
theorem c_putWord {xs : am_X} {d : Nat} {h : am_H} {L : Nat} (hd : 1 ≤ d) (hs : sh h) (hL : am_i h 1 1 = nI L) (hl : L + 4 ≤ 700) (w : Int32) {Q : am_Q}
    (HQ : ∀ h', sm [1, 2] h h' → (∀ k, am_i h' 1 k = if k = 1 then nI (L + 4) else am_i h 1 k) → (∀ k, am_i h' 2 k = if L ≤ k ∧ k < L + 4 then bS (byt w (24 - 8 * (k - L))) else am_i h 2 k) → Q (.inl none) h') : am_C xs am_P0 d m_Mc_putWord [.ref 1, .int w] h Q := by
  refine am_C_le hd (am_enter (d := 0) ap_Mc_putWord rfl ?_) (fun _ _ k => k)
  refine am_go (fun p => p == 3) (fun K cal Q' hK hC hQ => hK _ _ _ _ ?_)
  refine am_for 4 (fun i M h' => M = [.ref 1, .int w, .int (shf i)] ∧ sm [1, 2] h h' ∧ (∀ k, am_i h' 1 k = if k = 1 then nI (L + i) else am_i h 1 k) ∧ ∀ k, am_i h' 2 k = if L ≤ k ∧ k < L + i then bS (byt w (24 - 8 * (k - L))) else am_i h 2 k) ?_ ?_ 0 (Nat.zero_le _) _ _ ⟨rfl, sm.rf, fun k => ?_, fun k => by rw [if_neg (by omega)]⟩
  · rintro i hi9 M h' ⟨rfl, s, h1, h2⟩ next
    have hs' := s.sh hs
    obtain ⟨e1, e2⟩ := shf_i i hi9
    have eL : am_i h' 1 1 = nI (L + i) := by rw [h1, if_pos rfl]
    refine am_go (fun p => p == 3) (fun K cal Q' hK hC hQ => ?_)
    refine And.intro (fun z => absurd z e2) (fun _ => ?_)
    refine And.intro (sk_1 hs') (And.intro (fun z => absurd z (q_ge' eL (by omega))) (fun _ => ?_))
    refine And.intro (sk_1 hs') (And.intro (sk_1 hs') (And.intro (ck_row (sr_1_0 hs') (sk_2 hs') eL (by omega) (by omega)) ?_))
    have ev : vp_nar .byte ((w >>> (shf i &&& 31)).toInt8.toInt32) = bS (byt w (24 - 8 * i)) := by rw [e1]; exact byt_bS w _
    have e0 : am_r h' 1 (512 % 64) = 2 := sr_1_0 hs'
    have ec : (am_i h' 1 (513 % 64)).toNatClampNeg = L + i := by rw [show am_i h' 1 (513 % 64) = nI (L + i) from eL]; exact q_cl (by omega)
    rw [e0, ec, ev]
    have s2 : sm [1, 2] h (am_pi h' 2 (L + i) (bS (byt w (24 - 8 * i)))) := s.pi (by decide)
    have hs2 := s2.sh hs
    refine And.intro (sk_1 hs2) (And.intro (sk_1 hs2) ?_)
    have e9 : am_i (am_pi h' 2 (L + i) (bS (byt w (24 - 8 * i)))) 1 (513 % 64) + nI 1 = nI (L + (i + 1)) := by rw [i_pi_ne (by decide), show am_i h' 1 (513 % 64) = nI (L + i) from eL]; exact nI_add _ _
    rw [e9]
    refine hK _ _ _ _ (next _ _ ⟨rfl, s2.pi (by decide), fun k => ?_, fun k => ?_⟩)
    · rw [i_pi_same, i_pi_ne (by decide)]
      by_cases q : k = 1
      · rw [if_pos q, if_pos q]
      · rw [if_neg q, h1, if_neg q, if_neg q]
    · rw [i_pi_ne (by decide), i_pi_same, h2]
      by_cases q : k = L + i
      · rw [if_pos q, if_pos (by omega), q, show L + i - L = i by omega]
      · rw [if_neg q]
        by_cases z : L ≤ k ∧ k < L + i
        · rw [if_pos z, if_pos (by omega)]
        · rw [if_neg z, if_neg (by omega)]
  · rintro M h' ⟨rfl, s, h1, h2⟩
    refine am_go (fun p => p == 3) (fun K cal Q' hK hC hQ => ?_)
    exact And.intro (fun _ => And.intro trivial (hQ _ _ (HQ _ s h1 h2))) (fun z => absurd shf_4 z)
  · by_cases q : k = 1
    · rw [if_pos q, q]; exact hL
    · rw [if_neg q]
/-- the bytes behind an append -/
def apB (w : Nat → Int32) (L : Nat) (b : Nat → Nat) : Nat → Nat := fun k => if k < L then b k else byt (w ((k - L) / 4)) (24 - 8 * ((k - L) % 4))
def stB (st : stD) (L : Nat) (b : Nat → Nat) : stD := (st.1, st.2.1, (L, b), st.2.2.2)
set_option maxHeartbeats 8000000 in
theorem k_append {xs : am_X} {d : Nat} {h : am_H} {st : stD} {Q : am_Q} (hd : 2 ≤ d) (I : CI h st) (w : Nat → Int32) (H0 : 680 < st.2.2.1.1 → Q (.inl (some (.int (-nI 1)))) h)
    (HQ : ∀ h', st.2.2.1.1 ≤ 680 → CI h' (stB st (st.2.2.1.1 + 20) (apB w st.2.2.1.1 st.2.2.1.2)) → clF h h' → Q (.inl (some (.int (nI (st.2.2.1.1 + 20))))) h') : am_C xs am_P0 d m_Mc_append [.ref 1, .int (w 0), .int (w 1), .int (w 2), .int (w 3), .int (w 4)] h Q := by
  obtain ⟨i1, i2, i3, ⟨i4, i5, i6⟩, i7⟩ := id I
  generalize hLd : st.2.2.1.1 = L at *
  generalize hbd : st.2.2.1.2 = b at *
  refine am_C_le hd (am_enter (d := 1) ap_Mc_append rfl ?_) (fun _ _ k => k)
  refine am_go (fun _ => false) (fun K cal Q' hK hC hQ => ?_)
  refine And.intro (sk_1 i1) (And.intro (fun z => ?_) (fun z => ?_))
  · have z : nI L ≤ nI 680 := by rw [← i5]; exact z
    have z := (nI_leI (by omega) (by omega)).mp z
    have step : ∀ (j : Nat) (hj : j < 5) (h' : am_H), sm [1, 2] h h' → (∀ k, am_i h' 1 k = if k = 1 then nI (L + 4 * j) else am_i h 1 k) → (∀ k, am_i h' 2 k = if L ≤ k ∧ k < L + 4 * j then bS (apB w L b k) else am_i h 2 k) → ∀ {Q : am_Q}, (∀ h'', sm [1, 2] h h'' → (∀ k, am_i h'' 1 k = if k = 1 then nI (L + 4 * (j + 1)) else am_i h 1 k) → (∀ k, am_i h'' 2 k = if L ≤ k ∧ k < L + 4 * (j + 1) then bS (apB w L b k) else am_i h 2 k) → Q (.inl none) h'') → am_C xs am_P0 1 m_Mc_putWord [.ref 1, .int (w j)] h' Q := by
      intro j hj h' s h1 h2 Q HQ
      refine c_putWord (by decide) (s.sh i1) (L := L + 4 * j) (by rw [h1, if_pos rfl]) (by omega) (w j) (fun h'' s2 h12 h22 => HQ h'' (s.tr s2) (fun k => ?_) (fun k => ?_))
      · rw [h12]
        by_cases q : k = 1
        · rw [if_pos q, if_pos q, show L + 4 * j + 4 = L + 4 * (j + 1) by omega]
        · rw [if_neg q, if_neg q, h1, if_neg q]
      · rw [h22, h2]
        by_cases q : L + 4 * j ≤ k ∧ k < L + 4 * j + 4
        · rw [if_pos q, if_pos (by omega)]
          unfold apB
          rw [if_neg (by omega), show (k - L) / 4 = j by omega, show (k - L) % 4 = k - (L + 4 * j) by omega]
        · rw [if_neg q]
          by_cases y : L ≤ k ∧ k < L + 4 * j
          · rw [if_pos y, if_pos (by omega)]
          · rw [if_neg y, if_neg (by omega)]
    refine And.intro (sk_1 i1) (hC _ _ _ _ (step 0 (by omega) h sm.rf (fun k => by by_cases q : k = 1 <;> simp [q, i5]) (fun k => by rw [if_neg (by omega)]) (fun g1 s1 a1 b1 => ?_)))
    refine And.intro (sk_1 (s1.sh i1)) (hC _ _ _ _ (step 1 (by omega) g1 s1 a1 b1 (fun g2 s2 a2 b2 => ?_)))
    refine And.intro (sk_1 (s2.sh i1)) (hC _ _ _ _ (step 2 (by omega) g2 s2 a2 b2 (fun g3 s3 a3 b3 => ?_)))
    refine And.intro (sk_1 (s3.sh i1)) (hC _ _ _ _ (step 3 (by omega) g3 s3 a3 b3 (fun g4 s4 a4 b4 => ?_)))
    refine And.intro (sk_1 (s4.sh i1)) (hC _ _ _ _ (step 4 (by omega) g4 s4 a4 b4 (fun g5 s5 a5 b5 => ?_)))
    refine And.intro (sk_1 (s5.sh i1)) (And.intro trivial (hQ _ _ ?_))
    have e5 : am_i g5 1 (513 % 64) = nI (L + 20) := by rw [a5]; rfl
    rw [e5]
    refine HQ g5 z ⟨s5.sh i1, i2.mvs s5 (fun x hx => by simp at hx; omega) (fun x hx => by simp at hx; omega), i3.mvs s5 (fun x hx => by simp at hx; omega), ⟨by show L + 20 ≤ 700; omega, e5, fun k hk => ?_⟩, ?_⟩ (clF.sm s5 (fun x hx => by simp at hx; omega))
    · have hk : k < L + 20 := hk
      show am_i g5 2 k = bS (apB w L b k) ∧ apB w L b k < 256
      rw [b5]
      by_cases q : k < L
      · rw [if_neg (by omega), (i6 k q).1]
        unfold apB
        rw [if_pos q]
        exact ⟨rfl, (i6 k q).2⟩
      · rw [if_pos (by omega)]
        refine ⟨rfl, ?_⟩
        unfold apB
        rw [if_neg q]
        exact byt_lt _ _
    · show am_i g5 1 2 = _
      rw [a5, if_neg (by decide)]
      exact i7
  · have z : ¬ nI L ≤ nI 680 := by rw [← i5]; exact z
    exact And.intro trivial (hQ _ _ (H0 (Nat.not_le.mp fun q => z (nI_le q (by omega)))))
/-- checksum -/
def ckE (g : gD) (s : Int64) : Nat → Int64
  | 0 => s
  | e + 1 => lN 31 * (lN 31 * (lN 31 * ckE g s e + (nI (gLo g e)).toInt64) + (nI (gHi g e)).toInt64) + (nI (gWt g e)).toInt64
def ckV (g : gD) (s : Int64) : Nat → Int64
  | 0 => s
  | v + 1 => lN 31 * ckV g s v + (gLab g v).toInt64
def sCk (g : gD) : Int64 := lN 31 * ckV g (ckE g (lN 31 * (nI (gN g)).toInt64 + (nI (gT g)).toInt64) (gM g)) (gN g) + (nI (gCost g)).toInt64
end
section
/-! THE SETUP TEXT: its tokens, its grammar, read by a function of its own -/
abbrev tX : Type := Nat × (Nat → Nat)
def isDg (c : Nat) : Bool := decide (48 ≤ c ∧ c ≤ 57)
def isLt (c : Nat) : Bool := decide (97 ≤ c ∧ c ≤ 122)
def isSp (c : Nat) : Bool := decide (c = 32)
def runF (f : Nat → Bool) (b : Nat → Nat) : Nat → Nat → Nat
  | 0, p => p
  | k + 1, p => if f (b p) = true then runF f b k (p + 1) else p
def run (f : Nat → Bool) (t : tX) (p : Nat) : Nat := runF f t.2 (t.1 - p) p
theorem run_in {f : Nat → Bool} {t : tX} {p : Nat} (h : p < t.1) (hf : f (t.2 p) = true) : run f t p = run f t (p + 1) := by
  unfold run
  rw [show t.1 - p = (t.1 - (p + 1)) + 1 by omega, runF, if_pos hf]
theorem run_out {f : Nat → Bool} {t : tX} {p : Nat} (h : t.1 ≤ p ∨ f (t.2 p) = false) : run f t p = p := by
  unfold run
  rcases h with h | h
  · rw [show t.1 - p = 0 by omega]; rfl
  · cases e : t.1 - p with
    | zero => rfl
    | succ k => rw [runF, if_neg (by rw [h]; decide)]
theorem runF_le (f : Nat → Bool) (b : Nat → Nat) : ∀ k p, p ≤ runF f b k p ∧ runF f b k p ≤ p + k
  | 0, p => ⟨Nat.le_refl _, Nat.le_refl _⟩
  | k + 1, p => by
    unfold runF
    split
    · have := runF_le f b k (p + 1); omega
    · omega
theorem run_ge (f : Nat → Bool) (t : tX) (p : Nat) : p ≤ run f t p := (runF_le _ _ _ _).1
theorem run_len {f : Nat → Bool} {t : tX} {p : Nat} (h : p ≤ t.1) : run f t p ≤ t.1 := by
  have := (runF_le f t.2 (t.1 - p) p).2
  unfold run
  omega
theorem runF_stop (f : Nat → Bool) (b : Nat → Nat) : ∀ k p, runF f b k p = p + k ∨ f (b (runF f b k p)) = false
  | 0, p => Or.inl rfl
  | k + 1, p => by
    unfold runF
    split
    · rcases runF_stop f b k (p + 1) with h | h
      · exact Or.inl (by omega)
      · exact Or.inr h
    · rename_i h
      exact Or.inr (by simpa using h)
theorem run_stop (f : Nat → Bool) (t : tX) (p : Nat) : t.1 ≤ run f t p ∨ f (t.2 (run f t p)) = false := by
  unfold run
  rcases runF_stop f t.2 (t.1 - p) p with h | h
  · exact Or.inl (by omega)
  · exact Or.inr h
/-- the first byte that is no space -/
def sk (t : tX) (p : Nat) : Nat := run isSp t p
theorem sk_ge (t : tX) (p : Nat) : p ≤ sk t p := run_ge _ _ _
theorem sk_len {t : tX} {p : Nat} (h : p ≤ t.1) : sk t p ≤ t.1 := run_len h
theorem sk_sk (t : tX) (p : Nat) : sk t (sk t p) = sk t p := run_out (run_stop _ _ _)
def dgAt (t : tX) (q : Nat) : Bool := decide (q < t.1) && isDg (t.2 q)
def ltAt (t : tX) (q : Nat) : Bool := decide (q < t.1) && isLt (t.2 q)
def isC (t : tX) (q c : Nat) : Bool := decide (q < t.1) && decide (t.2 q = c)
/-- where the token at q ends -/
def te (t : tX) (q : Nat) : Nat := if q < t.1 then (if isDg (t.2 q) = true then run isDg t q else if isLt (t.2 q) = true then run isLt t q else q + 1) else q
theorem te_len {t : tX} {q : Nat} (h : q ≤ t.1) : te t q ≤ t.1 := by
  unfold te
  split
  · split
    · exact run_len h
    · split
      · exact run_len h
      · omega
  · exact h
theorem te_dg {t : tX} {q : Nat} (h : dgAt t q = true) : te t q = run isDg t q := by
  unfold dgAt at h
  rw [Bool.and_eq_true, decide_eq_true_eq] at h
  unfold te
  rw [if_pos h.1, if_pos h.2]
theorem dg_lt {c : Nat} (h : isDg c = true) : isLt c = false := by
  unfold isDg at h
  unfold isLt
  rw [decide_eq_true_eq] at h
  rw [decide_eq_false_iff_not]
  omega
theorem te_lt {t : tX} {q : Nat} (h : ltAt t q = true) : te t q = run isLt t q := by
  unfold ltAt at h
  rw [Bool.and_eq_true, decide_eq_true_eq] at h
  unfold te
  rw [if_pos h.1]
  split
  · rename_i z
    rw [dg_lt z] at h
    exact absurd h.2 (by decide)
  · rw [if_pos h.2]
theorem te_dg_gt {t : tX} {q : Nat} (h : dgAt t q = true) : q < te t q := by
  rw [te_dg h]
  unfold dgAt at h
  rw [Bool.and_eq_true, decide_eq_true_eq] at h
  rw [run_in h.1 h.2]
  exact Nat.lt_of_lt_of_le (Nat.lt_succ_self q) (run_ge _ _ _)
/-- the number at q -/
def valU (b : Nat → Nat) : Nat → Nat → Nat → Nat
  | 0, _, v => v
  | k + 1, p, v => if isDg (b p) = true then valU b k (p + 1) (10 * v + (b p - 48)) else v
def valF (cap : Nat) (b : Nat → Nat) : Nat → Nat → Nat → Nat
  | 0, _, v => v
  | k + 1, p, v => if isDg (b p) = true then valF cap b k (p + 1) (min cap (10 * v + (b p - 48))) else v
theorem valF_min (cap : Nat) (b : Nat → Nat) : ∀ k p v, valF cap b k p (min cap v) = min cap (valU b k p v)
  | 0, p, v => rfl
  | k + 1, p, v => by
    unfold valF valU
    split
    · rw [← valF_min cap b k (p + 1), show min cap (10 * min cap v + (b p - 48)) = min cap (10 * v + (b p - 48)) by omega]
    · rfl
def num (t : tX) (q : Nat) : Nat := valU t.2 (t.1 - q) q 0
def valR (cap : Nat) (t : tX) (q v : Nat) : Nat := valF cap t.2 (t.1 - q) q v
theorem valR_0 (cap : Nat) (t : tX) (q : Nat) : valR cap t q 0 = min cap (num t q) := by
  have := valF_min cap t.2 (t.1 - q) q 0
  rw [Nat.min_zero] at this
  exact this
theorem valR_in {cap : Nat} {t : tX} {q v : Nat} (h : q < t.1) (hf : isDg (t.2 q) = true) : valR cap t q v = valR cap t (q + 1) (min cap (10 * v + (t.2 q - 48))) := by
  unfold valR
  rw [show t.1 - q = (t.1 - (q + 1)) + 1 by omega, valF, if_pos hf]
theorem valR_out {cap : Nat} {t : tX} {q v : Nat} (h : t.1 ≤ q ∨ isDg (t.2 q) = false) : valR cap t q v = v := by
  unfold valR
  rcases h with h | h
  · rw [show t.1 - q = 0 by omega]; rfl
  · cases e : t.1 - q with
    | zero => rfl
    | succ k => rw [valF, if_neg (by rw [h]; decide)]
/-- the word s stands at q -/
def wLen (s : Nat) : Nat := (am_strs.getD s []).length
def wCh (s k : Nat) : Nat := (am_strs.getD s []).getD k 0
def wIs (t : tX) (q s : Nat) : Bool := decide (run isLt t q - q = wLen s) && decide (∀ k, k < wLen s → t.2 (q + k) = wCh s k)
theorem wLen_pos : ∀ s, s < 8 → 0 < wLen s ∧ wLen s < 9 := by decide
theorem wIs_lt {t : tX} {q s : Nat} (hs : s < 8) (h : wIs t q s = true) : ltAt t q = true := by
  unfold wIs at h
  rw [Bool.and_eq_true, decide_eq_true_eq] at h
  have := (wLen_pos s hs).1
  cases e : ltAt t q with
  | true => rfl
  | false =>
    unfold ltAt at e
    rw [Bool.and_eq_false_iff, decide_eq_false_iff_not] at e
    have e2 : run isLt t q = q := run_out (e.imp (fun z => Nat.not_lt.mp z) id)
    omega
theorem wIs_te {t : tX} {q s : Nat} (hs : s < 8) (h : wIs t q s = true) : te t q = q + wLen s := by
  rw [te_lt (wIs_lt hs h)]
  unfold wIs at h
  rw [Bool.and_eq_true, decide_eq_true_eq] at h
  have := run_ge isLt t q
  have := (wLen_pos s hs).1
  omega
/-! the grammar: an error is its code (without its sign) and its place -/
abbrev pE : Type := Nat × Nat
abbrev pX : Type := pE ⊕ (Nat × List Int)
def pSym (t : tX) (c p : Nat) : pE ⊕ Nat := if isC t (sk t p) c = true then .inr (sk t p + 1) else .inl (2, sk t p)
/-- a number between two: its value and its place -/
def pNum (t : tX) (p least most : Nat) : pE ⊕ (Nat × Nat) := if dgAt t (sk t p) = true then (if least ≤ num t (sk t p) ∧ num t (sk t p) ≤ most then .inr (num t (sk t p), sk t p) else .inl (3, sk t p)) else .inl (2, sk t p)
def pFacQ (S : Option (Nat → List Int → pX)) (t : tX) (q : Nat) (cs : List Int) : pX :=
  if isC t q 40 = true then (match S with
    | none => .inl (6, q)
    | some f => match f (q + 1) cs with
      | .inl e => .inl e
      | .inr z => match pSym t 41 z.1 with
        | .inl e => .inl e
        | .inr p => .inr (p, z.2))
  else if dgAt t q = true then (if num t q ≤ 9999 then .inr (te t q, cs ++ [(num t q : Int)]) else .inl (3, q))
  else if wIs t q 5 = true then .inr (te t q, cs ++ [-1])
  else if wIs t q 6 = true then .inr (te t q, cs ++ [-2])
  else if wIs t q 7 = true then .inr (te t q, cs ++ [-3])
  else .inl (2, q)
def pFac (S : Option (Nat → List Int → pX)) (t : tX) (p : Nat) (cs : List Int) : pX := pFacQ S t (sk t p) cs
def pLoop (F : Nat → List Int → pX) (t : tX) (o1 o2 : Nat) (c1 c2 : Int) : Nat → Nat → List Int → pX
  | 0, p, cs => .inr (p, cs)
  | k + 1, p, cs => if isC t (sk t p) o1 = true ∨ isC t (sk t p) o2 = true then (match F (sk t p + 1) cs with
      | .inl e => .inl e
      | .inr z => pLoop F t o1 o2 c1 c2 k z.1 (z.2 ++ [if isC t (sk t p) o1 = true then c1 else c2])) else .inr (p, cs)
def pItem (F : Nat → List Int → pX) (t : tX) (o1 o2 : Nat) (c1 c2 : Int) (p : Nat) (cs : List Int) : pX := match F p cs with
  | .inl e => .inl e
  | .inr z => pLoop F t o1 o2 c1 c2 t.1 z.1 z.2
def pTerm (S : Option (Nat → List Int → pX)) (t : tX) : Nat → List Int → pX := pItem (pFac S t) t 42 47 (-6) (-7)
def pSumS (S : Option (Nat → List Int → pX)) (t : tX) : Nat → List Int → pX := pItem (pTerm S t) t 43 45 (-4) (-5)
/-- a sum within which k brackets may be opened -/
def pSum (t : tX) : Nat → Nat → List Int → pX
  | 0 => pSumS none t
  | k + 1 => pSumS (some (pSum t k)) t
def pSub (t : tX) : Nat → Option (Nat → List Int → pX)
  | 0 => none
  | k + 1 => some (pSum t k)
theorem pSum_eq (t : tX) (k : Nat) : pSum t k = pSumS (pSub t k) t := by cases k <;> rfl
/-- what a good reading yields: it goes on, its codes put one number on a pile that is not higher than H -/
def pGood (t : tX) (H : Nat) (F : Nat → List Int → pX) : Prop := ∀ p cs p' cs', p ≤ t.1 → F p cs = .inr (p', cs') → p < p' ∧ p' ≤ t.1 ∧ ∃ ds : List Int, cs' = cs ++ ds ∧ ds.length ≤ p' - p ∧ ∀ k rest j, k ≤ H → foOk rest (k + 1) j → foOk (ds ++ rest) k j
theorem isC_lt {t : tX} {q c : Nat} (h : isC t q c = true) : q < t.1 ∧ t.2 q = c := by
  unfold isC at h
  rw [Bool.and_eq_true, decide_eq_true_eq, decide_eq_true_eq] at h
  exact h
theorem pGood_fac {t : tX} {H : Nat} {S : Option (Nat → List Int → pX)} (hS : ∀ f, S = some f → pGood t H f) (hH : H ≤ 10) : pGood t H (pFac S t) := by
  intro p cs p' cs' hp h
  unfold pFac pFacQ at h
  have g1 := sk_ge t p
  have g2 := sk_len hp
  generalize sk t p = q at h g1 g2
  have one : ∀ c : Int, -4 < c ∧ c ≤ 9999 → ∀ k rest j, k ≤ H → foOk rest (k + 1) j → foOk ([c] ++ rest) k j := by
    intro c hc k rest j hk hr
    show foOk (c :: rest) k j
    unfold foOk
    rw [if_neg (by omega)]
    exact ⟨by omega, by omega, hr⟩
  have wd : ∀ s (c : Int), s < 8 → -4 < c ∧ c ≤ 9999 → wIs t q s = true → (te t q, cs ++ [c]) = (p', cs') → p < p' ∧ p' ≤ t.1 ∧ ∃ ds : List Int, cs' = cs ++ ds ∧ ds.length ≤ p' - p ∧ ∀ k rest j, k ≤ H → foOk rest (k + 1) j → foOk (ds ++ rest) k j := by
    intro s c hs hc hw e
    cases e
    have e2 := wIs_te hs hw
    have := (wLen_pos s hs).1
    have := te_len g2
    exact ⟨by omega, this, [c], rfl, by simp only [List.length_singleton]; omega, one c hc⟩
  split at h
  · rename_i hc
    have := (isC_lt hc).1
    cases S with
    | none => cases h
    | some f =>
      dsimp only at h
      cases e : f (q + 1) cs with
      | inl e2 => rw [e] at h; cases h
      | inr z =>
        rw [e] at h
        dsimp only at h
        obtain ⟨f1, f2, ds, f3, f4, f5⟩ := hS f rfl (q + 1) cs z.1 z.2 (by omega) e
        unfold pSym at h
        have g3 := sk_ge t z.1
        by_cases hc2 : isC t (sk t z.1) 41 = true
        · rw [if_pos hc2] at h
          cases h
          have := (isC_lt hc2).1
          exact ⟨by omega, by omega, ds, f3, by omega, f5⟩
        · rw [if_neg hc2] at h
          cases h
  · split at h
    · rename_i hd
      split at h
      · rename_i hn
        cases h
        have := te_dg_gt hd
        exact ⟨by omega, te_len g2, [(num t q : Int)], rfl, by simp only [List.length_singleton]; omega, one _ (by omega)⟩
      · cases h
    · split at h
      · rename_i hw
        exact wd 5 (-1) (by decide) (by decide) hw (Sum.inr.inj h)
      · split at h
        · rename_i hw
          exact wd 6 (-2) (by decide) (by decide) hw (Sum.inr.inj h)
        · split at h
          · rename_i hw
            exact wd 7 (-3) (by decide) (by decide) hw (Sum.inr.inj h)
          · cases h
theorem pGood_loop {t : tX} {H o1 o2 : Nat} {c1 c2 : Int} {F : Nat → List Int → pX} (hF : pGood t (H + 1) F) (h1 : -7 ≤ c1 ∧ c1 ≤ -4) (h2 : -7 ≤ c2 ∧ c2 ≤ -4) : ∀ n p cs p' cs', p ≤ t.1 → pLoop F t o1 o2 c1 c2 n p cs = .inr (p', cs') → p ≤ p' ∧ p' ≤ t.1 ∧ ∃ ds : List Int, cs' = cs ++ ds ∧ ds.length ≤ p' - p ∧ ∀ k rest j, k ≤ H → foOk rest (k + 1) j → foOk (ds ++ rest) (k + 1) j := by
  intro n
  induction n with
  | zero =>
    intro p cs p' cs' hp h
    cases h
    exact ⟨Nat.le_refl _, hp, [], (List.append_nil _).symm, Nat.zero_le _, fun k rest j _ hr => hr⟩
  | succ n ih =>
    intro p cs p' cs' hp h
    unfold pLoop at h
    split at h
    · rename_i hc
      have hq : sk t p < t.1 := hc.elim (fun z => (isC_lt z).1) (fun z => (isC_lt z).1)
      have g1 := sk_ge t p
      cases e : F (sk t p + 1) cs with
      | inl e2 => rw [e] at h; cases h
      | inr z =>
        rw [e] at h
        dsimp only at h
        obtain ⟨f1, f2, ds, f3, f4, f5⟩ := hF (sk t p + 1) cs z.1 z.2 (by omega) e
        obtain ⟨k1, k2, es, k3, k4, k5⟩ := ih _ _ _ _ f2 h
        generalize hcc : (if isC t (sk t p) o1 = true then c1 else c2) = c at k3
        have hc4 : -7 ≤ c ∧ c ≤ -4 := by
          rw [← hcc]
          split
          · exact h1
          · exact h2
        refine ⟨by omega, k2, ds ++ (c :: es), ?_, ?_, ?_⟩
        · rw [k3, f3]; simp
        · rw [List.length_append, List.length_cons]; omega
        · intro k rest j hk hr
          rw [List.append_assoc]
          refine f5 (k + 1) _ j (by omega) ?_
          show foOk (c :: (es ++ rest)) (k + 1 + 1) j
          unfold foOk
          rw [if_pos hc4.2]
          exact ⟨by omega, by omega, k5 k rest j hk hr⟩
    · cases h
      exact ⟨Nat.le_refl _, hp, [], (List.append_nil _).symm, Nat.zero_le _, fun k rest j _ hr => hr⟩
theorem pGood_item {t : tX} {H o1 o2 : Nat} {c1 c2 : Int} {F : Nat → List Int → pX} (hF : pGood t (H + 1) F) (h1 : -7 ≤ c1 ∧ c1 ≤ -4) (h2 : -7 ≤ c2 ∧ c2 ≤ -4) : pGood t H (pItem F t o1 o2 c1 c2) := by
  intro p cs p' cs' hp h
  unfold pItem at h
  cases e : F p cs with
  | inl e2 => rw [e] at h; cases h
  | inr z =>
    rw [e] at h
    dsimp only at h
    obtain ⟨f1, f2, ds, f3, f4, f5⟩ := hF p cs z.1 z.2 hp e
    obtain ⟨k1, k2, es, k3, k4, k5⟩ := pGood_loop hF h1 h2 _ _ _ _ _ f2 h
    refine ⟨by omega, k2, ds ++ es, ?_, ?_, ?_⟩
    · rw [k3, f3]; simp
    · rw [List.length_append]; omega
    · intro k rest j hk hr
      rw [List.append_assoc]
      exact f5 k _ j (by omega) (k5 k rest j hk hr)
theorem pGood_sumS {t : tX} {H : Nat} {S : Option (Nat → List Int → pX)} (hS : ∀ f, S = some f → pGood t (H + 2) f) (hH : H ≤ 8) : pGood t H (pSumS S t) := pGood_item (pGood_item (pGood_fac hS (by omega)) (by decide) (by decide)) (by decide) (by decide)
theorem pGood_sum (t : tX) : ∀ k, k ≤ 4 → pGood t (8 - 2 * k) (pSum t k)
  | 0, _ => pGood_sumS (fun f z => by cases z) (by decide)
  | k + 1, hk => pGood_sumS (fun f z => by
      cases z
      have := pGood_sum t k (by omega)
      rw [show 8 - 2 * (k + 1) + 2 = 8 - 2 * k by omega]
      exact this) (by omega)
end
section
/-! THE CLASS'S READER: tokens -/
theorem run_mid {f : Nat → Bool} {t : tX} : ∀ n p i, i - p = n → p ≤ i → i < run f t p → i < t.1 ∧ f (t.2 i) = true := by
  intro n
  induction n with
  | zero =>
    intro p i e hi h
    have e : i = p := by omega
    subst e
    by_cases z : i < t.1 ∧ f (t.2 i) = true
    · exact z
    · rw [run_out (by
        by_cases y : i < t.1
        · exact Or.inr (by simpa using fun u => z ⟨y, u⟩)
        · exact Or.inl (by omega))] at h
      omega
  | succ n ih =>
    intro p i e hi h
    by_cases z : p < t.1 ∧ f (t.2 p) = true
    · rw [run_in z.1 z.2] at h
      exact ih (p + 1) i (by omega) (by omega) h
    · rw [run_out (by
        by_cases y : p < t.1
        · exact Or.inr (by simpa using fun u => z ⟨y, u⟩)
        · exact Or.inl (by omega))] at h
      omega
theorem bS_sp : ∀ c, c < 256 → (bS c = nI 32 ↔ isSp c = true) := by decide +kernel
theorem bS_dg : ∀ c, c < 256 → (bS c < nI 48 → isDg c = false) ∧ (nI 57 < bS c → isDg c = false) ∧ (¬ bS c < nI 48 → ¬ nI 57 < bS c → isDg c = true) := by decide +kernel
theorem bS_lt : ∀ c, c < 256 → (bS c < nI 97 → isLt c = false) ∧ (nI 122 < bS c → isLt c = false) ∧ (¬ bS c < nI 97 → ¬ nI 122 < bS c → isLt c = true) := by decide +kernel
theorem bS_dv : ∀ c, c < 256 → isDg c = true → bS c = nI c ∧ 48 ≤ c ∧ c ≤ 57 := by decide +kernel
theorem bS_i : ∀ c, c < 256 → (bS c).toInt = if c < 128 then (c : Int) else (c : Int) - 256 := by decide +kernel
theorem bS_ch {c s : Nat} (hc : c < 256) (hs : s < 128) : bS c = nI s ↔ c = s := by
  rw [fa_eq, bS_i c hc, nI_toInt (by omega)]
  split <;> omega
theorem bS_big : ∀ c, c < 256 → bS c ≠ nI 1000 ∧ bS c ≠ nI 1001 ∧ bS c ≠ nI 1002 := by decide +kernel
/-- the text: its bytes in the class's buffer -/
def rTx (h : am_H) (t : tX) : Prop := t.1 ≤ 700 ∧ am_i h 68 4 = nI t.1 ∧ am_r h 68 3 = 2 ∧ ∀ k, k < t.1 → am_i h 2 k = bS (t.2 k) ∧ t.2 k < 256
def kdI (t : tX) (q : Nat) : Int32 := if q < t.1 then (if isDg (t.2 q) = true then nI 1001 else if isLt (t.2 q) = true then nI 1002 else bS (t.2 q)) else nI 1000
/-- the token at q is the present one -/
def rTk (h : am_H) (t : tX) (q : Nat) : Prop := q ≤ t.1 ∧ am_i h 68 5 = kdI t q ∧ am_i h 68 6 = nI q ∧ am_i h 68 7 = nI (te t q) ∧ (dgAt t q = true → am_i h 68 8 = nI (min 100000 (num t q)))
theorem rTx.mv {h h' : am_H} {t : tX} {X : List Nat} (x : rTx h t) (s : sm X h h') (h4 : am_i h' 68 4 = am_i h 68 4) (hX : 2 ∉ X) : rTx h' t := ⟨x.1, h4.trans x.2.1, (s.r _ _).trans x.2.2.1, fun k hk => ⟨(s.i hX k).trans (x.2.2.2 k hk).1, (x.2.2.2 k hk).2⟩⟩
theorem rTx.ld {h : am_H} {t : tX} (x : rTx h t) {i : Nat} (hi : i < t.1) : am_i h (am_r h 68 3) (nI i).toNatClampNeg = bS (t.2 i) := by
  rw [x.2.2.1, q_cl (by have := x.1; omega)]
  exact (x.2.2.2 i hi).1
theorem rTx.ck {h : am_H} {t : tX} (x : rTx h t) (hs : sh h) {i : Nat} (hi : i < t.1) : am_arr h (am_r h 68 3) 3 (nI i) := ck_row x.2.2.1 (sk_2 hs) rfl (by have := x.1; omega) (by decide)
/-- what a walk over tokens may change -/
def rF (h h' : am_H) : Prop := sm [68, 77] h h' ∧ ∀ k, (k = 4 ∨ k = 9 ∨ k = 10) → am_i h' 68 k = am_i h 68 k
theorem rF.rf {h : am_H} : rF h h := ⟨sm.rf, fun _ _ => rfl⟩
theorem rF.tr {h h1 h2 : am_H} (s : rF h h1) (t : rF h1 h2) : rF h h2 := ⟨s.1.tr t.1, fun k hk => (t.2 k hk).trans (s.2 k hk)⟩
theorem rF.x {h h' : am_H} {t : tX} (s : rF h h') (x : rTx h t) : rTx h' t := x.mv s.1 (s.2 4 (Or.inl rfl)) (by decide)
set_option maxHeartbeats 8000000 in
theorem c_advance {xs : am_X} {d : Nat} {h : am_H} {t : tX} {p : Nat} (hd : 1 ≤ d) (hs : sh h) (x : rTx h t) (h7 : am_i h 68 7 = nI p) (hp : p ≤ t.1) {Q : am_Q}
    (HQ : ∀ h', sm [68] h h' → (∀ k, ¬ (5 ≤ k ∧ k ≤ 8) → am_i h' 68 k = am_i h 68 k) → rTk h' t (sk t p) → Q (.inl none) h') : am_C xs am_P0 d m_Rd_advance [.ref 68] h Q := by
  have t7 := x.1
  have g1 := sk_ge t p
  have g2 := sk_len hp
  generalize hq : sk t p = q at HQ g1 g2
  refine am_C_le hd (am_enter (d := 0) ap_Rd_advance rfl ?_) (fun _ _ k => k)
  -- the end
  have fin : ∀ (h3 : am_H) (v8 : Int32), sm [68] h h3 → (∀ k, am_i h3 68 k = if k = 5 then kdI t q else if k = 8 then v8 else if k = 6 then nI q else am_i h 68 k) → (dgAt t q = true → v8 = nI (min 100000 (num t q))) → am_W xs (am_code at_Rd_advance) (am_hd ah_Rd_advance) (am_C xs am_P0 0) Q 227 [.ref 68, .int (nI (te t q))] [] h3 := by
    intro h3 v8 s f v
    refine am_go (fun _ => false) (fun K cal Q' hK hC hQ => ?_)
    refine And.intro (sk_68 (s.sh hs)) (And.intro trivial (hQ _ _ ?_))
    refine HQ _ (s.pi (by decide)) (fun k hk => ?_) ⟨g2, ?_, ?_, ?_, fun z => ?_⟩
    · show am_i (am_pi h3 68 7 (nI (te t q))) 68 k = _
      rw [i_pi_same, if_neg (by omega), f, if_neg (by omega), if_neg (by omega), if_neg (by omega)]
    · show am_i (am_pi h3 68 7 (nI (te t q))) 68 5 = _
      rw [i_pi_same, if_neg (by decide), f, if_pos rfl]
    · show am_i (am_pi h3 68 7 (nI (te t q))) 68 6 = _
      rw [i_pi_same, if_neg (by decide), f, if_neg (by decide), if_neg (by decide), if_pos rfl]
    · show am_i (am_pi h3 68 7 (nI (te t q))) 68 7 = _
      rw [i_pi_same, if_pos rfl]
    · show am_i (am_pi h3 68 7 (nI (te t q))) 68 8 = _
      rw [i_pi_same, if_neg (by decide), f, if_neg (by decide), if_pos rfl]
      exact v z
  -- the token
  have tok : am_W xs (am_code at_Rd_advance) (am_hd ah_Rd_advance) (am_C xs am_P0 0) Q 30 [.ref 68, .int (nI q)] [] h := by
    refine am_go (fun p => p == 87 || p == 149 || p == 227) (fun K cal Q' hK hC hQ => ?_)
    refine And.intro (sk_68 hs) (And.intro (sk_68 hs) ?_)
    show am_k (am_pi (am_pi h 68 6 (nI q)) 68 8 (nI 0)) 68 = _ ∧ _
    have s2 : sm [68] h (am_pi (am_pi h 68 6 (nI q)) 68 8 (nI 0)) := (sm.rf.pi (by decide)).pi (by decide)
    have f2 : ∀ k, am_i (am_pi (am_pi h 68 6 (nI q)) 68 8 (nI 0)) 68 k = if k = 8 then nI 0 else if k = 6 then nI q else am_i h 68 k := fun k => by rw [i_pi_same, i_pi_same]
    generalize am_pi (am_pi h 68 6 (nI q)) 68 8 (nI 0) = h2 at s2 f2
    have hs2 := s2.sh hs
    have x2 : rTx h2 t := x.mv s2 (by rw [f2]; rfl) (by decide)
    have l2 : am_i h2 68 4 = nI t.1 := x2.2.1
    have f5 : ∀ v k, am_i (am_pi h2 68 5 v) 68 k = if k = 5 then v else if k = 8 then nI 0 else if k = 6 then nI q else am_i h 68 k := fun v k => by rw [i_pi_same, f2]
    refine And.intro (sk_68 hs2) (And.intro (fun c => ?_) (fun c => ?_))
    rotate_left
    · have c : ¬ nI q < am_i h2 68 4 := c
      rw [l2] at c
      have c : t.1 ≤ q := Nat.not_lt.mp fun z => c (nI_lt z (by omega))
      refine And.intro (sk_68 hs2) (hK _ _ _ _ ?_)
      have eT : te t q = q := by unfold te; rw [if_neg (by omega)]
      have := fin (am_pi h2 68 5 (nI 1000)) (nI 0) (s2.pi (by decide)) (fun k => by rw [f5]; unfold kdI; rw [if_neg (by omega : ¬ q < t.1)]) (fun z => by unfold dgAt at z; rw [decide_eq_false (by omega)] at z; cases z)
      rw [eT] at this
      exact this
    have c : nI q < am_i h2 68 4 := c
    rw [l2] at c
    have c : q < t.1 := (nI_ltI (by omega) (by omega)).mp c
    have b256 := (x2.2.2.2 q c).2
    have ld := x2.ld c
    obtain ⟨d1, d2, d3⟩ := bS_dg _ b256
    obtain ⟨e1, e2, e3⟩ := bS_lt _ b256
    -- not a digit
    have nodig : isDg (t.2 q) = false → am_W xs (am_code at_Rd_advance) (am_hd ah_Rd_advance) (am_C xs am_P0 0) Q 149 [.ref 68, .int (nI q)] [] h2 := by
      intro nd
      have ndd : dgAt t q = false := by unfold dgAt; rw [nd, Bool.and_false]
      have kd : kdI t q = if isLt (t.2 q) = true then nI 1002 else bS (t.2 q) := by unfold kdI; rw [if_pos c, if_neg (by rw [nd]; decide)]
      have sym : isLt (t.2 q) = false → am_W xs (am_code at_Rd_advance) (am_hd ah_Rd_advance) (am_C xs am_P0 0) Q 214 [.ref 68, .int (nI q)] [] h2 := by
        intro nl
        refine am_go (fun p => p == 227) (fun K cal Q' hK hC hQ => ?_)
        refine And.intro (sk_68 hs2) (And.intro (x2.ck hs2 c) (And.intro (sk_68 hs2) (hK _ _ _ _ ?_)))
        have eT : te t q = q + 1 := by unfold te; rw [if_pos c, if_neg (by rw [nd]; decide), if_neg (by rw [nl]; decide)]
        have := fin (am_pi h2 68 5 (bS (t.2 q))) (nI 0) (s2.pi (by decide)) (fun k => by rw [f5, kd, if_neg (by rw [nl]; decide : ¬ isLt (t.2 q) = true)]) (fun z => by rw [ndd] at z; cases z)
        rw [eT, ← ld, ← nI_1 q] at this
        exact this
      refine am_go (fun p => p == 178 || p == 214) (fun K cal Q' hK hC hQ => ?_)
      refine And.intro (sk_68 hs2) (And.intro (x2.ck hs2 c) (And.intro (fun z => hK _ _ _ _ (sym (e1 (by rw [← ld]; exact z)))) (fun z1 => ?_)))
      refine And.intro (sk_68 hs2) (And.intro (x2.ck hs2 c) (And.intro (fun z => hK _ _ _ _ (sym (e2 (by rw [← ld]; exact z)))) (fun z2 => ?_)))
      have lt : isLt (t.2 q) = true := e3 (fun y => z1 (by rw [← ld] at y; exact y)) (fun y => z2 (by rw [← ld] at y; exact y))
      refine And.intro (sk_68 hs2) (hK _ _ _ _ ?_)
      rw [if_pos lt] at kd
      have eT : te t q = run isLt t q := te_lt (by unfold ltAt; rw [decide_eq_true c, lt]; rfl)
      have s3 : sm [68] h (am_pi h2 68 5 (nI 1002)) := s2.pi (by decide)
      have hs3 := s3.sh hs
      have x3 : rTx (am_pi h2 68 5 (nI 1002)) t := x2.mv (sm.rf.pi (by decide : 68 ∈ [68])) (by rw [f5, f2]; rfl) (by decide)
      have fin2 := fin (am_pi h2 68 5 (nI 1002)) (nI 0) s3 (fun k => by rw [f5, kd]) (fun z => by rw [ndd] at z; cases z)
      show am_W _ _ _ _ _ 178 _ _ (am_pi h2 68 5 (nI 1002))
      generalize am_pi h2 68 5 (nI 1002) = h3 at s3 hs3 x3 fin2 ⊢
      rw [eT] at fin2
      refine am_for (run isLt t q) (fun i L h' => h' = h3 ∧ q ≤ i ∧ L = [.ref 68, .int (nI i)]) ?_ ?_ q (run_ge _ _ _) _ _ ⟨rfl, Nat.le_refl _, rfl⟩
      · rintro i hi9 L h' ⟨rfl, qi, rfl⟩ next
        have eI : am_inc (nI i) (Int.ofNat 1) = nI (i + 1) := nI_1 i
        rw [← eI] at next
        obtain ⟨m1, m2⟩ := run_mid _ _ _ rfl qi hi9
        have ldi := x3.ld m1
        obtain ⟨e1, e2, e3⟩ := bS_lt _ (x3.2.2.2 i m1).2
        refine am_go (fun p => p == 178 || p == 227) (fun K cal Q' hK hC hQ => ?_)
        refine And.intro (sk_68 hs3) (And.intro (fun z => absurd z (q_ge x3.2.1 m1 (by omega))) (fun _ => ?_))
        refine And.intro (sk_68 hs3) (And.intro (x3.ck hs3 m1) (And.intro (fun z => absurd (e1 (by rw [← ldi]; exact z)) (by rw [m2]; decide)) (fun _ => ?_)))
        refine And.intro (sk_68 hs3) (And.intro (x3.ck hs3 m1) (And.intro (fun z => absurd (e2 (by rw [← ldi]; exact z)) (by rw [m2]; decide)) (fun _ => ?_)))
        exact hK _ _ _ _ (next _ _ ⟨rfl, by omega, rfl⟩)
      · rintro L h' ⟨rfl, qi, rfl⟩
        have st := run_stop isLt t q
        have rl := run_len (f := isLt) g2
        generalize run isLt t q = r at st rl fin2
        refine am_go (fun p => p == 178 || p == 227) (fun K cal Q' hK hC hQ => ?_)
        refine And.intro (sk_68 hs3) (And.intro (fun _ => hK _ _ _ _ fin2) (fun y => ?_))
        have y : ¬ am_i h' 68 4 ≤ nI r := y
        rw [x3.2.1] at y
        have m1 : r < t.1 := Nat.not_le.mp fun u => y (nI_le u (by omega))
        have m2 : isLt (t.2 r) = false := st.resolve_left (by omega)
        have ldi := x3.ld m1
        obtain ⟨e1, e2, e3⟩ := bS_lt _ (x3.2.2.2 r m1).2
        refine And.intro (sk_68 hs3) (And.intro (x3.ck hs3 m1) (And.intro (fun _ => hK _ _ _ _ fin2) (fun z1 => ?_)))
        refine And.intro (sk_68 hs3) (And.intro (x3.ck hs3 m1) (And.intro (fun _ => hK _ _ _ _ fin2) (fun z2 => ?_)))
        exact absurd (e3 (fun y => z1 (by rw [← ldi] at y; exact y)) (fun y => z2 (by rw [← ldi] at y; exact y))) (by rw [m2]; decide)
    refine And.intro (sk_68 hs2) (And.intro (x2.ck hs2 c) (And.intro (fun z => hK _ _ _ _ (nodig (d1 (by rw [← ld]; exact z)))) (fun z1 => ?_)))
    refine And.intro (sk_68 hs2) (And.intro (x2.ck hs2 c) (And.intro (fun z => hK _ _ _ _ (nodig (d2 (by rw [← ld]; exact z)))) (fun z2 => ?_)))
    have dg : isDg (t.2 q) = true := d3 (fun y => z1 (by rw [← ld] at y; exact y)) (fun y => z2 (by rw [← ld] at y; exact y))
    have dga : dgAt t q = true := by unfold dgAt; rw [decide_eq_true c, dg]; rfl
    refine And.intro (sk_68 hs2) (hK _ _ _ _ ?_)
    have kd : kdI t q = nI 1001 := by unfold kdI; rw [if_pos c, if_pos dg]
    have eT : te t q = run isDg t q := te_dg dga
    have n0 := valR_0 100000 t q
    rw [eT] at fin
    rw [kd] at fin
    show am_W _ _ _ _ _ 87 _ _ (am_pi h2 68 5 (nI 1001))
    have f9 : ∀ k, am_i (am_pi h2 68 5 (nI 1001)) 68 k = if k = 5 then nI 1001 else if k = 8 then nI 0 else if k = 6 then nI q else am_i h 68 k := f5 (nI 1001)
    have s9 : sm [68] h (am_pi h2 68 5 (nI 1001)) := s2.pi (by decide)
    generalize am_pi h2 68 5 (nI 1001) = h9 at f9 s9 ⊢
    refine am_for (run isDg t q) (fun i L h' => q ≤ i ∧ L = [.ref 68, .int (nI i)] ∧ sm [68] h h' ∧ ∃ v, v ≤ 100000 ∧ valR 100000 t i v = min 100000 (num t q) ∧ ∀ k, am_i h' 68 k = if k = 5 then nI 1001 else if k = 8 then nI v else if k = 6 then nI q else am_i h 68 k) ?_ ?_ q (run_ge _ _ _) _ _ ⟨Nat.le_refl _, rfl, s9, 0, Nat.zero_le _, n0, f9⟩
    · rintro i hi9 L h' ⟨qi, rfl, s3, v, v1, v2, f3⟩ next
      have eI : am_inc (nI i) (Int.ofNat 1) = nI (i + 1) := nI_1 i
      rw [← eI] at next
      obtain ⟨m1, m2⟩ := run_mid _ _ _ rfl qi hi9
      have hs3 := s3.sh hs
      have x3 : rTx h' t := x.mv s3 (by rw [f3]; rfl) (by decide)
      have ldi := x3.ld m1
      obtain ⟨e1, e2, e3⟩ := bS_dg _ (x3.2.2.2 i m1).2
      obtain ⟨y1, y2, y3⟩ := bS_dv _ (x3.2.2.2 i m1).2 m2
      refine am_go (fun p => p == 87 || p == 227) (fun K cal Q' hK hC hQ => ?_)
      refine And.intro (sk_68 hs3) (And.intro (fun z => absurd z (q_ge x3.2.1 m1 (by omega))) (fun _ => ?_))
      refine And.intro (sk_68 hs3) (And.intro (x3.ck hs3 m1) (And.intro (fun z => absurd (e1 (by rw [← ldi]; exact z)) (by rw [m2]; decide)) (fun _ => ?_)))
      refine And.intro (sk_68 hs3) (And.intro (x3.ck hs3 m1) (And.intro (fun z => absurd (e2 (by rw [← ldi]; exact z)) (by rw [m2]; decide)) (fun _ => ?_)))
      refine And.intro (sk_68 hs3) (And.intro (sk_68 hs3) (And.intro (x3.ck hs3 m1) (And.intro (sk_68 hs3) ?_)))
      have ev : (if nI 10 * am_i h' 68 8 + am_i h' (am_r h' 68 3) (nI i).toNatClampNeg - nI 48 < nI 100000 then nI 10 * am_i h' 68 8 + am_i h' (am_r h' 68 3) (nI i).toNatClampNeg - nI 48 else nI 100000) = nI (min 100000 (10 * v + (t.2 i - 48))) := by
        have e8 : am_i h' 68 8 = nI v := by rw [f3]; rfl
        have e9 : nI 10 * am_i h' 68 8 + am_i h' (am_r h' 68 3) (nI i).toNatClampNeg - nI 48 = nI (10 * v + (t.2 i - 48)) := by
          rw [e8, ldi, y1, pk_mul, nI_add, show 10 * v + t.2 i = 10 * v + (t.2 i - 48) + 48 by omega, ← nI_add, Int32.add_sub_cancel]
        rw [e9]
        by_cases z : 10 * v + (t.2 i - 48) < 100000
        · rw [if_pos (nI_lt z (by omega))]; congr 1; omega
        · rw [if_neg (nI_nlt (by omega) (by omega))]; congr 1; omega
      show K 87 _ _ (am_pi h' 68 8 (if nI 10 * am_i h' 68 8 + am_i h' (am_r h' 68 3) (nI i).toNatClampNeg - nI 48 < nI 100000 then nI 10 * am_i h' 68 8 + am_i h' (am_r h' 68 3) (nI i).toNatClampNeg - nI 48 else nI 100000))
      rw [ev]
      refine hK _ _ _ _ (next _ _ ⟨by omega, rfl, s3.pi (by decide), _, Nat.min_le_left _ _, by rw [← valR_in m1 m2]; exact v2, fun k => ?_⟩)
      rw [i_pi_same, f3]
      by_cases z : k = 8
      · rw [if_pos z, if_neg (by omega), if_pos z]
      · rw [if_neg z, if_neg z, if_neg z]
    · rintro L h' ⟨qi, rfl, s3, v, v1, v2, f3⟩
      have st := run_stop isDg t q
      have rl := run_len (f := isDg) g2
      have fin2 := fin h' (nI v) s3 f3 (fun _ => by rw [← v2, valR_out st])
      generalize run isDg t q = r at st rl fin2
      have hs3 := s3.sh hs
      have x3 : rTx h' t := x.mv s3 (by rw [f3]; rfl) (by decide)
      refine am_go (fun p => p == 87 || p == 227) (fun K cal Q' hK hC hQ => ?_)
      refine And.intro (sk_68 hs3) (And.intro (fun _ => hK _ _ _ _ fin2) (fun y => ?_))
      have y : ¬ am_i h' 68 4 ≤ nI r := y
      rw [x3.2.1] at y
      have m1 : r < t.1 := Nat.not_le.mp fun u => y (nI_le u (by omega))
      have m2 : isDg (t.2 r) = false := st.resolve_left (by omega)
      have ldi := x3.ld m1
      obtain ⟨e1, e2, e3⟩ := bS_dg _ (x3.2.2.2 r m1).2
      refine And.intro (sk_68 hs3) (And.intro (x3.ck hs3 m1) (And.intro (fun _ => hK _ _ _ _ fin2) (fun z1 => ?_)))
      refine And.intro (sk_68 hs3) (And.intro (x3.ck hs3 m1) (And.intro (fun _ => hK _ _ _ _ fin2) (fun z2 => ?_)))
      exact absurd (e3 (fun y => z1 (by rw [← ldi] at y; exact y)) (fun y => z2 (by rw [← ldi] at y; exact y))) (by rw [m2]; decide)
  -- the spaces
  refine am_go (fun p => p == 5) (fun K cal Q' hK hC hQ => ?_)
  refine And.intro (sk_68 hs) (hK _ _ _ _ ?_)
  show am_W _ _ _ _ _ 5 [.ref 68, .int (am_i h 68 7)] _ _
  rw [h7]
  refine am_for q (fun i L h' => h' = h ∧ p ≤ i ∧ L = [.ref 68, .int (nI i)]) ?_ ?_ p g1 _ _ ⟨rfl, Nat.le_refl _, rfl⟩
  · rintro i hi9 L h' ⟨rfl, qi, rfl⟩ next
    have eI : am_inc (nI i) (Int.ofNat 1) = nI (i + 1) := nI_1 i
    rw [← eI] at next
    obtain ⟨m1, m2⟩ := run_mid (f := isSp) (t := t) _ p i rfl qi (by unfold sk at hq; omega)
    have ldi := x.ld m1
    refine am_go (fun p => p == 5 || p == 30) (fun K cal Q' hK hC hQ => ?_)
    refine And.intro (sk_68 hs) (And.intro (fun z => absurd z (q_ge x.2.1 m1 (by omega))) (fun _ => ?_))
    refine And.intro (sk_68 hs) (And.intro (x.ck hs m1) (And.intro (fun z => absurd (ldi.trans ((bS_sp _ (x.2.2.2 i m1).2).mpr m2)) z) (fun _ => ?_)))
    exact hK _ _ _ _ (next _ _ ⟨rfl, by omega, rfl⟩)
  · rintro L h' ⟨rfl, qi, rfl⟩
    have st := run_stop isSp t p
    unfold sk at hq
    rw [hq] at st
    refine am_go (fun p => p == 5 || p == 30) (fun K cal Q' hK hC hQ => ?_)
    refine And.intro (sk_68 hs) (And.intro (fun _ => hK _ _ _ _ tok) (fun y => ?_))
    have y : ¬ am_i h' 68 4 ≤ nI q := y
    rw [x.2.1] at y
    have m1 : q < t.1 := Nat.not_le.mp fun u => y (nI_le u (by omega))
    have m2 : isSp (t.2 q) = false := st.resolve_left (by omega)
    refine And.intro (sk_68 hs) (And.intro (x.ck hs m1) (And.intro (fun _ => hK _ _ _ _ tok) (fun z => ?_)))
    have z : am_i h' (am_r h' 68 3) (nI q).toNatClampNeg = nI 32 := Classical.not_not.mp z
    rw [x.ld m1, bS_sp _ (x.2.2.2 q m1).2, m2] at z
    cases z

/-- what stands in front of the reader -/
def rSt (h : am_H) (t : tX) (p : Nat) : Prop := sh h ∧ rTx h t ∧ p ≤ t.1 ∧ rTk h t (sk t p)
def rE (h : am_H) (e : pE) : Prop := am_i h 68 1 = -nI e.1 ∧ am_i h 68 2 = nI e.2 ∧ ∃ c, c ≤ 700 ∧ am_i h 68 12 = nI c
section
variable {xs : am_X} {d : Nat} {h : am_H} {t : tX} {p : Nat} {Q : am_Q}
set_option maxHeartbeats 4000000 in
theorem c_fail (hd : 1 ≤ d) (S : rSt h t p) {c : Nat} (hc : c ≤ 700) (h12 : am_i h 68 12 = nI c) (k : Nat) (HQ : ∀ h', rF h h' → rE h' (k, sk t p) → Q (.inl (some (.int 0))) h') : am_C xs am_P0 d m_Rd_fail [.ref 68, .int (-nI k)] h Q := by
  obtain ⟨hs, x, hp, k1, k2, k3, k4, k5⟩ := S
  refine am_C_le hd (am_enter (d := 0) ap_Rd_fail rfl ?_) (fun _ _ k => k)
  refine am_go (fun _ => false) (fun K cal Q' hK hC hQ => ?_)
  refine And.intro (sk_68 hs) (And.intro (sk_68 hs) (And.intro (sk_68 hs) (And.intro (Or.inl rfl) (hQ _ _ (HQ _ ⟨(sm.rf.pi (by decide)).pi (by decide), fun j hj => ?_⟩ ⟨?_, ?_, c, hc, ?_⟩)))))
  · rw [i_pi_same, if_neg (by omega), i_pi_same, if_neg (by omega)]
  · rw [i_pi_same, if_neg (by decide), i_pi_same, if_pos rfl]
  · rw [i_pi_same, if_pos rfl]
    show am_i (am_pi h 68 1 (-nI k)) 68 6 = _
    rw [i_pi_same, if_neg (by decide)]
    exact k3
  · rw [i_pi_same, if_neg (by decide), i_pi_same, if_neg (by decide)]
    exact h12
theorem rSt.adv {h' : am_H} (S : rSt h t p) (s : sm [68] h h') (f : ∀ k, ¬ (5 ≤ k ∧ k ≤ 8) → am_i h' 68 k = am_i h 68 k) {q : Nat} (hq : q ≤ t.1) (k : rTk h' t (sk t q)) : rSt h' t q ∧ rF h h' :=
  ⟨⟨s.sh S.1, S.2.1.mv s (f 4 (by decide)) (by decide), hq, k⟩, s.mo (by decide), fun k hk => f k (by omega)⟩
/-- on to the next token -/
theorem c_next (hd : 1 ≤ d) (S : rSt h t p) {q : Nat} (hq : te t (sk t p) = q) (HQ : ∀ h', rF h h' → rSt h' t q → sm [68] h h' → am_i h' 68 12 = am_i h 68 12 → Q (.inl none) h') : am_C xs am_P0 d m_Rd_advance [.ref 68] h Q := by
  have hq2 : q ≤ t.1 := by rw [← hq]; exact te_len (sk_len S.2.2.1)
  refine c_advance hd S.1 S.2.1 (by rw [S.2.2.2.2.2.2.1, hq]) hq2 (fun h' s f k => ?_)
  obtain ⟨a, b⟩ := S.adv s f hq2 k
  exact HQ h' b a s (f 12 (by decide))
theorem kd_num {t : tX} {q : Nat} (hb : q < t.1 → t.2 q < 256) : kdI t q = nI 1001 ↔ dgAt t q = true := by
  unfold kdI dgAt
  by_cases c : q < t.1
  · rw [if_pos c, decide_eq_true c, Bool.true_and]
    by_cases z : isDg (t.2 q) = true
    · rw [if_pos z]; exact ⟨fun _ => z, fun _ => rfl⟩
    · rw [if_neg z]
      refine ⟨fun y => ?_, fun y => absurd y z⟩
      split at y
      · exact absurd y (by decide)
      · exact absurd y (bS_big _ (hb c)).2.1
  · rw [if_neg c, decide_eq_false c, Bool.false_and]
    exact ⟨fun y => absurd y (by decide), fun y => by cases y⟩
theorem kd_word {t : tX} {q : Nat} (hb : q < t.1 → t.2 q < 256) : kdI t q = nI 1002 ↔ ltAt t q = true := by
  unfold kdI ltAt
  by_cases c : q < t.1
  · rw [if_pos c, decide_eq_true c, Bool.true_and]
    by_cases z : isDg (t.2 q) = true
    · rw [if_pos z, dg_lt z]; exact ⟨fun y => absurd y (by decide), fun y => by cases y⟩
    · rw [if_neg z]
      by_cases w : isLt (t.2 q) = true
      · rw [if_pos w]; exact ⟨fun _ => w, fun _ => rfl⟩
      · rw [if_neg w]
        exact ⟨fun y => absurd y (bS_big _ (hb c)).2.2, fun y => absurd y w⟩
  · rw [if_neg c, decide_eq_false c, Bool.false_and]
    exact ⟨fun y => absurd y (by decide), fun y => by cases y⟩
theorem kd_end {t : tX} {q : Nat} (hb : q < t.1 → t.2 q < 256) : kdI t q = nI 1000 ↔ t.1 ≤ q := by
  unfold kdI
  by_cases c : q < t.1
  · rw [if_pos c]
    refine ⟨fun y => ?_, fun y => by omega⟩
    split at y
    · exact absurd y (by decide)
    · split at y
      · exact absurd y (by decide)
      · exact absurd y (bS_big _ (hb c)).1
  · rw [if_neg c]
    exact ⟨fun _ => by omega, fun _ => rfl⟩
theorem kd_sym {t : tX} {q s : Nat} (hb : q < t.1 → t.2 q < 256) (hs : s < 128) (h1 : isDg s = false) (h2 : isLt s = false) : kdI t q = nI s ↔ isC t q s = true := by
  unfold kdI isC
  by_cases c : q < t.1
  · rw [if_pos c, decide_eq_true c, Bool.true_and, decide_eq_true_eq]
    split
    · rename_i z
      exact ⟨fun y => absurd ((nI_eq (by decide) (by omega)).mp y) (by omega), fun y => by rw [y, h1] at z; cases z⟩
    · split
      · rename_i z
        exact ⟨fun y => absurd ((nI_eq (by decide) (by omega)).mp y) (by omega), fun y => by rw [y, h2] at z; cases z⟩
      · exact bS_ch (hb c) hs
  · rw [if_neg c, decide_eq_false c, Bool.false_and]
    exact ⟨fun y => absurd ((nI_eq (by decide) (by omega)).mp y) (by omega), fun y => by cases y⟩
theorem rSt.b (S : rSt h t p) : ∀ q, q < t.1 → t.2 q < 256 := fun q hq => (S.2.1.2.2.2 q hq).2
set_option maxHeartbeats 4000000 in
theorem c_readSymbol (hd : 2 ≤ d) (S : rSt h t p) {c : Nat} (hc : c ≤ 700) (h12 : am_i h 68 12 = nI c) {s : Nat} (hs9 : s < 128) (h1 : isDg s = false) (h2 : isLt s = false)
    (H0 : ∀ e h', pSym t s p = .inl e → rF h h' → rE h' e → Q (.inl (some (.int 0))) h') (H1 : ∀ q h', pSym t s p = .inr q → rF h h' → rSt h' t q → sm [68] h h' → am_i h' 68 12 = am_i h 68 12 → Q (.inl (some (.int 1))) h') : am_C xs am_P0 d m_Rd_readSymbol [.ref 68, .int (nI s)] h Q := by
  have hs := S.1
  have e5 : am_i h 68 5 = kdI t (sk t p) := S.2.2.2.2.1
  have ks := kd_sym (q := sk t p) (S.b _) hs9 h1 h2
  unfold pSym at H0 H1
  refine am_C_le hd (am_enter (d := 1) ap_Rd_readSymbol rfl ?_) (fun _ _ k => k)
  refine am_go (fun _ => false) (fun K cal Q' hK hC hQ => ?_)
  refine And.intro (sk_68 hs) (And.intro (fun z => ?_) (fun z => ?_))
  · have z : am_i h 68 5 = nI s := z
    rw [e5] at z
    have z := ks.mp z
    rw [if_pos z] at H1
    refine And.intro (sk_68 hs) (hC _ _ _ _ (c_next (by decide) S (q := sk t p + 1) ?_ (fun h' a b s9 h9 => And.intro (Or.inr rfl) (hQ _ _ (H1 _ h' rfl a b s9 h9)))))
    have := isC_lt z
    unfold te
    rw [if_pos this.1, this.2, if_neg (by rw [h1]; decide), if_neg (by rw [h2]; decide)]
  · have z : ¬ isC t (sk t p) s = true := fun y => z (e5.trans (ks.mpr y))
    rw [if_neg z] at H0
    exact And.intro (sk_68 hs) (hC _ _ _ _ (c_fail (by decide) S hc h12 2 (fun h' a b => And.intro (Or.inl rfl) (hQ _ _ (H0 _ h' rfl a b)))))
set_option maxHeartbeats 4000000 in
theorem c_numberHere (hd : 2 ≤ d) (S : rSt h t p) {c : Nat} (hc : c ≤ 700) (h12 : am_i h 68 12 = nI c) {lo hi : Nat} (h9 : hi ≤ 9999) (hlo : lo ≤ 9999)
    (H0 : ∀ e h', pNum t p lo hi = .inl e → rF h h' → rE h' e → Q (.inl (some (.int (-nI 1)))) h') (H1 : pNum t p lo hi = .inr (num t (sk t p), sk t p) → dgAt t (sk t p) = true → lo ≤ num t (sk t p) → num t (sk t p) ≤ hi → Q (.inl (some (.int (nI (num t (sk t p)))))) h) : am_C xs am_P0 d m_Rd_numberHere [.ref 68, .int (nI lo), .int (nI hi)] h Q := by
  have hs := S.1
  have e5 : am_i h 68 5 = kdI t (sk t p) := S.2.2.2.2.1
  have ks := kd_num (q := sk t p) (S.b _)
  unfold pNum at H0 H1
  refine am_C_le hd (am_enter (d := 1) ap_Rd_numberHere rfl ?_) (fun _ _ k => k)
  refine am_go (fun _ => false) (fun K cal Q' hK hC hQ => ?_)
  refine And.intro (sk_68 hs) (And.intro (fun z => ?_) (fun z => ?_))
  · have z : am_i h 68 5 = nI 1001 := z
    rw [e5] at z
    have z := ks.mp z
    have e8 : am_i h 68 8 = nI (min 100000 (num t (sk t p))) := S.2.2.2.2.2.2.2 z
    rw [if_pos z] at H0 H1
    refine And.intro (sk_68 hs) (And.intro (fun y => ?_) (fun y => ?_))
    · have y : am_i h 68 8 < nI lo := y
      rw [e8] at y
      have y := (nI_ltI (by omega) (by omega)).mp y
      rw [if_neg (by omega)] at H0
      exact And.intro (sk_68 hs) (hC _ _ _ _ (c_fail (by decide) S hc h12 3 (fun h' a b => And.intro trivial (hQ _ _ (H0 _ h' rfl a b)))))
    · have y : ¬ am_i h 68 8 < nI lo := y
      rw [e8] at y
      have y : ¬ min 100000 (num t (sk t p)) < lo := fun u => y (nI_lt u (by omega))
      refine And.intro (sk_68 hs) (And.intro (fun w => ?_) (fun w => ?_))
      · have w : am_i h 68 8 ≤ nI hi := w
        rw [e8] at w
        have w := (nI_leI (by omega) (by omega)).mp w
        rw [if_pos (by omega)] at H1
        refine And.intro (sk_68 hs) (And.intro trivial (hQ _ _ ?_))
        show Q (.inl (some (.int (am_i h 68 8)))) h
        rw [e8, show min 100000 (num t (sk t p)) = num t (sk t p) by omega]
        exact H1 rfl z (by omega) (by omega)
      · have w : ¬ am_i h 68 8 ≤ nI hi := w
        rw [e8] at w
        have w : ¬ min 100000 (num t (sk t p)) ≤ hi := fun u => w (nI_le u (by omega))
        rw [if_neg (by omega)] at H0
        exact And.intro (sk_68 hs) (hC _ _ _ _ (c_fail (by decide) S hc h12 3 (fun h' a b => And.intro trivial (hQ _ _ (H0 _ h' rfl a b)))))
  · have z : ¬ dgAt t (sk t p) = true := fun y => z (e5.trans (ks.mpr y))
    rw [if_neg z] at H0
    exact And.intro (sk_68 hs) (hC _ _ _ _ (c_fail (by decide) S hc h12 2 (fun h' a b => And.intro trivial (hQ _ _ (H0 _ h' rfl a b)))))
/-- a text constant -/
abbrev sRef (s : Nat) : Value := .ref (am_S0 + s)
theorem sRef_ck {s : Nat} (hs : s < 8) : am_S0 ≤ am_S0 + s ∧ am_S0 + s - am_S0 < am_strs.length := ⟨Nat.le_add_right _ _, by rw [Nat.add_sub_cancel_left]; exact Nat.lt_trans hs (by decide)⟩
theorem sRef_len (s : Nat) : (am_strs.getD (am_S0 + s - am_S0) []).length = wLen s := by rw [Nat.add_sub_cancel_left]; rfl
set_option maxHeartbeats 4000000 in
theorem c_isWord (hd : 1 ≤ d) (S : rSt h t p) {s : Nat} (hs8 : s < 8) (HQ : Q (.inl (some (.int (bI (wIs t (sk t p) s))))) h) : am_C xs am_P0 d m_Rd_isWord [.ref 68, sRef s] h Q := by
  obtain ⟨hs, x, hp, k1, k2, k3, k4, k5⟩ := id S
  have ks := kd_word (q := sk t p) (S.b _)
  have wl := wLen_pos s hs8
  generalize sk t p = q at *
  have t7 := x.1
  refine am_C_le hd (am_enter (d := 0) ap_Rd_isWord rfl ?_) (fun _ _ k => k)
  refine am_go (fun p => p == 30) (fun K cal Q' hK hC hQ => ?_)
  have no : wIs t q s = false → (0 = (0 : Int32) ∨ (0 : Int32) = 1) ∧ Q' (.inl (some (.int 0))) h := fun e => by
    rw [e] at HQ
    exact ⟨Or.inl rfl, hQ _ _ HQ⟩
  refine And.intro (sk_68 hs) (And.intro (fun z => ?_) (fun z => ?_))
  · have z : ¬ ltAt t q = true := fun y => z (k2.trans (ks.mpr y))
    refine no ?_
    cases e : wIs t q s with
    | false => rfl
    | true => exact absurd (wIs_lt hs8 e) z
  have z : am_i h 68 5 = nI 1002 := Classical.not_not.mp z
  rw [k2] at z
  have z := ks.mp z
  have tq : te t q = run isLt t q := te_lt z
  have g1 := run_ge isLt t q
  have g2 := run_len (f := isLt) k1
  have eN : (am_strs.getD (am_S0 + s - am_S0) []).length = wLen s := sRef_len s
  have eS : am_i h 68 7 - am_i h 68 6 = nI (run isLt t q - q) := by
    rw [k3, k4, tq]
    have := nI_add (run isLt t q - q) q
    rw [show run isLt t q - q + q = run isLt t q by omega] at this
    rw [← this, Int32.add_sub_cancel]
  refine And.intro (sk_68 hs) (And.intro (sk_68 hs) (And.intro (sRef_ck hs8) (And.intro (fun y => hK _ _ _ _ ?_) (fun y => ?_))))
  rotate_left
  · have y : ¬ am_i h 68 7 - am_i h 68 6 = nI (am_strs.getD (am_S0 + s - am_S0) []).length := y
    rw [eS, eN] at y
    refine no ?_
    unfold wIs
    rw [decide_eq_false (fun u => y (by rw [u]))]
    rfl
  have y : am_i h 68 7 - am_i h 68 6 = nI (am_strs.getD (am_S0 + s - am_S0) []).length := y
  rw [eS, eN] at y
  have yeq := (nI_eq (by omega) (by omega)).mp y
  refine am_for (wLen s) (fun i L h' => h' = h ∧ L = [.ref 68, sRef s, .int (nI i)] ∧ ∀ k, k < i → t.2 (q + k) = wCh s k) ?_ ?_ 0 (Nat.zero_le _) _ _ ⟨rfl, rfl, fun k z => absurd z (Nat.not_lt_zero _)⟩
  · rintro i hi9 L h' ⟨rfl, rfl, hw⟩ next
    have eI : am_inc (nI i) (Int.ofNat 1) = nI (i + 1) := nI_1 i
    rw [← eI] at next
    have qi : q + i < t.1 := by clear y; omega
    have eX : am_i h' 68 6 + nI i = nI (q + i) := by rw [k3, nI_add]
    have w256 : wCh s i < 128 := by
      have : ∀ s, s < 8 → ∀ i, i < 9 → wCh s i < 128 := by decide
      exact this s hs8 i (by omega)
    have eV : nI ((am_strs.getD (am_S0 + s - am_S0) []).getD (nI i).toNatClampNeg 0) = nI (wCh s i) := by rw [q_cl (by omega), Nat.add_sub_cancel_left]; rfl
    have eL : am_i h' (am_r h' 68 3) (am_i h' 68 6 + nI i).toNatClampNeg = bS (t.2 (q + i)) := by rw [eX]; exact x.ld qi
    refine am_go (fun p => p == 30) (fun K cal Q' hK hC hQ => ?_)
    refine And.intro (sRef_ck hs8) (And.intro (fun u => absurd u ?_) (fun _ => ?_))
    · show ¬ nI (am_strs.getD (am_S0 + s - am_S0) []).length ≤ nI i
      rw [eN]
      exact nI_ge hi9 (by omega)
    refine And.intro (sk_68 hs) (And.intro (sk_68 hs) (And.intro ?_ (And.intro ⟨sRef_ck hs8, ?_⟩ ?_)))
    · show am_arr h' (am_r h' 68 3) 3 (am_i h' 68 6 + nI i)
      rw [eX]
      exact x.ck hs qi
    · rw [eN]
      exact vp_in_nI hi9 (by omega)
    refine And.intro (fun u => ?_) (fun u => ?_)
    · have u : am_i h' (am_r h' 68 3) (am_i h' 68 6 + nI i).toNatClampNeg = nI ((am_strs.getD (am_S0 + s - am_S0) []).getD (nI i).toNatClampNeg 0) := u
      rw [eL, eV] at u
      have u := (bS_ch (S.b _ qi) w256).mp u
      refine hK _ _ _ _ (next _ _ ⟨rfl, rfl, fun k hk => ?_⟩)
      by_cases e : k = i
      · rw [e]; exact u
      · exact hw k (by omega)
    · have u : ¬ am_i h' (am_r h' 68 3) (am_i h' 68 6 + nI i).toNatClampNeg = nI ((am_strs.getD (am_S0 + s - am_S0) []).getD (nI i).toNatClampNeg 0) := u
      rw [eL, eV] at u
      refine And.intro (Or.inl rfl) (hQ _ _ ?_)
      have e : wIs t q s = false := by
        unfold wIs
        rw [decide_eq_false (p := ∀ k, k < wLen s → t.2 (q + k) = wCh s k) (fun v => u ((bS_ch (S.b _ qi) w256).mpr (v i hi9))), Bool.and_false]
      rw [e] at HQ
      exact HQ
  · rintro L h' ⟨rfl, rfl, hw⟩
    refine am_go (fun p => p == 30) (fun K cal Q' hK hC hQ => ?_)
    refine And.intro (sRef_ck hs8) (And.intro (fun _ => And.intro (Or.inr rfl) (hQ _ _ ?_)) (fun u => absurd ?_ u))
    · have e : wIs t q s = true := by
        unfold wIs
        rw [decide_eq_true yeq, decide_eq_true hw]
        rfl
      rw [e] at HQ
      exact HQ
    · show nI (am_strs.getD (am_S0 + s - am_S0) []).length ≤ nI (wLen s)
      rw [eN]
      exact nI_le (Nat.le_refl _) (by omega)
set_option maxHeartbeats 4000000 in
theorem c_putCode (hd : 1 ≤ d) (hs : sh h) {c : Nat} (hc : c ≤ 700) (h12 : am_i h 68 12 = nI c) {v : Int32}
    (HQ : ∀ h', sm [68, 77] h h' → (∀ k, k ≠ 12 → am_i h' 68 k = am_i h 68 k) → (∀ k, k ≠ c → am_i h' 77 k = am_i h 77 k) → (c = 700 → am_i h' 68 12 = nI c) → (c < 700 → am_i h' 68 12 = nI (c + 1) ∧ am_i h' 77 c = v) → Q (.inl none) h') : am_C xs am_P0 d m_Rd_putCode [.ref 68, .int v] h Q := by
  refine am_C_le hd (am_enter (d := 0) ap_Rd_putCode rfl ?_) (fun _ _ k => k)
  refine am_go (fun _ => false) (fun K cal Q' hK hC hQ => ?_)
  refine And.intro (sk_68 hs) (And.intro (fun z => ?_) (fun z => ?_))
  · have z : nI 700 ≤ am_i h 68 12 := z
    rw [h12] at z
    have z := (nI_leI (by decide) (by omega)).mp z
    exact And.intro trivial (hQ _ _ (HQ h sm.rf (fun _ _ => rfl) (fun _ _ => rfl) (fun _ => h12) (fun y => by omega)))
  · have z : ¬ nI 700 ≤ am_i h 68 12 := z
    rw [h12] at z
    have z : c < 700 := Nat.not_le.mp fun u => z (nI_le u (by omega))
    refine And.intro (sk_68 hs) (And.intro (sk_68 hs) (And.intro (ck_row (sr_68_11 hs) (sk_77 hs) h12 z (by decide)) ?_))
    have e1 : am_pi h (am_r h 68 (459 % 64)) (am_i h 68 (460 % 64)).toNatClampNeg v = am_pi h 77 c v := by rw [show am_r h 68 (459 % 64) = 77 from sr_68_11 hs, show am_i h 68 (460 % 64) = nI c from h12, q_cl (by omega)]
    rw [e1]
    refine And.intro (sk_68 hs) (And.intro (sk_68 hs) (And.intro trivial (hQ _ _ ?_)))
    have e2 : am_i (am_pi h 77 c v) 68 (460 % 64) + nI 1 = nI (c + 1) := by rw [i_pi_ne (by decide), show am_i h 68 (460 % 64) = nI c from h12, nI_add]
    rw [e2]
    refine HQ _ ((sm.rf.pi (by decide)).pi (by decide)) (fun k hk => ?_) (fun k hk => ?_) (fun y => by omega) (fun _ => ⟨?_, ?_⟩)
    · show am_i (am_pi (am_pi h 77 c v) 68 12 (nI (c + 1))) 68 k = _
      rw [i_pi_same, if_neg hk, i_pi_ne (by decide)]
    · show am_i (am_pi (am_pi h 77 c v) 68 12 (nI (c + 1))) 77 k = _
      rw [i_pi_ne (by decide), i_pi_same, if_neg hk]
    · show am_i (am_pi (am_pi h 77 c v) 68 12 (nI (c + 1))) 68 12 = _
      rw [i_pi_same, if_pos rfl]
    · show am_i (am_pi (am_pi h 77 c v) 68 12 (nI (c + 1))) 77 c = _
      rw [i_pi_ne (by decide), i_pi_same, if_pos rfl]
end
end
section
/-! THE CLASS'S READER: the cost expression -/
def rCd (h : am_H) (cs : List Int) : Prop := am_i h 68 12 = nI cs.length ∧ ∀ k, k < cs.length → (am_i h 77 k).toInt = cs.getD k 0
def rX (h : am_H) (t : tX) (p : Nat) (cs : List Int) : Prop := rSt h t p ∧ rCd h cs ∧ cs.length ≤ p
abbrev eP (h : am_H) (t : tX) (r : pX) (Q : am_Q) : Prop := (∀ e h', r = .inl e → rF h h' → rE h' e → Q (.inl (some (.int 0))) h') ∧ (∀ p' cs' h', r = .inr (p', cs') → rF h h' → rX h' t p' cs' → Q (.inl (some (.int 1))) h')
/-- a method reads as F says -/
def rdC (xs : am_X) (t : tX) (m K dp : Nat) (F : Nat → List Int → pX) : Prop := ∀ d h p cs (Q : am_Q), K ≤ d → rX h t p cs → eP h t (F p cs) Q → am_C xs am_P0 d m [.ref 68, .int (nI dp)] h Q
theorem rX.c {h : am_H} {t : tX} {p : Nat} {cs : List Int} (X : rX h t p cs) : cs.length ≤ 700 := Nat.le_trans X.2.2 (Nat.le_trans X.1.2.2.1 X.1.2.1.1)
theorem rCd.mv {h h' : am_H} {cs : List Int} (c : rCd h cs) (s : sm [68] h h') (e : am_i h' 68 12 = am_i h 68 12) : rCd h' cs := ⟨e.trans c.1, fun k hk => by rw [s.i (by decide)]; exact c.2 k hk⟩
theorem rTk.mv {h h' : am_H} {t : tX} {q : Nat} (k : rTk h t q) (f : ∀ j, 5 ≤ j → j ≤ 8 → am_i h' 68 j = am_i h 68 j) : rTk h' t q := ⟨k.1, (f 5 (by decide) (by decide)).trans k.2.1, (f 6 (by decide) (by decide)).trans k.2.2.1, (f 7 (by decide) (by decide)).trans k.2.2.2.1, fun z => (f 8 (by decide) (by decide)).trans (k.2.2.2.2 z)⟩
theorem rSt.mv {h h' : am_H} {t : tX} {p : Nat} (S : rSt h t p) (s : sm [68, 77] h h') (f : ∀ j, 4 ≤ j → j ≤ 8 → am_i h' 68 j = am_i h 68 j) : rSt h' t p := ⟨s.sh S.1, S.2.1.mv s (f 4 (by decide) (by decide)) (by decide), S.2.2.1, S.2.2.2.mv fun j a b => f j (by omega) b⟩
/-- a code more -/
theorem rX_put {h h' : am_H} {t : tX} {p : Nat} {cs : List Int} (X : rX h t p cs) {v : Int32} {c : Int} (hv : v.toInt = c) (hlt : cs.length < 700) (s : sm [68, 77] h h') (f : ∀ k, k ≠ 12 → am_i h' 68 k = am_i h 68 k) (g : ∀ k, k ≠ cs.length → am_i h' 77 k = am_i h 77 k) (e : cs.length < 700 → am_i h' 68 12 = nI (cs.length + 1) ∧ am_i h' 77 cs.length = v) : rSt h' t p ∧ rCd h' (cs ++ [c]) ∧ rF h h' := by
  obtain ⟨e1, e2⟩ := e hlt
  refine ⟨X.1.mv s (fun j a b => f j (by omega)), ⟨by rw [List.length_append]; exact e1, fun k hk => ?_⟩, s, fun k hk => f k (by omega)⟩
  rw [List.length_append, List.length_singleton] at hk
  by_cases z : k = cs.length
  · rw [z, e2, hv]
    simp
  · rw [g k z, X.2.1.2 k (by omega)]
    rw [List.getD_eq_getElem?_getD, List.getD_eq_getElem?_getD, List.getElem?_append_left (by omega)]
theorem rE_put {h h' : am_H} {e : pE} (E : rE h e) {c : Nat} (hc : c ≤ 700) (s : sm [68, 77] h h') (f : ∀ k, k ≠ 12 → am_i h' 68 k = am_i h 68 k) (z : c = 700 → am_i h' 68 12 = nI c) (y : c < 700 → am_i h' 68 12 = nI (c + 1)) : rE h' e ∧ rF h h' := by
  refine ⟨⟨(f 1 (by decide)).trans E.1, (f 2 (by decide)).trans E.2.1, ?_⟩, s, fun k hk => f k (by omega)⟩
  by_cases w : c = 700
  · exact ⟨c, hc, z w⟩
  · exact ⟨c + 1, by omega, y (by omega)⟩
theorem pItem_e {F : Nat → List Int → pX} {t : tX} {o1 o2 : Nat} {c1 c2 : Int} {p : Nat} {cs : List Int} {e : pE} (h : F p cs = .inl e) : pItem F t o1 o2 c1 c2 p cs = .inl e := by unfold pItem; rw [h]
theorem pItem_r {F : Nat → List Int → pX} {t : tX} {o1 o2 : Nat} {c1 c2 : Int} {p : Nat} {cs : List Int} {z : Nat × List Int} (h : F p cs = .inr z) : pItem F t o1 o2 c1 c2 p cs = pLoop F t o1 o2 c1 c2 t.1 z.1 z.2 := by unfold pItem; rw [h]
theorem pLoop_s (F : Nat → List Int → pX) (t : tX) (o1 o2 : Nat) (c1 c2 : Int) (k p : Nat) (cs : List Int) : pLoop F t o1 o2 c1 c2 (k + 1) p cs = if isC t (sk t p) o1 = true ∨ isC t (sk t p) o2 = true then (match F (sk t p + 1) cs with
      | .inl e => .inl e
      | .inr z => pLoop F t o1 o2 c1 c2 k z.1 (z.2 ++ [if isC t (sk t p) o1 = true then c1 else c2])) else .inr (p, cs) := rfl
theorem i1_0 : ¬ (1 : Int32) = 0 := by decide
section
variable {xs : am_X} {t : tX}
set_option maxHeartbeats 8000000 in
theorem c_readTerm {dp H K : Nat} {F : Nat → List Int → pX} (hK1 : 1 ≤ K) (hG : pGood t H F) (hF : rdC xs t m_Rd_readFactor K dp F) : rdC xs t m_Rd_readTerm (K + 1) dp (pItem F t 42 47 (-6) (-7)) := by
  intro d h p cs Q hd X HQ
  have e6 : (-nI 6 : Int32).toInt = -6 := by decide
  have e7 : (-nI 7 : Int32).toInt = -7 := by decide
  have t7 := X.1.2.1.1
  unfold eP at HQ
  have pe := fun e => pItem_e (F := F) (t := t) (o1 := 42) (o2 := 47) (c1 := -6) (c2 := -7) (p := p) (cs := cs) (e := e)
  have pr := fun z => pItem_r (F := F) (t := t) (o1 := 42) (o2 := 47) (c1 := -6) (c2 := -7) (p := p) (cs := cs) (z := z)
  generalize pItem F t 42 47 (-6) (-7) p cs = R at HQ pe pr
  refine am_C_le hd (am_enter (d := K) ap_Rd_readTerm rfl ?_) (fun _ _ k => k)
  have bad : ∀ (h' : am_H) (e : pE) (i : Int32) (v4 : Value), R = .inl e → rF h h' → rE h' e → am_W xs (am_code at_Rd_readTerm) (am_hd ah_Rd_readTerm) (am_C xs am_P0 K) Q 8 [.ref 68, .int (nI dp), .int 0, .int i, v4] [] h' := by
    intro h' e i v4 hR s E
    refine am_go (fun _ => false) (fun K cal Q' hK hC hQ => ?_)
    exact And.intro (fun _ => And.intro (Or.inl rfl) (hQ _ _ (HQ.1 e h' hR s E))) (fun z => absurd rfl z)
  refine am_go (fun p => p == 8) (fun K' cal Q' hK hC hQ => ?_)
  refine And.intro (sk_68 X.1.1) (hC _ _ _ _ (hF K h p cs _ (Nat.le_refl _) X ⟨fun e h1 hR s1 E1 => hK _ _ _ _ ?_, fun p1 cs1 h1 hR s1 X1 => hK _ _ _ _ ?_⟩))
  · exact bad h1 e 0 am_J (pe e hR) s1 E1
  have hRR := pr _ hR
  dsimp only at hRR
  have hG1 := hG p cs p1 cs1 X.1.2.2.1 hR
  refine am_for t.1 (fun i L h' => ∃ v4 p' cs', L = [.ref 68, .int (nI dp), .int 1, .int (nI i), v4] ∧ rF h h' ∧ rX h' t p' cs' ∧ pLoop F t 42 47 (-6) (-7) (t.1 - i) p' cs' = R) ?_ ?_ 0 (Nat.zero_le _) _ _ ⟨am_J, p1, cs1, rfl, s1, X1, by rw [Nat.sub_zero, hRR]⟩
  · rintro i hi9 L h' ⟨v4, p', cs', rfl, s, X', hR'⟩ next
    have eI : am_inc (nI i) (Int.ofNat 1) = nI (i + 1) := nI_1 i
    rw [← eI] at next
    have hs := X'.1.1
    have x := X'.1.2.1
    have e5 : am_i h' 68 5 = kdI t (sk t p') := X'.1.2.2.2.2.1
    have k1 := kd_sym (q := sk t p') (s := 42) (X'.1.b _) (by decide) (by decide) (by decide)
    have k2 := kd_sym (q := sk t p') (s := 47) (X'.1.b _) (by decide) (by decide) (by decide)
    have g1 := sk_ge t p'
    rw [show t.1 - i = (t.1 - (i + 1)) + 1 by omega] at hR'
    rw [pLoop_s] at hR'
    have out : ¬ (isC t (sk t p') 42 = true ∨ isC t (sk t p') 47 = true) → am_W xs (am_code at_Rd_readTerm) (am_hd ah_Rd_readTerm) (am_C xs am_P0 K) Q 78 [.ref 68, .int (nI dp), .int 1, .int (nI i), v4] [] h' := by
      intro no
      rw [if_neg no] at hR'
      refine am_go (fun _ => false) (fun K cal Q' hK hC hQ => ?_)
      exact And.intro (Or.inr rfl) (hQ _ _ (HQ.2 p' cs' h' hR'.symm s X'))
    have body : (isC t (sk t p') 42 = true ∨ isC t (sk t p') 47 = true) → ∀ code : Int32, code.toInt = (if isC t (sk t p') 42 = true then -6 else -7) → am_W xs (am_code at_Rd_readTerm) (am_hd ah_Rd_readTerm) (am_C xs am_P0 K) Q 54 [.ref 68, .int (nI dp), .int 1, .int (nI i), v4] [.int code] h' := by
      intro yes code hcode
      rw [if_pos yes] at hR'
      have ql : sk t p' < t.1 := yes.elim (fun z => (isC_lt z).1) (fun z => (isC_lt z).1)
      have eT : te t (sk t p') = sk t p' + 1 := by
        unfold te
        rw [if_pos ql]
        rcases yes with z | z
        · rw [(isC_lt z).2]; rfl
        · rw [(isC_lt z).2]; rfl
      refine am_go (fun p => p == 8) (fun K' cal Q' hK hC hQ => ?_)
      refine And.intro (sk_68 hs) (hC _ _ _ _ (c_next hK1 X'.1 eT (fun h2 s2 S2 m2 c2 => ?_)))
      have X2 : rX h2 t (sk t p' + 1) cs' := ⟨S2, X'.2.1.mv m2 c2, by have := X'.2.2; omega⟩
      refine And.intro (sk_68 S2.1) (hC _ _ _ _ (hF K h2 (sk t p' + 1) cs' _ (Nat.le_refl _) X2 ⟨fun e h3 hR3 s3 E3 => ?_, fun p3 cs3 h3 hR3 s3 X3 => ?_⟩))
      · rw [hR3] at hR'
        obtain ⟨c, c1, c2⟩ := id E3.2.2
        have hs3 : sh h3 := s3.1.sh S2.1
        refine And.intro (sk_68 hs3) (hC _ _ _ _ (c_putCode hK1 hs3 c1 c2 (fun h4 s4 f4 g4 z4 y4 => hK _ _ _ _ ?_)))
        obtain ⟨E4, r4⟩ := rE_put E3 c1 s4 f4 z4 (fun w => (y4 w).1)
        exact bad h4 e _ _ hR'.symm ((s.tr (s2.tr s3)).tr r4) E4
      · rw [hR3] at hR'
        dsimp only at hR'
        obtain ⟨l1, l2, ds, l3, l4, l5⟩ := hG _ _ _ _ (by omega) hR3
        have lcs : cs3.length + 1 ≤ p3 := by
          rw [l3, List.length_append]
          have := X'.2.2
          omega
        have lp : p3 ≤ t.1 := X3.1.2.2.1
        refine And.intro (sk_68 X3.1.1) (hC _ _ _ _ (c_putCode hK1 X3.1.1 X3.c X3.2.1.1 (fun h4 s4 f4 g4 z4 y4 => hK _ _ _ _ ?_)))
        obtain ⟨S4, c4, r4⟩ := rX_put X3 hcode (by omega) s4 f4 g4 y4
        exact next _ _ ⟨_, p3, _, rfl, (s.tr (s2.tr s3)).tr r4, ⟨S4, c4, by rw [List.length_append]; exact lcs⟩, hR'⟩
    have mid : (isC t (sk t p') 42 = true ∨ isC t (sk t p') 47 = true) → am_W xs (am_code at_Rd_readTerm) (am_hd ah_Rd_readTerm) (am_C xs am_P0 K) Q 30 [.ref 68, .int (nI dp), .int 1, .int (nI i), v4] [] h' := by
      intro yes
      refine am_go (fun p => p == 54) (fun K' cal Q' hK hC hQ => ?_)
      refine And.intro (sk_68 hs) (And.intro (fun z => absurd z (q_ge x.2.1 hi9 (by omega))) (fun _ => ?_))
      refine And.intro (sk_68 hs) (And.intro (fun z => hK _ _ _ _ (body yes _ ?_)) (fun z => hK _ _ _ _ (body yes _ ?_)))
      · rw [if_neg (fun w => z (e5.trans (k1.mpr w))), e7]
      · have z : am_i h' 68 5 = nI 42 := Classical.not_not.mp z
        rw [e5] at z
        rw [if_pos (k1.mp z), e6]
    refine am_go (fun p => p == 30 || p == 78) (fun K' cal Q' hK hC hQ => ?_)
    refine And.intro (fun z => absurd z i1_0) (fun _ => ?_)
    refine And.intro (sk_68 hs) (And.intro (fun z => hK _ _ _ _ (mid (Or.inl (k1.mp (e5.symm.trans z))))) (fun z1 => ?_))
    refine And.intro (sk_68 hs) (And.intro (fun z2 => hK _ _ _ _ (out ?_)) (fun z2 => hK _ _ _ _ (mid (Or.inr ?_))))
    · rintro (w | w)
      · exact z1 (e5.trans (k1.mpr w))
      · exact z2 (e5.trans (k2.mpr w))
    · have z2 : am_i h' 68 5 = nI 47 := Classical.not_not.mp z2
      exact k2.mp (e5.symm.trans z2)
  · rintro L h' ⟨v4, p', cs', rfl, s, X', hR'⟩
    rw [Nat.sub_self] at hR'
    have hs := X'.1.1
    have x := X'.1.2.1
    have fin : (0 = (1 : Int32) ∨ (1 : Int32) = 1) ∧ Q (.inl (some (.int 1))) h' := ⟨Or.inr rfl, HQ.2 p' cs' h' hR'.symm s X'⟩
    refine am_go (fun p => p == 30) (fun K' cal Q' hK hC hQ => ?_)
    have mid : am_W xs (am_code at_Rd_readTerm) (am_hd ah_Rd_readTerm) (am_C xs am_P0 K) Q 30 [.ref 68, .int (nI dp), .int 1, .int (nI t.1), v4] [] h' := by
      refine am_go (fun _ => false) (fun K' cal Q' hK hC hQ => ?_)
      exact And.intro (sk_68 hs) (And.intro (fun _ => And.intro (Or.inr rfl) (hQ _ _ fin.2)) (fun z => absurd (q_le x.2.1 (by omega)) z))
    refine And.intro (fun z => absurd z i1_0) (fun _ => ?_)
    refine And.intro (sk_68 hs) (And.intro (fun _ => hK _ _ _ _ mid) (fun _ => ?_))
    exact And.intro (sk_68 hs) (And.intro (fun _ => And.intro (Or.inr rfl) (hQ _ _ fin.2)) (fun _ => hK _ _ _ _ mid))
set_option maxHeartbeats 8000000 in
theorem c_readSum {dp H K : Nat} {F : Nat → List Int → pX} (hK1 : 1 ≤ K) (hG : pGood t H F) (hF : rdC xs t m_Rd_readTerm K dp F) : rdC xs t m_Rd_readSum (K + 1) dp (pItem F t 43 45 (-4) (-5)) := by
  intro d h p cs Q hd X HQ
  have e6 : (-nI 4 : Int32).toInt = -4 := by decide
  have e7 : (-nI 5 : Int32).toInt = -5 := by decide
  have t7 := X.1.2.1.1
  unfold eP at HQ
  have pe := fun e => pItem_e (F := F) (t := t) (o1 := 43) (o2 := 45) (c1 := -4) (c2 := -5) (p := p) (cs := cs) (e := e)
  have pr := fun z => pItem_r (F := F) (t := t) (o1 := 43) (o2 := 45) (c1 := -4) (c2 := -5) (p := p) (cs := cs) (z := z)
  generalize pItem F t 43 45 (-4) (-5) p cs = R at HQ pe pr
  refine am_C_le hd (am_enter (d := K) ap_Rd_readSum rfl ?_) (fun _ _ k => k)
  have bad : ∀ (h' : am_H) (e : pE) (i : Int32) (v4 : Value), R = .inl e → rF h h' → rE h' e → am_W xs (am_code at_Rd_readSum) (am_hd ah_Rd_readSum) (am_C xs am_P0 K) Q 8 [.ref 68, .int (nI dp), .int 0, .int i, v4] [] h' := by
    intro h' e i v4 hR s E
    refine am_go (fun _ => false) (fun K cal Q' hK hC hQ => ?_)
    exact And.intro (fun _ => And.intro (Or.inl rfl) (hQ _ _ (HQ.1 e h' hR s E))) (fun z => absurd rfl z)
  refine am_go (fun p => p == 8) (fun K' cal Q' hK hC hQ => ?_)
  refine And.intro (sk_68 X.1.1) (hC _ _ _ _ (hF K h p cs _ (Nat.le_refl _) X ⟨fun e h1 hR s1 E1 => hK _ _ _ _ ?_, fun p1 cs1 h1 hR s1 X1 => hK _ _ _ _ ?_⟩))
  · exact bad h1 e 0 am_J (pe e hR) s1 E1
  have hRR := pr _ hR
  dsimp only at hRR
  have hG1 := hG p cs p1 cs1 X.1.2.2.1 hR
  refine am_for t.1 (fun i L h' => ∃ v4 p' cs', L = [.ref 68, .int (nI dp), .int 1, .int (nI i), v4] ∧ rF h h' ∧ rX h' t p' cs' ∧ pLoop F t 43 45 (-4) (-5) (t.1 - i) p' cs' = R) ?_ ?_ 0 (Nat.zero_le _) _ _ ⟨am_J, p1, cs1, rfl, s1, X1, by rw [Nat.sub_zero, hRR]⟩
  · rintro i hi9 L h' ⟨v4, p', cs', rfl, s, X', hR'⟩ next
    have eI : am_inc (nI i) (Int.ofNat 1) = nI (i + 1) := nI_1 i
    rw [← eI] at next
    have hs := X'.1.1
    have x := X'.1.2.1
    have e5 : am_i h' 68 5 = kdI t (sk t p') := X'.1.2.2.2.2.1
    have k1 := kd_sym (q := sk t p') (s := 43) (X'.1.b _) (by decide) (by decide) (by decide)
    have k2 := kd_sym (q := sk t p') (s := 45) (X'.1.b _) (by decide) (by decide) (by decide)
    have g1 := sk_ge t p'
    rw [show t.1 - i = (t.1 - (i + 1)) + 1 by omega] at hR'
    rw [pLoop_s] at hR'
    have out : ¬ (isC t (sk t p') 43 = true ∨ isC t (sk t p') 45 = true) → am_W xs (am_code at_Rd_readSum) (am_hd ah_Rd_readSum) (am_C xs am_P0 K) Q 78 [.ref 68, .int (nI dp), .int 1, .int (nI i), v4] [] h' := by
      intro no
      rw [if_neg no] at hR'
      refine am_go (fun _ => false) (fun K cal Q' hK hC hQ => ?_)
      exact And.intro (Or.inr rfl) (hQ _ _ (HQ.2 p' cs' h' hR'.symm s X'))
    have body : (isC t (sk t p') 43 = true ∨ isC t (sk t p') 45 = true) → ∀ code : Int32, code.toInt = (if isC t (sk t p') 43 = true then -4 else -5) → am_W xs (am_code at_Rd_readSum) (am_hd ah_Rd_readSum) (am_C xs am_P0 K) Q 54 [.ref 68, .int (nI dp), .int 1, .int (nI i), v4] [.int code] h' := by
      intro yes code hcode
      rw [if_pos yes] at hR'
      have ql : sk t p' < t.1 := yes.elim (fun z => (isC_lt z).1) (fun z => (isC_lt z).1)
      have eT : te t (sk t p') = sk t p' + 1 := by
        unfold te
        rw [if_pos ql]
        rcases yes with z | z
        · rw [(isC_lt z).2]; rfl
        · rw [(isC_lt z).2]; rfl
      refine am_go (fun p => p == 8) (fun K' cal Q' hK hC hQ => ?_)
      refine And.intro (sk_68 hs) (hC _ _ _ _ (c_next hK1 X'.1 eT (fun h2 s2 S2 m2 c2 => ?_)))
      have X2 : rX h2 t (sk t p' + 1) cs' := ⟨S2, X'.2.1.mv m2 c2, by have := X'.2.2; omega⟩
      refine And.intro (sk_68 S2.1) (hC _ _ _ _ (hF K h2 (sk t p' + 1) cs' _ (Nat.le_refl _) X2 ⟨fun e h3 hR3 s3 E3 => ?_, fun p3 cs3 h3 hR3 s3 X3 => ?_⟩))
      · rw [hR3] at hR'
        obtain ⟨c, c1, c2⟩ := id E3.2.2
        have hs3 : sh h3 := s3.1.sh S2.1
        refine And.intro (sk_68 hs3) (hC _ _ _ _ (c_putCode hK1 hs3 c1 c2 (fun h4 s4 f4 g4 z4 y4 => hK _ _ _ _ ?_)))
        obtain ⟨E4, r4⟩ := rE_put E3 c1 s4 f4 z4 (fun w => (y4 w).1)
        exact bad h4 e _ _ hR'.symm ((s.tr (s2.tr s3)).tr r4) E4
      · rw [hR3] at hR'
        dsimp only at hR'
        obtain ⟨l1, l2, ds, l3, l4, l5⟩ := hG _ _ _ _ (by omega) hR3
        have lcs : cs3.length + 1 ≤ p3 := by
          rw [l3, List.length_append]
          have := X'.2.2
          omega
        have lp : p3 ≤ t.1 := X3.1.2.2.1
        refine And.intro (sk_68 X3.1.1) (hC _ _ _ _ (c_putCode hK1 X3.1.1 X3.c X3.2.1.1 (fun h4 s4 f4 g4 z4 y4 => hK _ _ _ _ ?_)))
        obtain ⟨S4, c4, r4⟩ := rX_put X3 hcode (by omega) s4 f4 g4 y4
        exact next _ _ ⟨_, p3, _, rfl, (s.tr (s2.tr s3)).tr r4, ⟨S4, c4, by rw [List.length_append]; exact lcs⟩, hR'⟩
    have mid : (isC t (sk t p') 43 = true ∨ isC t (sk t p') 45 = true) → am_W xs (am_code at_Rd_readSum) (am_hd ah_Rd_readSum) (am_C xs am_P0 K) Q 30 [.ref 68, .int (nI dp), .int 1, .int (nI i), v4] [] h' := by
      intro yes
      refine am_go (fun p => p == 54) (fun K' cal Q' hK hC hQ => ?_)
      refine And.intro (sk_68 hs) (And.intro (fun z => absurd z (q_ge x.2.1 hi9 (by omega))) (fun _ => ?_))
      refine And.intro (sk_68 hs) (And.intro (fun z => hK _ _ _ _ (body yes _ ?_)) (fun z => hK _ _ _ _ (body yes _ ?_)))
      · rw [if_neg (fun w => z (e5.trans (k1.mpr w))), e7]
      · have z : am_i h' 68 5 = nI 43 := Classical.not_not.mp z
        rw [e5] at z
        rw [if_pos (k1.mp z), e6]
    refine am_go (fun p => p == 30 || p == 78) (fun K' cal Q' hK hC hQ => ?_)
    refine And.intro (fun z => absurd z i1_0) (fun _ => ?_)
    refine And.intro (sk_68 hs) (And.intro (fun z => hK _ _ _ _ (mid (Or.inl (k1.mp (e5.symm.trans z))))) (fun z1 => ?_))
    refine And.intro (sk_68 hs) (And.intro (fun z2 => hK _ _ _ _ (out ?_)) (fun z2 => hK _ _ _ _ (mid (Or.inr ?_))))
    · rintro (w | w)
      · exact z1 (e5.trans (k1.mpr w))
      · exact z2 (e5.trans (k2.mpr w))
    · have z2 : am_i h' 68 5 = nI 45 := Classical.not_not.mp z2
      exact k2.mp (e5.symm.trans z2)
  · rintro L h' ⟨v4, p', cs', rfl, s, X', hR'⟩
    rw [Nat.sub_self] at hR'
    have hs := X'.1.1
    have x := X'.1.2.1
    have fin : (0 = (1 : Int32) ∨ (1 : Int32) = 1) ∧ Q (.inl (some (.int 1))) h' := ⟨Or.inr rfl, HQ.2 p' cs' h' hR'.symm s X'⟩
    refine am_go (fun p => p == 30) (fun K' cal Q' hK hC hQ => ?_)
    have mid : am_W xs (am_code at_Rd_readSum) (am_hd ah_Rd_readSum) (am_C xs am_P0 K) Q 30 [.ref 68, .int (nI dp), .int 1, .int (nI t.1), v4] [] h' := by
      refine am_go (fun _ => false) (fun K' cal Q' hK hC hQ => ?_)
      exact And.intro (sk_68 hs) (And.intro (fun _ => And.intro (Or.inr rfl) (hQ _ _ fin.2)) (fun z => absurd (q_le x.2.1 (by omega)) z))
    refine And.intro (fun z => absurd z i1_0) (fun _ => ?_)
    refine And.intro (sk_68 hs) (And.intro (fun _ => hK _ _ _ _ mid) (fun _ => ?_))
    exact And.intro (sk_68 hs) (And.intro (fun _ => And.intro (Or.inr rfl) (hQ _ _ fin.2)) (fun _ => hK _ _ _ _ mid))
set_option maxHeartbeats 8000000 in
theorem c_readFactor {k dp K : Nat} (hdp : dp + k = 4) (hK2 : 2 ≤ K) (hS : ∀ f, pSub t k = some f → rdC xs t m_Rd_readSum K (dp + 1) f) : rdC xs t m_Rd_readFactor (K + 1) dp (pFac (pSub t k) t) := by
  intro d h p cs Q hd X HQ
  have t7 := X.1.2.1.1
  have hs := X.1.1
  have hp := X.1.2.2.1
  have g1 := sk_ge t p
  have g2 := sk_len hp
  have lc := X.2.2
  have e5 : am_i h 68 5 = kdI t (sk t p) := X.1.2.2.2.2.1
  have k1 := kd_sym (q := sk t p) (s := 40) (X.1.b _) (by decide) (by decide) (by decide)
  have k2 := kd_num (q := sk t p) (X.1.b _)
  unfold eP pFac pFacQ at HQ
  refine am_C_le hd (am_enter (d := K) ap_Rd_readFactor rfl ?_) (fun _ _ k => k)
  -- the end behind a code
  have fin : ∀ (v : Int32) (c : Int) (l2 : Value) (h4 : am_H), v.toInt = c → sk t p < te t (sk t p) → rF h h4 → rSt h4 t p → rCd h4 (cs ++ [c]) → (∀ h', rF h h' → rX h' t (te t (sk t p)) (cs ++ [c]) → Q (.inl (some (.int 1))) h') → am_W xs (am_code at_Rd_readFactor) (am_hd ah_Rd_readFactor) (am_C xs am_P0 K) Q 143 [.ref 68, .int (nI dp), l2] [] h4 := by
    intro v c l2 h4 hv hlt r4 S4 C4 hq
    refine am_go (fun _ => false) (fun K' cal Q' hK hC hQ => ?_)
    refine And.intro (sk_68 S4.1) (hC _ _ _ _ (c_next (by omega) S4 rfl (fun h5 s5 S5 m5 c5 => And.intro (Or.inr rfl) (hQ _ _ (hq h5 (r4.tr s5) ⟨S5, C4.mv m5 c5, ?_⟩)))))
    rw [List.length_append, List.length_singleton]
    omega
  have put : ∀ (v : Int32) (c : Int) (l2 : Value) {d' : Nat}, 1 ≤ d' → v.toInt = c → sk t p < te t (sk t p) → (∀ h', rF h h' → rX h' t (te t (sk t p)) (cs ++ [c]) → Q (.inl (some (.int 1))) h') → am_C xs am_P0 d' m_Rd_putCode [.ref 68, .int v] h (fun r h' => match r with
    | .inl none => am_W xs (am_code at_Rd_readFactor) (am_hd ah_Rd_readFactor) (am_C xs am_P0 K) Q 143 [.ref 68, .int (nI dp), l2] [] h'
    | _ => False) := by
    intro v c l2 d' hd' hv hlt hq
    have hb : te t (sk t p) ≤ t.1 := te_len g2
    refine c_putCode hd' hs X.c X.2.1.1 (fun h4 s4 f4 g4 z4 y4 => ?_)
    obtain ⟨S4, c4, r4⟩ := rX_put X hv (by omega) s4 f4 g4 y4
    exact fin v c l2 h4 hv hlt r4 S4 c4 hq
  refine am_go (fun p => p == 50 || p == 143) (fun K' cal Q' hK hC hQ => ?_)
  refine And.intro (sk_68 hs) (And.intro (fun z => hK _ _ _ _ ?_) (fun z => ?_))
  rotate_left
  · -- a bracket
    have z : am_i h 68 5 = nI 40 := Classical.not_not.mp z
    rw [e5] at z
    have z := k1.mp z
    rw [if_pos z] at HQ
    cases k with
    | zero =>
      have hdp : dp = 4 := hdp
      subst hdp
      refine And.intro (fun w => absurd w (show ¬ nI 4 < nI 4 by decide)) (fun _ => And.intro (sk_68 hs) (hC _ _ _ _ (c_fail (by omega) X.1 X.c X.2.1.1 6 (fun h' s' E' => And.intro (Or.inl rfl) (hQ _ _ (HQ.1 _ h' rfl s' E'))))))
    | succ k =>
      have ql := isC_lt z
      have eT : te t (sk t p) = sk t p + 1 := by
        unfold te
        rw [if_pos ql.1, ql.2]
        rfl
      refine And.intro (fun _ => ?_) (fun w => absurd (nI_lt (show dp < 4 by omega) (by decide)) w)
      refine And.intro (sk_68 hs) (hC _ _ _ _ (c_next (by omega) X.1 eT (fun h2 s2 S2 m2 c2 => ?_)))
      have X2 : rX h2 t (sk t p + 1) cs := ⟨S2, X.2.1.mv m2 c2, by omega⟩
      refine And.intro (sk_68 S2.1) ?_
      show cal m_Rd_readSum [.ref 68, .int (nI dp + nI 1)] h2 _
      rw [nI_add]
      unfold pSub at HQ hS
      dsimp only at HQ
      refine hC _ _ _ _ (hS _ rfl K h2 (sk t p + 1) cs _ (Nat.le_refl _) X2 ⟨fun e h3 hR3 s3 E3 => ?_, fun p3 cs3 h3 hR3 s3 X3 => ?_⟩)
      · rw [hR3] at HQ
        exact And.intro (fun _ => And.intro (Or.inl rfl) (hQ _ _ (HQ.1 e h3 rfl (s2.tr s3) E3))) (fun w => absurd rfl w)
      · rw [hR3] at HQ
        dsimp only at HQ
        refine And.intro (fun w => absurd w i1_0) (fun _ => ?_)
        refine And.intro (sk_68 X3.1.1) (hC _ _ _ _ (c_readSymbol (s := 41) hK2 X3.1 X3.c X3.2.1.1 (by decide) (by decide) (by decide) (fun e h4 hR4 s4 E4 => ?_) (fun q h4 hR4 s4 S4 m4 c4 => ?_)))
        · rw [hR4] at HQ
          exact And.intro (fun _ => And.intro (Or.inl rfl) (hQ _ _ (HQ.1 e h4 rfl ((s2.tr s3).tr s4) E4))) (fun w => absurd rfl w)
        · rw [hR4] at HQ
          refine And.intro (fun w => absurd w i1_0) (fun _ => And.intro (Or.inr rfl) (hQ _ _ (HQ.2 q cs3 h4 rfl ((s2.tr s3).tr s4) ⟨S4, X3.2.1.mv m4 c4, ?_⟩)))
          have := X3.2.2
          unfold pSym at hR4
          have g3 := sk_ge t p3
          split at hR4
          · cases hR4; omega
          · cases hR4
  -- no bracket
  have z : ¬ isC t (sk t p) 40 = true := fun w => z (e5.trans (k1.mpr w))
  rw [if_neg z] at HQ
  refine am_go (fun p => p == 83 || p == 143) (fun K' cal Q' hK hC hQ => ?_)
  refine And.intro (sk_68 hs) (And.intro (fun z2 => hK _ _ _ _ ?_) (fun z2 => ?_))
  rotate_left
  · -- a number
    have z2 : am_i h 68 5 = nI 1001 := Classical.not_not.mp z2
    rw [e5] at z2
    have z2 := k2.mp z2
    rw [if_pos z2] at HQ
    have hlt := te_dg_gt z2
    refine And.intro (sk_68 hs) (hC _ _ _ _ (c_numberHere (lo := 0) (hi := 9999) hK2 X.1 X.c X.2.1.1 (by decide) (by decide) (fun e h4 hR4 s4 E4 => ?_) (fun hR4 w1 w2 w3 => ?_)))
    · unfold pNum at hR4
      rw [if_pos z2] at hR4
      split at hR4
      · cases hR4
      · rename_i w
        cases hR4
        rw [if_neg (by omega)] at HQ
        refine And.intro (fun y => absurd y (show ¬ (0 : Int32) ≤ -nI 1 by decide)) (fun _ => And.intro (Or.inl rfl) (hQ _ _ (HQ.1 _ h4 rfl s4 E4)))
    · rw [if_pos w3] at HQ
      refine And.intro (fun _ => ?_) (fun y => absurd (show (0 : Int32) ≤ nI (num t (sk t p)) from nI_pos' (by omega)) y)
      refine And.intro (sk_68 hs) (hC _ _ _ _ (am_C_mono _ _ _ _ _ _ (fun r h' q => ?_) (put (nI (num t (sk t p))) (num t (sk t p) : Int) (.int (nI (num t (sk t p)))) (by omega : 1 ≤ K) (nI_toInt (by omega)) hlt (fun h' s' X' => HQ.2 _ _ h' rfl s' X'))))
      match r, q with
      | .inl none, q => exact hK _ _ _ _ q
  -- no number
  have z2 : ¬ dgAt t (sk t p) = true := fun w => z2 (e5.trans (k2.mpr w))
  rw [if_neg z2] at HQ
  refine am_go (fun p => p == 100 || p == 143) (fun K' cal Q' hK hC hQ => ?_)
  refine And.intro (sk_68 hs) (hC _ _ _ _ (c_isWord (s := 5) (by omega) X.1 (by decide) ?_))
  refine And.intro (fun z3 => hK _ _ _ _ ?_) (fun z3 => ?_)
  rotate_left
  · have z3 : wIs t (sk t p) 5 = true := by
      cases e : wIs t (sk t p) 5 with
      | true => rfl
      | false => rw [e] at z3; exact absurd rfl z3
    rw [if_pos z3] at HQ
    have hlt : sk t p < te t (sk t p) := by rw [wIs_te (by decide) z3]; exact Nat.lt_add_of_pos_right (by decide)
    refine And.intro (sk_68 hs) (hC _ _ _ _ (am_C_mono _ _ _ _ _ _ (fun r h' q => ?_) (put (-nI 1) (-1) am_J (by omega : 1 ≤ K) (by decide) hlt (fun h' s' X' => HQ.2 _ _ h' rfl s' X'))))
    match r, q with
    | .inl none, q => exact hK _ _ _ _ q
  have z3 := (bI_0 _).mp z3
  rw [if_neg (by rw [z3]; decide)] at HQ
  refine am_go (fun p => p == 118 || p == 143) (fun K' cal Q' hK hC hQ => ?_)
  refine And.intro (sk_68 hs) (hC _ _ _ _ (c_isWord (s := 6) (by omega) X.1 (by decide) ?_))
  refine And.intro (fun z4 => hK _ _ _ _ ?_) (fun z4 => ?_)
  rotate_left
  · have z4 : wIs t (sk t p) 6 = true := by
      cases e : wIs t (sk t p) 6 with
      | true => rfl
      | false => rw [e] at z4; exact absurd rfl z4
    rw [if_pos z4] at HQ
    have hlt : sk t p < te t (sk t p) := by rw [wIs_te (by decide) z4]; exact Nat.lt_add_of_pos_right (by decide)
    refine And.intro (sk_68 hs) (hC _ _ _ _ (am_C_mono _ _ _ _ _ _ (fun r h' q => ?_) (put (-nI 2) (-2) am_J (by omega : 1 ≤ K) (by decide) hlt (fun h' s' X' => HQ.2 _ _ h' rfl s' X'))))
    match r, q with
    | .inl none, q => exact hK _ _ _ _ q
  have z4 := (bI_0 _).mp z4
  rw [if_neg (by rw [z4]; decide)] at HQ
  refine am_go (fun p => p == 143) (fun K' cal Q' hK hC hQ => ?_)
  refine And.intro (sk_68 hs) (hC _ _ _ _ (c_isWord (s := 7) (by omega) X.1 (by decide) ?_))
  refine And.intro (fun z5 => ?_) (fun z5 => ?_)
  · have z5 := (bI_0 _).mp z5
    rw [if_neg (by rw [z5]; decide)] at HQ
    exact And.intro (sk_68 hs) (hC _ _ _ _ (c_fail (by omega) X.1 X.c X.2.1.1 2 (fun h' s' E' => And.intro (Or.inl rfl) (hQ _ _ (HQ.1 _ h' rfl s' E')))))
  · have z5 : wIs t (sk t p) 7 = true := by
      cases e : wIs t (sk t p) 7 with
      | true => rfl
      | false => rw [e] at z5; exact absurd rfl z5
    rw [if_pos z5] at HQ
    have hlt : sk t p < te t (sk t p) := by rw [wIs_te (by decide) z5]; exact Nat.lt_add_of_pos_right (by decide)
    refine And.intro (sk_68 hs) (hC _ _ _ _ (am_C_mono _ _ _ _ _ _ (fun r h' q => ?_) (put (-nI 3) (-3) am_J (by omega : 1 ≤ K) (by decide) hlt (fun h' s' X' => HQ.2 _ _ h' rfl s' X'))))
    match r, q with
    | .inl none, q => exact hK _ _ _ _ q
/-- a sum within which k brackets may be opened -/
theorem c_readSum_k : ∀ k dp, dp + k = 4 → rdC xs t m_Rd_readSum (5 + 3 * k) dp (pSum t k)
  | 0, dp, hdp => by
    have hf := c_readFactor (xs := xs) (t := t) (k := 0) (K := 2) hdp (Nat.le_refl _) (fun f z => by cases z)
    have gf : pGood t 10 (pFac (pSub t 0) t) := pGood_fac (fun f z => by cases z) (by decide)
    have ht := c_readTerm (by decide) gf hf
    have gt : pGood t 9 (pTerm (pSub t 0) t) := pGood_item gf (by decide) (by decide)
    exact c_readSum (by decide) gt ht
  | k + 1, dp, hdp => by
    have ih := c_readSum_k k (dp + 1) (by omega)
    have gs := pGood_sum t k (by omega)
    have hf := c_readFactor (xs := xs) (t := t) (k := k + 1) (K := 5 + 3 * k) hdp (by omega) (fun f z => by cases z; exact ih)
    have gf : pGood t (8 - 2 * k) (pFac (pSub t (k + 1)) t) := pGood_fac (fun f z => by cases z; exact gs) (by omega)
    have ht := c_readTerm (by omega) gf hf
    have gt : pGood t (8 - 2 * k - 1) (pTerm (pSub t (k + 1)) t) := by
      have : pGood t (8 - 2 * k - 1 + 1) (pFac (pSub t (k + 1)) t) := by rw [show 8 - 2 * k - 1 + 1 = 8 - 2 * k by omega]; exact gf
      exact pGood_item this (by decide) (by decide)
    exact c_readSum (K := 5 + 3 * k + 2) (by omega) gt ht
end
end
section
/-! THE SETUP TEXT: statements -/
def g0 (n : Nat) : gD := ((n, 0, 0), (fun _ => 0), (fun _ => 0), (fun _ => 0), (fun _ => 0), (fun _ => -nI 1), none)
def gLdS (g : gD) (v w : Nat) : gD := (g.1, g.2.1, g.2.2.1, g.2.2.2.1, setN (gLd g) v w, g.2.2.2.2.2.1, g.2.2.2.2.2.2)
def gCsS (g : gD) (cs : List Int) : gD := (g.1, g.2.1, g.2.2.1, g.2.2.2.1, g.2.2.2.2.1, g.2.2.2.2.2.1, some cs)
/-- behind a statement: the place, the graph so far, the vertices with a load -/
abbrev pS : Type := Nat × gD × Nat
abbrev pY : Type := pE ⊕ pS
def pTerS (t : tX) (q p : Nat) (g : gD) (L : Nat) : pY := if 5 ≤ pcn (gT g) then .inl (5, q) else match pNum t p 0 (gN g - 1) with
  | .inl e => .inl e
  | .inr a => if (gT g).testBit a.1 = true then .inl (4, a.2) else .inr (te t a.2, gOn g a.1, L)
def pEdS (t : tX) (q p : Nat) (g : gD) (L : Nat) : pY := if 20 ≤ gM g then .inl (5, q) else match pNum t p 0 (gN g - 1) with
  | .inl e => .inl e
  | .inr a => match pNum t (te t a.2) 0 (gN g - 1) with
    | .inl e => .inl e
    | .inr b => if a.1 = b.1 ∨ joins (gM g) (gLo g) (gHi g) a.1 b.1 = true then .inl (4, b.2) else match pNum t (te t b.2) 1 99 with
      | .inl e => .inl e
      | .inr c => .inr (te t c.2, gAdd g a.1 b.1 c.1, L)
def pLdS (t : tX) (p : Nat) (g : gD) (L : Nat) : pY := match pNum t p 0 (gN g - 1) with
  | .inl e => .inl e
  | .inr a => if L.testBit a.1 = true then .inl (4, a.2) else match pNum t (te t a.2) 0 99 with
    | .inl e => .inl e
    | .inr b => .inr (te t b.2, gLdS g a.1 b.1, L ||| 2 ^ a.1)
def pCoS (t : tX) (q p : Nat) (g : gD) (L : Nat) : pY := if (gCs g).isSome = true then .inl (2, q) else match pSum t 4 p [] with
  | .inl e => .inl e
  | .inr a => .inr (a.1, gCsS g a.2, L)
def pStm (t : tX) (p : Nat) (g : gD) (L : Nat) : pY :=
  if wIs t (sk t p) 1 = true then pTerS t (sk t p) (te t (sk t p)) g L
  else if wIs t (sk t p) 2 = true then pEdS t (sk t p) (te t (sk t p)) g L
  else if wIs t (sk t p) 3 = true then pLdS t (te t (sk t p)) g L
  else if wIs t (sk t p) 4 = true then pCoS t (sk t p) (te t (sk t p)) g L
  else .inl (2, sk t p)
/-- a statement and its sign -/
def pStS (t : tX) (p : Nat) (g : gD) (L : Nat) : pY := match pStm t p g L with
  | .inl e => .inl e
  | .inr s => match pSym t 59 s.1 with
    | .inl e => .inl e
    | .inr q => .inr (q, s.2)
def pStms (t : tX) : Nat → Nat → gD → Nat → pY
  | 0, p, g, L => .inr (p, g, L)
  | k + 1, p, g, L => if t.1 ≤ sk t p then .inr (p, g, L) else match pStS t p g L with
    | .inl e => .inl e
    | .inr s => pStms t k s.1 s.2.1 s.2.2
def pHead (t : tX) : pE ⊕ (Nat × Nat) := if wIs t (sk t 0) 0 = true then (match pNum t (te t (sk t 0)) 2 9 with
  | .inl e => .inl e
  | .inr a => match pSym t 59 (te t a.2) with
    | .inl e => .inl e
    | .inr p => .inr (a.1, p)) else .inl (2, sk t 0)
def pText (t : tX) : pY := match pHead t with
  | .inl e => .inl e
  | .inr a => pStms t t.1 a.2 (g0 a.1) 0
def gFin (g : gD) : gD := gL g (fun v => if (gT g).testBit v = true then nI v else -nI 1)
/-- what a graph read so far is like -/
def pwf (p : Nat) (g : gD) (L : Nat) : Prop := gwf g ∧ 2 ≤ gN g ∧ (∀ v, gLd g v ≤ 99) ∧ L < 2 ^ gN g ∧ 7 ≤ p ∧ ∀ cs, gCs g = some cs → cs.length + 11 ≤ p
theorem pNum_r {t : tX} {p lo hi : Nat} {a : Nat × Nat} (hp : p ≤ t.1) (h : pNum t p lo hi = .inr a) : a = (num t (sk t p), sk t p) ∧ dgAt t (sk t p) = true ∧ lo ≤ a.1 ∧ a.1 ≤ hi ∧ p ≤ a.2 ∧ a.2 < te t a.2 ∧ te t a.2 ≤ t.1 := by
  unfold pNum at h
  split at h
  · rename_i z
    split at h
    · rename_i y
      cases h
      exact ⟨rfl, z, y.1, y.2, sk_ge _ _, te_dg_gt z, te_len (sk_len hp)⟩
    · cases h
  · cases h
theorem pSym_r {t : tX} {p c q : Nat} (h : pSym t c p = .inr q) : isC t (sk t p) c = true ∧ q = sk t p + 1 ∧ p < q ∧ q ≤ t.1 := by
  unfold pSym at h
  split at h
  · rename_i z
    cases h
    have := isC_lt z
    have := sk_ge t p
    exact ⟨z, rfl, by omega, by omega⟩
  · cases h
theorem gwf_on {g : gD} (h : gwf g) {v : Nat} (hv : v < gN g) : gwf (gOn g v) := ⟨⟨h.1.1, h.1.2.1, Nat.or_lt_two_pow h.1.2.2 (Nat.pow_lt_pow_right (by decide) hv)⟩, h.2⟩
theorem gwf_add {g : gD} (h : gwf g) {u v w : Nat} (hu : u < gN g) (hv : v < gN g) (huv : u ≠ v) (hw : 1 ≤ w ∧ w ≤ 99) (hm : gM g < 20) : gwf (gAdd g u v w) := by
  obtain ⟨⟨h1, h2, h3⟩, h4, h5, h6, h7⟩ := h
  refine ⟨⟨h1, hm, h3⟩, fun e he => ?_, fun e he => ?_, h6, h7⟩
  · have he : e < gM g + 1 := he
    show setN (gLo g) (gM g) (Nat.min u v) e < setN (gHi g) (gM g) (Nat.max u v) e ∧ setN (gHi g) (gM g) (Nat.max u v) e < gN g
    unfold setN
    by_cases z : e = gM g
    · rw [if_pos z, if_pos z]
      show min u v < max u v ∧ max u v < gN g
      omega
    · rw [if_neg z, if_neg z]
      exact h4 e (by omega)
  · have he : e < gM g + 1 := he
    show 1 ≤ setN (gWt g) (gM g) w e ∧ setN (gWt g) (gM g) w e ≤ 99
    unfold setN
    by_cases z : e = gM g
    · rw [if_pos z]; exact hw
    · rw [if_neg z]
      exact h5 e (by omega)
theorem gwf_ld {g : gD} (h : gwf g) {v w : Nat} (hw : w ≤ 99) : gwf (gLdS g v w) := by
  obtain ⟨h1, h4, h5, h6, h7⟩ := h
  refine ⟨h1, h4, h5, fun k hk => ?_, h7⟩
  show setN (gLd g) v w k ≤ 99
  unfold setN
  split
  · exact hw
  · exact h6 k hk
theorem gwf_cs {g : gD} (h : gwf g) {cs : List Int} (h1 : foOk cs 0 1) (h2 : cs.length < 700) : gwf (gCsS g cs) := ⟨h.1, h.2.1, h.2.2.1, h.2.2.2.1, fun c e => by cases e; exact ⟨h1, h2⟩⟩
/-- the codes of a cost -/
theorem pSum_ok {t : tX} {p p' : Nat} {cs : List Int} (hp : p ≤ t.1) (h : pSum t 4 p [] = .inr (p', cs)) : p < p' ∧ p' ≤ t.1 ∧ foOk cs 0 1 ∧ cs.length ≤ p' - p := by
  obtain ⟨a, b, ds, c, d, e⟩ := pGood_sum t 4 (Nat.le_refl _) p [] p' cs hp h
  rw [List.nil_append] at c
  subst c
  have := e 0 [] 1 (Nat.zero_le _) rfl
  rw [List.append_nil] at this
  exact ⟨a, b, this, d⟩
theorem pStm_wf {t : tX} {p : Nat} {g : gD} {L : Nat} {s : pS} (hp : p ≤ t.1) (h7 : t.1 ≤ 700) (w : pwf p g L) (h : pStm t p g L = .inr s) : pwf s.1 s.2.1 s.2.2 ∧ p < s.1 ∧ s.1 ≤ t.1 := by
  obtain ⟨w1, w2, w3, w4, w5, w6⟩ := w
  have g1 := sk_ge t p
  have g2 := te_len (sk_len hp)
  unfold pStm at h
  split at h
  · rename_i z
    have e := wIs_te (by decide) z
    have : wLen 1 = 8 := by decide
    unfold pTerS at h
    split at h
    · cases h
    · split at h
      · cases h
      · rename_i a ha
        obtain ⟨r1, r2, r3, r4, r5, r6, r7⟩ := pNum_r g2 ha
        split at h
        · cases h
        · cases h
          refine ⟨⟨gwf_on w1 (by omega), w2, w3, w4, by omega, fun cs hc => ?_⟩, by omega, r7⟩
          have := w6 cs hc
          show cs.length + 11 ≤ te t a.2
          omega
  · split at h
    · rename_i z
      have e := wIs_te (by decide) z
      have : wLen 2 = 4 := by decide
      unfold pEdS at h
      split at h
      · cases h
      · split at h
        · cases h
        · rename_i a ha
          obtain ⟨r1, r2, r3, r4, r5, r6, r7⟩ := pNum_r g2 ha
          split at h
          · cases h
          · rename_i b hb
            obtain ⟨s1, s2, s3, s4, s5, s6, s7⟩ := pNum_r r7 hb
            split at h
            · cases h
            · rename_i hj
              split at h
              · cases h
              · rename_i c hc
                obtain ⟨u1, u2, u3, u4, u5, u6, u7⟩ := pNum_r s7 hc
                cases h
                refine ⟨⟨gwf_add w1 (by omega) (by omega) (fun q => hj (Or.inl q)) ⟨u3, u4⟩ (by omega), w2, w3, w4, by omega, fun cs hc => ?_⟩, by omega, u7⟩
                have := w6 cs hc
                show cs.length + 11 ≤ te t c.2
                omega
    · split at h
      · rename_i z
        have e := wIs_te (by decide) z
        have : wLen 3 = 4 := by decide
        unfold pLdS at h
        split at h
        · cases h
        · rename_i a ha
          obtain ⟨r1, r2, r3, r4, r5, r6, r7⟩ := pNum_r g2 ha
          split at h
          · cases h
          · split at h
            · cases h
            · rename_i b hb
              obtain ⟨s1, s2, s3, s4, s5, s6, s7⟩ := pNum_r r7 hb
              cases h
              refine ⟨⟨gwf_ld w1 s4, w2, fun v => ?_, Nat.or_lt_two_pow w4 (Nat.pow_lt_pow_right (by decide) (show a.1 < gN g by omega)), by omega, fun cs hc => ?_⟩, by omega, s7⟩
              · show setN (gLd g) a.1 b.1 v ≤ 99
                unfold setN
                split
                · exact s4
                · exact w3 v
              · have := w6 cs hc
                show cs.length + 11 ≤ te t b.2
                omega
      · split at h
        · rename_i z
          have e := wIs_te (by decide) z
          have : wLen 4 = 4 := by decide
          unfold pCoS at h
          split at h
          · cases h
          · split at h
            · cases h
            · rename_i a ha
              obtain ⟨r1, r2, r3, r4⟩ := pSum_ok g2 (p' := a.1) (cs := a.2) ha
              cases h
              refine ⟨⟨gwf_cs w1 r3 (by omega), w2, w3, w4, by omega, fun cs hc => ?_⟩, by omega, r2⟩
              cases hc
              show a.2.length + 11 ≤ a.1
              omega
        · cases h
theorem pStS_wf {t : tX} {p : Nat} {g : gD} {L : Nat} {s : pS} (hp : p ≤ t.1) (h7 : t.1 ≤ 700) (w : pwf p g L) (h : pStS t p g L = .inr s) : pwf s.1 s.2.1 s.2.2 ∧ p < s.1 ∧ s.1 ≤ t.1 := by
  unfold pStS at h
  split at h
  · cases h
  · rename_i s1 h1
    obtain ⟨⟨a1, a2, a3, a4, a5, a6⟩, b, c⟩ := pStm_wf hp h7 w h1
    split at h
    · cases h
    · rename_i q hq
      obtain ⟨q1, q2, q3, q4⟩ := pSym_r hq
      cases h
      refine ⟨⟨a1, a2, a3, a4, ?_, fun cs hc => ?_⟩, ?_, q4⟩
      · show 7 ≤ q
        omega
      · have := a6 cs hc
        show cs.length + 11 ≤ q
        omega
      · show p < q
        omega
theorem pStms_wf {t : tX} (h7 : t.1 ≤ 700) : ∀ n p g L s, p ≤ t.1 → pwf p g L → pStms t n p g L = .inr s → pwf s.1 s.2.1 s.2.2 ∧ s.1 ≤ t.1
  | 0, p, g, L, s, hp, w, h => by
    cases h
    exact ⟨w, hp⟩
  | n + 1, p, g, L, s, hp, w, h => by
    unfold pStms at h
    split at h
    · cases h
      exact ⟨w, hp⟩
    · split at h
      · cases h
      · rename_i s1 h1
        obtain ⟨a, b, c⟩ := pStS_wf hp h7 w h1
        exact pStms_wf h7 n _ _ _ _ c a h
theorem pwf_0 {n p : Nat} (h2 : 2 ≤ n) (h9 : n ≤ 9) (hp : 7 ≤ p) : pwf p (g0 n) 0 := ⟨⟨⟨h9, Nat.zero_le _, Nat.two_pow_pos _⟩, fun e he => absurd he (Nat.not_lt_zero _), fun e he => absurd he (Nat.not_lt_zero _), fun _ _ => Nat.zero_le _, fun cs h => by cases h⟩, h2, fun _ => Nat.zero_le _, Nat.two_pow_pos _, hp, fun cs h => by cases h⟩
theorem pHead_wf {t : tX} {a : Nat × Nat} (h : pHead t = .inr a) : pwf a.2 (g0 a.1) 0 ∧ a.2 ≤ t.1 := by
  unfold pHead at h
  split at h
  · rename_i z
    have e := wIs_te (by decide) z
    have : wLen 0 = 5 := by decide
    have g2 := te_len (sk_len (t := t) (Nat.zero_le _))
    split at h
    · cases h
    · rename_i b hb
      obtain ⟨r1, r2, r3, r4, r5, r6, r7⟩ := pNum_r g2 hb
      split at h
      · cases h
      · rename_i q hq
        obtain ⟨q1, q2, q3, q4⟩ := pSym_r hq
        cases h
        exact ⟨pwf_0 r3 r4 (by show 7 ≤ q; omega), q4⟩
  · cases h
def ncs (g : gD) : Nat := match gCs g with
  | none => 0
  | some cs => cs.length
theorem gwf_fin {g : gD} (h : gwf g) : gwf (gFin g) := h
theorem pText_wf {t : tX} (h7 : t.1 ≤ 700) {s : pS} (h : pText t = .inr s) : gwf (gFin s.2.1) ∧ ncs (gFin s.2.1) ≤ 690 := by
  unfold pText at h
  split at h
  · cases h
  · rename_i a ha
    obtain ⟨b, c⟩ := pHead_wf ha
    obtain ⟨⟨a1, a2, a3, a4, a5, a6⟩, hs⟩ := pStms_wf h7 _ _ _ _ _ c b h
    refine ⟨gwf_fin a1, ?_⟩
    show ncs (gFin s.2.1) ≤ 690
    unfold ncs
    rw [show gCs (gFin s.2.1) = gCs s.2.1 from rfl]
    cases e : gCs s.2.1 with
    | none => exact Nat.zero_le _
    | some cs =>
      have := a6 cs e
      show cs.length ≤ 690
      omega
end
section
/-! THE CLASS'S READER: statements -/
def rGr (h : am_H) (g : gD) : Prop := (am_i h 69 0 = nI (gN g) ∧ am_i h 69 1 = nI (gM g) ∧ am_i h 69 2 = nI (gT g)) ∧ (∀ e, e < gM g → am_i h 72 e = nI (gLo g e) ∧ am_i h 73 e = nI (gHi g e) ∧ am_i h 74 e = nI (gWt g e)) ∧ ∀ v, v < 9 → am_i h 70 v = nI (gLd g v)
def rZ0 (h : am_H) (g : gD) (L : Nat) : Prop := rGr h g ∧ am_i h 68 9 = nI L ∧ am_i h 68 10 = bI (gCs g).isSome
def rZ (h : am_H) (t : tX) (p : Nat) (g : gD) (L : Nat) : Prop := rSt h t p ∧ rZ0 h g L ∧ rCd h ((gCs g).getD []) ∧ ((gCs g).getD []).length ≤ 700
/-- what the reading of statements may change -/
abbrev rWX : List Nat := [68, 69, 70, 72, 73, 74, 77]
def rW (h h' : am_H) : Prop := sm rWX h h' ∧ am_i h' 68 4 = am_i h 68 4
theorem rW.rf {h : am_H} : rW h h := ⟨sm.rf, rfl⟩
theorem rW.tr {h h1 h2 : am_H} (s : rW h h1) (t : rW h1 h2) : rW h h2 := ⟨s.1.tr t.1, t.2.trans s.2⟩
theorem rF.w {h h' : am_H} (s : rF h h') : rW h h' := ⟨s.1.mo (fun x hx => by simp [rWX] at hx ⊢; omega), s.2 4 (Or.inl rfl)⟩
theorem rGr.mv {h h' : am_H} {g : gD} (r : rGr h g) (s : rF h h') : rGr h' g := by
  have I : ∀ a, 69 ≤ a → a ≤ 74 → ∀ k, am_i h' a k = am_i h a k := fun a h1 h2 k => s.1.i (fun z => by simp at z; omega) k
  exact ⟨⟨(I 69 (by decide) (by decide) _).trans r.1.1, (I 69 (by decide) (by decide) _).trans r.1.2.1, (I 69 (by decide) (by decide) _).trans r.1.2.2⟩, fun e he => ⟨(I 72 (by decide) (by decide) _).trans (r.2.1 e he).1, (I 73 (by decide) (by decide) _).trans (r.2.1 e he).2.1, (I 74 (by decide) (by decide) _).trans (r.2.1 e he).2.2⟩, fun v hv => (I 70 (by decide) (by decide) _).trans (r.2.2 v hv)⟩
theorem rZ0.mv {h h' : am_H} {g : gD} {L : Nat} (r : rZ0 h g L) (s : rF h h') : rZ0 h' g L := ⟨r.1.mv s, (s.2 9 (by decide)).trans r.2.1, (s.2 10 (by decide)).trans r.2.2⟩
theorem rGr.cg {h : am_H} {g : gD} (r : rGr h g) (hs : sh h) (w : gwf g) : cg h 69 (gN g) (gM g) (gT g) (gLo g) (gHi g) := ⟨gs_69 hs, r.1, fun e he => ⟨(r.2.1 e he).1, (r.2.1 e he).2.1⟩, w.1, w.2.1⟩
/-- a write to the graph read so far, the tokens being left alone -/
theorem rSt.mg {h h' : am_H} {t : tX} {p : Nat} {X : List Nat} (S : rSt h t p) (s : sm X h h') (h2 : 2 ∉ X) (f : ∀ j, 4 ≤ j → j ≤ 8 → am_i h' 68 j = am_i h 68 j) : rSt h' t p := ⟨s.sh S.1, S.2.1.mv s (f 4 (by decide) (by decide)) h2, S.2.2.1, S.2.2.2.mv fun j a b => f j (by omega) b⟩
theorem k69 {h : am_H} (hs : sh h) : am_k h (am_r h 68 0) = (1, 2) := by rw [sr_68_0 hs]; exact sk_69 hs
/-- an answer of a statement's reading -/
abbrev eY (h : am_H) (t : tX) (r : pY) (Q : am_Q) : Prop := (∀ e h', r = .inl e → rW h h' → rE h' e → Q (.inl (some (.int 0))) h') ∧ (∀ s h', r = .inr s → rW h h' → rZ h' t s.1 s.2.1 s.2.2 → Q (.inl (some (.int 1))) h')
section
variable {xs : am_X} {d : Nat} {h : am_H} {t : tX} {p : Nat} {g : gD} {L : Nat} {Q : am_Q}
theorem z_next (hd : 1 ≤ d) (Z : rZ h t p g L) {q : Nat} (hq : te t (sk t p) = q) (HQ : ∀ h', rW h h' → rZ h' t q g L → Q (.inl none) h') : am_C xs am_P0 d m_Rd_advance [.ref 68] h Q :=
  c_next hd Z.1 hq (fun h' a b m c => HQ h' a.w ⟨b, Z.2.1.mv a, Z.2.2.1.mv m c, Z.2.2.2⟩)
theorem z_fail (hd : 1 ≤ d) (Z : rZ h t p g L) (k : Nat) (HQ : ∀ h', rW h h' → rE h' (k, sk t p) → Q (.inl (some (.int 0))) h') : am_C xs am_P0 d m_Rd_fail [.ref 68, .int (-nI k)] h Q :=
  c_fail hd Z.1 Z.2.2.2 Z.2.2.1.1 k (fun h' a b => HQ h' a.w b)
theorem z_number (hd : 2 ≤ d) (Z : rZ h t p g L) {lo hi : Nat} (h9 : hi ≤ 9999) (hlo : lo ≤ 9999)
    (H0 : ∀ e h', pNum t p lo hi = .inl e → rW h h' → rE h' e → Q (.inl (some (.int (-nI 1)))) h') (H1 : ∀ a, pNum t p lo hi = .inr a → a.2 = sk t p → Q (.inl (some (.int (nI a.1)))) h) : am_C xs am_P0 d m_Rd_numberHere [.ref 68, .int (nI lo), .int (nI hi)] h Q :=
  c_numberHere hd Z.1 Z.2.2.2 Z.2.2.1.1 h9 hlo (fun e h' r a b => H0 e h' r a.w b) (fun r _ _ _ => H1 _ r rfl)
set_option maxHeartbeats 4000000 in
theorem z_vertex (hd : 3 ≤ d) (Z : rZ h t p g L) (w1 : 1 ≤ gN g) (w9 : gN g ≤ 9)
    (H0 : ∀ e h', pNum t p 0 (gN g - 1) = .inl e → rW h h' → rE h' e → Q (.inl (some (.int (-nI 1)))) h') (H1 : ∀ a, pNum t p 0 (gN g - 1) = .inr a → a.2 = sk t p → Q (.inl (some (.int (nI a.1)))) h) : am_C xs am_P0 d m_Rd_vertexHere [.ref 68] h Q := by
  have hs := Z.1.1
  have e0 : am_i h (am_r h 68 0) 0 - nI 1 = nI (gN g - 1) := by
    rw [sr_68_0 hs, Z.2.1.1.1.1]
    have := nI_pred (gN g - 1)
    rw [show gN g - 1 + 1 = gN g by omega] at this
    exact this
  refine am_C_le hd (am_enter (d := 2) ap_Rd_vertexHere rfl ?_) (fun _ _ k => k)
  refine am_go (fun _ => false) (fun K cal Q' hK hC hQ => ?_)
  refine And.intro (sk_68 hs) (And.intro (k69 hs) (And.intro (sk_68 hs) ?_))
  show cal m_Rd_numberHere [.ref 68, .int (nI 0), .int (am_i h (am_r h 68 0) 0 - nI 1)] h _
  rw [e0]
  exact hC _ _ _ _ (z_number (by decide) Z (by omega) (by decide) (fun e h' r a b => And.intro trivial (hQ _ _ (H0 e h' r a b))) (fun a r b => And.intro trivial (hQ _ _ (H1 a r b))))
theorem neg1_lt : ¬ (0 : Int32) ≤ -nI 1 := by decide
theorem nI_ge0 {k : Nat} (h : k < 100000) : (0 : Int32) ≤ nI k := nI_pos' (by omega)
set_option maxHeartbeats 8000000 in
theorem z_readTerminal (hd : 4 ≤ d) (Z : rZ h t p g L) (w : pwf p g L) (HQ : eY h t (pTerS t (sk t p) (te t (sk t p)) g L) Q) : am_C xs am_P0 d m_Rd_readTerminal [.ref 68] h Q := by
  have hs := Z.1.1
  have wf := w.1
  have hn := wf.1.1
  have hT9 : gT g < 512 := Nat.lt_of_lt_of_le wf.1.2.2 (Nat.pow_le_pow_right (by decide) hn : 2 ^ gN g ≤ 2 ^ 9)
  have p9 := pcn_le (gT g)
  unfold pTerS at HQ
  unfold eY at HQ
  have e2 : am_i h (am_r h 68 0) 2 = nI (gT g) := by rw [sr_68_0 hs]; exact Z.2.1.1.1.2.2
  refine am_C_le hd (am_enter (d := 3) ap_Rd_readTerminal rfl ?_) (fun _ _ k => k)
  refine am_go (fun p => p == 21) (fun K cal Q' hK hC hQ => ?_)
  refine And.intro (sk_68 hs) (And.intro (k69 hs) (And.intro trivial ?_))
  show cal m_JI_bitCount [.int (am_i h (am_r h 68 0) 2)] h _
  rw [e2]
  refine hC _ _ _ _ (c_bitCount (by decide) hT9 ?_)
  refine And.intro (fun z => hK _ _ _ _ ?_) (fun z => ?_)
  rotate_left
  · have z : ¬ nI (pcn (gT g)) < nI 5 := z
    rw [if_pos (Nat.not_lt.mp fun q => z (nI_lt q (by omega)))] at HQ
    exact And.intro (sk_68 hs) (hC _ _ _ _ (z_fail (by decide) Z 5 (fun h' a b => And.intro (Or.inl rfl) (hQ _ _ (HQ.1 _ h' rfl a b)))))
  have z : nI (pcn (gT g)) < nI 5 := z
  have z := (nI_ltI (by omega) (by decide)).mp z
  rw [if_neg (by omega)] at HQ
  refine am_go (fun _ => false) (fun K cal Q' hK hC hQ => ?_)
  refine And.intro (sk_68 hs) (hC _ _ _ _ (z_next (by decide) Z rfl (fun h1 r1 Z1 => ?_)))
  have hs1 := Z1.1.1
  refine And.intro (sk_68 hs1) (hC _ _ _ _ (z_vertex (by decide) Z1 (by have := w.2.1; omega) hn (fun e h2 hr r2 E2 => ?_) (fun a hr ha => ?_)))
  · rw [hr] at HQ
    exact And.intro (fun y => absurd y neg1_lt) (fun _ => And.intro (Or.inl rfl) (hQ _ _ (HQ.1 e h2 rfl (r1.tr r2) E2)))
  · obtain ⟨b1, b2, b3, b4, b5, b6, b7⟩ := pNum_r (te_len (sk_len Z.1.2.2.1)) hr
    rw [hr] at HQ
    dsimp only at HQ
    have av : a.1 < gN g := by have := w.2.1; omega
    refine And.intro (fun _ => ?_) (fun y => absurd (nI_ge0 (by omega)) y)
    refine And.intro (sk_68 hs1) (And.intro (k69 hs1) ?_)
    show cal m_Gr_isTerminal [.ref (am_r h1 68 0), .int (nI a.1)] h1 _
    rw [sr_68_0 hs1]
    refine hC _ _ _ _ (c_isTerminal (by decide) (Z1.2.1.1.cg hs1 wf) (nI a.1) ?_)
    rw [isT_nI av (by omega)]
    cases e : (gT g).testBit a.1 with
    | true =>
      rw [if_pos e] at HQ
      refine And.intro (fun y => absurd y q_t1) (fun _ => ?_)
      exact And.intro (sk_68 hs1) (hC _ _ _ _ (z_fail (by decide) Z1 4 (fun h' r' b => And.intro (Or.inl rfl) (hQ _ _ (HQ.1 _ h' (by rw [ha]) (r1.tr r') b)))))
    | false =>
      rw [if_neg (by rw [e]; decide)] at HQ
      refine And.intro (fun _ => ?_) (fun y => absurd rfl y)
      refine And.intro (sk_68 hs1) (And.intro (k69 hs1) (And.intro (k69 hs1) ?_))
      have e9 : am_pi h1 (am_r h1 68 0) (130 % 64) (am_i h1 (am_r h1 68 0) (130 % 64) ||| (nI 1 <<< (nI a.1 &&& 31))) = am_pi h1 69 2 (nI (gT g ||| 2 ^ a.1)) := by
        rw [sr_68_0 hs1, show am_i h1 69 (130 % 64) = nI (gT g) from Z1.2.1.1.1.2.2, q_orb (by omega)]
      rw [e9]
      have s2 : sm [69] h1 (am_pi h1 69 2 (nI (gT g ||| 2 ^ a.1))) := sm.rf.pi (by decide)
      have f2 : ∀ k, am_i (am_pi h1 69 2 (nI (gT g ||| 2 ^ a.1))) 69 k = if k = 2 then nI (gT g ||| 2 ^ a.1) else am_i h1 69 k := fun k => i_pi_same _ _ _ _ _
      generalize am_pi h1 69 2 (nI (gT g ||| 2 ^ a.1)) = h2 at s2 f2
      have N : ∀ x, x ≠ 69 → ∀ k, am_i h2 x k = am_i h1 x k := fun x hx k => s2.i (fun z => hx (List.mem_singleton.mp z)) k
      obtain ⟨y1, ⟨⟨⟨y2, y3, y4⟩, y5, y6⟩, y7, y8⟩, y9, y10⟩ := id Z1
      have Z2 : rZ h2 t (te t (sk t p)) (gOn g a.1) L := ⟨y1.mg s2 (by decide) (fun j _ _ => N 68 (by decide) j), ⟨⟨⟨(f2 0).trans y2, (f2 1).trans y3, f2 2⟩, fun e he => ⟨(N 72 (by decide) e).trans (y5 e he).1, (N 73 (by decide) e).trans (y5 e he).2.1, (N 74 (by decide) e).trans (y5 e he).2.2⟩, fun v hv => (N 70 (by decide) v).trans (y6 v hv)⟩, (N 68 (by decide) 9).trans y7, (N 68 (by decide) 10).trans y8⟩, ⟨(N 68 (by decide) 12).trans y9.1, fun k hk => by rw [N 77 (by decide)]; exact y9.2 k hk⟩, y10⟩
      have r2 : rW h1 h2 := ⟨s2.mo (by decide), N 68 (by decide) 4⟩
      refine And.intro (sk_68 Z2.1.1) (hC _ _ _ _ (z_next (by decide) Z2 rfl (fun h3 r3 Z3 => And.intro (Or.inr rfl) (hQ _ _ (HQ.2 _ h3 rfl ((r1.tr r2).tr r3) ?_)))))
      rw [ha]
      exact Z3
set_option maxHeartbeats 8000000 in
theorem z_readLoad (hd : 4 ≤ d) (Z : rZ h t p g L) (w : pwf p g L) (HQ : eY h t (pLdS t (te t (sk t p)) g L) Q) : am_C xs am_P0 d m_Rd_readLoad [.ref 68] h Q := by
  have hs := Z.1.1
  have wf := w.1
  have hn := wf.1.1
  have hL : L < 2 ^ 31 := Nat.lt_of_lt_of_le w.2.2.2.1 (Nat.pow_le_pow_right (by decide) (by omega))
  unfold pLdS at HQ
  unfold eY at HQ
  refine am_C_le hd (am_enter (d := 3) ap_Rd_readLoad rfl ?_) (fun _ _ k => k)
  refine am_go (fun _ => false) (fun K cal Q' hK hC hQ => ?_)
  refine And.intro (sk_68 hs) (hC _ _ _ _ (z_next (by decide) Z rfl (fun h1 r1 Z1 => ?_)))
  have hs1 := Z1.1.1
  refine And.intro (sk_68 hs1) (hC _ _ _ _ (z_vertex (by decide) Z1 (by have := w.2.1; omega) hn (fun e h2 hr r2 E2 => ?_) (fun a hr ha => ?_)))
  · rw [hr] at HQ
    exact And.intro (fun y => absurd y neg1_lt) (fun _ => And.intro (Or.inl rfl) (hQ _ _ (HQ.1 e h2 rfl (r1.tr r2) E2)))
  obtain ⟨b1, b2, b3, b4, b5, b6, b7⟩ := pNum_r (te_len (sk_len Z.1.2.2.1)) hr
  rw [hr] at HQ
  dsimp only at HQ
  have av : a.1 < gN g := by have := w.2.1; omega
  refine And.intro (fun _ => ?_) (fun y => absurd (nI_ge0 (by omega)) y)
  refine And.intro (sk_68 hs1) ?_
  have e9 : (am_i h1 68 9 >>> (nI a.1 &&& 31)) &&& 1 = bI (L.testBit a.1) := by rw [Z1.2.1.2.1]; exact q_bit hL (by omega)
  cases e : L.testBit a.1 with
  | true =>
    rw [if_pos e] at HQ
    rw [e] at e9
    refine And.intro (fun y => absurd (e9.symm.trans y) q_t1) (fun _ => ?_)
    exact And.intro (sk_68 hs1) (hC _ _ _ _ (z_fail (by decide) Z1 4 (fun h' r' b => And.intro (Or.inl rfl) (hQ _ _ (HQ.1 _ h' (by rw [ha]) (r1.tr r') b)))))
  | false =>
    rw [if_neg (by rw [e]; decide)] at HQ
    rw [e] at e9
    refine And.intro (fun _ => ?_) (fun y => absurd e9 y)
    refine And.intro (sk_68 hs1) (And.intro (sk_68 hs1) ?_)
    have e8 : am_pi h1 68 (457 % 64) (am_i h1 68 (457 % 64) ||| (nI 1 <<< (nI a.1 &&& 31))) = am_pi h1 68 9 (nI (L ||| 2 ^ a.1)) := by rw [show am_i h1 68 (457 % 64) = nI L from Z1.2.1.2.1, q_orb (by omega)]
    rw [e8]
    have s2 : sm [68] h1 (am_pi h1 68 9 (nI (L ||| 2 ^ a.1))) := sm.rf.pi (by decide)
    have f2 : ∀ k, am_i (am_pi h1 68 9 (nI (L ||| 2 ^ a.1))) 68 k = if k = 9 then nI (L ||| 2 ^ a.1) else am_i h1 68 k := fun k => i_pi_same _ _ _ _ _
    generalize am_pi h1 68 9 (nI (L ||| 2 ^ a.1)) = h2 at s2 f2
    have N : ∀ x, x ≠ 68 → ∀ k, am_i h2 x k = am_i h1 x k := fun x hx k => s2.i (fun z => hx (List.mem_singleton.mp z)) k
    have Z2 : rZ h2 t (te t (sk t p)) g (L ||| 2 ^ a.1) := by
      obtain ⟨y1, ⟨⟨⟨y2, y3, y4⟩, y5, y6⟩, y7, y8⟩, y9, y10⟩ := id Z1
      exact ⟨y1.mg s2 (by decide) (fun j _ _ => by rw [f2, if_neg (by omega)]), ⟨⟨⟨(N 69 (by decide) 0).trans y2, (N 69 (by decide) 1).trans y3, (N 69 (by decide) 2).trans y4⟩, fun e he => ⟨(N 72 (by decide) e).trans (y5 e he).1, (N 73 (by decide) e).trans (y5 e he).2.1, (N 74 (by decide) e).trans (y5 e he).2.2⟩, fun v hv => (N 70 (by decide) v).trans (y6 v hv)⟩, f2 9, (f2 10).trans y8⟩, ⟨(f2 12).trans y9.1, fun k hk => by rw [N 77 (by decide)]; exact y9.2 k hk⟩, y10⟩
    have r2 : rW h1 h2 := ⟨s2.mo (by decide), (f2 4)⟩
    refine And.intro (sk_68 Z2.1.1) (hC _ _ _ _ (z_next (by decide) Z2 rfl (fun h3 r3 Z3 => ?_)))
    rw [← ha] at Z3
    have hs3 := Z3.1.1
    have r03 := (r1.tr r2).tr r3
    refine And.intro (sk_68 hs3) (hC _ _ _ _ (z_number (lo := 0) (hi := 99) (by decide) Z3 (by decide) (by decide) (fun e h4 hr4 r4 E4 => ?_) (fun b hr4 hb => ?_)))
    · rw [hr4] at HQ
      exact And.intro (fun y => absurd y neg1_lt) (fun _ => And.intro (Or.inl rfl) (hQ _ _ (HQ.1 e h4 rfl (r03.tr r4) E4)))
    obtain ⟨c1, c2, c3, c4, c5, c6, c7⟩ := pNum_r b7 hr4
    rw [hr4] at HQ
    dsimp only at HQ
    refine And.intro (fun _ => ?_) (fun y => absurd (nI_ge0 (by omega)) y)
    have R3 : am_r h3 (am_r h3 68 0) 3 = 70 := by rw [sr_68_0 hs3]; exact sr_69_3 hs3
    refine And.intro (sk_68 hs3) (And.intro (k69 hs3) (And.intro (ck_row R3 (sk_70 hs3) rfl (by omega) (by decide)) ?_))
    have e7 : am_pi h3 (am_r h3 (am_r h3 68 0) (131 % 64)) (nI a.1).toNatClampNeg (nI b.1) = am_pi h3 70 a.1 (nI b.1) := by rw [show am_r h3 (am_r h3 68 0) (131 % 64) = 70 from R3, q_cl (by omega)]
    rw [e7]
    have s4 : sm [70] h3 (am_pi h3 70 a.1 (nI b.1)) := sm.rf.pi (by decide)
    have f4 : ∀ k, am_i (am_pi h3 70 a.1 (nI b.1)) 70 k = if k = a.1 then nI b.1 else am_i h3 70 k := fun k => i_pi_same _ _ _ _ _
    generalize am_pi h3 70 a.1 (nI b.1) = h4 at s4 f4
    have N : ∀ x, x ≠ 70 → ∀ k, am_i h4 x k = am_i h3 x k := fun x hx k => s4.i (fun z => hx (List.mem_singleton.mp z)) k
    have Z4 : rZ h4 t (te t a.2) (gLdS g a.1 b.1) (L ||| 2 ^ a.1) := by
      obtain ⟨y1, ⟨⟨⟨y2, y3, y4⟩, y5, y6⟩, y7, y8⟩, y9, y10⟩ := id Z3
      refine ⟨y1.mg s4 (by decide) (fun j _ _ => N 68 (by decide) j), ⟨⟨⟨(N 69 (by decide) 0).trans y2, (N 69 (by decide) 1).trans y3, (N 69 (by decide) 2).trans y4⟩, fun e he => ⟨(N 72 (by decide) e).trans (y5 e he).1, (N 73 (by decide) e).trans (y5 e he).2.1, (N 74 (by decide) e).trans (y5 e he).2.2⟩, fun v hv => ?_⟩, (N 68 (by decide) 9).trans y7, (N 68 (by decide) 10).trans y8⟩, ⟨(N 68 (by decide) 12).trans y9.1, fun k hk => by rw [N 77 (by decide)]; exact y9.2 k hk⟩, y10⟩
      rw [f4]
      show _ = nI (setN (gLd g) a.1 b.1 v)
      unfold setN
      by_cases z : v = a.1
      · rw [if_pos z, if_pos z]
      · rw [if_neg z, if_neg z]; exact y6 v hv
    have r4 : rW h3 h4 := ⟨s4.mo (by decide), N 68 (by decide) 4⟩
    refine And.intro (sk_68 Z4.1.1) (hC _ _ _ _ (z_next (by decide) Z4 rfl (fun h5 r5 Z5 => And.intro (Or.inr rfl) (hQ _ _ (HQ.2 _ h5 rfl ((r03.tr r4).tr r5) ?_)))))
    rw [hb]
    exact Z5
set_option maxHeartbeats 8000000 in
theorem z_readEdge (hd : 4 ≤ d) (Z : rZ h t p g L) (w : pwf p g L) (HQ : eY h t (pEdS t (sk t p) (te t (sk t p)) g L) Q) : am_C xs am_P0 d m_Rd_readEdge [.ref 68] h Q := by
  have hs := Z.1.1
  have wf := w.1
  have hn := wf.1.1
  have hm := wf.1.2.1
  unfold pEdS at HQ
  unfold eY at HQ
  have e1 : am_i h (am_r h 68 0) 1 = nI (gM g) := by rw [sr_68_0 hs]; exact Z.2.1.1.1.2.1
  refine am_C_le hd (am_enter (d := 3) ap_Rd_readEdge rfl ?_) (fun _ _ k => k)
  refine am_go (fun p => p == 19) (fun K cal Q' hK hC hQ => ?_)
  refine And.intro (sk_68 hs) (And.intro (k69 hs) (And.intro (fun z => hK _ _ _ _ ?_) (fun z => ?_)))
  rotate_left
  · have z : ¬ am_i h (am_r h 68 0) 1 < nI 20 := z
    rw [e1] at z
    rw [if_pos (Nat.not_lt.mp fun q => z (nI_lt q (by omega)))] at HQ
    exact And.intro (sk_68 hs) (hC _ _ _ _ (z_fail (by decide) Z 5 (fun h' a b => And.intro (Or.inl rfl) (hQ _ _ (HQ.1 _ h' rfl a b)))))
  have z : am_i h (am_r h 68 0) 1 < nI 20 := z
  rw [e1] at z
  have hm20 := (nI_ltI (by omega) (by decide)).mp z
  rw [if_neg (by omega)] at HQ
  refine am_go (fun p => p == 34) (fun K cal Q' hK hC hQ => ?_)
  refine And.intro (sk_68 hs) (hC _ _ _ _ (z_next (by decide) Z rfl (fun h1 r1 Z1 => ?_)))
  have hs1 := Z1.1.1
  refine And.intro (sk_68 hs1) (hC _ _ _ _ (z_vertex (by decide) Z1 (by have := w.2.1; omega) hn (fun e h2 hr r2 E2 => ?_) (fun a hr ha => ?_)))
  · rw [hr] at HQ
    exact And.intro (fun y => absurd y neg1_lt) (fun _ => And.intro (Or.inl rfl) (hQ _ _ (HQ.1 e h2 rfl (r1.tr r2) E2)))
  obtain ⟨b1, b2, b3, b4, b5, b6, b7⟩ := pNum_r (te_len (sk_len Z.1.2.2.1)) hr
  rw [hr] at HQ
  dsimp only at HQ
  have av : a.1 < gN g := by have := w.2.1; omega
  refine And.intro (fun _ => hK _ _ _ _ ?_) (fun y => absurd (nI_ge0 (by omega)) y)
  show am_W xs (am_code at_Rd_readEdge) (am_hd ah_Rd_readEdge) (am_C xs am_P0 3) Q 34 [.ref 68, .int (nI a.1), am_J, am_J] [] h1
  refine am_go (fun p => p == 49) (fun K cal Q' hK hC hQ => ?_)
  refine And.intro (sk_68 hs1) (hC _ _ _ _ (z_next (by decide) Z1 rfl (fun h2 r2 Z2 => ?_)))
  rw [← ha] at Z2
  have hs2 := Z2.1.1
  refine And.intro (sk_68 hs2) (hC _ _ _ _ (z_vertex (by decide) Z2 (by have := w.2.1; omega) hn (fun e h3 hr3 r3 E3 => ?_) (fun b hr3 hb => ?_)))
  · rw [hr3] at HQ
    exact And.intro (fun y => absurd y neg1_lt) (fun _ => And.intro (Or.inl rfl) (hQ _ _ (HQ.1 e h3 rfl ((r1.tr r2).tr r3) E3)))
  obtain ⟨c1, c2, c3, c4, c5, c6, c7⟩ := pNum_r b7 hr3
  rw [hr3] at HQ
  dsimp only at HQ
  have bv : b.1 < gN g := by have := w.2.1; omega
  refine And.intro (fun _ => hK _ _ _ _ ?_) (fun y => absurd (nI_ge0 (by omega)) y)
  show am_W xs (am_code at_Rd_readEdge) (am_hd ah_Rd_readEdge) (am_C xs am_P0 3) Q 49 [.ref 68, .int (nI a.1), .int (nI b.1), am_J] [] h2
  have r02 := r1.tr r2
  have again : (a.1 = b.1 ∨ joins (gM g) (gLo g) (gHi g) a.1 b.1 = true) → am_W xs (am_code at_Rd_readEdge) (am_hd ah_Rd_readEdge) (am_C xs am_P0 3) Q 66 [.ref 68, .int (nI a.1), .int (nI b.1), am_J] [] h2 := by
    intro yes
    rw [if_pos yes] at HQ
    refine am_go (fun _ => false) (fun K cal Q' hK hC hQ => ?_)
    exact And.intro (sk_68 hs2) (hC _ _ _ _ (z_fail (by decide) Z2 4 (fun h' r' E => And.intro (Or.inl rfl) (hQ _ _ (HQ.1 _ h' (by rw [hb]) (r02.tr r') E)))))
  have go : ¬ (a.1 = b.1 ∨ joins (gM g) (gLo g) (gHi g) a.1 b.1 = true) → am_W xs (am_code at_Rd_readEdge) (am_hd ah_Rd_readEdge) (am_C xs am_P0 3) Q 73 [.ref 68, .int (nI a.1), .int (nI b.1), am_J] [] h2 := by
    intro no
    rw [if_neg no] at HQ
    refine am_go (fun p => p == 91) (fun K cal Q' hK hC hQ => ?_)
    refine And.intro (sk_68 hs2) (hC _ _ _ _ (z_next (by decide) Z2 rfl (fun h3 r3 Z3 => ?_)))
    rw [← hb] at Z3
    have hs3 := Z3.1.1
    refine And.intro (sk_68 hs3) (hC _ _ _ _ (z_number (lo := 1) (hi := 99) (by decide) Z3 (by decide) (by decide) (fun e h4 hr4 r4 E4 => ?_) (fun c hr4 hc => ?_)))
    · rw [hr4] at HQ
      exact And.intro (fun y => absurd y neg1_lt) (fun _ => And.intro (Or.inl rfl) (hQ _ _ (HQ.1 e h4 rfl ((r02.tr r3).tr r4) E4)))
    obtain ⟨d1, d2, d3, d4, d5, d6, d7⟩ := pNum_r c7 hr4
    rw [hr4] at HQ
    dsimp only at HQ
    refine And.intro (fun _ => hK _ _ _ _ ?_) (fun y => absurd (nI_ge0 (by omega)) y)
    show am_W xs (am_code at_Rd_readEdge) (am_hd ah_Rd_readEdge) (am_C xs am_P0 3) Q 91 [.ref 68, .int (nI a.1), .int (nI b.1), .int (nI c.1)] [] h3
    refine am_go (fun _ => false) (fun K cal Q' hK hC hQ => ?_)
    refine And.intro (sk_68 hs3) (And.intro (k69 hs3) ?_)
    show cal m_Gr_putEdge [.ref (am_r h3 68 0), .int (nI a.1), .int (nI b.1), .int (nI c.1)] h3 _
    rw [sr_68_0 hs3]
    refine hC _ _ _ _ (c_putEdge (by decide) (gs_69 hs3) Z3.2.1.1.1.2.1 hm20 (by omega) (by omega) (fun h4 s4 f1 f3 f4 f5 => ?_))
    have N : ∀ x, (x ≠ 69 ∧ x ≠ 72 ∧ x ≠ 73 ∧ x ≠ 74) → ∀ k, am_i h4 x k = am_i h3 x k := fun x hx k => s4.i (fun z => by simp at z; omega) k
    have Z4 : rZ h4 t (te t b.2) (gAdd g a.1 b.1 c.1) L := by
      obtain ⟨y1, ⟨⟨⟨y2, y3, y4⟩, y5, y6⟩, y7, y8⟩, y9, y10⟩ := id Z3
      refine ⟨y1.mg s4 (by decide) (fun j _ _ => N 68 (by decide) j), ⟨⟨⟨(f1 0).trans y2, f1 1, (f1 2).trans y4⟩, fun e he => ?_, fun v hv => (N 70 (by decide) v).trans (y6 v hv)⟩, (N 68 (by decide) 9).trans y7, (N 68 (by decide) 10).trans y8⟩, ⟨(N 68 (by decide) 12).trans y9.1, fun k hk => by rw [N 77 (by decide)]; exact y9.2 k hk⟩, y10⟩
      have he : e < gM g + 1 := he
      refine ⟨(f3 e).trans ?_, (f4 e).trans ?_, (f5 e).trans ?_⟩
      · show _ = nI (setN (gLo g) (gM g) (Nat.min a.1 b.1) e)
        unfold setN
        by_cases z : e = gM g
        · rw [if_pos z, if_pos z]
        · rw [if_neg z, if_neg z]; exact (y5 e (by omega)).1
      · show _ = nI (setN (gHi g) (gM g) (Nat.max a.1 b.1) e)
        unfold setN
        by_cases z : e = gM g
        · rw [if_pos z, if_pos z]
        · rw [if_neg z, if_neg z]; exact (y5 e (by omega)).2.1
      · show _ = nI (setN (gWt g) (gM g) c.1 e)
        unfold setN
        by_cases z : e = gM g
        · rw [if_pos z, if_pos z]
        · rw [if_neg z, if_neg z]; exact (y5 e (by omega)).2.2
    have r4 : rW h3 h4 := ⟨s4.mo (fun x hx => by simp [rWX] at hx ⊢; omega), N 68 (by decide) 4⟩
    refine And.intro (sk_68 Z4.1.1) (hC _ _ _ _ (z_next (by decide) Z4 rfl (fun h5 r5 Z5 => And.intro (Or.inr rfl) (hQ _ _ (HQ.2 _ h5 rfl (((r02.tr r3).tr r4).tr r5) ?_)))))
    rw [hc]
    exact Z5
  refine am_go (fun p => p == 66 || p == 73) (fun K cal Q' hK hC hQ => ?_)
  refine And.intro (fun y => hK _ _ _ _ (again (Or.inl ((nI_eq (by omega) (by omega)).mp y)))) (fun y => ?_)
  have y : ¬ a.1 = b.1 := fun q => y (by rw [q]; rfl)
  refine And.intro (sk_68 hs2) (And.intro (k69 hs2) ?_)
  show cal m_Gr_hasEdgeBetween [.ref (am_r h2 68 0), .int (nI a.1), .int (nI b.1)] h2 _
  rw [sr_68_0 hs2]
  refine hC _ _ _ _ (c_hasEdgeBetween (by decide) (Z2.2.1.1.cg hs2 wf) (by omega) (by omega) y ?_)
  cases e : joins (gM g) (gLo g) (gHi g) a.1 b.1 with
  | true => exact And.intro (fun y => absurd y q_t1) (fun _ => hK _ _ _ _ (again (Or.inr e)))
  | false => exact And.intro (fun _ => hK _ _ _ _ (go (by rw [e]; rintro (q | q); exact y q; cases q))) (fun y => absurd rfl y)
set_option maxHeartbeats 8000000 in
theorem z_readStatement (hd : 18 ≤ d) (Z : rZ h t p g L) (w : pwf p g L) (HQ : eY h t (pStm t p g L) Q) : am_C xs am_P0 d m_Rd_readStatement [.ref 68] h Q := by
  have hs := Z.1.1
  unfold pStm at HQ
  refine am_C_le hd (am_enter (d := 17) ap_Rd_readStatement rfl ?_) (fun _ _ k => k)
  refine am_go (fun p => p == 14) (fun K cal Q' hK hC hQ => ?_)
  refine And.intro (sk_68 hs) (hC _ _ _ _ (c_isWord (s := 1) (by decide) Z.1 (by decide) ?_))
  cases e1 : wIs t (sk t p) 1 with
  | true =>
    rw [if_pos e1] at HQ
    refine And.intro (fun y => absurd y q_t1) (fun _ => ?_)
    exact And.intro (sk_68 hs) (hC _ _ _ _ (z_readTerminal (by decide) Z w ⟨fun e h' a b c => And.intro (Or.inl rfl) (hQ _ _ (HQ.1 e h' a b c)), fun s h' a b c => And.intro (Or.inr rfl) (hQ _ _ (HQ.2 s h' a b c))⟩))
  | false =>
  rw [if_neg (by rw [e1]; decide)] at HQ
  refine And.intro (fun _ => hK _ _ _ _ ?_) (fun y => absurd rfl y)
  refine am_go (fun p => p == 28) (fun K cal Q' hK hC hQ => ?_)
  refine And.intro (sk_68 hs) (hC _ _ _ _ (c_isWord (s := 2) (by decide) Z.1 (by decide) ?_))
  cases e2 : wIs t (sk t p) 2 with
  | true =>
    rw [if_pos e2] at HQ
    refine And.intro (fun y => absurd y q_t1) (fun _ => ?_)
    exact And.intro (sk_68 hs) (hC _ _ _ _ (z_readEdge (by decide) Z w ⟨fun e h' a b c => And.intro (Or.inl rfl) (hQ _ _ (HQ.1 e h' a b c)), fun s h' a b c => And.intro (Or.inr rfl) (hQ _ _ (HQ.2 s h' a b c))⟩))
  | false =>
  rw [if_neg (by rw [e2]; decide)] at HQ
  refine And.intro (fun _ => hK _ _ _ _ ?_) (fun y => absurd rfl y)
  refine am_go (fun p => p == 42) (fun K cal Q' hK hC hQ => ?_)
  refine And.intro (sk_68 hs) (hC _ _ _ _ (c_isWord (s := 3) (by decide) Z.1 (by decide) ?_))
  cases e3 : wIs t (sk t p) 3 with
  | true =>
    rw [if_pos e3] at HQ
    refine And.intro (fun y => absurd y q_t1) (fun _ => ?_)
    exact And.intro (sk_68 hs) (hC _ _ _ _ (z_readLoad (by decide) Z w ⟨fun e h' a b c => And.intro (Or.inl rfl) (hQ _ _ (HQ.1 e h' a b c)), fun s h' a b c => And.intro (Or.inr rfl) (hQ _ _ (HQ.2 s h' a b c))⟩))
  | false =>
  rw [if_neg (by rw [e3]; decide)] at HQ
  refine And.intro (fun _ => hK _ _ _ _ ?_) (fun y => absurd rfl y)
  refine am_go (fun p => p == 72) (fun K cal Q' hK hC hQ => ?_)
  refine And.intro (sk_68 hs) (hC _ _ _ _ (c_isWord (s := 4) (by decide) Z.1 (by decide) ?_))
  cases e4 : wIs t (sk t p) 4 with
  | false =>
    rw [if_neg (by rw [e4]; decide)] at HQ
    refine And.intro (fun _ => hK _ _ _ _ ?_) (fun y => absurd rfl y)
    refine am_go (fun _ => false) (fun K cal Q' hK hC hQ => ?_)
    exact And.intro (sk_68 hs) (hC _ _ _ _ (z_fail (by decide) Z 2 (fun h' a b => And.intro (Or.inl rfl) (hQ _ _ (HQ.1 _ h' rfl a b)))))
  | true =>
  rw [if_pos e4] at HQ
  refine And.intro (fun y => absurd y q_t1) (fun _ => ?_)
  unfold pCoS at HQ
  refine And.intro (sk_68 hs) (hC _ _ _ _ ?_)
  refine am_C_le (d := 2) (by decide) (am_enter (d := 1) ap_Rd_startCost rfl ?_) (fun _ _ k => k)
  refine am_go (fun _ => false) (fun K2 cal2 Q2 hK2 hC2 hQ2 => ?_)
  have e10 : am_i h 68 10 = bI (gCs g).isSome := Z.2.1.2.2
  cases e5 : (gCs g).isSome with
  | true =>
    rw [if_pos e5] at HQ
    rw [e5] at e10
    refine And.intro (sk_68 hs) (And.intro (fun y => absurd (e10.symm.trans y) q_t1) (fun _ => ?_))
    exact And.intro (sk_68 hs) (hC2 _ _ _ _ (z_fail (by decide) Z 2 (fun h' a b => And.intro (Or.inl rfl) (hQ2 _ _ (And.intro (fun _ => And.intro (Or.inl rfl) (hQ _ _ (HQ.1 _ h' rfl a b))) (fun y => absurd rfl y))))))
  | false =>
    rw [if_neg (by rw [e5]; decide)] at HQ
    rw [e5] at e10
    have eN : gCs g = none := by
      cases e6 : gCs g with
      | none => rfl
      | some cs => rw [e6] at e5; cases e5
    refine And.intro (sk_68 hs) (And.intro (fun _ => ?_) (fun y => absurd e10 y))
    refine And.intro ⟨sk_68 hs, Or.inr rfl⟩ ?_
    show am_k (am_pi h 68 10 (nI 1)) 68 = _ ∧ _
    have s2 : sm [68] h (am_pi h 68 10 (nI 1)) := sm.rf.pi (by decide)
    have f2 : ∀ k, am_i (am_pi h 68 10 (nI 1)) 68 k = if k = 10 then nI 1 else am_i h 68 k := fun k => i_pi_same _ _ _ _ _
    generalize am_pi h 68 10 (nI 1) = h2 at s2 f2 ⊢
    have N : ∀ x, x ≠ 68 → ∀ k, am_i h2 x k = am_i h x k := fun x hx k => s2.i (fun z => hx (List.mem_singleton.mp z)) k
    have r2 : rW h h2 := ⟨s2.mo (by decide), f2 4⟩
    obtain ⟨y1, ⟨⟨⟨y2, y3, y4⟩, y5, y6⟩, y7, y8⟩, y9, y10⟩ := id Z
    rw [eN] at y9
    have S2 : rSt h2 t p := y1.mg s2 (by decide) (fun j _ _ => by rw [f2, if_neg (by omega)])
    have G2 : rGr h2 g := ⟨⟨(N 69 (by decide) 0).trans y2, (N 69 (by decide) 1).trans y3, (N 69 (by decide) 2).trans y4⟩, fun e he => ⟨(N 72 (by decide) e).trans (y5 e he).1, (N 73 (by decide) e).trans (y5 e he).2.1, (N 74 (by decide) e).trans (y5 e he).2.2⟩, fun v hv => (N 70 (by decide) v).trans (y6 v hv)⟩
    refine And.intro (sk_68 S2.1) (hC2 _ _ _ _ (c_next (by decide) S2 rfl (fun h3 r3 S3 m3 c3 => And.intro (Or.inr rfl) (hQ2 _ _ ?_))))
    refine And.intro (fun y => absurd y i1_0) (fun _ => ?_)
    have X3 : rX h3 t (te t (sk t p)) [] := ⟨S3, ⟨(c3.trans (f2 12)).trans y9.1, fun k hk => absurd hk (Nat.not_lt_zero _)⟩, Nat.zero_le _⟩
    refine And.intro (sk_68 S3.1) (hC _ _ _ _ (c_readSum_k 4 0 rfl 17 h3 _ _ _ (Nat.le_refl _) X3 ⟨fun e h4 hr4 r4 E4 => ?_, fun p4 cs4 h4 hr4 r4 X4 => ?_⟩))
    · rw [hr4] at HQ
      exact And.intro (fun _ => And.intro (Or.inl rfl) (hQ _ _ (HQ.1 e h4 rfl ((r2.tr r3.w).tr r4.w) E4))) (fun y => absurd rfl y)
    · rw [hr4] at HQ
      refine And.intro (fun y => absurd y i1_0) (fun _ => And.intro (Or.inr rfl) (hQ _ _ (HQ.2 _ h4 rfl ((r2.tr r3.w).tr r4.w) ⟨X4.1, ⟨?_, ?_, ?_⟩, X4.2.1, X4.c⟩)))
      · exact (G2.mv r3).mv r4
      · exact (r4.2 9 (by decide)).trans ((r3.2 9 (by decide)).trans ((f2 9).trans y7))
      · exact (r4.2 10 (by decide)).trans ((r3.2 10 (by decide)).trans (f2 10))
end
end
section
/-! THE CLASS'S READER: new cells, the end of a reading -/
theorem k_new (h : am_H) (t n w a : Nat) : am_k (am_new h t n w) a = if a = am_n h then (t, n) else am_k h a := rfl
theorem i_new (h : am_H) (t n w a k : Nat) : am_i (am_new h t n w) a k = if a = am_n h then 0 else am_i h a k := by
  show va_up h.2.1 (am_n h) (fun _ => 0) a k = _
  unfold va_up
  by_cases e : a = am_n h
  · rw [if_pos e, if_pos e]
  · rw [if_neg e, if_neg e]; rfl
theorem l_new (h : am_H) (t n w a k : Nat) : am_l (am_new h t n w) a k = if a = am_n h then 0 else am_l h a k := by
  show va_up h.2.2.1 (am_n h) (fun _ => 0) a k = _
  unfold va_up
  by_cases e : a = am_n h
  · rw [if_pos e, if_pos e]
  · rw [if_neg e, if_neg e]; rfl
theorem r_new (h : am_H) (t n w a k : Nat) : am_r (am_new h t n w) a k = if a = am_n h then 0 else am_r h a k := by
  show va_up h.2.2.2.1 (am_n h) (fun _ => 0) a k = _
  unfold va_up
  by_cases e : a = am_n h
  · rw [if_pos e, if_pos e]
  · rw [if_neg e, if_neg e]; rfl
theorem n_new (h : am_H) (t n w : Nat) : am_n (am_new h t n w) = am_n h + 1 := rfl
theorem cs_new (h : am_H) (t n w : Nat) : am_cs (am_new h t n w) = am_cs h + w := rfl
/-- cells not made yet -/
def TN (h : am_H) : Prop := ∀ a, am_n h ≤ a → am_k h a = (0, 0)
theorem TN.lt {h : am_H} (T : TN h) {a x y : Nat} (hk : am_k h a = (x, y)) (hx : x ≠ 0) : a < am_n h := by
  by_cases z : am_n h ≤ a
  · rw [T a z] at hk
    exact absurd (congrArg Prod.fst hk).symm hx
  · omega
/-- what a reading may change: c cells and w slots are new -/
def rdG (c w : Nat) (h h' : am_H) : Prop := (∀ a, a < am_n h ∨ am_n h' ≤ a → am_k h' a = am_k h a) ∧ (∀ x k, x < am_n h → ¬ (x = 68 ∧ k = 3) → ¬ (x = 69 ∧ k = 9) → am_r h' x k = am_r h x k) ∧ (∀ x, x < am_n h → ¬ (68 ≤ x ∧ x ≤ 77) → am_i h' x = am_i h x ∧ am_l h' x = am_l h x) ∧ (am_n h ≤ am_n h' ∧ am_n h' ≤ am_n h + c) ∧ am_cs h' ≤ am_cs h + w
theorem rdG.rf {h : am_H} : rdG 0 0 h h := ⟨fun _ _ => rfl, fun _ _ _ _ _ => rfl, fun _ _ _ => ⟨rfl, rfl⟩, ⟨Nat.le_refl _, Nat.le_refl _⟩, Nat.le_refl _⟩
theorem rdG.tr {h h1 h2 : am_H} {c w c2 w2 : Nat} (s : rdG c w h h1) (t : rdG c2 w2 h1 h2) : rdG (c + c2) (w + w2) h h2 := by
  obtain ⟨a1, a2, a3, ⟨a4, a5⟩, a6⟩ := s
  obtain ⟨b1, b2, b3, ⟨b4, b5⟩, b6⟩ := t
  refine ⟨fun a ha => (b1 a (by omega)).trans (a1 a (by omega)), fun x k hx h3 h9 => (b2 x k (by omega) h3 h9).trans (a2 x k hx h3 h9), fun x hx hn => ?_, ⟨by omega, by omega⟩, by omega⟩
  have p := a3 x hx hn
  have q := b3 x (by omega) hn
  exact ⟨q.1.trans p.1, q.2.trans p.2⟩
theorem rdG.mo {h h1 : am_H} {c w c2 w2 : Nat} (s : rdG c w h h1) (hc : c ≤ c2) (hw : w ≤ w2) : rdG c2 w2 h h1 := ⟨s.1, s.2.1, s.2.2.1, ⟨s.2.2.2.1.1, Nat.le_trans s.2.2.2.1.2 (by omega)⟩, Nat.le_trans s.2.2.2.2 (by omega)⟩
theorem rdG.sm {h h1 : am_H} {X : List Nat} (s : sm X h h1) (hX : ∀ x, x ∈ X → (68 ≤ x ∧ x ≤ 77) ∨ am_n h ≤ x) : rdG 0 0 h h1 := ⟨fun a _ => s.k a, fun x k _ _ _ => s.r x k, fun x hx hn => s.2.2 x fun z => by have := hX x z; omega, ⟨by rw [s.n]; exact Nat.le_refl _, by rw [s.n]; exact Nat.le_refl _⟩, by rw [s.cs]; exact Nat.le_refl _⟩
theorem rW.rd {h h1 : am_H} (s : rW h h1) : rdG 0 0 h h1 := rdG.sm s.1 fun x hx => by simp [rWX] at hx; omega
theorem rdG.pr9 {h h1 : am_H} {c w : Nat} (s : rdG c w h h1) {v : Nat} : rdG c w h (am_pr h1 69 9 v) := ⟨s.1, fun x k hx h3 h9 => by
  rw [r_pr]
  by_cases e : x = 69
  · rw [if_pos e, if_neg (fun q => h9 ⟨e, q⟩)]; exact s.2.1 x k hx h3 h9
  · rw [if_neg e]; exact s.2.1 x k hx h3 h9, s.2.2.1, s.2.2.2⟩
theorem rdG.pr3 {h h1 : am_H} {c w : Nat} (s : rdG c w h h1) {v : Nat} : rdG c w h (am_pr h1 68 3 v) := ⟨s.1, fun x k hx h3 h9 => by
  rw [r_pr]
  by_cases e : x = 68
  · rw [if_pos e, if_neg (fun q => h3 ⟨e, q⟩)]; exact s.2.1 x k hx h3 h9
  · rw [if_neg e]; exact s.2.1 x k hx h3 h9, s.2.2.1, s.2.2.2⟩
theorem rdG.new {h h1 : am_H} {c w : Nat} (s : rdG c w h h1) {t n m : Nat} : rdG (c + 1) (w + m) h (am_new h1 t n m) := by
  obtain ⟨a1, a2, a3, ⟨a4, a5⟩, a6⟩ := s
  refine ⟨fun a ha => ?_, fun x k hx h3 h9 => ?_, fun x hx hn => ?_, ⟨?_, ?_⟩, ?_⟩
  · rw [n_new] at ha
    rw [k_new, if_neg (by omega)]
    exact a1 a (by omega)
  · rw [r_new, if_neg (by omega)]; exact a2 x k hx h3 h9
  · have p := a3 x hx hn
    exact ⟨funext fun k => by rw [i_new, if_neg (by omega), p.1], funext fun k => by rw [l_new, if_neg (by omega), p.2]⟩
  · rw [n_new]; omega
  · rw [n_new]; omega
  · rw [cs_new]; omega
/-- writes to the new cells -/
theorem rdG.pin {h h1 : am_H} {c w : Nat} (s : rdG c w h h1) {a k : Nat} {v : Nat} (ha : am_n h ≤ a) : rdG c w h (am_pr h1 a k v) := ⟨s.1, fun x j hx h3 h9 => by
  rw [r_pr, if_neg (by omega)]; exact s.2.1 x j hx h3 h9, s.2.2.1, s.2.2.2⟩
theorem rdG.pcp {h h1 : am_H} {c w : Nat} (s : rdG c w h h1) {b sp a dp n : Nat} (ha : am_n h ≤ a) : rdG c w h (am_cp h1 b sp a dp n) := ⟨s.1, s.2.1, fun x hx hn => ⟨(funext fun k => by rw [i_cp, if_neg (by omega)]).trans (s.2.2.1 x hx hn).1, (s.2.2.1 x hx hn).2⟩, s.2.2.2⟩
theorem sh_no39 : ∀ q ∈ sh_rl, ¬ (q.1 = 68 ∧ q.2.1 = 3) ∧ ¬ (q.1 = 69 ∧ q.2.1 = 9) ∧ q.1 < 95 := by decide +kernel
theorem rdG.sh {h h1 : am_H} {c w : Nat} (s : rdG c w h h1) (hs : sh h) : sh h1 := by
  have n := hs.2.2
  refine ⟨fun a ha => (s.1 a (Or.inl (by omega))).trans (hs.1 a ha), fun q hq => ?_, by have := s.2.2.2.1.1; omega⟩
  obtain ⟨z1, z2, z3⟩ := sh_no39 q hq
  exact (s.2.1 _ _ (by omega) z1 z2).trans (hs.2.1 q hq)
theorem rdG.TN {h h1 : am_H} {c w : Nat} (s : rdG c w h h1) (T : TN h) : TN h1 := fun a ha => (s.1 a (Or.inr ha)).trans (T a (by have := s.2.2.2.1.1; omega))
theorem gfo.rd {h h1 : am_H} {c w a : Nat} {cs : Option (List Int)} (f : gfo h a cs) (s : rdG c w h h1) (T : TN h) (ha : a ≤ 67 ∨ (a = 69 ∧ am_r h1 69 9 = am_r h 69 9)) (hn : 95 ≤ am_n h) : gfo h1 a cs := by
  have r9 : am_r h1 a 9 = am_r h a 9 := by
    rcases ha with ha | ⟨rfl, e⟩
    · exact s.2.1 a 9 (by omega) (by omega) (by omega)
    · exact e
  cases cs with
  | none => exact r9.trans f
  | some cs =>
    obtain ⟨f1, f2, f3⟩ := f
    have l0 := T.lt f2.1 (by decide)
    have l1 := T.lt f2.2.2.2.1 (by decide)
    have l2 := T.lt f2.2.2.2.2.1 (by decide)
    refine ⟨by rw [r9]; exact f1, ?_, f3⟩
    rw [r9]
    exact f2.mv ⟨s.1 _ (Or.inl l0), s.1 _ (Or.inl l1), s.1 _ (Or.inl l2)⟩ (fun k _ => s.2.1 _ k l0 (by omega) (by omega)) (fun k => by rw [(s.2.2.1 _ l1 (by omega)).1])
theorem cgp.rd {h h1 : am_H} {c w a : Nat} {g : gD} (p : cgp h a g) (s : rdG c w h h1) (T : TN h) (ha : a + 6 ≤ 67) (hn : 95 ≤ am_n h) : cgp h1 a g := by
  obtain ⟨⟨p1, p2, p3, p4⟩, q1, q2, q3, q4, q5, q6⟩ := p
  have I : ∀ i k, i ≤ 6 → am_i h1 (a + i) k = am_i h (a + i) k := fun i k hi => by rw [(s.2.2.1 (a + i) (by omega) (by omega)).1]
  obtain ⟨hk, ⟨k1, k2, k3, k4, k5, k6⟩, r3, r4, r5, r6, r7, r8⟩ := p1
  have K : ∀ i, i ≤ 6 → am_k h1 (a + i) = am_k h (a + i) := fun i hi => s.1 _ (Or.inl (by omega))
  have R : ∀ k, am_r h1 a k = am_r h a k := fun k => s.2.1 a k (by omega) (by omega) (by omega)
  exact ⟨⟨⟨(K 0 (by decide)).trans hk, ⟨(K 1 (by decide)).trans k1, (K 2 (by decide)).trans k2, (K 3 (by decide)).trans k3, (K 4 (by decide)).trans k4, (K 5 (by decide)).trans k5, (K 6 (by decide)).trans k6⟩, (R 3).trans r3, (R 4).trans r4, (R 5).trans r5, (R 6).trans r6, (R 7).trans r7, (R 8).trans r8⟩, ⟨(I 0 0 (by decide)).trans p2.1, (I 0 1 (by decide)).trans p2.2.1, (I 0 2 (by decide)).trans p2.2.2⟩, fun e he => ⟨(I 3 e (by decide)).trans (p3 e he).1, (I 4 e (by decide)).trans (p3 e he).2⟩, p4⟩, fun e he => (I 5 e (by decide)).trans (q1 e he), fun v hv => (I 1 v (by decide)).trans (q2 v hv), fun v hv => (I 2 v (by decide)).trans (q3 v hv), fun e he => (I 6 e (by decide)).trans (q4 e he), q5.rd s T (Or.inl (by omega)) hn, q6⟩
theorem chi.rd {h h1 : am_H} {c w : Nat} {hist : List gD} (ch : chi h hist) (s : rdG c w h h1) (T : TN h) (hn : 95 ≤ am_n h) : chi h1 hist := by
  obtain ⟨nx, n8, e1, e2, l8, hj⟩ := ch
  have I : ∀ k, am_i h1 10 k = am_i h 10 k := fun k => by rw [(s.2.2.1 10 (by omega) (by omega)).1]
  exact ⟨nx, n8, (I 1).trans e1, (I 2).trans e2, l8, fun j g hg => (hj j g hg).rd s T (by unfold hrow; omega) hn⟩
section
variable {xs : am_X} {d : Nat} {h : am_H} {Q : am_Q}
set_option maxHeartbeats 4000000 in
theorem c_copyOf (hd : 1 ≤ d) (hk : am_k h 77 = (2, 700)) (hn : am_n h < 900000) (h77 : am_n h ≠ 77) {n : Nat} (n7 : n < 700) (HQ : ∀ h', h' = am_cp (am_new h 2 n n) 77 0 (am_n h) 0 n → Q (.inl (some (.ref (am_n h)))) h') : am_C xs am_P0 d m_JA_copyOf [.ref 77, .int (nI n)] h Q := by
  refine am_C_le hd (am_enter (d := 0) ap_JA_copyOf rfl ?_) (fun _ _ k => k)
  refine am_go (fun _ => false) (fun K cal Q' hK hC hQ => ?_)
  have e1 : nI (am_k h 77).2 = nI 700 := by rw [hk]
  refine And.intro ⟨by rw [hk]; exact Nat.le_refl 2, by rw [hk]; exact (by decide : 2 ≤ 6)⟩ ?_
  refine And.intro (fun _ => ?_) (fun z => absurd ?_ z)
  rotate_left
  · show ¬ nI n = nI (am_k h 77).2
    rw [e1]
    exact fun q => by have := (nI_eq (by omega) (by decide)).mp q; omega
  have cl : (nI n).toNatClampNeg = n := q_cl (by omega)
  have k77 : am_k (am_new h 2 (nI n).toNatClampNeg (nI n).toNatClampNeg) 77 = (2, 700) := by rw [k_new, if_neg (fun q => h77 q.symm)]; exact hk
  have kN : am_k (am_new h 2 (nI n).toNatClampNeg (nI n).toNatClampNeg) (am_n h) = (2, n) := by rw [k_new, if_pos rfl, cl]
  refine And.intro ⟨by show am_n h < 1000000; omega, nI_pos (by omega), by rw [cl]; omega⟩ ?_
  refine And.intro ⟨by rw [k77]; exact Nat.le_refl 2, by rw [k77]; exact (by decide : 2 ≤ 6)⟩ ?_
  have eM : (if nI n < nI (am_k (am_new h 2 (nI n).toNatClampNeg (nI n).toNatClampNeg) 77).2 then nI n else nI (am_k (am_new h 2 (nI n).toNatClampNeg (nI n).toNatClampNeg) 77).2) = nI n := by
    rw [k77, if_pos (nI_lt n7 (by decide))]
  have c0 : (nI 0).toNatClampNeg = 0 := rfl
  refine And.intro ?_ ?_
  · show ((am_k (am_new h 2 (nI n).toNatClampNeg (nI n).toNatClampNeg) (am_n h)).1 = 2 ∧ (am_k (am_new h 2 (nI n).toNatClampNeg (nI n).toNatClampNeg) 77).1 = 2) ∧ (¬ nI 0 < 0 ∧ ¬ nI 0 < 0 ∧ ¬ (if nI n < nI (am_k (am_new h 2 (nI n).toNatClampNeg (nI n).toNatClampNeg) 77).2 then nI n else nI (am_k (am_new h 2 (nI n).toNatClampNeg (nI n).toNatClampNeg) 77).2) < 0) ∧ (nI 0).toNatClampNeg + (if nI n < nI (am_k (am_new h 2 (nI n).toNatClampNeg (nI n).toNatClampNeg) 77).2 then nI n else nI (am_k (am_new h 2 (nI n).toNatClampNeg (nI n).toNatClampNeg) 77).2).toNatClampNeg ≤ (am_k (am_new h 2 (nI n).toNatClampNeg (nI n).toNatClampNeg) 77).2 ∧ (nI 0).toNatClampNeg + (if nI n < nI (am_k (am_new h 2 (nI n).toNatClampNeg (nI n).toNatClampNeg) 77).2 then nI n else nI (am_k (am_new h 2 (nI n).toNatClampNeg (nI n).toNatClampNeg) 77).2).toNatClampNeg ≤ (am_k (am_new h 2 (nI n).toNatClampNeg (nI n).toNatClampNeg) (am_n h)).2
    rw [eM, k77, kN, c0, cl]
    exact ⟨⟨rfl, rfl⟩, ⟨by decide, by decide, nI_pos (by omega)⟩, by show 0 + n ≤ 700; omega, by show 0 + n ≤ n; omega⟩
  · refine And.intro trivial (hQ _ _ (HQ _ ?_))
    show am_cp (am_new h 2 (nI n).toNatClampNeg (nI n).toNatClampNeg) 77 (nI 0).toNatClampNeg (am_n h) (nI 0).toNatClampNeg (if nI n < nI (am_k (am_new h 2 (nI n).toNatClampNeg (nI n).toNatClampNeg) 77).2 then nI n else nI (am_k (am_new h 2 (nI n).toNatClampNeg (nI n).toNatClampNeg) 77).2).toNatClampNeg = _
    rw [eM, c0, cl]
set_option maxHeartbeats 4000000 in
theorem c_Fo_init (hd : 1 ≤ d) {F C : Nat} (hF0 : F ≠ 0) (hk : am_k h F = (1, 1)) (hlt : F < am_n h) (hn : am_n h < 900000) (HQ : ∀ h', h' = am_pr (am_pr (am_new h 2 11 11) F 1 (am_n h)) F 0 C → Q (.inl none) h') : am_C xs am_P0 d m_Fo_init [.ref F, .ref C] h Q := by
  refine am_C_le hd (am_enter (d := 0) ap_Fo_init rfl ?_) (fun _ _ k => k)
  refine am_go (fun _ => false) (fun K cal Q' hK hC hQ => ?_)
  have k1 : am_k (am_new h 2 (nI 11).toNatClampNeg (nI 11).toNatClampNeg) F = (1, 1) := by rw [k_new, if_neg (by omega)]; exact hk
  refine And.intro hF0 (And.intro ⟨by show am_n h < 1000000; omega, by decide, by decide⟩ (And.intro k1 (And.intro k1 (And.intro trivial (hQ _ _ (HQ _ rfl))))))
end
end
section
/-! THE CLASS'S READER: the whole text -/
section
variable {xs : am_X} {d : Nat} {h : am_H} {t : tX} {p : Nat} {g : gD} {L : Nat} {Q : am_Q}
theorem gfX_none {h : am_H} {a : Nat} : gfX h a none = [a + 6] := rfl
/-- the costs, from the formula -/
theorem gCo_fin (g : gD) (e : Nat) : gCo (gFin g) e = gCo g e := rfl
set_option maxHeartbeats 8000000 in
theorem c_finish (hd : 4 ≤ d) (Z : rZ h t p g L) (w : pwf p g L) (hT : TN h) (hN : am_n h < 899000) (h9 : am_r h 69 9 = 0) (HQ : ∀ h', rdG 3 715 h h' → cgp h' 69 (gFin g) → Q (.inl none) h') : am_C xs am_P0 d m_Rd_finish [.ref 68] h Q := by
  have hs := Z.1.1
  have wf := w.1
  have hn := wf.1.1
  have hm := wf.1.2.1
  have hn5 : 95 ≤ am_n h := hs.2.2
  refine am_C_le hd (am_enter (d := 3) ap_Rd_finish rfl ?_) (fun _ _ k => k)
  -- behind the formula
  have rest : ∀ h2, rdG 3 715 h h2 → rGr h2 g → gfo h2 69 (gCs g) → (∀ cs, gCs g = some cs → am_n h ≤ am_r h2 69 9) → ∀ v1, am_W xs (am_code at_Rd_finish) (am_hd ah_Rd_finish) (am_C xs am_P0 3) Q 32 [.ref 68, v1] [] h2 := by
    intro h2 r2 G2 F2 new2 v1
    have hs2 := r2.sh hs
    have cg2 := G2.cg hs2 wf
    refine am_go (fun p => p == 34) (fun K cal Q' hK hC hQ => hK _ _ _ _ ?_)
    refine am_for (gN g) (fun i L' h' => L' = [.ref 68, .int (nI i)] ∧ sm [71] h2 h' ∧ ∀ v, v < i → am_i h' 71 v = gLab (gFin g) v) ?_ ?_ 0 (Nat.zero_le _) _ _ ⟨rfl, sm.rf, fun v hv => absurd hv (Nat.not_lt_zero _)⟩
    · rintro i hi9 L' h' ⟨rfl, s, hv⟩ next
      have eI : am_inc (nI i) (Int.ofNat 1) = nI (i + 1) := nI_1 i
      rw [← eI] at next
      have hs' := s.sh hs2
      have e0 : am_i h' (am_r h' 68 0) 0 = nI (gN g) := by rw [sr_68_0 hs', s.i (by decide)]; exact G2.1.1
      have R4 : am_r h' (am_r h' 68 0) 4 = 71 := by rw [sr_68_0 hs']; exact sr_69_4 hs'
      have cg' : cg h' 69 (gN g) (gM g) (gT g) (gLo g) (gHi g) := cg2.mv s (by decide) (by decide) (by decide)
      have fin : ∀ x : Int32, x = gLab (gFin g) i → am_W xs (am_code at_Rd_finish) (am_hd ah_Rd_finish) (am_C xs am_P0 3) Q 69 [.ref 68, .int (nI i)] [.int x, .int (nI i), .ref 71] h' := by
        intro x hx
        refine am_go (fun p => p == 34) (fun K cal Q' hK hC hQ => ?_)
        refine And.intro (ck_arr (sk_71 hs') rfl (by omega) (by decide)) ?_
        refine hK _ _ _ _ (next _ _ ⟨rfl, s.pi (by decide), fun v hv2 => ?_⟩)
        rw [q_cl (by omega), i_pi_same]
        by_cases e : v = i
        · rw [if_pos e, hx, e]
        · rw [if_neg e]; exact hv v (by omega)
      refine am_go (fun p => p == 34 || p == 69) (fun K cal Q' hK hC hQ => ?_)
      refine And.intro (sk_68 hs') (And.intro (k69 hs') (And.intro (fun z => absurd z (q_ge e0 hi9 (by omega))) (fun _ => ?_)))
      refine And.intro (sk_68 hs') (And.intro (k69 hs') (And.intro (sk_68 hs') (And.intro (k69 hs') ?_)))
      show cal m_Gr_isTerminal [.ref (am_r h' 68 0), .int (nI i)] h' _
      rw [show am_r h' (am_r h' 68 (448 % 64)) (132 % 64) = 71 from R4, sr_68_0 hs']
      refine hC _ _ _ _ (c_isTerminal (by decide) cg' (nI i) ?_)
      rw [isT_nI hi9 (by omega)]
      cases e : (gT g).testBit i with
      | true => exact And.intro (fun y => absurd y q_t1) (fun _ => hK _ _ _ _ (fin _ (by show _ = if (gT g).testBit i = true then nI i else -nI 1; rw [if_pos e])))
      | false => exact And.intro (fun _ => hK _ _ _ _ (fin _ (by show _ = if (gT g).testBit i = true then nI i else -nI 1; rw [if_neg (by rw [e]; decide)]))) (fun y => absurd rfl y)
    · rintro L' h3 ⟨rfl, s3, hlab⟩
      have hs3 := s3.sh hs2
      have e0 : am_i h3 (am_r h3 68 0) 0 = nI (gN g) := by rw [sr_68_0 hs3, s3.i (by decide)]; exact G2.1.1
      refine am_go (fun p => p == 34 || p == 78) (fun K cal Q' hK hC hQ => ?_)
      refine And.intro (sk_68 hs3) (And.intro (k69 hs3) (And.intro (fun _ => hK _ _ _ _ ?_) (fun z => absurd (q_le e0 (by omega)) z)))
      have N3 : ∀ x, x ≠ 71 → ∀ k, am_i h3 x k = am_i h2 x k := fun x hx k => s3.i (fun z => hx (List.mem_singleton.mp z)) k
      have r9 : am_r h3 69 9 = am_r h2 69 9 := s3.r _ _
      have T2 := r2.TN hT
      have F3 : gfo h3 69 (gCs g) := F2.rd (rdG.sm s3 (fun x hx => by have := List.mem_singleton.mp hx; omega)) T2 (Or.inr ⟨rfl, r9⟩) hs2.2.2
      have G3 : rGr h3 g := ⟨⟨(N3 69 (by decide) _).trans G2.1.1, (N3 69 (by decide) _).trans G2.1.2.1, (N3 69 (by decide) _).trans G2.1.2.2⟩, fun e he => ⟨(N3 72 (by decide) _).trans (G2.2.1 e he).1, (N3 73 (by decide) _).trans (G2.2.1 e he).2.1, (N3 74 (by decide) _).trans (G2.2.1 e he).2.2⟩, fun v hv => (N3 70 (by decide) _).trans (G2.2.2 v hv)⟩
      -- cells of the costs
      have hX : ∀ x, x ∈ gfX h3 69 (gCs g) → x = 75 ∨ (97 ≤ x ∧ x = am_r h3 69 9 + 2 ∧ ∃ cs, gCs g = some cs) := by
        intro x hx
        cases hcs : gCs g with
        | none => rw [hcs, gfX_none] at hx; exact Or.inl (List.mem_singleton.mp hx)
        | some cs =>
          rw [hcs] at hx F3
          have hx : x ∈ [75, am_r h3 69 9 + 2] := hx
          simp at hx
          rcases hx with hx | hx
          · exact Or.inl hx
          · exact Or.inr ⟨by have := F3.1; omega, hx, cs, rfl⟩
      have F1 : ∀ x, x ∈ gfX h3 69 (gCs g) → x ≠ am_r h3 69 9 + 1 ∨ gCs g = none := by
        intro x hx
        rcases hX x hx with e | ⟨a, b, _⟩
        · cases hcs : gCs g with
          | none => exact Or.inr rfl
          | some cs => rw [hcs] at F3; exact Or.inl (by have := F3.1; omega)
        · exact Or.inl (by omega)
      refine am_for (gM g) (fun i L' h' => L' = [.ref 68, .int (nI i)] ∧ sm (gfX h3 69 (gCs g)) h3 h' ∧ ∀ k, k < i → am_i h' 75 k = nI (gCo g k)) ?_ ?_ 0 (Nat.zero_le _) _ _ ⟨rfl, sm.rf, fun v hv => absurd hv (Nat.not_lt_zero _)⟩
      · rintro i hi9 L' h' ⟨rfl, s, hv⟩ next
        have eI : am_inc (nI i) (Int.ofNat 1) = nI (i + 1) := nI_1 i
        rw [← eI] at next
        have hs' := s.sh hs3
        have N : ∀ x, x < 95 → x ≠ 75 → ∀ k, am_i h' x k = am_i h3 x k := fun x h1 h2 k => s.i (fun z => by rcases hX x z with q | q <;> omega) k
        have e1 : am_i h' (am_r h' 68 0) 1 = nI (gM g) := by rw [sr_68_0 hs', N 69 (by decide) (by decide)]; exact G3.1.2.1
        obtain ⟨b1, b2⟩ := wf.2.1 i hi9
        have F' : gfo h' 69 (gCs g) := F3.mv (s.r _ _) (fun F hF hk => ⟨⟨s.k _, s.k _, s.k _⟩, fun k _ => s.r _ k, fun ⟨N, hN⟩ k => s.i (fun z => by
          rcases hX _ z with q | ⟨q1, q2, cs, q3⟩
          · omega
          · rw [q3] at F3
            have := F3.2.1.2.2.2.1
            have hk2 := F3.2.1.1
            rw [show F = am_r h3 69 9 + 1 by omega] at hk
            rw [hk] at this
            cases this) k⟩)
        refine am_go (fun p => p == 78) (fun K cal Q' hK hC hQ => ?_)
        refine And.intro (sk_68 hs') (And.intro (k69 hs') (And.intro (fun z => absurd z (q_ge e1 hi9 (by omega))) (fun _ => ?_)))
        refine And.intro (sk_68 hs') (And.intro (k69 hs') ?_)
        show cal m_Gr_updateCost [.ref (am_r h' 68 0), .int (nI i)] h' _
        rw [sr_68_0 hs']
        refine hC _ _ _ _ (c_updateCost (by decide) (by decide) (gs_69 hs') F' (by omega) (lo := gLo g i) (hi := gHi g i) (w := gWt g i) (l := gLd g (gLo g i)) (g := gLd g (gHi g i)) ((N 72 (by decide) (by decide) _).trans (G3.2.1 i hi9).1) ((N 73 (by decide) (by decide) _).trans (G3.2.1 i hi9).2.1) ((N 74 (by decide) (by decide) _).trans (G3.2.1 i hi9).2.2) ((N 70 (by decide) (by decide) _).trans (G3.2.2 _ (by omega))) ((N 70 (by decide) (by decide) _).trans (G3.2.2 _ (by omega))) (by omega) (by omega) (wf.2.2.1 i hi9) (w.2.2.1 _) (w.2.2.1 _) (fun h4 s4 f4 => ?_))
        have eX : gfX h' 69 (gCs g) = gfX h3 69 (gCs g) := by
          cases hcs : gCs g with
          | none => rfl
          | some cs => show [69 + 6, am_r h' 69 9 + 2] = [69 + 6, am_r h3 69 9 + 2]; rw [s.r]
        rw [eX] at s4
        refine hK _ _ _ _ (next _ _ ⟨rfl, s.tr s4, fun k hk => ?_⟩)
        rw [f4]
        by_cases e : k = i
        · rw [if_pos e, e]; rfl
        · rw [if_neg e]; exact hv k (by omega)
      · rintro L' h' ⟨rfl, s, hcost⟩
        have hs' := s.sh hs3
        have N : ∀ x, x < 95 → x ≠ 75 → ∀ k, am_i h' x k = am_i h3 x k := fun x h1 h2 k => s.i (fun z => by rcases hX x z with q | q <;> omega) k
        have e1 : am_i h' (am_r h' 68 0) 1 = nI (gM g) := by rw [sr_68_0 hs', N 69 (by decide) (by decide)]; exact G3.1.2.1
        refine am_go (fun p => p == 78) (fun K cal Q' hK hC hQ => ?_)
        refine And.intro (sk_68 hs') (And.intro (k69 hs') (And.intro (fun _ => And.intro trivial (hQ _ _ (HQ h' ?_ ?_))) (fun z => absurd (q_le e1 (by omega)) z)))
        · -- the frame: the waiting row is new
          have r3 : rdG 3 715 h h3 := (r2.tr (rdG.sm s3 (fun x hx => by have := List.mem_singleton.mp hx; omega))).mo (by decide) (by decide)
          refine ⟨fun a ha => (s.k a).trans (r3.1 a (by rw [← s.n]; exact ha)), fun x k hx h3' h9' => (s.r x k).trans (r3.2.1 x k hx h3' h9'), fun x hx hn' => ?_, by rw [s.n]; exact r3.2.2.2.1, by rw [s.cs]; exact r3.2.2.2.2⟩
          by_cases z : x ∈ gfX h3 69 (gCs g)
          · rcases hX x z with q | ⟨q1, q2, cs, q3⟩
            · omega
            · have := new2 cs q3
              omega
          · have q := s.2.2 x z
            have q3 := r3.2.2.1 x hx hn'
            exact ⟨q.1.trans q3.1, q.2.trans q3.2⟩
        · have F' : gfo h' 69 (gCs g) := F3.mv (s.r _ _) (fun F hF hk => ⟨⟨s.k _, s.k _, s.k _⟩, fun k _ => s.r _ k, fun ⟨N, hN⟩ k => s.i (fun z => by
            rcases hX _ z with q | ⟨q1, q2, cs, q3⟩
            · omega
            · rw [q3] at F3
              have := F3.2.1.2.2.2.1
              have hk2 := F3.2.1.1
              rw [show F = am_r h3 69 9 + 1 by omega] at hk
              rw [hk] at this
              cases this) k⟩)
          refine ⟨⟨gs_69 hs', ⟨(N 69 (by decide) (by decide) _).trans G3.1.1, (N 69 (by decide) (by decide) _).trans G3.1.2.1, (N 69 (by decide) (by decide) _).trans G3.1.2.2⟩, fun e he => ⟨(N 72 (by decide) (by decide) _).trans (G3.2.1 e he).1, (N 73 (by decide) (by decide) _).trans (G3.2.1 e he).2.1⟩, wf.1, wf.2.1⟩, fun e he => (N 74 (by decide) (by decide) _).trans (G3.2.1 e he).2.2, fun v hv => (N 70 (by decide) (by decide) _).trans (G3.2.2 v (Nat.lt_of_lt_of_le hv hn)), fun v hv => (N 71 (by decide) (by decide) _).trans (hlab v hv), fun e he => hcost e he, F', gwf_fin wf⟩
  refine am_go (fun p => p == 32) (fun K cal Q' hK hC hQ => ?_)
  have e10 : am_i h 68 10 = bI (gCs g).isSome := Z.2.1.2.2
  cases hcs : gCs g with
  | none =>
    rw [hcs] at e10
    refine And.intro (sk_68 hs) (And.intro (fun _ => hK _ _ _ _ (rest h (rdG.rf.mo (by decide) (by decide)) Z.2.1.1 (by rw [hcs]; exact h9) (fun cs q => by rw [hcs] at q; cases q) am_J)) (fun y => absurd e10 y))
  | some cs =>
    rw [hcs] at e10
    have Zc := Z.2.2.1
    rw [hcs] at Zc
    have Zc : rCd h cs := Zc
    have lcs : cs.length < 700 := (wf.2.2.2.2 cs hcs).2
    have fok : foOk cs 0 1 := (wf.2.2.2.2 cs hcs).1
    refine And.intro (sk_68 hs) (And.intro (fun y => absurd (e10.symm.trans y) q_t1) (fun _ => ?_))
    refine And.intro (sk_68 hs) (And.intro (by show am_n h < 1000000; omega) ?_)
    have e69 : am_r h 68 0 = 69 := sr_68_0 hs
    have ke : ∀ x, x < 95 → am_k (am_new h 1 1 2) x = am_k h x := fun x hx => by rw [k_new, if_neg (by omega)]
    have re : ∀ x k, x < 95 → am_r (am_new h 1 1 2) x k = am_r h x k := fun x k hx => by rw [r_new, if_neg (by omega)]
    have ie : ∀ x k, x < 95 → am_i (am_new h 1 1 2) x k = am_i h x k := fun x k hx => by rw [i_new, if_neg (by omega)]
    have k68 : am_k (am_new h 1 1 2) 68 = (1, 7) := (ke 68 (by decide)).trans (sk_68 hs)
    refine And.intro k68 (And.intro k68 (And.intro trivial ?_))
    show cal m_JA_copyOf [.ref (am_r (am_new h 1 1 2) 68 11), .int (am_i (am_new h 1 1 2) 68 12)] (am_new h 1 1 2) _
    rw [re 68 11 (by decide), sr_68_11 hs, ie 68 12 (by decide), Zc.1]
    refine hC _ _ _ _ (c_copyOf (by decide) ((ke 77 (by decide)).trans (sk_77 hs)) (by rw [n_new]; omega) (by rw [n_new]; omega) lcs (fun h2 eh2 => ?_))
    have n2 : am_n h2 = am_n h + 2 := by rw [eh2]; rfl
    have kF2 : am_k h2 (am_n h) = (1, 1) := by
      rw [eh2]
      show (if am_n h = am_n h + 1 then _ else if am_n h = am_n h then (1, 1) else _) = (1, 1)
      rw [if_neg (by omega), if_pos rfl]
    refine And.intro kF2 (hC _ _ _ _ (c_Fo_init (by decide) (by omega) kF2 (by omega) (by omega) (fun h3 eh3 => ?_)))
    rw [n2] at eh3
    have J : ∀ x k, x < 95 → am_i (am_pr h3 69 9 (am_n h)) x k = am_i h x k := fun x k hx => by
      rw [i_pr, eh3, i_pr, i_pr, i_new, if_neg (by omega), eh2, i_cp, if_neg (by rw [n_new]; omega), i_new, if_neg (by rw [n_new]; omega), ie x k hx]
    have KK : ∀ a, am_k (am_pr h3 69 9 (am_n h)) a = if a = am_n h + 2 then (2, 11) else if a = am_n h + 1 then (2, cs.length) else if a = am_n h then (1, 1) else am_k h a := fun a => by
      rw [k_pr, eh3, k_pr, k_pr, k_new, n2, eh2]
      rfl
    have k3 : am_k h3 (am_r h 68 0) = (1, 2) := by
      have := KK 69
      rw [k_pr, if_neg (by omega), if_neg (by omega), if_neg (by omega)] at this
      rw [e69, this]
      exact sk_69 hs
    refine And.intro k3 (hK _ _ _ _ ?_)
    show am_W _ _ _ _ _ 32 [.ref 68, am_J] [] (am_pr h3 (am_r h 68 0) 9 (am_n h))
    rw [e69]
    have rd : rdG 3 715 h (am_pr h3 69 9 (am_n h)) := by
      rw [eh3, eh2]
      exact ((((((((rdG.rf.new (t := 1) (n := 1) (m := 2)).new (t := 2) (n := cs.length) (m := cs.length)).pcp (by rw [n_new]; omega)).new (t := 2) (n := 11) (m := 11)).pin (by omega)).pin (by omega)).pr9).mo (by decide) (by omega))
    have r9 : am_r (am_pr h3 69 9 (am_n h)) 69 9 = am_n h := by rw [r_pr, if_pos rfl, if_pos rfl]
    refine rest _ rd ⟨⟨(J 69 _ (by decide)).trans Z.2.1.1.1.1, (J 69 _ (by decide)).trans Z.2.1.1.1.2.1, (J 69 _ (by decide)).trans Z.2.1.1.1.2.2⟩, fun e he => ⟨(J 72 _ (by decide)).trans (Z.2.1.1.2.1 e he).1, (J 73 _ (by decide)).trans (Z.2.1.1.2.1 e he).2.1, (J 74 _ (by decide)).trans (Z.2.1.1.2.1 e he).2.2⟩, fun v hv => (J 70 _ (by decide)).trans (Z.2.1.1.2.2 v hv)⟩ ?_ (fun _ _ => by rw [r9]; exact Nat.le_refl _) am_J
    rw [hcs]
    refine ⟨by rw [r9]; omega, ?_, fok⟩
    rw [r9]
    refine ⟨?_, ?_, ?_, ?_, ?_, fun k hk => ?_, lcs⟩
    · rw [KK, if_neg (by omega), if_neg (by omega), if_pos rfl]
    · rw [r_pr, if_neg (by omega), eh3, r_pr, if_pos rfl, if_pos rfl, n_new]
    · rw [r_pr, if_neg (by omega), eh3, r_pr, if_pos rfl, if_neg (by decide), r_pr, if_pos rfl, if_pos rfl]
    · rw [KK, if_neg (by omega), if_pos rfl]
    · rw [KK, if_pos rfl]
    · rw [i_pr, eh3, i_pr, i_pr, i_new, if_neg (by omega), eh2, i_cp, if_pos (by rw [n_new]; omega), Nat.sub_zero, Nat.zero_add, i_new, if_neg (by rw [n_new]; omega), ie 77 k (by decide)]
      exact Zc.2 k hk
end
end
section
/-! THE CLASS: load -/
section
variable {xs : am_X} {d : Nat} {h : am_H} {t : tX} {p : Nat} {g : gD} {L : Nat} {Q : am_Q}
theorem z_symbol (hd : 2 ≤ d) (Z : rZ h t p g L) (H0 : ∀ e h', pSym t 59 p = .inl e → rW h h' → rE h' e → Q (.inl (some (.int 0))) h') (H1 : ∀ q h', pSym t 59 p = .inr q → rW h h' → rZ h' t q g L → Q (.inl (some (.int 1))) h') : am_C xs am_P0 d m_Rd_readSymbol [.ref 68, .int (nI 59)] h Q :=
  c_readSymbol (s := 59) hd Z.1 Z.2.2.2 Z.2.2.1.1 (by decide) (by decide) (by decide) (fun e h' a b c => H0 e h' a b.w c) (fun q h' a b c m f => H1 q h' a b.w ⟨c, Z.2.1.mv b, Z.2.2.1.mv m f, Z.2.2.2⟩)
set_option maxHeartbeats 4000000 in
theorem z_readGraph (hd : 3 ≤ d) (Z : rZ h t 0 (g0 0) 0) (HQ0 : ∀ e h', pHead t = .inl e → rW h h' → rE h' e → Q (.inl (some (.int 0))) h') (HQ1 : ∀ a h', pHead t = .inr a → rW h h' → rZ h' t a.2 (g0 a.1) 0 → Q (.inl (some (.int 1))) h') : am_C xs am_P0 d m_Rd_readGraph [.ref 68] h Q := by
  have hs := Z.1.1
  unfold pHead at HQ0 HQ1
  refine am_C_le hd (am_enter (d := 2) ap_Rd_readGraph rfl ?_) (fun _ _ k => k)
  refine am_go (fun p => p == 16) (fun K cal Q' hK hC hQ => ?_)
  refine And.intro (sk_68 hs) (hC _ _ _ _ (c_isWord (s := 0) (by decide) Z.1 (by decide) ?_))
  cases e0 : wIs t (sk t 0) 0 with
  | false =>
    rw [if_neg (by rw [e0]; decide)] at HQ0
    refine And.intro (fun y => absurd rfl y) (fun _ => ?_)
    exact And.intro (sk_68 hs) (hC _ _ _ _ (z_fail (by decide) Z 2 (fun h' a b => And.intro (Or.inl rfl) (hQ _ _ (HQ0 _ h' rfl a b)))))
  | true =>
  rw [if_pos e0] at HQ0 HQ1
  refine And.intro (fun _ => hK _ _ _ _ ?_) (fun y => absurd (Classical.not_not.mp y) q_t1)
  refine am_go (fun p => p == 34) (fun K cal Q' hK hC hQ => ?_)
  refine And.intro (sk_68 hs) (hC _ _ _ _ (z_next (by decide) Z rfl (fun h1 r1 Z1 => ?_)))
  have hs1 := Z1.1.1
  refine And.intro (sk_68 hs1) (hC _ _ _ _ (z_number (lo := 2) (hi := 9) (by decide) Z1 (by decide) (by decide) (fun e h2 hr r2 E2 => ?_) (fun a hr ha => ?_)))
  · rw [hr] at HQ0
    exact And.intro (fun y => absurd y neg1_lt) (fun _ => And.intro (Or.inl rfl) (hQ _ _ (HQ0 e h2 rfl (r1.tr r2) E2)))
  obtain ⟨b1, b2, b3, b4, b5, b6, b7⟩ := pNum_r (te_len (sk_len Z.1.2.2.1)) hr
  rw [hr] at HQ0 HQ1
  dsimp only at HQ0 HQ1
  refine And.intro (fun _ => hK _ _ _ _ ?_) (fun y => absurd (nI_ge0 (by omega)) y)
  show am_W xs (am_code at_Rd_readGraph) (am_hd ah_Rd_readGraph) (am_C xs am_P0 2) Q 34 [.ref 68, .int (nI a.1)] [] h1
  refine am_go (fun _ => false) (fun K cal Q' hK hC hQ => ?_)
  refine And.intro (sk_68 hs1) (And.intro (k69 hs1) ?_)
  show am_k (am_pi h1 (am_r h1 68 0) 0 (nI a.1)) 68 = _ ∧ _
  rw [sr_68_0 hs1]
  have s2 : sm [69] h1 (am_pi h1 69 0 (nI a.1)) := sm.rf.pi (by decide)
  have f2 : ∀ k, am_i (am_pi h1 69 0 (nI a.1)) 69 k = if k = 0 then nI a.1 else am_i h1 69 k := fun k => i_pi_same _ _ _ _ _
  show am_k (am_pi h1 69 0 (nI a.1)) 68 = _ ∧ cal m_Rd_advance [.ref 68] (am_pi h1 69 0 (nI a.1)) _
  generalize am_pi h1 69 0 (nI a.1) = h2 at s2 f2 ⊢
  have N : ∀ x, x ≠ 69 → ∀ k, am_i h2 x k = am_i h1 x k := fun x hx k => s2.i (fun z => hx (List.mem_singleton.mp z)) k
  have Z2 : rZ h2 t (te t (sk t 0)) (g0 a.1) 0 := by
    obtain ⟨y1, ⟨⟨⟨y2, y3, y4⟩, y5, y6⟩, y7, y8⟩, y9, y10⟩ := id Z1
    exact ⟨y1.mg s2 (by decide) (fun j _ _ => N 68 (by decide) j), ⟨⟨⟨f2 0, (f2 1).trans y3, (f2 2).trans y4⟩, fun e he => absurd he (Nat.not_lt_zero _), fun v hv => (N 70 (by decide) v).trans (y6 v hv)⟩, (N 68 (by decide) 9).trans y7, (N 68 (by decide) 10).trans y8⟩, ⟨(N 68 (by decide) 12).trans y9.1, fun k hk => absurd hk (Nat.not_lt_zero _)⟩, Nat.zero_le _⟩
  have r2 : rW h1 h2 := ⟨s2.mo (by decide), N 68 (by decide) 4⟩
  refine And.intro (sk_68 Z2.1.1) (hC _ _ _ _ (z_next (by decide) Z2 rfl (fun h3 r3 Z3 => ?_)))
  rw [← ha] at Z3
  refine And.intro (sk_68 Z3.1.1) (hC _ _ _ _ (z_symbol (by decide) Z3 (fun e h4 hr4 r4 E4 => ?_) (fun q h4 hr4 r4 Z4 => ?_)))
  · rw [hr4] at HQ0
    exact And.intro (Or.inl rfl) (hQ _ _ (HQ0 e h4 rfl (((r1.tr r2).tr r3).tr r4) E4))
  · rw [hr4] at HQ1
    exact And.intro (Or.inr rfl) (hQ _ _ (HQ1 _ h4 rfl (((r1.tr r2).tr r3).tr r4) Z4))
set_option maxHeartbeats 4000000 in
theorem c_clear (hd : 2 ≤ d) (hs : sh h) (HQ : ∀ h', rdG 0 0 h h' → am_r h' 69 9 = 0 → (∀ k, k < 3 → am_i h' 69 k = 0) → (∀ k, k < 9 → am_i h' 70 k = 0) → (∀ k, am_i h' 68 k = am_i h 68 k) → Q (.inl none) h') : am_C xs am_P0 d m_Gr_clear [.ref 69] h Q := by
  have n5 := hs.2.2
  refine am_C_le hd (am_enter (d := 1) ap_Gr_clear rfl ?_) (fun _ _ k => k)
  refine am_go (fun _ => false) (fun K cal Q' hK hC hQ => ?_)
  refine And.intro (sk_69 hs) (And.intro (sk_69 hs) (And.intro (sk_69 hs) (And.intro (sk_69 hs) ?_)))
  show am_k (am_pr (am_pi (am_pi (am_pi h 69 0 (nI 0)) 69 1 (nI 0)) 69 2 (nI 0)) 69 9 0) 69 = _ ∧ _
  have s1 : sm [69] h (am_pi (am_pi (am_pi h 69 0 (nI 0)) 69 1 (nI 0)) 69 2 (nI 0)) := ((sm.rf.pi (by decide)).pi (by decide)).pi (by decide)
  have f1 : ∀ k, k < 3 → am_i (am_pi (am_pi (am_pi h 69 0 (nI 0)) 69 1 (nI 0)) 69 2 (nI 0)) 69 k = 0 := fun k hk => by
    rw [i_pi_same, i_pi_same, i_pi_same]
    have : k = 0 ∨ k = 1 ∨ k = 2 := by omega
    rcases this with rfl | rfl | rfl <;> rfl
  generalize am_pi (am_pi (am_pi h 69 0 (nI 0)) 69 1 (nI 0)) 69 2 (nI 0) = h1 at s1 f1 ⊢
  have d1 : rdG 0 0 h (am_pr h1 69 9 0) := (rdG.sm s1 (fun x hx => by have := List.mem_singleton.mp hx; omega)).pr9
  have hs2 := d1.sh hs
  have r2 : am_r (am_pr h1 69 9 0) 69 9 = 0 := by rw [r_pr, if_pos rfl, if_pos rfl]
  have i2 : ∀ a k, am_i (am_pr h1 69 9 0) a k = am_i h1 a k := fun a k => i_pr _ _ _ _ _ _
  generalize am_pr h1 69 9 0 = h2 at d1 hs2 r2 i2 ⊢
  refine And.intro (sk_69 hs2) (And.intro trivial ?_)
  show cal m_JA_fill [.ref (am_r h2 69 3), .int (nI 0)] h2 _
  rw [sr_69_3 hs2]
  refine hC _ _ _ _ (c_fill (by decide) (sk_70 hs2) (by decide) (nI 0) (fun h3 s3 f3 => ?_))
  have hs3 := s3.sh hs2
  refine And.intro (sk_69 hs3) (And.intro trivial ?_)
  show cal m_JA_fill [.ref (am_r h3 69 4), .int (-nI 1)] h3 _
  rw [sr_69_4 hs3]
  refine hC _ _ _ _ (c_fill (by decide) (sk_71 hs3) (by decide) (-nI 1) (fun h4 s4 f4 => ?_))
  refine And.intro trivial (hQ _ _ (HQ h4 ?_ ?_ (fun k hk => ?_) (fun k hk => ?_) (fun k => ?_)))
  · exact (d1.tr (rdG.sm s3 (fun x hx => by have := List.mem_singleton.mp hx; omega))).tr (rdG.sm s4 (fun x hx => by have := List.mem_singleton.mp hx; omega))
  · rw [s4.r, s3.r]; exact r2
  · rw [s4.i (by decide), s3.i (by decide), i2]; exact f1 k hk
  · rw [s4.i (by decide)]; exact f3 k hk
  · rw [s4.i (by decide), s3.i (by decide), i2, s1.i (by decide)]
theorem rE.of {h' : am_H} {e : pE} (E : rE h' e) : am_i h' 68 1 = -nI e.1 ∧ am_i h' 68 2 = nI e.2 := ⟨E.1, E.2.1⟩
set_option maxHeartbeats 8000000 in
theorem c_read (hd : 20 ≤ d) (hs : sh h) (hT : TN h) (hN : am_n h < 899000) (t7 : t.1 ≤ 700) (htx : ∀ k, k < t.1 → am_i h 2 k = bS (t.2 k) ∧ t.2 k < 256)
    (H0 : ∀ e h', pText t = .inl e → rdG 0 0 h h' → am_i h' 68 1 = -nI e.1 → am_i h' 68 2 = nI e.2 → Q (.inl (some (.int 0))) h') (H1 : ∀ s h', pText t = .inr s → rdG 3 715 h h' → cgp h' 69 (gFin s.2.1) → Q (.inl (some (.int 1))) h') : am_C xs am_P0 d m_Rd_read [.ref 68, .ref 2, .int (nI t.1)] h Q := by
  have n5 := hs.2.2
  refine am_C_le hd (am_enter (d := 19) ap_Rd_read rfl ?_) (fun _ _ k => k)
  refine am_go (fun p => p == 54) (fun K cal Q' hK hC hQ => ?_)
  refine And.intro (sk_68 hs) (And.intro (k69 hs) ?_)
  show cal m_Gr_clear [.ref (am_r h 68 0)] h _
  rw [sr_68_0 hs]
  refine hC _ _ _ _ (c_clear (by decide) hs (fun h1 d1 r1 i1 l1 q1 => ?_))
  have hs1 := d1.sh hs
  refine And.intro (sk_68 hs1) ?_
  have d2 : rdG 0 0 h (am_pr h1 68 3 2) := d1.pr3
  have hs2 := d2.sh hs
  have r3 : am_r (am_pr h1 68 3 2) 68 3 = 2 := by rw [r_pr, if_pos rfl, if_pos rfl]
  have r9 : am_r (am_pr h1 68 3 2) 69 9 = 0 := by rw [r_pr, if_neg (by decide)]; exact r1
  have i2 : ∀ a k, am_i (am_pr h1 68 3 2) a k = am_i h1 a k := fun a k => i_pr _ _ _ _ _ _
  show am_ev _ _ _ _ _ _ _ 1995 12 _ [] (am_pr h1 68 3 2)
  generalize am_pr h1 68 3 2 = h2 at d2 hs2 r3 r9 i2 ⊢
  have kb : am_k h2 2 = (3, 700) := sk_2 hs2
  refine And.intro ⟨by rw [kb]; exact (by decide : 2 ≤ 3), by rw [kb]; exact (by decide : 3 ≤ 6)⟩ (And.intro (sk_68 hs2) (And.intro (sk_68 hs2) (And.intro (sk_68 hs2) (And.intro ⟨sk_68 hs2, Or.inl rfl⟩ (And.intro (sk_68 hs2) ?_)))))
  have eM : (if nI (am_k h2 2).2 < nI t.1 then nI (am_k h2 2).2 else nI t.1) = nI t.1 := by
    rw [kb, if_neg (nI_nlt t7 (by decide))]
  show am_k (am_pi (am_pi (am_pi (am_pi (am_pi h2 68 4 (if nI (am_k h2 2).2 < nI t.1 then nI (am_k h2 2).2 else nI t.1)) 68 7 (nI 0)) 68 9 (nI 0)) 68 10 (nI 0)) 68 12 (nI 0)) 68 = _ ∧ cal m_Rd_advance [.ref 68] (am_pi (am_pi (am_pi (am_pi (am_pi h2 68 4 (if nI (am_k h2 2).2 < nI t.1 then nI (am_k h2 2).2 else nI t.1)) 68 7 (nI 0)) 68 9 (nI 0)) 68 10 (nI 0)) 68 12 (nI 0)) _
  rw [eM]
  have s3 : sm [68] h2 (am_pi (am_pi (am_pi (am_pi (am_pi h2 68 4 (nI t.1)) 68 7 (nI 0)) 68 9 (nI 0)) 68 10 (nI 0)) 68 12 (nI 0)) := ((((sm.rf.pi (by decide)).pi (by decide)).pi (by decide)).pi (by decide)).pi (by decide)
  have f3 : ∀ k, am_i (am_pi (am_pi (am_pi (am_pi (am_pi h2 68 4 (nI t.1)) 68 7 (nI 0)) 68 9 (nI 0)) 68 10 (nI 0)) 68 12 (nI 0)) 68 k = if k = 12 then nI 0 else if k = 10 then nI 0 else if k = 9 then nI 0 else if k = 7 then nI 0 else if k = 4 then nI t.1 else am_i h2 68 k := fun k => by rw [i_pi_same, i_pi_same, i_pi_same, i_pi_same, i_pi_same]
  generalize am_pi (am_pi (am_pi (am_pi (am_pi h2 68 4 (nI t.1)) 68 7 (nI 0)) 68 9 (nI 0)) 68 10 (nI 0)) 68 12 (nI 0) = h3 at s3 f3 ⊢
  have d3 : rdG 0 0 h h3 := d2.tr (rdG.sm s3 (fun x hx => by have := List.mem_singleton.mp hx; omega))
  have hs3 := s3.sh hs2
  have x3 : rTx h3 t := ⟨t7, f3 4, (s3.r _ _).trans r3, fun k hk => ⟨by rw [(d3.2.2.1 2 (by omega) (by omega)).1]; exact (htx k hk).1, (htx k hk).2⟩⟩
  have N3 : ∀ x, x ≠ 68 → ∀ k, am_i h3 x k = am_i h1 x k := fun x hx k => (s3.i (fun z => hx (List.mem_singleton.mp z)) k).trans (i2 x k)
  refine And.intro (sk_68 hs3) (hC _ _ _ _ (c_advance (by decide) hs3 x3 (p := 0) (f3 7) (Nat.zero_le _) (fun h4 s4 f4 k4 => ?_)))
  have hs4 := s4.sh hs3
  have N4 : ∀ x, x ≠ 68 → ∀ k, am_i h4 x k = am_i h1 x k := fun x hx k => (s4.i (fun z => hx (List.mem_singleton.mp z)) k).trans (N3 x hx k)
  have Z4 : rZ h4 t 0 (g0 0) 0 := ⟨⟨hs4, x3.mv s4 (f4 4 (by decide)) (by decide), Nat.zero_le _, k4⟩, ⟨⟨⟨(N4 69 (by decide) 0).trans (i1 0 (by decide)), (N4 69 (by decide) 1).trans (i1 1 (by decide)), (N4 69 (by decide) 2).trans (i1 2 (by decide))⟩, fun e he => absurd he (Nat.not_lt_zero _), fun v hv => (N4 70 (by decide) v).trans (l1 v hv)⟩, (f4 9 (by decide)).trans (f3 9), (f4 10 (by decide)).trans (f3 10)⟩, ⟨(f4 12 (by decide)).trans (f3 12), fun k hk => absurd hk (Nat.not_lt_zero _)⟩, Nat.zero_le _⟩
  have d4 : rdG 0 0 h h4 := d3.tr (rdG.sm s4 (fun x hx => by have := List.mem_singleton.mp hx; omega))
  have r94 : am_r h4 69 9 = 0 := by rw [s4.r, s3.r]; exact r9
  -- exits
  have bad : ∀ (h' : am_H) (e : pE) (v4 : Int32), pText t = .inl e → rW h4 h' → rE h' e → am_W xs (am_code at_Rd_read) (am_hd ah_Rd_read) (am_C xs am_P0 19) Q 54 [.ref 68, .ref 2, .int (nI t.1), .int 0, .int v4] [] h' := by
    intro h' e v4 hR s E
    refine am_go (fun _ => false) (fun K cal Q' hK hC hQ => ?_)
    refine And.intro (fun _ => ?_) (fun z => absurd rfl z)
    exact And.intro (fun _ => And.intro (Or.inl rfl) (hQ _ _ (H0 e h' hR (d4.tr s.rd) E.1 E.2.1))) (fun z => absurd rfl z)
  have out : ∀ (h' : am_H) (p : Nat) (g : gD) (L : Nat) (v4 : Int32), pText t = .inr (p, g, L) → rW h4 h' → rZ h' t p g L → pwf p g L → am_W xs (am_code at_Rd_read) (am_hd ah_Rd_read) (am_C xs am_P0 19) Q 105 [.ref 68, .ref 2, .int (nI t.1), .int 1, .int v4] [] h' := by
    intro h' p g L v4 hR s Z w
    have dd := d4.tr s.rd
    refine am_go (fun _ => false) (fun K cal Q' hK hC hQ => ?_)
    refine And.intro (fun z => absurd z i1_0) (fun _ => ?_)
    refine And.intro (sk_68 Z.1.1) (hC _ _ _ _ (c_finish (by decide) Z w (dd.TN hT) (by have := dd.2.2.2.1.2; omega) ((s.1.r _ _).trans r94) (fun h5 d5 p5 => And.intro (Or.inr rfl) (hQ _ _ (H1 _ h5 hR ((dd.tr d5).mo (by decide) (by decide)) p5)))))
  refine And.intro (sk_68 hs4) (hC _ _ _ _ (z_readGraph (by decide) Z4 (fun e h5 hr5 r5 E5 => hK _ _ _ _ ?_) (fun a h5 hr5 r5 Z5 => hK _ _ _ _ ?_)))
  · exact bad h5 e 0 (by unfold pText; rw [hr5]) r5 E5
  have w5 := pHead_wf hr5
  have eT : pText t = pStms t t.1 a.2 (g0 a.1) 0 := by unfold pText; rw [hr5]
  refine am_for t.1 (fun i L' h' => ∃ p g L, L' = [.ref 68, .ref 2, .int (nI t.1), .int 1, .int (nI i)] ∧ rW h4 h' ∧ rZ h' t p g L ∧ pwf p g L ∧ pStms t (t.1 - i) p g L = pText t) ?_ ?_ 0 (Nat.zero_le _) _ _ ⟨a.2, g0 a.1, 0, rfl, r5, Z5, w5.1, by rw [Nat.sub_zero, eT]⟩
  · rintro i hi9 L' h' ⟨p, g, L, rfl, s, Z, w, hR⟩ next
    have eI : am_inc (nI i) (Int.ofNat 1) = nI (i + 1) := nI_1 i
    rw [← eI] at next
    have hs' := Z.1.1
    have e5 : am_i h' 68 5 = kdI t (sk t p) := Z.1.2.2.2.2.1
    have ke := kd_end (q := sk t p) (Z.1.b _)
    have e4 : am_i h' 68 4 = nI t.1 := Z.1.2.1.2.1
    rw [show t.1 - i = (t.1 - (i + 1)) + 1 by omega] at hR
    unfold pStms at hR
    refine am_go (fun p => p == 54 || p == 98 || p == 105) (fun K cal Q' hK hC hQ => ?_)
    refine And.intro (fun z => absurd z i1_0) (fun _ => ?_)
    refine And.intro (sk_68 hs') (And.intro (fun z => hK _ _ _ _ (out h' p g L _ ?_ s Z w)) (fun z => ?_))
    · have z : am_i h' 68 5 = nI 1000 := z
      rw [e5] at z
      rw [if_pos (ke.mp z)] at hR
      exact hR.symm
    have z : ¬ t.1 ≤ sk t p := fun y => z (e5.trans (ke.mpr y))
    rw [if_neg z] at hR
    unfold pStS at hR
    refine And.intro (sk_68 hs') (And.intro (fun y => absurd y (q_ge e4 hi9 (by omega))) (fun _ => ?_))
    have tail0 : ∀ (h2 : am_H) (e : pE), pText t = .inl e → rW h4 h2 → rE h2 e → am_W xs (am_code at_Rd_read) (am_hd ah_Rd_read) (am_C xs am_P0 19) Q 98 [.ref 68, .ref 2, .int (nI t.1), .int 1, .int (nI i)] [.int 0] h2 := by
      intro h2 e hR2 s2 E2
      refine am_go (fun p => p == 54) (fun K cal Q' hK hC hQ => hK _ _ _ _ ?_)
      exact bad h2 e _ hR2 s2 E2
    refine And.intro (sk_68 hs') (hC _ _ _ _ (z_readStatement (by decide) Z w ⟨fun e h6 hr6 r6 E6 => ?_, fun s6 h6 hr6 r6 Z6 => ?_⟩))
    · rw [hr6] at hR
      exact And.intro (fun _ => hK _ _ _ _ (tail0 h6 e hR.symm (s.tr r6) E6)) (fun y => absurd rfl y)
    · rw [hr6] at hR
      dsimp only at hR
      obtain ⟨w6, lt6, le6⟩ := pStm_wf Z.1.2.2.1 t7 w hr6
      refine And.intro (fun y => absurd y i1_0) (fun _ => ?_)
      refine And.intro (sk_68 Z6.1.1) (hC _ _ _ _ (z_symbol (by decide) Z6 (fun e h7 hr7 r7 E7 => ?_) (fun q h7 hr7 r7 Z7 => ?_)))
      · rw [hr7] at hR
        exact And.intro (fun _ => hK _ _ _ _ (tail0 h7 e hR.symm ((s.tr r6).tr r7) E7)) (fun y => absurd rfl y)
      · rw [hr7] at hR
        dsimp only at hR
        obtain ⟨q1, q2, q3, q4⟩ := pSym_r hr7
        refine And.intro (fun y => absurd y i1_0) (fun _ => hK _ _ _ _ ?_)
        refine am_go (fun p => p == 54) (fun K cal Q' hK hC hQ => hK _ _ _ _ ?_)
        refine next _ _ ⟨q, s6.2.1, s6.2.2, rfl, (s.tr r6).tr r7, Z7, ⟨w6.1, w6.2.1, w6.2.2.1, w6.2.2.2.1, by have := w6.2.2.2.2.1; omega, fun cs hc => by have := w6.2.2.2.2.2 cs hc; omega⟩, hR⟩
  · rintro L' h' ⟨p, g, L, rfl, s, Z, w, hR⟩
    rw [Nat.sub_self] at hR
    have hs' := Z.1.1
    have e4 : am_i h' 68 4 = nI t.1 := Z.1.2.1.2.1
    refine am_go (fun p => p == 105) (fun K cal Q' hK hC hQ => ?_)
    refine And.intro (fun z => absurd z i1_0) (fun _ => ?_)
    refine And.intro (sk_68 hs') (And.intro (fun _ => hK _ _ _ _ (out h' p g L _ hR.symm s Z w)) (fun _ => ?_))
    exact And.intro (sk_68 hs') (And.intro (fun _ => hK _ _ _ _ (out h' p g L _ hR.symm s Z w)) (fun z => absurd (q_le e4 (by omega)) z))
end
end
section
/-! THE CLASS: load, the call -/
def tOf (st : stD) (k : Nat) : tX := (k, st.2.2.1.2)
def stF (st : stD) (v : Int32) : stD := (st.1, st.2.1, (0, st.2.2.1.2), v)
def stL (st : stD) (g : gD) : stD := (g, (st.1 :: st.2.1).take 8, (0, st.2.2.1.2), -nI 1)
theorem cgp.cl {h h' : am_H} {g : gD} (p : cgp h 69 g) (c : clG h h') : cgp h' 69 g := by
  obtain ⟨⟨p1, p2, p3, p4⟩, q1, q2, q3, q4, q5, q6⟩ := p
  have I : ∀ i k, i ≤ 6 → am_i h' (69 + i) k = am_i h (69 + i) k := fun i k hi => by rw [(c.2.2.2.2 (69 + i) (by omega)).1]
  have K : ∀ a, am_k h' a = am_k h a := fun a => by unfold am_k; rw [c.2.1]
  exact ⟨⟨gs_69 c.1, ⟨(I 0 0 (by decide)).trans p2.1, (I 0 1 (by decide)).trans p2.2.1, (I 0 2 (by decide)).trans p2.2.2⟩, fun e he => ⟨(I 3 e (by decide)).trans (p3 e he).1, (I 4 e (by decide)).trans (p3 e he).2⟩, p4⟩, fun e he => (I 5 e (by decide)).trans (q1 e he), fun v hv => (I 1 v (by decide)).trans (q2 v hv), fun v hv => (I 2 v (by decide)).trans (q3 v hv), fun e he => (I 6 e (by decide)).trans (q4 e he), q5.mv (c.2.2.2.1 _ _ (by omega)) (fun F hF _ => ⟨⟨K _, K _, K _⟩, fun k _ => c.2.2.2.1 _ k (by omega), fun _ k => by rw [(c.2.2.2.2 (F + 1) (by omega)).1]⟩), q6⟩
theorem chi.mvf {h h' : am_H} {hist : List gD} (ch : chi h hist) (s : smf (gX7 3) 3 h h') : chi h' hist := by
  obtain ⟨nx, n8, e1, e2, l8, hj⟩ := ch
  have I : ∀ k, am_i h' 10 k = am_i h 10 k := fun k => s.i (by simp [gX7]) k
  exact ⟨nx, n8, (I 1).trans e1, (I 2).trans e2, l8, fun j g hg => (hj j g hg).mvf s (by decide) (by unfold hrow; omega)⟩
section
variable {xs : am_X} {d : Nat} {h : am_H} {st : stD} {Q : am_Q}
set_option maxHeartbeats 8000000 in
theorem k_load (hd : 21 ≤ d) (I : CI h st) (hT : TN h) (hN : am_n h < 899000) (v : Int32) (HX : vin (st.2.2.1.1 + 1) v = false → Q (.inr 1) (am_thr h))
    (H0 : ∀ k e h', k ≤ st.2.2.1.1 → v = nI k → pText (tOf st k) = .inl e → CI h' (stF st (nI e.2)) → clF h h' → Q (.inl (some (.int (-nI e.1)))) h')
    (H1 : ∀ k s h', k ≤ st.2.2.1.1 → v = nI k → pText (tOf st k) = .inr s → CI h' (stL st (gFin s.2.1)) → clF h h' → Q (.inl (some (.int (nI (gM s.2.1))))) h') : am_C xs am_P0 d m_Mc_load [.ref 1, .int v] h Q := by
  obtain ⟨hs, i2, i3, ⟨i4, i5, i6⟩, i7⟩ := id I
  have n5 := hs.2.2
  refine am_C_le hd (am_enter (d := 20) ap_Mc_load rfl ?_) (fun _ _ k => k)
  refine am_go (fun p => p == 22) (fun K cal Q' hK hC hQ => ?_)
  have main : ∀ k, k ≤ st.2.2.1.1 → v = nI k → am_W xs (am_code at_Mc_load) (am_hd ah_Mc_load) (am_C xs am_P0 20) Q 22 [.ref 1, .int v, am_J] [] h := by
    intro k hk hv
    have G0 := fun e h' => H0 k e h' hk hv
    have G1 := fun s h' => H1 k s h' hk hv
    subst hv
    refine am_go (fun p => p == 59) (fun K cal Q' hK hC hQ => ?_)
    have s1 : sm [1] h (am_pi h 1 1 (nI 0)) := sm.rf.pi (by decide)
    have f1 : ∀ j, am_i (am_pi h 1 1 (nI 0)) 1 j = if j = 1 then nI 0 else am_i h 1 j := fun j => i_pi_same _ _ _ _ _
    refine And.intro (sk_1 hs) ?_
    show am_k (am_pi h 1 1 (nI 0)) 1 = _ ∧ _
    have hs1 := s1.sh hs
    have N1 : ∀ x, x ≠ 1 → ∀ j, am_i (am_pi h 1 1 (nI 0)) x j = am_i h x j := fun x hx j => s1.i (fun z => hx (List.mem_singleton.mp z)) j
    have p1 : cgp (am_pi h 1 1 (nI 0)) 3 st.1 := i2.mvs s1 (fun x hx => by have := List.mem_singleton.mp hx; omega) (fun x hx => by have := List.mem_singleton.mp hx; omega)
    have c1 : chi (am_pi h 1 1 (nI 0)) st.2.1 := i3.mvs s1 (fun x hx => by have := List.mem_singleton.mp hx; omega)
    have T1 : TN (am_pi h 1 1 (nI 0)) := hT
    have e1n : am_n (am_pi h 1 1 (nI 0)) = am_n h := rfl
    generalize am_pi h 1 1 (nI 0) = h1 at s1 f1 hs1 N1 p1 c1 T1 e1n ⊢
    refine And.intro (sk_1 hs1) (And.intro (sk_1 hs1) (And.intro (k15 hs1) ?_))
    show cal m_Rd_read [.ref (am_r h1 1 5), .ref (am_r h1 1 0), .int (nI k)] h1 _
    rw [sr_1_5 hs1, sr_1_0 hs1]
    refine hC _ _ _ _ (c_read (t := tOf st k) (by decide) hs1 T1 (by omega) (Nat.le_trans hk i4) (fun j hj => ?_) (fun e h2 hR d2 a1 a2 => ?_) (fun s h2 hR d2 p2 => ?_))
    · have hj : j < k := hj
      rw [N1 2 (by decide)]
      exact i6 j (by omega)
    · -- an error
      have hs2 := d2.sh hs1
      refine And.intro (fun _ => ?_) (fun z => absurd rfl z)
      refine And.intro (sk_1 hs2) (And.intro (k15 hs2) (And.intro (sk_1 hs2) (hK _ _ _ _ ?_)))
      have e2 : am_i h2 (am_r h2 1 5) 2 = nI e.2 := by rw [sr_1_5 hs2]; exact a2
      show am_W _ _ _ _ _ 59 [.ref 1, .int (nI k), .int 0] [] (am_pi h2 1 2 (am_i h2 (am_r h2 1 5) 2))
      rw [e2]
      have s3 : sm [1] h2 (am_pi h2 1 2 (nI e.2)) := sm.rf.pi (by decide)
      have f3 : ∀ j, am_i (am_pi h2 1 2 (nI e.2)) 1 j = if j = 2 then nI e.2 else am_i h2 1 j := fun j => i_pi_same _ _ _ _ _
      generalize am_pi h2 1 2 (nI e.2) = h3 at s3 f3 ⊢
      have hs3 := s3.sh hs2
      refine am_go (fun _ => false) (fun K cal Q' hK hC hQ => ?_)
      refine And.intro (fun z => absurd rfl z) (fun _ => ?_)
      have d2' := d2
      obtain ⟨b1, b2, b3, ⟨b4, b5⟩, b6⟩ := d2'
      have I3 : CI h3 (stF st (nI e.2)) := by
        refine ⟨hs3, (p1.rd d2 T1 (by decide) (by omega)).mvs s3 (fun x hx => by have := List.mem_singleton.mp hx; omega) (fun x hx => by have := List.mem_singleton.mp hx; omega), (c1.rd d2 T1 (by omega)).mvs s3 (fun x hx => by have := List.mem_singleton.mp hx; omega), ⟨Nat.zero_le _, ?_, fun j hj => absurd hj (Nat.not_lt_zero _)⟩, f3 2⟩
        rw [f3, if_neg (by decide), (b3 1 (by omega) (by omega)).1, f1, if_pos rfl]
        rfl
      have F3 : clF h h3 := by
        refine ⟨fun a ha => (s3.k a).trans ((b1 a (by rw [← s3.n, e1n]; omega)).trans (s1.k a)), fun a l1 l2 => ?_, ⟨by rw [s3.n]; omega, by rw [s3.n]; omega⟩, by rw [s3.cs]; have := s1.cs; omega⟩
        have q3 := s3.2.2 a (fun z => by have := List.mem_singleton.mp z; omega)
        have q2 := b3 a (by omega) (by omega)
        have q1 := s1.2.2 a (fun z => by have := List.mem_singleton.mp z; omega)
        exact ⟨q3.1.trans (q2.1.trans q1.1), q3.2.trans (q2.2.trans q1.2), funext fun k => (s3.r a k).trans ((b2 a k (by omega) (fun z => by omega) (fun z => by omega)).trans (s1.r a k))⟩
      refine And.intro (sk_1 hs3) (And.intro (k15 hs3) (And.intro trivial (hQ _ _ ?_)))
      have e4 : am_i h3 (am_r h3 1 5) 1 = -nI e.1 := by rw [sr_1_5 hs3, s3.i (by decide)]; exact a1
      show Q (.inl (some (.int (am_i h3 (am_r h3 1 5) 1)))) h3
      rw [e4]
      exact G0 e h3 hR I3 F3
    · -- a graph
      have hs2 := d2.sh hs1
      have T2 := d2.TN T1
      refine And.intro (fun z => absurd z i1_0) (fun _ => ?_)
      refine And.intro (sk_1 hs2) (hK _ _ _ _ ?_)
      show am_W _ _ _ _ _ 59 [.ref 1, .int (nI k), .int 1] [] (am_pi h2 1 2 (-nI 1))
      have s3 : sm [1] h2 (am_pi h2 1 2 (-nI 1)) := sm.rf.pi (by decide)
      have f3 : ∀ j, am_i (am_pi h2 1 2 (-nI 1)) 1 j = if j = 2 then -nI 1 else am_i h2 1 j := fun j => i_pi_same _ _ _ _ _
      generalize am_pi h2 1 2 (-nI 1) = h3 at s3 f3 ⊢
      have hs3 := s3.sh hs2
      obtain ⟨b1, b2, b3, ⟨b4, b5⟩, b6⟩ := id d2
      have p3 : cgp h3 3 st.1 := (p1.rd d2 T1 (by decide) (by omega)).mvs s3 (fun x hx => by have := List.mem_singleton.mp hx; omega) (fun x hx => by have := List.mem_singleton.mp hx; omega)
      have c3 : chi h3 st.2.1 := (c1.rd d2 T1 (by omega)).mvs s3 (fun x hx => by have := List.mem_singleton.mp hx; omega)
      have g3 : cgp h3 69 (gFin s.2.1) := p2.mvs s3 (fun x hx => by have := List.mem_singleton.mp hx; omega) (fun x hx => by have := List.mem_singleton.mp hx; omega)
      refine am_go (fun _ => false) (fun K cal Q' hK hC hQ => ?_)
      refine And.intro (fun _ => ?_) (fun z => absurd (Classical.not_not.mp z) i1_0)
      refine And.intro (sk_1 hs3) (And.intro (sk_1 hs3) (And.intro (k14 hs3) ?_))
      show cal m_Hi_save [.ref (am_r h3 1 4), .ref (am_r h3 1 3)] h3 _
      rw [sr_1_3 hs3, sr_1_4 hs3]
      refine hC _ _ _ _ (c_save (by decide) hs3 p3 c3 (fun h4 c p4 hh4 => ?_))
      have hs4 := c.1
      have g4 := g3.cl c
      refine And.intro (sk_1 hs4) (And.intro (sk_1 hs4) (And.intro (k15 hs4) (And.intro (k13 hs4) ?_)))
      show cal m_Gr_copyFrom [.ref (am_r h4 1 3), .ref (am_r h4 (am_r h4 1 5) 0)] h4 _
      rw [sr_1_5 hs4, sr_1_3 hs4, sr_68_0 hs4]
      refine hC _ _ _ _ (c_copyFrom (by decide) (gs_3 hs4) (gs_69 hs4) (by decide) (fun h5 J => ?_))
      have g5 := g4.copy J (gs_3 hs4) (by decide)
      have ch5 := hh4.mvf J.1
      have hs5 : sh h5 := J.1.sh (by decide) hs4
      have N5 : ∀ x, ¬ (3 ≤ x ∧ x ≤ 67) → am_i h5 x = am_i h3 x ∧ am_l h5 x = am_l h3 x := fun x hx => by
        have a := J.1.2.2.2 x (by simp [gX7]; omega)
        have b := c.2.2.2.2 x hx
        exact ⟨a.1.trans b.1, a.2.trans b.2⟩
      have k5 : ∀ a, am_k h5 a = am_k h3 a := fun a => by unfold am_k; rw [J.1.1, c.2.1]
      have n5' : am_n h5 = am_n h3 := J.1.2.2.1.1.trans c.2.2.1.1
      have I5 : CI h5 (stL st (gFin s.2.1)) := by
        refine ⟨hs5, g5, ch5, ⟨Nat.zero_le _, ?_, fun j hj => absurd hj (Nat.not_lt_zero _)⟩, ?_⟩
        · rw [(N5 1 (by omega)).1, f3, if_neg (by decide), (b3 1 (by omega) (by omega)).1, f1, if_pos rfl]
          rfl
        · rw [(N5 1 (by omega)).1, f3, if_pos rfl]
          rfl
      have F5 : clF h h5 := by
        refine ⟨fun a ha => (k5 a).trans ((s3.k a).trans ((b1 a (by rw [← s3.n, ← n5', e1n]; omega)).trans (s1.k a))), fun a l1 l2 => ?_, ⟨by rw [n5', s3.n]; omega, by rw [n5', s3.n]; omega⟩, by rw [J.1.2.2.1.2, c.2.2.1.2, s3.cs]; have := s1.cs; omega⟩
        have q5 := N5 a (by omega)
        have q3 := s3.2.2 a (fun z => by have := List.mem_singleton.mp z; omega)
        have q2 := b3 a (by omega) (by omega)
        have q1 := s1.2.2 a (fun z => by have := List.mem_singleton.mp z; omega)
        have r5 : ∀ k, am_r h5 a k = am_r h3 a k := fun k => (J.1.2.1 a k (fun z => by omega)).trans (c.2.2.2.1 a k (by omega))
        exact ⟨q5.1.trans (q3.1.trans (q2.1.trans q1.1)), q5.2.trans (q3.2.trans (q2.2.trans q1.2)), funext fun k => (r5 k).trans ((s3.r a k).trans ((b2 a k (by omega) (fun z => by omega) (fun z => by omega)).trans (s1.r a k)))⟩
      refine And.intro (sk_1 hs5) (And.intro (k13 hs5) (And.intro trivial (hQ _ _ ?_)))
      have e5 : am_i h5 (am_r h5 1 3) 1 = nI (gM s.2.1) := by rw [sr_1_3 hs5]; exact g5.1.2.1.2.1
      show Q (.inl (some (.int (am_i h5 (am_r h5 1 3) 1)))) h5
      rw [e5]
      exact G1 s h5 hR I5 F5
  have e0 : (0 : Int32).toInt = 0 := by decide
  refine And.intro (fun c1 => ?_) (fun c1 => ?_)
  · have c1 : v < 0 := c1
    exact And.intro (top_lt (by show am_n h < 900000; omega)) (hQ _ _ (HX (decide_eq_false fun z => by have := z.1; rw [fa_le] at this; rw [fa_lt] at c1; omega)))
  · have c1 : ¬ v < 0 := c1
    obtain ⟨j, j1, j2⟩ := nI_of c1
    refine And.intro (sk_1 hs) (And.intro (fun c2 => hK _ _ _ _ (main j ?_ j2)) (fun c2 => ?_))
    · have c2 : v ≤ am_i h 1 1 := c2
      rw [i5, j2] at c2
      exact (nI_leI (by omega) (by omega)).mp c2
    · have c2 : ¬ v ≤ am_i h 1 1 := c2
      rw [i5, j2] at c2
      refine And.intro (top_lt (by show am_n h < 900000; omega)) (hQ _ _ (HX (decide_eq_false fun z => c2 ?_)))
      have z2 := z.2
      rw [j2] at z2
      have := (nI_ltI (by omega) (by omega)).mp z2
      exact nI_le (by omega) (by omega)
end
end
section
/-! THE JDK'S OWN METHODS THAT THE LAW'S TEXT NEEDS, 1: String's reads. Began as no one's text. -/
theorem i_cp2 (h : am_H) (b sp a dp n x w : Nat) : am_i (am_cp2 h b sp a dp n) x w = if x = a ∧ dp ≤ w ∧ w < dp + n then am_i2 h b (sp + (w - dp)) else am_i h x w := by
  show va_up h.2.1 a (va_cpy (am_i2 h b) (h.2.1 a) sp dp n) x w = _
  unfold va_up va_cpy
  by_cases e : x = a
  · subst e
    rw [if_pos rfl]
    by_cases c : dp ≤ w ∧ w < dp + n
    · rw [if_pos c, if_pos ⟨rfl, c⟩]
    · rw [if_neg c, if_neg (fun z => c z.2)]; rfl
  · rw [if_neg e, if_neg (fun z => e z.1)]; rfl
theorem i_cp2_ne {h : am_H} {b sp a dp n x : Nat} (hx : x ≠ a) : am_i (am_cp2 h b sp a dp n) x = am_i h x := by
  funext w
  rw [i_cp2, if_neg (fun z => hx z.1)]
theorem i_new_ne {h : am_H} {t n w x : Nat} (hx : x ≠ am_n h) : am_i (am_new h t n w) x = am_i h x := by
  funext k
  rw [i_new, if_neg hx]
theorem r_new_ne {h : am_H} {t n w x : Nat} (hx : x ≠ am_n h) : am_r (am_new h t n w) x = am_r h x := by
  funext k
  rw [r_new, if_neg hx]
theorem r_pr_ne {h : am_H} {a k v x : Nat} (hx : x ≠ a) : am_r (am_pr h a k v) x = am_r h x := by
  funext j
  rw [r_pr, if_neg hx]
theorem k2_lo {h : am_H} {a : Nat} (ha : a < am_S0) : am_k2 h a = am_k h a := if_pos ha
theorem i2_lo {h : am_H} {a : Nat} (ha : a < am_S0) : am_i2 h a = am_i h a := by
  funext k
  exact if_pos ha
theorem r2_lo {h : am_H} {a : Nat} (ha : a < am_S0) : am_r2 h a = am_r h a 0 := if_pos ha
/-- a String of the letters tx, a constant or one that was made -/
def isS (h : am_H) (s : Nat) (tx : List Nat) : Prop := am_k2 h s = (1, 10) ∧ am_i2 h s 1 = 0 ∧ am_k2 h (am_r2 h s) = (3, tx.length) ∧ tx.length < 1000 ∧ ∀ j, j < tx.length → am_i2 h (am_r2 h s) j = nI (tx.getD j 0) ∧ tx.getD j 0 < 128
/-- one that was made: its bytes at b -/
def stO (h : am_H) (s b : Nat) (tx : List Nat) : Prop := (s < am_n h ∧ b < am_n h) ∧ am_k h s = (1, 10) ∧ am_i h s 1 = 0 ∧ am_r h s 0 = b ∧ am_k h b = (3, tx.length) ∧ tx.length < 1000 ∧ ∀ j, j < tx.length → am_i h b j = nI (tx.getD j 0) ∧ tx.getD j 0 < 128
theorem stO.is {h : am_H} {s b : Nat} {tx : List Nat} (S : stO h s b tx) (hN : am_n h < 1000000) : isS h s tx := by
  obtain ⟨⟨n1, n2⟩, k1, k2, k3, k4, k5, k6⟩ := S
  have e0 : am_S0 = 2000000 := rfl
  have h1 : s < am_S0 := by omega
  have h2 : b < am_S0 := by omega
  have er : am_r2 h s = b := (r2_lo h1).trans k3
  refine ⟨(k2_lo h1).trans k1, by rw [i2_lo h1]; exact k2, ?_, k5, fun j hj => ?_⟩
  · rw [er, k2_lo h2]; exact k4
  · rw [er, i2_lo h2]; exact k6 j hj
theorem strs_len : ∀ j, j < 15 → (am_strs.getD j []).length < 1000 := by decide +kernel
theorem strs_asc : ∀ j, j < 15 → ∀ k, k < (am_strs.getD j []).length → (am_strs.getD j []).getD k 0 < 128 := by decide +kernel
theorem isS_c (h : am_H) {j : Nat} (hj : j < 15) : isS h (am_S0 + j) (am_strs.getD j []) := by
  have e0 : am_S0 = 2000000 := rfl
  have er : am_r2 h (am_S0 + j) = am_S0 + j + 1000 := if_neg (by omega)
  refine ⟨?_, ?_, ?_, strs_len j hj, fun k hk => ⟨?_, strs_asc j hj k hk⟩⟩
  · unfold am_k2
    rw [if_neg (by omega), if_pos (by omega)]
  · unfold am_i2
    rw [if_neg (by omega), if_pos (by omega)]
  · rw [er]
    unfold am_k2
    rw [if_neg (by omega), if_neg (by omega), if_pos (by omega), show am_S0 + j + 1000 - am_S0 - 1000 = j by omega]
  · rw [er]
    unfold am_i2
    rw [if_neg (by omega), if_neg (by omega), if_pos (by omega), show am_S0 + j + 1000 - am_S0 - 1000 = j by omega]
theorem zb_char : ∀ c, c < 128 → ((nI c &&& nI 255).toUInt32 % 65536).toInt32 = nI c := by decide +kernel
section
variable {xs : am_X} {d : Nat} {h : am_H} {Q : am_Q} {s : Nat} {tx : List Nat}
theorem c_St_coder (hd : 1 ≤ d) (S : isS h s tx) (HQ : Q (.inl (some (.int 0))) h) : am_C xs am_P0 d m_St_coder [.ref s] h Q := by
  refine am_C_le hd (am_enter (d := 0) ap_St_coder rfl ?_) (fun _ _ k => k)
  refine am_go (fun _ => false) (fun K cal Q' hK hC hQ => ?_)
  refine And.intro (fun z => absurd (show nI 1 = 0 from z) (by decide)) (fun _ => ?_)
  refine And.intro S.1 ?_
  refine And.intro (Or.inl S.2.1) (hQ _ _ ?_)
  show Q (.inl (some (.int (am_i2 h s 1)))) h
  rw [S.2.1]
  exact HQ
theorem c_St_isLatin1 (hd : 1 ≤ d) (S : isS h s tx) (HQ : Q (.inl (some (.int (nI 1)))) h) : am_C xs am_P0 d m_St_isLatin1 [.ref s] h Q := by
  refine am_C_le hd (am_enter (d := 0) ap_St_isLatin1 rfl ?_) (fun _ _ k => k)
  refine am_go (fun _ => false) (fun K cal Q' hK hC hQ => ?_)
  refine And.intro (fun z => absurd (show nI 1 = 0 from z) (by decide)) (fun _ => ?_)
  refine And.intro S.1 ?_
  refine And.intro (fun z => absurd S.2.1 (show ¬ am_i2 h s 1 = 0 from z)) (fun _ => ?_)
  exact And.intro (Or.inr rfl) (hQ _ _ HQ)
theorem c_St_length (hd : 2 ≤ d) (S : isS h s tx) (HQ : Q (.inl (some (.int (nI tx.length)))) h) : am_C xs am_P0 d m_St_length [.ref s] h Q := by
  refine am_C_le hd (am_enter (d := 1) ap_St_length rfl ?_) (fun _ _ k => k)
  refine am_go (fun _ => false) (fun K cal Q' hK hC hQ => ?_)
  refine And.intro S.1 (And.intro (congrArg Prod.fst S.2.2.1) (And.intro S.1 (hC _ _ _ _ (c_St_coder (by decide) S ?_))))
  refine And.intro trivial (hQ _ _ ?_)
  show Q (.inl (some (.int (nI (am_k2 h (am_r2 h s)).2 >>> ((0 : Int32) &&& 31))))) h
  rw [S.2.2.1, sb_shr0]
  exact HQ
theorem c_L1_charAt (hd : 1 ≤ d) {b n c j : Nat} (hk : am_k2 h b = (3, n)) (hj : j < n) (hn : n < 1000) (hi : am_i2 h b j = nI c) (hc : c < 128) (HQ : Q (.inl (some (.int (nI c)))) h) : am_C xs am_P0 d m_L1_charAt [.ref b, .int (nI j)] h Q := by
  refine am_C_le hd (am_enter (d := 0) ap_L1_charAt rfl ?_) (fun _ _ k => k)
  refine am_go (fun _ => false) (fun K cal Q' hK hC hQ => ?_)
  refine And.intro (congrArg Prod.fst hk) (And.intro ⟨nI_pos (by omega), ?_⟩ (And.intro ⟨congrArg Prod.fst hk, ?_⟩ ?_))
  · show nI j < nI (am_k2 h b).2
    rw [hk]
    exact nI_lt hj (by omega)
  · rw [hk]
    exact vp_in_nI hj (by omega)
  · have e : ((am_i2 h b (nI j).toNatClampNeg &&& nI 255).toUInt32 % 65536).toInt32 = nI c := by
      rw [q_cl (by omega), hi]
      exact zb_char c hc
    refine And.intro ?_ (hQ _ _ ?_)
    · show 0 ≤ ((am_i2 h b (nI j).toNatClampNeg &&& nI 255).toUInt32 % 65536).toInt32 ∧ ((am_i2 h b (nI j).toNatClampNeg &&& nI 255).toUInt32 % 65536).toInt32 < 65536
      rw [e]
      exact ⟨nI_pos' (by omega), nI_lt (b := 65536) (by omega) (by decide)⟩
    · show Q (.inl (some (.int ((am_i2 h b (nI j).toNatClampNeg &&& nI 255).toUInt32 % 65536).toInt32))) h
      rw [e]
      exact HQ
theorem c_St_charAt (hd : 2 ≤ d) (S : isS h s tx) {j : Nat} (hj : j < tx.length) (HQ : Q (.inl (some (.int (nI (tx.getD j 0))))) h) : am_C xs am_P0 d m_St_charAt [.ref s, .int (nI j)] h Q := by
  refine am_C_le hd (am_enter (d := 1) ap_St_charAt rfl ?_) (fun _ _ k => k)
  refine am_go (fun _ => false) (fun K cal Q' hK hC hQ => ?_)
  refine And.intro S.1 (hC _ _ _ _ (c_St_isLatin1 (by decide) S ?_))
  refine And.intro (fun z => absurd (show nI 1 = 0 from z) (by decide)) (fun _ => ?_)
  refine And.intro S.1 (And.intro trivial (hC _ _ _ _ (c_L1_charAt (by decide) S.2.2.1 hj S.2.2.2.1 (S.2.2.2.2 j hj).1 (S.2.2.2.2 j hj).2 ?_)))
  refine And.intro ⟨nI_pos' ?_, nI_lt (b := 65536) ?_ (by decide)⟩ (hQ _ _ HQ) <;> (have := (S.2.2.2.2 j hj).2; omega)
/-- the bytes into an array of bytes -/
theorem c_St_getBytes (hd : 2 ≤ d) (S : isS h s tx) {b o m : Nat} (hb : am_k h b = (3, m)) (ho : o + tx.length ≤ m) (hm : m < 100000) (HQ : Q (.inl none) (am_cp2 h (am_r2 h s) 0 b o tx.length)) : am_C xs am_P0 d m_St_getBytes [.ref s, .ref b, .int (nI o), .int 0] h Q := by
  refine am_C_le hd (am_enter (d := 1) ap_St_getBytes rfl ?_) (fun _ _ k => k)
  refine am_go (fun _ => false) (fun K cal Q' hK hC hQ => ?_)
  refine And.intro S.1 (hC _ _ _ _ (c_St_coder (by decide) S ?_))
  refine And.intro (fun z => absurd rfl z) (fun _ => ?_)
  refine And.intro S.1 (And.intro S.1 (And.intro (congrArg Prod.fst S.2.2.1) ?_))
  have e1 : nI o <<< ((0 : Int32) &&& 31) = nI o := sb_shl0 _
  have e2 : (nI (am_k2 h (am_r2 h s)).2).toNatClampNeg = tx.length := by rw [S.2.2.1]; exact q_cl (by have := S.2.2.2.1; show tx.length < 2 ^ 31; omega)
  have e3 : (nI o <<< ((0 : Int32) &&& 31)).toNatClampNeg = o := by rw [e1]; exact q_cl (by omega)
  have e4 : (nI 0).toNatClampNeg = 0 := rfl
  refine And.intro ⟨⟨congrArg Prod.fst hb, congrArg Prod.fst S.2.2.1⟩, ⟨by decide, ?_, ?_⟩, ?_, ?_⟩ ?_
  · rw [e1]; exact nI_pos (by omega)
  · rw [S.2.2.1]; exact nI_pos (by have := S.2.2.2.1; show tx.length < 2 ^ 31; omega)
  · rw [e2, e4, S.2.2.1]; show 0 + tx.length ≤ tx.length; omega
  · rw [e2, e3, hb]; exact ho
  · refine And.intro trivial (hQ _ _ ?_)
    show Q (.inl none) (am_cp2 h (am_r2 h s) (nI 0).toNatClampNeg b (nI o <<< ((0 : Int32) &&& 31)).toNatClampNeg (nI (am_k2 h (am_r2 h s)).2).toNatClampNeg)
    rw [e2, e3, e4]
    exact HQ
theorem c_L1_canEncode (hd : 1 ≤ d) {c : Nat} (hc : c < 128) (HQ : Q (.inl (some (.int (nI 1)))) h) : am_C xs am_P0 d m_L1_canEncode [.int (nI c)] h Q := by
  refine am_C_le hd (am_enter (d := 0) ap_L1_canEncode rfl ?_) (fun _ _ k => k)
  refine am_go (fun _ => false) (fun K cal Q' hK hC hQ => ?_)
  refine And.intro (fun z => absurd (show nI 255 < nI c from z) (nI_nlt (by omega) (by decide))) (fun _ => ?_)
  exact And.intro (Or.inr rfl) (hQ _ _ HQ)
end
end
section
/-! THE JDK'S OWN METHODS THAT THE LAW'S TEXT NEEDS, 2: a StringBuilder's room -/
/-- a StringBuilder at a: its bytes at b, room for cap, the letters tx -/
def sbO (h : am_H) (a b cap : Nat) (tx : List Nat) : Prop := (a < am_n h ∧ b < am_n h) ∧ am_k h a = (1, 11) ∧ (am_i h a 1 = 0 ∧ am_i h a 3 = nI tx.length ∧ am_r h a 0 = b) ∧ am_k h b = (3, cap) ∧ (tx.length ≤ cap ∧ cap ≤ 2000) ∧ ∀ j, j < tx.length → am_i h b j = nI (tx.getD j 0) ∧ tx.getD j 0 < 128
/-- of the cells that were there, a and b alone may have changed; at most c cells of w slots are new -/
def jf (a b c w : Nat) (h h' : am_H) : Prop := (am_n h ≤ am_n h' ∧ am_n h' ≤ am_n h + c ∧ am_cs h' ≤ am_cs h + w) ∧ (∀ x, x < am_n h ∨ am_n h' ≤ x → am_k h' x = am_k h x) ∧ ∀ x, x < am_n h → x ≠ a → x ≠ b → am_i h' x = am_i h x ∧ am_r h' x = am_r h x
theorem jf.rf {a b c w : Nat} {h : am_H} : jf a b c w h h := ⟨⟨Nat.le_refl _, Nat.le_add_right _ _, Nat.le_add_right _ _⟩, fun _ _ => rfl, fun _ _ _ _ => ⟨rfl, rfl⟩⟩
theorem jf.tr {a b b2 c c2 w w2 : Nat} {h h1 h2 : am_H} (s : jf a b c w h h1) (t : jf a b2 c2 w2 h1 h2) (hb : b2 = b ∨ am_n h ≤ b2) : jf a b (c + c2) (w + w2) h h2 := by
  obtain ⟨⟨s1, s2, s3⟩, s4, s5⟩ := s
  obtain ⟨⟨t1, t2, t3⟩, t4, t5⟩ := t
  refine ⟨⟨by omega, by omega, by omega⟩, fun x hx => (t4 x (by omega)).trans (s4 x (by omega)), fun x hx ha hb' => ?_⟩
  have u := t5 x (by omega) ha (by rcases hb with e | e <;> omega)
  have v := s5 x hx ha hb'
  exact ⟨u.1.trans v.1, u.2.trans v.2⟩
theorem jf.mo {a b c c2 w w2 : Nat} {h h1 : am_H} (s : jf a b c w h h1) (hc : c ≤ c2) (hw : w ≤ w2) : jf a b c2 w2 h h1 := ⟨⟨s.1.1, by have := s.1.2.1; omega, by have := s.1.2.2; omega⟩, s.2⟩
theorem sbO.ne {h : am_H} {a b cap : Nat} {tx : List Nat} (S : sbO h a b cap tx) : a ≠ b := fun e => by
  have h1 := S.2.1
  have h2 := S.2.2.2.1
  rw [e, h2] at h1
  cases h1
theorem sbO.lk {h : am_H} {a b cap : Nat} {tx : List Nat} (S : sbO h a b cap tx) : am_k h (am_r h a 0) = (3, cap) := by rw [S.2.2.1.2.2]; exact S.2.2.2.1
theorem ck_al {h : am_H} {a t n : Nat} (hk : am_k h a = (t, n)) (h1 : 2 ≤ t) (h2 : t ≤ 6) : 2 ≤ (am_k h a).1 ∧ (am_k h a).1 ≤ 6 := by rw [hk]; exact ⟨h1, h2⟩
section
variable {xs : am_X} {d : Nat} {h : am_H} {Q : am_Q} {a b cap : Nat} {tx : List Nat}
theorem c_Su_newLength (hd : 1 ≤ d) {c g p : Nat} (hc : c < 10000) (hg : g < 10000) (hp : p < 10000) (h0 : 0 < p) (HQ : Q (.inl (some (.int (nI (c + if g < p then p else g))))) h) : am_C xs am_P0 d m_Su_newLength [.int (nI c), .int (nI g), .int (nI p)] h Q := by
  refine am_C_le hd (am_enter (d := 0) ap_Su_newLength rfl ?_) (fun _ _ k => k)
  refine am_go (fun _ => false) (fun K cal Q' hK hC hQ => ?_)
  have e : nI c + (if nI g < nI p then nI p else nI g) = nI (c + if g < p then p else g) := by
    by_cases q : g < p
    · rw [if_pos q, if_pos (nI_lt q (by omega)), nI_add]
    · rw [if_neg q, if_neg (nI_nlt (by omega) (by omega)), nI_add]
  have hb : (c + if g < p then p else g) < 30000 ∧ 0 < (c + if g < p then p else g) := by split <;> omega
  refine And.intro (fun z => ?_) (fun _ => ?_)
  · have z : nI c + (if nI g < nI p then nI p else nI g) ≤ nI 0 := z
    rw [e] at z
    exact absurd z (nI_ge hb.2 (by omega))
  refine And.intro (fun z => ?_) (fun _ => ?_)
  · have z : nI 2147483639 < nI c + (if nI g < nI p then nI p else nI g) := z
    rw [e] at z
    exact absurd z (nI_nlt (by omega) (by decide))
  refine And.intro trivial (hQ _ _ ?_)
  show Q (.inl (some (.int (nI c + (if nI g < nI p then nI p else nI g))))) h
  rw [e]
  exact HQ
theorem c_As_newCap (hd : 2 ≤ d) (S : sbO h a b cap tx) {m : Nat} (hm : cap < m) (hm9 : m ≤ 900) (HQ : Q (.inl (some (.int (nI (cap + if m - cap < cap + 2 then cap + 2 else m - cap))))) h) : am_C xs am_P0 d m_As_newCap [.ref a, .int (nI m)] h Q := by
  obtain ⟨⟨n1, n2⟩, ka, ⟨i1, i3, r0⟩, kb, ⟨l1, l2⟩, hx⟩ := id S
  have kr := S.lk
  refine am_C_le hd (am_enter (d := 1) ap_As_newCap rfl ?_) (fun _ _ k => k)
  refine am_go (fun _ => false) (fun K cal Q' hK hC hQ => ?_)
  refine And.intro ka (And.intro (ck_al kr (by decide) (by decide)) (And.intro ka (And.intro ka (And.intro trivial ?_))))
  show cal m_Su_newLength [.int (nI (am_k h (am_r h a 0)).2), .int ((nI m <<< (am_i h a 1 &&& 31)) - nI (am_k h (am_r h a 0)).2), .int (nI (am_k h (am_r h a 0)).2 + (nI 2 <<< (am_i h a 1 &&& 31)))] h _
  rw [kr, i1, sb_shl0, sb_shl0]
  show cal m_Su_newLength [.int (nI cap), .int (nI m - nI cap), .int (nI cap + nI 2)] h _
  rw [pk_sub (by omega : cap ≤ m), nI_add]
  refine hC _ _ _ _ (c_Su_newLength (by decide) (by omega) (by omega) (by omega) (by omega) ?_)
  have hv : (cap + if m - cap < cap + 2 then cap + 2 else m - cap) < 10000 := by split <;> omega
  generalize (cap + if m - cap < cap + 2 then cap + 2 else m - cap) = v at hv HQ ⊢
  refine And.intro (fun _ => ?_) (fun z => absurd (show nI v ≠ nI 2147483647 from fun e => by have := (nI_eq (by omega) (by decide)).mp e; omega) z)
  refine And.intro ka (And.intro trivial (hQ _ _ ?_))
  show Q (.inl (some (.int (nI v >>> (am_i h a 1 &&& 31))))) h
  rw [i1, sb_shr0]
  exact HQ
set_option maxHeartbeats 4000000 in
theorem c_JA_copyOfB (hd : 1 ≤ d) {c m : Nat} (hk : am_k h b = (3, c)) (hb : b < am_n h) (hN : am_n h < 900000) (hcm : c < m) (hm : m ≤ 10000) (HQ : Q (.inl (some (.ref (am_n h)))) (am_cp2 (am_new h 3 m m) b 0 (am_n h) 0 c)) : am_C xs am_P0 d m_JA_copyOfB [.ref b, .int (nI m)] h Q := by
  have e0 : am_S0 = 2000000 := rfl
  refine am_C_le hd (am_enter (d := 0) ap_JA_copyOfB rfl ?_) (fun _ _ k => k)
  refine am_go (fun p => p == 18) (fun K cal Q' hK hC hQ => ?_)
  refine And.intro (ck_al hk (by decide) (by decide)) (And.intro (fun _ => ?_) (fun z => absurd ?_ z))
  rotate_left
  · show ¬ nI m = nI (am_k h b).2
    rw [hk]
    exact fun e => by have := (nI_eq (by omega) (by omega)).mp (show nI m = nI c from e); omega
  refine And.intro ⟨by show am_n h < 1000000; omega, nI_pos (by omega), by rw [q_cl (by omega)]; omega⟩ (hK _ _ _ _ ?_)
  show am_W _ _ _ _ _ 18 [.ref b, .int (nI m), .ref (am_n h)] [] (am_new h 3 (nI m).toNatClampNeg (nI m).toNatClampNeg)
  rw [q_cl (by omega : m < 2 ^ 31)]
  have kb : am_k (am_new h 3 m m) b = (3, c) := by rw [k_new, if_neg (by omega)]; exact hk
  have kn : am_k (am_new h 3 m m) (am_n h) = (3, m) := by rw [k_new, if_pos rfl]
  generalize am_new h 3 m m = h1 at kb kn HQ ⊢
  refine am_go (fun _ => false) (fun K cal Q' hK hC hQ => ?_)
  refine And.intro (ck_al kb (by decide) (by decide)) ?_
  have eM : (if nI m < nI (am_k h1 b).2 then nI m else nI (am_k h1 b).2) = nI c := by rw [kb]; exact if_neg (nI_nlt (by omega) (by omega))
  have k2b : am_k2 h1 b = (3, c) := (k2_lo (by omega)).trans kb
  have c0 : (nI 0).toNatClampNeg = 0 := rfl
  have cc : (nI c).toNatClampNeg = c := q_cl (by omega)
  refine And.intro ⟨⟨congrArg Prod.fst kn, congrArg Prod.fst k2b⟩, ⟨by decide, by decide, ?_⟩, ?_, ?_⟩ ?_
  · show ¬ (if nI m < nI (am_k h1 b).2 then nI m else nI (am_k h1 b).2) < 0
    rw [eM]; exact nI_pos (by omega)
  · show (nI 0).toNatClampNeg + (if nI m < nI (am_k h1 b).2 then nI m else nI (am_k h1 b).2).toNatClampNeg ≤ (am_k2 h1 b).2
    rw [eM, c0, cc, k2b]; show 0 + c ≤ c; omega
  · show (nI 0).toNatClampNeg + (if nI m < nI (am_k h1 b).2 then nI m else nI (am_k h1 b).2).toNatClampNeg ≤ (am_k h1 (am_n h)).2
    rw [eM, c0, cc, kn]; show 0 + c ≤ m; omega
  · refine And.intro trivial (hQ _ _ ?_)
    show Q (.inl (some (.ref (am_n h)))) (am_cp2 h1 b (nI 0).toNatClampNeg (am_n h) (nI 0).toNatClampNeg (if nI m < nI (am_k h1 b).2 then nI m else nI (am_k h1 b).2).toNatClampNeg)
    rw [eM, c0, cc]
    exact HQ
set_option maxHeartbeats 4000000 in
theorem c_As_ensure (hd : 3 ≤ d) (S : sbO h a b cap tx) (hN : am_n h < 900000) {m : Nat} (hm : m ≤ 900) (HQ : ∀ h' b' cap', sbO h' a b' cap' tx → m ≤ cap' → jf a b 1 2000 h h' → (b' = b ∨ am_n h ≤ b') → Q (.inl none) h') : am_C xs am_P0 d m_As_ensure [.ref a, .int (nI m)] h Q := by
  obtain ⟨⟨n1, n2⟩, ka, ⟨i1, i3, r0⟩, kb, ⟨l1, l2⟩, hx⟩ := id S
  have kr := S.lk
  have hab := S.ne
  have e0 : am_S0 = 2000000 := rfl
  refine am_C_le hd (am_enter (d := 2) ap_As_ensure rfl ?_) (fun _ _ k => k)
  refine am_go (fun _ => false) (fun K cal Q' hK hC hQ => ?_)
  have eX : nI (am_k h (am_r h a 0)).2 >>> (am_i h a 1 &&& 31) = nI cap := by rw [kr, i1, sb_shr0]
  refine And.intro ka (And.intro (ck_al kr (by decide) (by decide)) (And.intro ka (And.intro (fun z => ?_) (fun z => ?_))))
  · have z : nI m - (nI (am_k h (am_r h a 0)).2 >>> (am_i h a 1 &&& 31)) ≤ 0 := z
    rw [eX, fa_le, pk_sub_toInt (by omega) (by omega)] at z
    have z : (m : Int) - cap ≤ 0 := z
    exact And.intro trivial (hQ _ _ (HQ h b cap S (by omega) jf.rf (Or.inl rfl)))
  · have z : ¬ nI m - (nI (am_k h (am_r h a 0)).2 >>> (am_i h a 1 &&& 31)) ≤ 0 := z
    rw [eX, fa_le, pk_sub_toInt (by omega) (by omega)] at z
    have z : ¬ (m : Int) - cap ≤ 0 := z
    refine And.intro ka (And.intro ka (hC _ _ _ _ (c_As_newCap (by decide) S (by omega) hm ?_)))
    have hv : (cap + if m - cap < cap + 2 then cap + 2 else m - cap) ≤ 2000 ∧ m ≤ (cap + if m - cap < cap + 2 then cap + 2 else m - cap) := by split <;> omega
    generalize (cap + if m - cap < cap + 2 then cap + 2 else m - cap) = v at hv ⊢
    refine And.intro ka (And.intro trivial ?_)
    show cal m_JA_copyOfB [.ref (am_r h a 0), .int (nI v <<< (am_i h a 1 &&& 31))] h _
    rw [r0, i1, sb_shl0]
    refine hC _ _ _ _ (c_JA_copyOfB (by decide) kb n2 hN (by omega) (by omega) ?_)
    have kN : am_k (am_cp2 (am_new h 3 v v) b 0 (am_n h) 0 cap) = am_k (am_new h 3 v v) := rfl
    refine And.intro (show am_k (am_cp2 (am_new h 3 v v) b 0 (am_n h) 0 cap) a = (1, 11) by rw [kN, k_new, if_neg (by omega)]; exact ka) (And.intro trivial (hQ _ _ ?_))
    have hI : ∀ x, x < am_n h → am_i (am_pr (am_cp2 (am_new h 3 v v) b 0 (am_n h) 0 cap) a 0 (am_n h)) x = am_i h x := fun x hx => by
      show am_i (am_cp2 (am_new h 3 v v) b 0 (am_n h) 0 cap) x = _
      rw [i_cp2_ne (by omega), i_new_ne (by omega)]
    have hK2 : ∀ x, am_k (am_pr (am_cp2 (am_new h 3 v v) b 0 (am_n h) 0 cap) a 0 (am_n h)) x = if x = am_n h then (3, v) else am_k h x := fun x => k_new h 3 v v x
    refine HQ (am_pr (am_cp2 (am_new h 3 v v) b 0 (am_n h) 0 cap) a 0 (am_n h)) (am_n h) v ⟨⟨?_, ?_⟩, ?_, ⟨?_, ?_, ?_⟩, ?_, ⟨by omega, hv.1⟩, fun j hj => ?_⟩ hv.2 ⟨⟨?_, ?_, ?_⟩, fun x hx => ?_, fun x hx ha' hb' => ⟨hI x hx, ?_⟩⟩ (Or.inr (Nat.le_refl _))
    · show a < am_n h + 1; omega
    · show am_n h < am_n h + 1; omega
    · rw [hK2, if_neg (by omega)]; exact ka
    · rw [hI a n1]; exact i1
    · rw [hI a n1]; exact i3
    · rw [r_pr, if_pos rfl, if_pos rfl]
    · rw [hK2, if_pos rfl]
    · show am_i (am_cp2 (am_new h 3 v v) b 0 (am_n h) 0 cap) (am_n h) j = _ ∧ _
      rw [i_cp2, if_pos ⟨rfl, by omega, by omega⟩, i2_lo (by omega), i_new_ne (by omega), show 0 + (j - 0) = j by omega]
      exact hx j hj
    · show am_n h ≤ am_n h + 1; omega
    · show am_n h + 1 ≤ am_n h + 1; omega
    · show am_cs h + v ≤ am_cs h + 2000; omega
    · rw [hK2, if_neg]
      have : am_n h < am_n h + 1 := by omega
      rcases hx with q | q
      · omega
      · have q : am_n h + 1 ≤ x := q
        omega
    · rw [r_pr_ne ha']
      show am_r (am_new h 3 v v) x = _
      exact r_new_ne (by omega)
theorem c_As_isLatin1 (hd : 1 ≤ d) (ka : am_k h a = (1, 11)) (i1 : am_i h a 1 = 0) (HQ : Q (.inl (some (.int (nI 1)))) h) : am_C xs am_P0 d m_As_isLatin1 [.ref a] h Q := by
  refine am_C_le hd (am_enter (d := 0) ap_As_isLatin1 rfl ?_) (fun _ _ k => k)
  refine am_go (fun _ => false) (fun K cal Q' hK hC hQ => ?_)
  refine And.intro (fun z => absurd (show nI 1 = 0 from z) (by decide)) (fun _ => ?_)
  refine And.intro ka ?_
  refine And.intro (fun z => absurd i1 (show ¬ am_i h a 1 = 0 from z)) (fun _ => ?_)
  exact And.intro (Or.inr rfl) (hQ _ _ HQ)
theorem c_As_inflIf (hd : 2 ≤ d) (ka : am_k h a = (1, 11)) (i1 : am_i h a 1 = 0) {s : Nat} {t2 : List Nat} (S : isS h s t2) (HQ : Q (.inl none) h) : am_C xs am_P0 d m_As_inflIf [.ref a, .ref s] h Q := by
  refine am_C_le hd (am_enter (d := 1) ap_As_inflIf rfl ?_) (fun _ _ k => k)
  refine am_go (fun _ => false) (fun K cal Q' hK hC hQ => ?_)
  refine And.intro (fun z => absurd (show nI 1 = 0 from z) (by decide)) (fun _ => ?_)
  refine And.intro ka (And.intro S.1 (hC _ _ _ _ (c_St_coder (by decide) S ?_)))
  exact And.intro (fun _ => And.intro trivial (hQ _ _ HQ)) (fun z => absurd i1 (show ¬ am_i h a 1 = 0 from z))
theorem c_As_putStr (hd : 3 ≤ d) (ka : am_k h a = (1, 11)) (i1 : am_i h a 1 = 0) (r0 : am_r h a 0 = b) (kb : am_k h b = (3, cap)) (hc : cap < 100000) {s o : Nat} {t2 : List Nat} (S : isS h s t2) (ho : o + t2.length ≤ cap) (HQ : Q (.inl none) (am_cp2 h (am_r2 h s) 0 b o t2.length)) : am_C xs am_P0 d m_As_putStr [.ref a, .int (nI o), .ref s] h Q := by
  refine am_C_le hd (am_enter (d := 2) ap_As_putStr rfl ?_) (fun _ _ k => k)
  refine am_go (fun _ => false) (fun K cal Q' hK hC hQ => ?_)
  refine And.intro ka (hC _ _ _ _ (c_As_inflIf (by decide) ka i1 S ?_))
  refine And.intro ka (And.intro ka (And.intro S.1 ?_))
  show cal m_St_getBytes [.ref s, .ref (am_r h a 0), .int (nI o), .int (am_i h a 1)] h _
  rw [r0, i1]
  exact hC _ _ _ _ (c_St_getBytes (by decide) S kb ho hc (And.intro trivial (hQ _ _ HQ)))
end
end
section
/-! THE JDK'S OWN METHODS THAT THE LAW'S TEXT NEEDS, 3: StringBuilder's append -/
theorem gd_app {tx t2 : List Nat} {j : Nat} (hj : j < (tx ++ t2).length) : (j < tx.length ∧ (tx ++ t2).getD j 0 = tx.getD j 0) ∨ (tx.length ≤ j ∧ j - tx.length < t2.length ∧ (tx ++ t2).getD j 0 = t2.getD (j - tx.length) 0) := by
  rw [List.length_append] at hj
  simp only [List.getD_eq_getElem?_getD]
  by_cases h : j < tx.length
  · left
    exact ⟨h, by rw [List.getElem?_append_left h]⟩
  · right
    exact ⟨by omega, by omega, by rw [List.getElem?_append_right (by omega)]⟩
/-- a natural below 100 as text -/
def dec2 (v : Nat) : List Nat := if v < 10 then [48 + v] else [48 + v / 10, 48 + v % 10]
theorem dec2_len (v : Nat) : (dec2 v).length = if v < 10 then 1 else 2 := by unfold dec2; split <;> rfl
theorem zb_byte : ∀ c, c < 128 → vp_nar .byte (nI c).toInt8.toInt32 = nI c := by decide +kernel
theorem zb_byte1 : ∀ c, c < 128 → vp_nar .byte (nI c) = nI c := by decide +kernel
/-- the letters t2 behind the letters tx -/
theorem sbO.add {h h1 : am_H} {a b cap : Nat} {tx t2 : List Nat} (S : sbO h a b cap tx) (hn : am_n h1 = am_n h) (hk : ∀ x, am_k h1 x = am_k h x) (i1 : am_i h1 a 1 = am_i h a 1) (i3 : am_i h1 a 3 = nI (tx.length + t2.length)) (r0 : am_r h1 a 0 = am_r h a 0) (hc : tx.length + t2.length ≤ cap)
    (lo : ∀ j, j < tx.length → am_i h1 b j = am_i h b j) (hi : ∀ j, j < t2.length → am_i h1 b (tx.length + j) = nI (t2.getD j 0) ∧ t2.getD j 0 < 128) : sbO h1 a b cap (tx ++ t2) := by
  obtain ⟨⟨n1, n2⟩, ka, ⟨j1, j3, q0⟩, kb, ⟨l1, l2⟩, hx⟩ := S
  refine ⟨⟨by rw [hn]; exact n1, by rw [hn]; exact n2⟩, (hk a).trans ka, ⟨i1.trans j1, by rw [List.length_append]; exact i3, r0.trans q0⟩, (hk b).trans kb, ⟨by rw [List.length_append]; exact hc, l2⟩, fun j hj => ?_⟩
  rcases gd_app hj with ⟨h1', e⟩ | ⟨h1', h2', e⟩
  · rw [e, lo j h1']
    exact hx j h1'
  · rw [e]
    have := hi (j - tx.length) h2'
    rw [show tx.length + (j - tx.length) = j by omega] at this
    exact this
section
variable {xs : am_X} {d : Nat} {h : am_H} {Q : am_Q} {a b cap : Nat} {tx : List Nat}
set_option maxHeartbeats 4000000 in
theorem c_As_appS (hd : 4 ≤ d) (S : sbO h a b cap tx) (hN : am_n h < 900000) {s : Nat} {t2 : List Nat} (hs0 : s ≠ 0) (S2 : ∀ h', jf a b 1 2000 h h' → isS h' s t2) (hm : tx.length + t2.length ≤ 900)
    (HQ : ∀ h' b' cap', sbO h' a b' cap' (tx ++ t2) → jf a b 1 2000 h h' → (b' = b ∨ am_n h ≤ b') → Q (.inl (some (.ref a))) h') : am_C xs am_P0 d m_As_appS [.ref a, .ref s] h Q := by
  have i3 := S.2.2.1.2.1
  refine am_C_le hd (am_enter (d := 3) ap_As_appS rfl ?_) (fun _ _ k => k)
  refine am_go (fun p => p == 24) (fun K cal Q' hK hC hQ => ?_)
  refine And.intro (fun _ => ?_) (fun z => absurd hs0 z)
  refine And.intro (S2 h jf.rf).1 (hC _ _ _ _ (c_St_length (by decide) (S2 h jf.rf) ?_))
  refine And.intro S.2.1 (And.intro S.2.1 ?_)
  show cal m_As_ensure [.ref a, .int (am_i h a 3 + nI t2.length)] h _
  rw [i3, nI_add]
  refine hC _ _ _ _ (c_As_ensure (by decide) S hN hm (fun h1 b1 cap1 S1 hc1 J1 hb1 => ?_))
  refine hK _ _ _ _ ?_
  show am_W _ _ _ _ _ 24 [.ref a, .ref s, .int (nI t2.length)] [] h1
  have T1 := S2 h1 J1
  obtain ⟨⟨n1, n2⟩, ka, ⟨i1, i3', r0⟩, kb, ⟨l1, l2⟩, hx⟩ := id S1
  have hab := S1.ne
  refine am_go (fun _ => false) (fun K cal Q' hK hC hQ => ?_)
  refine And.intro ka (And.intro ka ?_)
  show cal m_As_putStr [.ref a, .int (am_i h1 a 3), .ref s] h1 _
  rw [i3']
  refine hC _ _ _ _ (c_As_putStr (by decide) ka i1 r0 kb (by omega) T1 hc1 ?_)
  refine And.intro ka (And.intro ka (And.intro trivial (hQ _ _ ?_)))
  have eI : am_i (am_cp2 h1 (am_r2 h1 s) 0 b1 tx.length t2.length) a = am_i h1 a := i_cp2_ne hab
  show Q (.inl (some (.ref a))) (am_pi (am_cp2 h1 (am_r2 h1 s) 0 b1 tx.length t2.length) a 3 (am_i (am_cp2 h1 (am_r2 h1 s) 0 b1 tx.length t2.length) a 3 + nI t2.length))
  rw [eI, i3', nI_add]
  have Ib : ∀ x, x ≠ a → am_i (am_pi (am_cp2 h1 (am_r2 h1 s) 0 b1 tx.length t2.length) a 3 (nI (tx.length + t2.length))) x = am_i (am_cp2 h1 (am_r2 h1 s) 0 b1 tx.length t2.length) x := fun x hx => i_pi_ne hx
  refine HQ _ b1 cap1 (S1.add rfl (fun _ => rfl) ?_ ?_ rfl hc1 (fun j hj => ?_) (fun j hj => ?_)) ⟨J1.1, J1.2.1, fun x hx ha hb => ?_⟩ hb1
  · rw [i_pi_same, if_neg (by decide), eI]
  · rw [i_pi_same, if_pos rfl]
  · rw [Ib b1 (Ne.symm hab), i_cp2, if_neg (by omega)]
  · rw [Ib b1 (Ne.symm hab), i_cp2, if_pos ⟨rfl, by omega, by omega⟩, show 0 + (tx.length + j - tx.length) = j by omega]
    exact T1.2.2.2.2 j hj
  · have hxb : x ≠ b1 := by rcases hb1 with e | e <;> omega
    refine ⟨?_, (J1.2.2 x hx ha hb).2⟩
    rw [Ib x ha, i_cp2_ne hxb]
    exact (J1.2.2 x hx ha hb).1
set_option maxHeartbeats 4000000 in
theorem c_As_appC (hd : 4 ≤ d) (S : sbO h a b cap tx) (hN : am_n h < 900000) {c : Nat} (hc : c < 128) (hm : tx.length + 1 ≤ 900)
    (HQ : ∀ h' b' cap', sbO h' a b' cap' (tx ++ [c]) → jf a b 1 2000 h h' → (b' = b ∨ am_n h ≤ b') → Q (.inl (some (.ref a))) h') : am_C xs am_P0 d m_As_appC [.ref a, .int (nI c)] h Q := by
  have i3 := S.2.2.1.2.1
  refine am_C_le hd (am_enter (d := 3) ap_As_appC rfl ?_) (fun _ _ k => k)
  refine am_go (fun p => p == 10) (fun K cal Q' hK hC hQ => ?_)
  refine And.intro S.2.1 (And.intro S.2.1 ?_)
  show cal m_As_ensure [.ref a, .int (am_i h a 3 + nI 1)] h _
  rw [i3, nI_add]
  refine hC _ _ _ _ (c_As_ensure (by decide) S hN hm (fun h1 b1 cap1 S1 hc1 J1 hb1 => ?_))
  refine hK _ _ _ _ ?_
  show am_W _ _ _ _ _ 10 [.ref a, .int (nI c)] [] h1
  obtain ⟨⟨n1, n2⟩, ka, ⟨i1, i3', r0⟩, kb, ⟨l1, l2⟩, hx⟩ := id S1
  have hab := S1.ne
  refine am_go (fun _ => false) (fun K cal Q' hK hC hQ => ?_)
  refine And.intro ka (hC _ _ _ _ (c_As_isLatin1 (by decide) ka i1 ?_))
  refine And.intro (fun z => absurd (show nI 1 = 0 from z) (by decide)) (fun _ => ?_)
  refine And.intro trivial (hC _ _ _ _ (c_L1_canEncode (by decide) hc ?_))
  refine And.intro (fun z => absurd (show nI 1 = 0 from z) (by decide)) (fun _ => ?_)
  refine And.intro ka (And.intro ka (And.intro ka ?_))
  have e3 : am_i h1 a 3 + nI 1 = nI (tx.length + 1) := by rw [i3', nI_add]
  refine And.intro ?_ ?_
  · show am_arr (am_pi h1 a 3 (am_i h1 a 3 + nI 1)) (am_r h1 a 0) 3 (am_i h1 a 3)
    exact ck_row r0 kb i3' (by omega) (by omega)
  · refine And.intro trivial (hQ _ _ ?_)
    show Q (.inl (some (.ref a))) (am_pi (am_pi h1 a 3 (am_i h1 a 3 + nI 1)) (am_r h1 a 0) (am_i h1 a 3).toNatClampNeg (vp_nar .byte (nI c).toInt8.toInt32))
    rw [e3, i3', r0, q_cl (by omega), zb_byte c hc]
    have Ia : am_i (am_pi (am_pi h1 a 3 (nI (tx.length + 1))) b1 tx.length (nI c)) a = am_i (am_pi h1 a 3 (nI (tx.length + 1))) a := i_pi_ne hab
    refine HQ _ b1 cap1 (S1.add rfl (fun _ => rfl) ?_ ?_ rfl hc1 (fun j hj => ?_) (fun j hj => ?_)) ⟨J1.1, J1.2.1, fun x hx ha hb => ?_⟩ hb1
    · rw [Ia, i_pi_same, if_neg (by decide)]
    · rw [Ia, i_pi_same, if_pos rfl]; rfl
    · rw [i_pi_same, if_neg (by omega), i_pi_ne (Ne.symm hab)]
    · have hj0 : j = 0 := by have : j < 1 := hj; omega
      subst hj0
      rw [i_pi_same, if_pos (Nat.add_zero _)]
      exact ⟨rfl, hc⟩
    · have hxb : x ≠ b1 := by rcases hb1 with e | e <;> omega
      refine ⟨?_, (J1.2.2 x hx ha hb).2⟩
      rw [i_pi_ne hxb, i_pi_ne ha]
      exact (J1.2.2 x hx ha hb).1
set_option maxHeartbeats 4000000 in
theorem c_JI_stringSize (hd : 1 ≤ d) {v : Nat} (hv : v < 100) (HQ : Q (.inl (some (.int (nI (if v < 10 then 1 else 2))))) h) : am_C xs am_P0 d m_JI_stringSize [.int (nI v)] h Q := by
  have e10 : nI 10 * -nI 10 = -nI 100 := by decide
  refine am_C_le hd (am_enter (d := 0) ap_JI_stringSize rfl ?_) (fun _ _ k => k)
  refine am_go (fun p => p == 31) (fun K cal Q' hK hC hQ => ?_)
  refine And.intro (fun z => absurd (show nI v < 0 from z) (nI_pos (by omega))) (fun _ => ?_)
  refine And.intro (fun z => absurd (show nI 10 ≤ nI 1 from z) (by decide)) (fun _ => ?_)
  refine And.intro (fun z => hK _ _ _ _ ?_) (fun z => ?_)
  · have z : -nI v ≤ -nI 10 := z
    have hv10 := (sb_nle (by omega) (by omega)).mp z
    show am_W _ _ _ _ _ 31 [.int (-nI v), .int (nI 0), .int (-nI 10), .int (nI 1)] [] h
    refine am_go (fun _ => false) (fun K cal Q' hK hC hQ => ?_)
    refine And.intro (fun z => absurd (show nI 10 ≤ nI 1 + nI 1 from z) (by decide)) (fun _ => ?_)
    refine And.intro (fun z => absurd (show -nI v ≤ nI 10 * -nI 10 from z) ?_) (fun _ => ?_)
    · rw [e10]
      exact fun q => absurd ((sb_nle (by omega) (by omega)).mp q) (by omega)
    · refine And.intro trivial (hQ _ _ ?_)
      show Q (.inl (some (.int (nI 1 + nI 1 + nI 0)))) h
      rw [if_neg (by omega)] at HQ
      exact HQ
  · have z : ¬ -nI v ≤ -nI 10 := z
    have hv10 : v < 10 := by
      rcases Nat.lt_or_ge v 10 with q | q
      · exact q
      · exact absurd ((sb_nle (by omega) (by omega)).mpr q) z
    refine And.intro trivial (hQ _ _ ?_)
    show Q (.inl (some (.int (nI 1 + nI 0)))) h
    rw [if_pos hv10] at HQ
    exact HQ
/-- Integer.getChars of a natural below 100, its letters end ahead of p -/
def gch (h : am_H) (b p v : Nat) : am_H := if v < 10 then am_pi h b (p - 1) (nI (48 + v % 10)) else am_pi (am_pi h b (p - 1) (nI (48 + v % 10))) b (p - 1 - 1) (nI (48 + v / 10))
theorem tab_ones (h : am_H) (v : Nat) : am_i2 h (am_S0 + 2000) v = nI (48 + v % 10) := by
  unfold am_i2
  rw [if_neg (by decide), if_neg (by decide), if_neg (by decide), if_pos (by decide)]
theorem tab_tens (h : am_H) (v : Nat) : am_i2 h (am_S0 + 2001) v = nI (48 + v / 10) := by
  unfold am_i2
  rw [if_neg (by decide), if_neg (by decide), if_neg (by decide), if_neg (by decide)]
theorem tab_k0 (h : am_H) : am_k2 h (am_S0 + 2000) = (3, 100) := by
  unfold am_k2
  rw [if_neg (by decide), if_neg (by decide), if_neg (by decide), if_pos (Or.inl (by decide))]
theorem tab_k1 (h : am_H) : am_k2 h (am_S0 + 2001) = (3, 100) := by
  unfold am_k2
  rw [if_neg (by decide), if_neg (by decide), if_neg (by decide), if_pos (Or.inr (by decide))]
theorem am_dec1 (p : Nat) (hp : 0 < p) : am_inc (nI p) (Int.negSucc 0) = nI (p - 1) := pk_sub (a := p) (b := 1) hp
set_option maxHeartbeats 4000000 in
theorem c_JI_getChars (hd : 1 ≤ d) {v p : Nat} (hv : v < 100) (kb : am_k h b = (3, cap)) (hc : cap < 100000) (hp : p ≤ cap) (hp2 : (dec2 v).length ≤ p) (HQ : ∀ w, Q (.inl (some (.int w))) (gch h b p v)) : am_C xs am_P0 d m_JI_getChars [.int (nI v), .int (nI p), .ref b] h Q := by
  rw [dec2_len] at hp2
  have hp1 : 0 < p := by split at hp2 <;> omega
  refine am_C_le hd (am_enter (d := 0) ap_JI_getChars rfl ?_) (fun _ _ k => k)
  refine am_go (fun p => p == 72 || p == 85 || p == 104) (fun K cal Q' hK hC hQ => ?_)
  refine And.intro (fun _ => ?_) (fun z => absurd (show 0 ≤ nI v from nI_pos' (by omega)) z)
  refine And.intro (fun z => absurd rfl (show ¬ nI 0 = 0 from z)) (fun _ => ?_)
  refine And.intro (fun _ => hK _ _ _ _ ?_) (fun z => absurd (show -nI 100 < -nI v from (sb_nlt (by omega) (by omega)).mpr hv) z)
  show am_W _ _ _ _ _ 72 [.int (-nI v), .int (nI p), .ref b, am_J, am_J, .int (nI p), .int (nI 0)] [] h
  have en : -(-nI v) = nI v := Int32.neg_neg
  -- behind the digits
  have fin : ∀ (h' : am_H) (w : Nat), (∀ w, Q (.inl (some (.int w))) h') → am_W xs (am_code at_JI_getChars) (am_hd ah_JI_getChars) (am_C xs am_P0 0) Q 104 [.int (-nI v), .int (nI p), .ref b, am_J, am_J, .int (nI w), .int (nI 0)] [] h' := fun h' w HQ => by
    refine am_go (fun _ => false) (fun K cal Q' hK hC hQ => ?_)
    exact And.intro (fun _ => And.intro trivial (hQ _ _ (HQ _))) (fun z => absurd rfl (show ¬ nI 0 = 0 from z))
  refine am_go (fun p => p == 85) (fun K cal Q' hK hC hQ => ?_)
  refine And.intro ⟨congrArg Prod.fst (tab_k0 h), ?_⟩ (And.intro ?_ (hK _ _ _ _ ?_))
  · show vp_in (-(-nI v)) (am_k2 h (am_S0 + 2000)).2
    rw [en, tab_k0]
    exact vp_in_nI hv (by decide)
  · exact ck_arr kb (am_dec1 p hp1) (by omega) (by omega)
  show am_W _ _ _ _ _ 85 [.int (-nI v), .int (nI p), .ref b, am_J, am_J, .int (am_inc (nI p) (Int.negSucc 0)), .int (nI 0)] [] (am_pi h b (am_inc (nI p) (Int.negSucc 0)).toNatClampNeg (vp_nar .byte (am_i2 h (am_S0 + 2000) (-(-nI v)).toNatClampNeg)))
  rw [en, am_dec1 p hp1, q_cl (by omega), q_cl (by omega), tab_ones, zb_byte1 _ (by omega)]
  refine am_go (fun p => p == 104) (fun K cal Q' hK hC hQ => ?_)
  refine And.intro (fun z => ?_) (fun z => ?_)
  · have z : -nI 9 ≤ -nI v := z
    have hv9 : v < 10 := by have := (sb_nle (by omega) (by omega)).mp z; omega
    refine hK _ _ _ _ (fin _ _ fun w => ?_)
    have := HQ w
    unfold gch at this
    rw [if_pos hv9] at this
    exact this
  · have z : ¬ -nI 9 ≤ -nI v := z
    have hv9 : ¬ v < 10 := fun q => z ((sb_nle (by omega) (by omega)).mpr (by omega))
    rw [if_neg hv9] at hp2
    refine And.intro ⟨congrArg Prod.fst (tab_k1 _), ?_⟩ (And.intro ?_ (hK _ _ _ _ ?_))
    · show vp_in (-(-nI v)) (am_k2 _ (am_S0 + 2001)).2
      rw [en, tab_k1]
      exact vp_in_nI hv (by decide)
    · exact ck_arr (show am_k (am_pi h b (p - 1) (nI (48 + v % 10))) b = (3, cap) from kb) (am_dec1 (p - 1) (by omega)) (by omega) (by omega)
    show am_W _ _ _ _ _ 104 [.int (-nI v), .int (nI p), .ref b, am_J, am_J, .int (am_inc (nI (p - 1)) (Int.negSucc 0)), .int (nI 0)] [] (am_pi (am_pi h b (p - 1) (nI (48 + v % 10))) b (am_inc (nI (p - 1)) (Int.negSucc 0)).toNatClampNeg (vp_nar .byte (am_i2 (am_pi h b (p - 1) (nI (48 + v % 10))) (am_S0 + 2001) (-(-nI v)).toNatClampNeg)))
    rw [en, am_dec1 (p - 1) (by omega), q_cl (by omega), q_cl (by omega), tab_tens, zb_byte1 _ (by omega)]
    refine fin _ _ fun w => ?_
    have := HQ w
    unfold gch at this
    rw [if_neg hv9] at this
    exact this
set_option maxHeartbeats 4000000 in
theorem c_As_appI (hd : 4 ≤ d) (S : sbO h a b cap tx) (hN : am_n h < 900000) {v : Nat} (hv : v < 100) (hm : tx.length + 2 ≤ 900)
    (HQ : ∀ h' b' cap', sbO h' a b' cap' (tx ++ dec2 v) → jf a b 1 2000 h h' → (b' = b ∨ am_n h ≤ b') → Q (.inl (some (.ref a))) h') : am_C xs am_P0 d m_As_appI [.ref a, .int (nI v)] h Q := by
  have i3 := S.2.2.1.2.1
  have hl : (dec2 v).length ≤ 2 := by rw [dec2_len]; split <;> omega
  refine am_C_le hd (am_enter (d := 3) ap_As_appI rfl ?_) (fun _ _ k => k)
  refine am_go (fun p => p == 17) (fun K cal Q' hK hC hQ => ?_)
  refine And.intro S.2.1 (And.intro trivial (hC _ _ _ _ (c_JI_stringSize (by decide) hv ?_)))
  rw [← dec2_len]
  refine And.intro S.2.1 ?_
  have e3 : am_i h a 3 + nI (dec2 v).length = nI (tx.length + (dec2 v).length) := by rw [i3, nI_add]
  show cal m_As_ensure [.ref a, .int (am_i h a 3 + nI (dec2 v).length)] h _
  rw [e3]
  refine hC _ _ _ _ (c_As_ensure (by decide) S hN (by omega) (fun h1 b1 cap1 S1 hc1 J1 hb1 => ?_))
  refine hK _ _ _ _ ?_
  show am_W _ _ _ _ _ 17 [.ref a, .int (nI v), .int (am_i h a 3), .int (nI (tx.length + (dec2 v).length))] [] h1
  obtain ⟨⟨n1, n2⟩, ka, ⟨i1, i3', r0⟩, kb, ⟨l1, l2⟩, hx⟩ := id S1
  have hab := S1.ne
  refine am_go (fun _ => false) (fun K cal Q' hK hC hQ => ?_)
  refine And.intro ka (hC _ _ _ _ (c_As_isLatin1 (by decide) ka i1 ?_))
  refine And.intro (fun z => absurd (show nI 1 = 0 from z) (by decide)) (fun _ => ?_)
  refine And.intro ka (And.intro trivial ?_)
  show cal m_JI_getChars [.int (nI v), .int (nI (tx.length + (dec2 v).length)), .ref (am_r h1 a 0)] h1 _
  rw [r0]
  refine hC _ _ _ _ (c_JI_getChars (by decide) hv kb (by omega) hc1 (by omega) (fun w => ?_))
  have kG : ∀ x, am_k (gch h1 b1 (tx.length + (dec2 v).length) v) x = am_k h1 x := fun x => by unfold gch; split <;> rfl
  have rG : ∀ x, am_r (gch h1 b1 (tx.length + (dec2 v).length) v) x = am_r h1 x := fun x => by unfold gch; split <;> rfl
  have nG : am_n (gch h1 b1 (tx.length + (dec2 v).length) v) = am_n h1 := by unfold gch; split <;> rfl
  have cG : am_cs (gch h1 b1 (tx.length + (dec2 v).length) v) = am_cs h1 := by unfold gch; split <;> rfl
  have iG : ∀ x, x ≠ b1 → am_i (gch h1 b1 (tx.length + (dec2 v).length) v) x = am_i h1 x := fun x hx => by
    unfold gch
    split
    · exact i_pi_ne hx
    · rw [i_pi_ne hx, i_pi_ne hx]
  have lG : ∀ j, j < tx.length → am_i (gch h1 b1 (tx.length + (dec2 v).length) v) b1 j = am_i h1 b1 j := fun j hj => by
    rw [dec2_len]
    unfold gch
    by_cases q : v < 10
    · rw [if_pos q, if_pos q, i_pi_same, if_neg (by omega)]
    · rw [if_neg q, if_neg q, i_pi_same, if_neg (by omega), i_pi_same, if_neg (by omega)]
  have hG : ∀ j, j < (dec2 v).length → am_i (gch h1 b1 (tx.length + (dec2 v).length) v) b1 (tx.length + j) = nI ((dec2 v).getD j 0) ∧ (dec2 v).getD j 0 < 128 := fun j hj => by
    rw [dec2_len] at hj ⊢
    unfold gch dec2
    by_cases q : v < 10
    · rw [if_pos q] at hj
      rw [if_pos q, if_pos q, if_pos q, show j = 0 by omega, i_pi_same, if_pos (by omega)]
      refine ⟨?_, ?_⟩
      · show _ = nI (48 + v); rw [Nat.mod_eq_of_lt q]
      · show 48 + v < 128; omega
    · rw [if_neg q] at hj
      rw [if_neg q, if_neg q, if_neg q]
      rcases (show j = 0 ∨ j = 1 by omega) with rfl | rfl
      · rw [i_pi_same, if_pos (by omega)]
        exact ⟨rfl, by show 48 + v / 10 < 128; omega⟩
      · rw [i_pi_same, if_neg (by omega), i_pi_same, if_pos (by omega)]
        exact ⟨rfl, by show 48 + v % 10 < 128; omega⟩
  generalize gch h1 b1 (tx.length + (dec2 v).length) v = h2 at kG rG nG cG iG lG hG ⊢
  refine And.intro ((kG a).trans ka) (And.intro trivial (hQ _ _ ?_))
  refine HQ (am_pi h2 a 3 (nI (tx.length + (dec2 v).length))) b1 cap1 (S1.add nG kG ?_ ?_ (congrFun (rG a) 0) hc1 (fun j hj => ?_) (fun j hj => ?_)) ⟨⟨?_, ?_, ?_⟩, fun x hx' => ?_, fun x hx ha hb => ?_⟩ hb1
  · rw [i_pi_same, if_neg (by decide), iG a hab]
  · rw [i_pi_same, if_pos rfl]
  · rw [i_pi_ne (Ne.symm hab)]; exact lG j hj
  · rw [i_pi_ne (Ne.symm hab)]; exact hG j hj
  · show am_n h ≤ am_n h2; rw [nG]; exact J1.1.1
  · show am_n h2 ≤ _; rw [nG]; exact J1.1.2.1
  · show am_cs h2 ≤ _; rw [cG]; exact J1.1.2.2
  · exact (kG x).trans (J1.2.1 x (by rcases hx' with q | q; exact Or.inl q; exact Or.inr (by have q : am_n h2 ≤ x := q; rw [nG] at q; exact q)))
  · have hxb : x ≠ b1 := by rcases hb1 with e | e <;> omega
    refine ⟨?_, (rG x).trans (J1.2.2 x hx ha hb).2⟩
    rw [i_pi_ne ha, iG x hxb]
    exact (J1.2.2 x hx ha hb).1
theorem c_Sb_appS (hd : 5 ≤ d) (S : sbO h a b cap tx) (hN : am_n h < 900000) {s : Nat} {t2 : List Nat} (hs0 : s ≠ 0) (S2 : ∀ h', jf a b 1 2000 h h' → isS h' s t2) (hm : tx.length + t2.length ≤ 900)
    (HQ : ∀ h' b' cap', sbO h' a b' cap' (tx ++ t2) → jf a b 1 2000 h h' → (b' = b ∨ am_n h ≤ b') → Q (.inl (some (.ref a))) h') : am_C xs am_P0 d m_Sb_appS [.ref a, .ref s] h Q := by
  refine am_C_le hd (am_enter (d := 4) ap_Sb_appS rfl ?_) (fun _ _ k => k)
  refine am_go (fun _ => false) (fun K cal Q' hK hC hQ => ?_)
  exact And.intro S.2.1 (hC _ _ _ _ (c_As_appS (by decide) S hN hs0 S2 hm (fun h' b' cap' S' J hb => And.intro trivial (hQ _ _ (HQ h' b' cap' S' J hb)))))
theorem c_Sb_appA (hd : 6 ≤ d) (S : sbO h a b cap tx) (hN : am_n h < 900000) {s : Nat} {t2 : List Nat} (hs0 : s ≠ 0) (S2 : ∀ h', jf a b 1 2000 h h' → isS h' s t2) (hm : tx.length + t2.length ≤ 900)
    (HQ : ∀ h' b' cap', sbO h' a b' cap' (tx ++ t2) → jf a b 1 2000 h h' → (b' = b ∨ am_n h ≤ b') → Q (.inl (some (.ref a))) h') : am_C xs am_P0 d m_Sb_appA [.ref a, .ref s] h Q := by
  refine am_C_le hd (am_enter (d := 5) ap_Sb_appA rfl ?_) (fun _ _ k => k)
  refine am_go (fun _ => false) (fun K cal Q' hK hC hQ => ?_)
  exact And.intro S.2.1 (hC _ _ _ _ (c_Sb_appS (by decide) S hN hs0 S2 hm (fun h' b' cap' S' J hb => And.intro trivial (hQ _ _ (HQ h' b' cap' S' J hb)))))
theorem c_Sb_appC (hd : 5 ≤ d) (S : sbO h a b cap tx) (hN : am_n h < 900000) {c : Nat} (hc : c < 128) (hm : tx.length + 1 ≤ 900)
    (HQ : ∀ h' b' cap', sbO h' a b' cap' (tx ++ [c]) → jf a b 1 2000 h h' → (b' = b ∨ am_n h ≤ b') → Q (.inl (some (.ref a))) h') : am_C xs am_P0 d m_Sb_appC [.ref a, .int (nI c)] h Q := by
  refine am_C_le hd (am_enter (d := 4) ap_Sb_appC rfl ?_) (fun _ _ k => k)
  refine am_go (fun _ => false) (fun K cal Q' hK hC hQ => ?_)
  exact And.intro S.2.1 (hC _ _ _ _ (c_As_appC (by decide) S hN hc hm (fun h' b' cap' S' J hb => And.intro trivial (hQ _ _ (HQ h' b' cap' S' J hb)))))
theorem c_Sb_appI (hd : 5 ≤ d) (S : sbO h a b cap tx) (hN : am_n h < 900000) {v : Nat} (hv : v < 100) (hm : tx.length + 2 ≤ 900)
    (HQ : ∀ h' b' cap', sbO h' a b' cap' (tx ++ dec2 v) → jf a b 1 2000 h h' → (b' = b ∨ am_n h ≤ b') → Q (.inl (some (.ref a))) h') : am_C xs am_P0 d m_Sb_appI [.ref a, .int (nI v)] h Q := by
  refine am_C_le hd (am_enter (d := 4) ap_Sb_appI rfl ?_) (fun _ _ k => k)
  refine am_go (fun _ => false) (fun K cal Q' hK hC hQ => ?_)
  exact And.intro S.2.1 (hC _ _ _ _ (c_As_appI (by decide) S hN hv hm (fun h' b' cap' S' J hb => And.intro trivial (hQ _ _ (HQ h' b' cap' S' J hb)))))
end
end

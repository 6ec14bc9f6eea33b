/-! THE TIE: String constants: length and charAt by contract; written by wip/p43/gen155.py -/
abbrev yZ_coder : MethodName := ⟨"java/lang/String", "coder", "()B"⟩
abbrev yZ_length : MethodName := ⟨"java/lang/String", "length", "()I"⟩
abbrev yZ_isLatin1 : MethodName := ⟨"java/lang/String", "isLatin1", "()Z"⟩
abbrev yZ_checkIndex : MethodName := ⟨"java/lang/String", "checkIndex", "(II)V"⟩
abbrev yZ_charAt : MethodName := ⟨"java/lang/String", "charAt", "(I)C"⟩
abbrev yZ_charAtL : MethodName := ⟨"java/lang/StringLatin1", "charAt", "([BI)C"⟩
abbrev yZ_checkP : MethodName := ⟨"jdk/internal/util/Preconditions", "checkIndex", "(IILjava/util/function/BiFunction;)I"⟩
set_option maxRecDepth 100000 in
theorem zc_coder : Cond.code yZ_coder prog_23_method_152_code 1 (some .byte) ∈ lw_tbl := List.mem_of_getElem? (i := 521) rfl
set_option maxRecDepth 100000 in
theorem zc_length : Cond.code yZ_length prog_23_method_54_code 1 (some .int) ∈ lw_tbl := List.mem_of_getElem? (i := 517) rfl
set_option maxRecDepth 100000 in
theorem zc_isLatin1 : Cond.code yZ_isLatin1 prog_23_method_154_code 1 (some .boolean) ∈ lw_tbl := List.mem_of_getElem? (i := 531) rfl
set_option maxRecDepth 100000 in
theorem zc_checkIndex : Cond.code yZ_checkIndex prog_23_method_155_code 2 none ∈ lw_tbl := List.mem_of_getElem? (i := 537) rfl
set_option maxRecDepth 100000 in
theorem zc_charAt : Cond.code yZ_charAt prog_23_method_56_code 2 (some .char) ∈ lw_tbl := List.mem_of_getElem? (i := 527) rfl
set_option maxRecDepth 100000 in
theorem zc_charAtL : Cond.code yZ_charAtL prog_25_method_2_code 2 (some .char) ∈ lw_tbl := List.mem_of_getElem? (i := 534) rfl
set_option maxRecDepth 100000 in
theorem zc_checkP : Cond.code yZ_checkP prog_31_method_11_code 3 (some .int) ∈ lw_tbl := List.mem_of_getElem? (i := 542) rfl
theorem zf_38 : Cond.fieldLink am_ZC 38 am_ZC "COMPACT_STRINGS" "Z" ∈ lw_tbl := List.mem_of_getElem? (i := 522) (by decide +kernel)
theorem zf_15 : Cond.fieldLink am_ZC 15 am_ZC "coder" "B" ∈ lw_tbl := List.mem_of_getElem? (i := 1062) (by decide +kernel)
theorem zf_9 : Cond.fieldLink am_ZC 9 am_ZC "value" "[B" ∈ lw_tbl := List.mem_of_getElem? (i := 1061) (by decide +kernel)
theorem zf_1053 : Cond.fieldLink am_ZC 1053 am_ZP "SIOOBE_FORMATTER" am_ZF ∈ lw_tbl := List.mem_of_getElem? (i := 538) (by decide +kernel)
theorem zl_335 : Cond.methodLink am_ZC 335 yZ_coder ∈ lw_tbl := List.mem_of_getElem? (i := 518) (by decide +kernel)
theorem zl_492 : Cond.methodLink am_ZC 492 yZ_isLatin1 ∈ lw_tbl := List.mem_of_getElem? (i := 528) (by decide +kernel)
theorem zl_495 : Cond.methodLink am_ZC 495 yZ_charAtL ∈ lw_tbl := List.mem_of_getElem? (i := 532) (by decide +kernel)
theorem zl_9 : Cond.methodLink "java/lang/StringLatin1" 9 yZ_checkIndex ∈ lw_tbl := List.mem_of_getElem? (i := 535) (by decide +kernel)
theorem zl_1059 : Cond.methodLink am_ZC 1059 yZ_checkP ∈ lw_tbl := List.mem_of_getElem? (i := 540) (by decide +kernel)
theorem zi_coder : Cond.instanceMethod yZ_coder ∈ lw_tbl := List.mem_of_getElem? (i := 519) (by decide +kernel)
theorem zs_coder : Cond.selects am_ZC yZ_coder yZ_coder ∈ lw_tbl := List.mem_of_getElem? (i := 520) (by decide +kernel)
theorem zi_isLatin1 : Cond.instanceMethod yZ_isLatin1 ∈ lw_tbl := List.mem_of_getElem? (i := 529) (by decide +kernel)
theorem zs_isLatin1 : Cond.selects am_ZC yZ_isLatin1 yZ_isLatin1 ∈ lw_tbl := List.mem_of_getElem? (i := 530) (by decide +kernel)
theorem zi_length : Cond.instanceMethod yZ_length ∈ lw_tbl := List.mem_of_getElem? (i := 515) (by decide +kernel)
theorem zs_length : Cond.selects am_ZC yZ_length yZ_length ∈ lw_tbl := List.mem_of_getElem? (i := 516) (by decide +kernel)
theorem zi_charAt : Cond.instanceMethod yZ_charAt ∈ lw_tbl := List.mem_of_getElem? (i := 525) (by decide +kernel)
theorem zs_charAt : Cond.selects am_ZC yZ_charAt yZ_charAt ∈ lw_tbl := List.mem_of_getElem? (i := 526) (by decide +kernel)
theorem zt_charAtL : Cond.static yZ_charAtL ∈ lw_tbl := List.mem_of_getElem? (i := 533) (by decide +kernel)
theorem zt_checkIndex : Cond.static yZ_checkIndex ∈ lw_tbl := List.mem_of_getElem? (i := 536) (by decide +kernel)
theorem zt_checkP : Cond.static yZ_checkP ∈ lw_tbl := List.mem_of_getElem? (i := 541) (by decide +kernel)
theorem zn_S : Cond.initialized "java/lang/String" ∈ lw_tbl := List.mem_of_getElem? (i := 45) (by decide +kernel)
theorem zn_L : Cond.initialized "java/lang/StringLatin1" ∈ lw_tbl := List.mem_of_getElem? (i := 52) (by decide +kernel)
theorem zn_P : Cond.initialized "jdk/internal/util/Preconditions" ∈ lw_tbl := List.mem_of_getElem? (i := 51) (by decide +kernel)
theorem zq_s1_7 : Cond.methodLink (am_cn 7) 182 yZ_length ∈ lw_tbl := List.mem_of_getElem? (i := 599) (by decide +kernel)
theorem am_s1_ok : ∀ q ∈ am_s1_, Cond.methodLink (am_cn q.1) q.2 yZ_length ∈ lw_tbl := List.forall_mem_cons.mpr ⟨zq_s1_7, fun _ h => absurd h List.not_mem_nil⟩
theorem zq_s2_7 : Cond.methodLink (am_cn 7) 186 yZ_charAt ∈ lw_tbl := List.mem_of_getElem? (i := 600) (by decide +kernel)
theorem am_s2_ok : ∀ q ∈ am_s2_, Cond.methodLink (am_cn q.1) q.2 yZ_charAt ∈ lw_tbl := List.forall_mem_cons.mpr ⟨zq_s2_7, fun _ h => absurd h List.not_mem_nil⟩
theorem zd_length_0 : decode prog_23_method_54_code 0 = .ok (.aload_n 0, 1) := by decide +kernel
theorem zd_length_1 : decode prog_23_method_54_code 1 = .ok (.getfield 9, 3) := by decide +kernel
theorem zd_length_4 : decode prog_23_method_54_code 4 = .ok (.arraylength, 1) := by decide +kernel
theorem zd_length_5 : decode prog_23_method_54_code 5 = .ok (.aload_n 0, 1) := by decide +kernel
theorem zd_length_6 : decode prog_23_method_54_code 6 = .ok (.invokevirtual 335, 3) := by decide +kernel
theorem zd_length_9 : decode prog_23_method_54_code 9 = .ok (.ishr, 1) := by decide +kernel
theorem zd_length_10 : decode prog_23_method_54_code 10 = .ok (.ireturn, 1) := by decide +kernel
theorem zd_charAt_0 : decode prog_23_method_56_code 0 = .ok (.aload_n 0, 1) := by decide +kernel
theorem zd_charAt_1 : decode prog_23_method_56_code 1 = .ok (.invokevirtual 492, 3) := by decide +kernel
theorem zd_charAt_4 : decode prog_23_method_56_code 4 = .ok (.ifCond .eq 12, 3) := by decide +kernel
theorem zd_charAt_7 : decode prog_23_method_56_code 7 = .ok (.aload_n 0, 1) := by decide +kernel
theorem zd_charAt_8 : decode prog_23_method_56_code 8 = .ok (.getfield 9, 3) := by decide +kernel
theorem zd_charAt_11 : decode prog_23_method_56_code 11 = .ok (.iload_n 1, 1) := by decide +kernel
theorem zd_charAt_12 : decode prog_23_method_56_code 12 = .ok (.invokestatic 495, 3) := by decide +kernel
theorem zd_charAt_15 : decode prog_23_method_56_code 15 = .ok (.ireturn, 1) := by decide +kernel
theorem zd_charAt_16 : decode prog_23_method_56_code 16 = .ok (.aload_n 0, 1) := by decide +kernel
theorem zd_charAt_17 : decode prog_23_method_56_code 17 = .ok (.getfield 9, 3) := by decide +kernel
theorem zd_charAt_20 : decode prog_23_method_56_code 20 = .ok (.iload_n 1, 1) := by decide +kernel
theorem zd_charAt_21 : decode prog_23_method_56_code 21 = .ok (.invokestatic 498, 3) := by decide +kernel
theorem zd_charAt_24 : decode prog_23_method_56_code 24 = .ok (.ireturn, 1) := by decide +kernel
theorem zd_coder_0 : decode prog_23_method_152_code 0 = .ok (.getstatic 38, 3) := by decide +kernel
theorem zd_coder_3 : decode prog_23_method_152_code 3 = .ok (.ifCond .eq 10, 3) := by decide +kernel
theorem zd_coder_6 : decode prog_23_method_152_code 6 = .ok (.aload_n 0, 1) := by decide +kernel
theorem zd_coder_7 : decode prog_23_method_152_code 7 = .ok (.getfield 15, 3) := by decide +kernel
theorem zd_coder_10 : decode prog_23_method_152_code 10 = .ok (.goto 4, 3) := by decide +kernel
theorem zd_coder_13 : decode prog_23_method_152_code 13 = .ok (.iconst 1, 1) := by decide +kernel
theorem zd_coder_14 : decode prog_23_method_152_code 14 = .ok (.ireturn, 1) := by decide +kernel
theorem zd_isLatin1_0 : decode prog_23_method_154_code 0 = .ok (.getstatic 38, 3) := by decide +kernel
theorem zd_isLatin1_3 : decode prog_23_method_154_code 3 = .ok (.ifCond .eq 14, 3) := by decide +kernel
theorem zd_isLatin1_6 : decode prog_23_method_154_code 6 = .ok (.aload_n 0, 1) := by decide +kernel
theorem zd_isLatin1_7 : decode prog_23_method_154_code 7 = .ok (.getfield 15, 3) := by decide +kernel
theorem zd_isLatin1_10 : decode prog_23_method_154_code 10 = .ok (.ifCond .ne 7, 3) := by decide +kernel
theorem zd_isLatin1_13 : decode prog_23_method_154_code 13 = .ok (.iconst 1, 1) := by decide +kernel
theorem zd_isLatin1_14 : decode prog_23_method_154_code 14 = .ok (.goto 4, 3) := by decide +kernel
theorem zd_isLatin1_17 : decode prog_23_method_154_code 17 = .ok (.iconst 0, 1) := by decide +kernel
theorem zd_isLatin1_18 : decode prog_23_method_154_code 18 = .ok (.ireturn, 1) := by decide +kernel
theorem zd_checkIndex_0 : decode prog_23_method_155_code 0 = .ok (.iload_n 0, 1) := by decide +kernel
theorem zd_checkIndex_1 : decode prog_23_method_155_code 1 = .ok (.iload_n 1, 1) := by decide +kernel
theorem zd_checkIndex_2 : decode prog_23_method_155_code 2 = .ok (.getstatic 1053, 3) := by decide +kernel
theorem zd_checkIndex_5 : decode prog_23_method_155_code 5 = .ok (.invokestatic 1059, 3) := by decide +kernel
theorem zd_checkIndex_8 : decode prog_23_method_155_code 8 = .ok (.pop, 1) := by decide +kernel
theorem zd_checkIndex_9 : decode prog_23_method_155_code 9 = .ok (.return_, 1) := by decide +kernel
theorem zd_charAtL_0 : decode prog_25_method_2_code 0 = .ok (.iload_n 1, 1) := by decide +kernel
theorem zd_charAtL_1 : decode prog_25_method_2_code 1 = .ok (.aload_n 0, 1) := by decide +kernel
theorem zd_charAtL_2 : decode prog_25_method_2_code 2 = .ok (.arraylength, 1) := by decide +kernel
theorem zd_charAtL_3 : decode prog_25_method_2_code 3 = .ok (.invokestatic 9, 3) := by decide +kernel
theorem zd_charAtL_6 : decode prog_25_method_2_code 6 = .ok (.aload_n 0, 1) := by decide +kernel
theorem zd_charAtL_7 : decode prog_25_method_2_code 7 = .ok (.iload_n 1, 1) := by decide +kernel
theorem zd_charAtL_8 : decode prog_25_method_2_code 8 = .ok (.baload, 1) := by decide +kernel
theorem zd_charAtL_9 : decode prog_25_method_2_code 9 = .ok (.sipush 255, 3) := by decide +kernel
theorem zd_charAtL_12 : decode prog_25_method_2_code 12 = .ok (.iand, 1) := by decide +kernel
theorem zd_charAtL_13 : decode prog_25_method_2_code 13 = .ok (.i2c, 1) := by decide +kernel
theorem zd_charAtL_14 : decode prog_25_method_2_code 14 = .ok (.ireturn, 1) := by decide +kernel
theorem zd_checkP_0 : decode prog_31_method_11_code 0 = .ok (.iload_n 0, 1) := by decide +kernel
theorem zd_checkP_1 : decode prog_31_method_11_code 1 = .ok (.ifCond .lt 8, 3) := by decide +kernel
theorem zd_checkP_4 : decode prog_31_method_11_code 4 = .ok (.iload_n 0, 1) := by decide +kernel
theorem zd_checkP_5 : decode prog_31_method_11_code 5 = .ok (.iload_n 1, 1) := by decide +kernel
theorem zd_checkP_6 : decode prog_31_method_11_code 6 = .ok (.if_icmp .lt 10, 3) := by decide +kernel
theorem zd_checkP_9 : decode prog_31_method_11_code 9 = .ok (.aload_n 2, 1) := by decide +kernel
theorem zd_checkP_10 : decode prog_31_method_11_code 10 = .ok (.iload_n 0, 1) := by decide +kernel
theorem zd_checkP_11 : decode prog_31_method_11_code 11 = .ok (.iload_n 1, 1) := by decide +kernel
theorem zd_checkP_12 : decode prog_31_method_11_code 12 = .ok (.invokestatic 95, 3) := by decide +kernel
theorem zd_checkP_15 : decode prog_31_method_11_code 15 = .ok (.athrow, 1) := by decide +kernel
theorem zd_checkP_16 : decode prog_31_method_11_code 16 = .ok (.iload_n 0, 1) := by decide +kernel
theorem zd_checkP_17 : decode prog_31_method_11_code 17 = .ok (.ireturn, 1) := by decide +kernel
def am_Zq (ov : Option Value) : Array Value → State → Outcome → State → Prop := fun _ st o t => o = .returned ov ∧ t.heap = st.heap
theorem am_vrun {p : Program} {l : Launch} {e : Env} {R : Room} {s : State} {m : MethodId} {args : Array Value} {below : List Frame} {meth : Method} {c : Code} {H : Heap} {locs : List Loc} {cells slots pc : Nat} {ls : Array Slot} {st0 rest : List Value} {Q : State → Prop} {ov : Option Value} {aa : Array Value} (hr : va_Run p l e R s m args below meth c H locs cells slots 0 0 (F0 m pc ls st0) rest (am_Zq ov aa) (fun _ => False))
    (kk : W p l e R s m args below meth c H locs cells slots Q (F0 m (pc + 3) ls (ov.toList ++ rest))) : W p l e R s m args below meth c H locs cells slots Q (F0 m pc ls st0) := by
  intro T hT X
  obtain ⟨v, st₀, t, T', L, h0, X', hL, e1, e2, ⟨hv, hh⟩, st⟩ := hr T hT X
  cases hv
  have hL0 : L = [] := List.eq_nil_iff_forall_not_mem.mpr (fun q hq => hL q hq)
  subst hL0
  rw [List.append_nil] at X'
  obtain ⟨t2, a1, b1⟩ := kk T' (by rw [e1, hh, h0]) X'
  exact ⟨t2, st t2 a1, b1⟩
theorem am_goodc {y : MethodName} {cc : ByteArray} {n : Nat} {ret : Option FieldType} (h : Cond.code y cc n ret ∈ lw_tbl) : GoodIn am_TT (Cond.code y cc n ret :: am_TT) := fun w hw => by
  rcases List.mem_cons.mp hw with rfl | hw
  · exact ⟨am_TT_of h rfl, good_of_word rfl⟩
  · exact ⟨hw, good_of_word (List.mem_filter.mp hw).2⟩
def am_Zp (ad : Nat → Nat) (A : Nat → Prop) (H0 : Heap) (as : List Value) : Array Value → State → Prop := fun a U => a = as.toArray ∧ U.heap = H0 ∧ am_ST ad A U U.heap
theorem am_Zp.blind {ad : Nat → Nat} {A : Nat → Prop} {H0 : Heap} {as : List Value} : FrameBlind (am_Zp ad A H0 as) := fun a U g mk q => ⟨q.1, q.2.1, q.2.2.moved (u := U) (Vm.Alike.refl U.vm)⟩
def am_Zp1 (ad : Nat → Nat) (A : Nat → Prop) (H0 : Heap) (j v : Nat) (as : List Value) : Array Value → State → Prop := fun a U => am_Zp ad A H0 as a U ∧ am_ST1 (ad j) v (am_strs.getD j []) A U U.heap
theorem am_Zp1.blind {ad : Nat → Nat} {A : Nat → Prop} {H0 : Heap} {j v : Nat} {as : List Value} : FrameBlind (am_Zp1 ad A H0 j v as) := fun a U g mk q => ⟨am_Zp.blind a U g mk q.1, q.2.moved (u := U) (Vm.Alike.refl U.vm)⟩
theorem am_Zp.to {ad : Nat → Nat} {A : Nat → Prop} {s U : State} {H : Heap} {as : List Value} (h : am_ST ad A s s.heap) (hU : U.heap = H) (hW : s.WarmedH U.vm) (hq : ∀ q : Nat, q < s.heap.size → ¬ A q → H[q]? = s.heap[q]?) : am_Zp ad A H as as.toArray U := ⟨rfl, hU, by rw [hU]; exact (h.kept hq).moved hW.alike⟩
set_option maxHeartbeats 4000000 in
theorem zm_coder (l : Launch) (ad : Nat → Nat) (A : Nat → Prop) (H0 : Heap) (j : Nat) (hj : j < 15) : Met l yZ_coder (Cond.code yZ_coder prog_23_method_152_code 1 (some .byte) :: am_TT) ({ frames := 1, cells := 0, slots := 0, locals := 50 } : Jvm.Room) (am_Zp ad A H0 [.ref (ad j)]) (am_Zq (some (.int 0))) 0 0 (fun _ => False) := by
  refine Met.ofW (cc := prog_23_method_152_code) (maxL := 1) (ret := (some .byte)) (by decide) rfl ?_
  intro p e s m args below meth c s₁ B hml hv
  obtain ⟨rfl, rfl, hZ⟩ := hv
  have hx := B.exec
  have hb := B.bytes
  have hr := B.returns
  have hts : ∀ w ∈ am_TT, w.before _ s = true := fun w hw => atoms_spec B.pre w (List.mem_cons_of_mem _ hw)
  have hown : s.vm.findClass "java/lang/String" = some m.cls := findClass_of_methodNamed B.named
  have hlk := B.notSynchronized
  have hS : va_S A s.heap s.heap [] := va_S.rf
  have hl := lv_entry [Value.ref (ad j)] (n := 1) (Nat.le_of_ble_eq_true rfl)
  rw [lg_entry_eq]
  generalize (lg_sl [Value.ref (ad j)] ++ List.replicate (1 - (lg_sl [Value.ref (ad j)]).length) Slot.unset).toArray = ls at hl ⊢
  have hl : lv_has ls 1 [(0, .ref (ad j))] := hl
  obtain ⟨v, z1, z2, z3, z4⟩ : ∃ v, am_ST1 (ad j) v (am_strs.getD j []) A s s.heap := ⟨_, hZ.1 j hj⟩
  refine va_gets hx hb hZ.2.1 hS hown (am_w hts zf_38 rfl) (fun _ h => h) zd_coder_0 ?_
  refine lv_if_eq hx hb zd_coder_3 (tgt := 13) rfl (fun z => absurd z (by decide)) (fun _ => ?_)
  refine lv_aload_n hx hb zd_coder_6 rfl (lv_at hl 0 rfl) ?_
  refine vk_getf hx hb z2 hS hown (am_w hts zf_15 rfl) (fun _ h => h) zd_coder_7 ?_
  refine lv_goto hx hb zd_coder_10 (tgt := 14) rfl ?_
  exact W.zret hx hb hr (by decide) (fun t ht hW => ⟨rfl, ht⟩) (fun _ hq => nomatch hq) zd_coder_14
set_option maxHeartbeats 4000000 in
theorem zm_isLatin1 (l : Launch) (ad : Nat → Nat) (A : Nat → Prop) (H0 : Heap) (j : Nat) (hj : j < 15) : Met l yZ_isLatin1 (Cond.code yZ_isLatin1 prog_23_method_154_code 1 (some .boolean) :: am_TT) ({ frames := 1, cells := 0, slots := 0, locals := 50 } : Jvm.Room) (am_Zp ad A H0 [.ref (ad j)]) (am_Zq (some (.int 1))) 0 0 (fun _ => False) := by
  refine Met.ofW (cc := prog_23_method_154_code) (maxL := 1) (ret := (some .boolean)) (by decide) rfl ?_
  intro p e s m args below meth c s₁ B hml hv
  obtain ⟨rfl, rfl, hZ⟩ := hv
  have hx := B.exec
  have hb := B.bytes
  have hr := B.returns
  have hts : ∀ w ∈ am_TT, w.before _ s = true := fun w hw => atoms_spec B.pre w (List.mem_cons_of_mem _ hw)
  have hown : s.vm.findClass "java/lang/String" = some m.cls := findClass_of_methodNamed B.named
  have hlk := B.notSynchronized
  have hS : va_S A s.heap s.heap [] := va_S.rf
  have hl := lv_entry [Value.ref (ad j)] (n := 1) (Nat.le_of_ble_eq_true rfl)
  rw [lg_entry_eq]
  generalize (lg_sl [Value.ref (ad j)] ++ List.replicate (1 - (lg_sl [Value.ref (ad j)]).length) Slot.unset).toArray = ls at hl ⊢
  have hl : lv_has ls 1 [(0, .ref (ad j))] := hl
  obtain ⟨v, z1, z2, z3, z4⟩ : ∃ v, am_ST1 (ad j) v (am_strs.getD j []) A s s.heap := ⟨_, hZ.1 j hj⟩
  refine va_gets hx hb hZ.2.1 hS hown (am_w hts zf_38 rfl) (fun _ h => h) zd_isLatin1_0 ?_
  refine lv_if_eq hx hb zd_isLatin1_3 (tgt := 17) rfl (fun z => absurd z (by decide)) (fun _ => ?_)
  refine lv_aload_n hx hb zd_isLatin1_6 rfl (lv_at hl 0 rfl) ?_
  refine vk_getf hx hb z2 hS hown (am_w hts zf_15 rfl) (fun _ h => h) zd_isLatin1_7 ?_
  refine lv_if_ne hx hb zd_isLatin1_10 (tgt := 17) rfl (fun z => absurd rfl z) (fun _ => ?_)
  refine lv_iconst hx hb zd_isLatin1_13 (v := 1) rfl ?_
  refine lv_goto hx hb zd_isLatin1_14 (tgt := 18) rfl ?_
  exact W.zret hx hb hr (by decide) (fun t ht hW => ⟨rfl, ht⟩) (fun _ hq => nomatch hq) zd_isLatin1_18
set_option maxHeartbeats 4000000 in
theorem zm_checkP (l : Launch) (ad : Nat → Nat) (A : Nat → Prop) (H0 : Heap) (x y : Int32) (v9 : Value) (h9 : v9 = .null ∨ ∃ t, v9 = .ref t) (h0 : ¬ x < 0) (h1 : x < y) : Met l yZ_checkP (Cond.code yZ_checkP prog_31_method_11_code 3 (some .int) :: am_TT) ({ frames := 1, cells := 0, slots := 0, locals := 50 } : Jvm.Room) (am_Zp ad A H0 [.int x, .int y, v9]) (am_Zq (some (.int x))) 0 0 (fun _ => False) := by
  have hh9 : lv_args 0 [.int x, .int y, v9] = [(0, .int x), (1, .int y), (2, v9)] ∧ Nat.ble (lg_sl [.int x, .int y, v9]).length 3 = true := by
    rcases h9 with rfl | ⟨t, rfl⟩ <;> exact ⟨rfl, rfl⟩
  refine Met.ofW (cc := prog_31_method_11_code) (maxL := 3) (ret := (some .int)) (by decide) rfl ?_
  intro p e s m args below meth c s₁ B hml hv
  obtain ⟨rfl, rfl, hZ⟩ := hv
  have hx := B.exec
  have hb := B.bytes
  have hr := B.returns
  have hts : ∀ w ∈ am_TT, w.before _ s = true := fun w hw => atoms_spec B.pre w (List.mem_cons_of_mem _ hw)
  have hown : s.vm.findClass "jdk/internal/util/Preconditions" = some m.cls := findClass_of_methodNamed B.named
  have hlk := B.notSynchronized
  have hS : va_S A s.heap s.heap [] := va_S.rf
  have hl := lv_entry [.int x, .int y, v9] (n := 3) (Nat.le_of_ble_eq_true hh9.2)
  rw [lg_entry_eq]
  generalize (lg_sl [.int x, .int y, v9] ++ List.replicate (3 - (lg_sl [.int x, .int y, v9]).length) Slot.unset).toArray = ls at hl ⊢
  have hl : lv_has ls 3 [(0, .int x), (1, .int y), (2, v9)] := by rw [← hh9.1]; exact hl
  refine lv_iload_n hx hb zd_checkP_0 rfl (lv_at hl 0 rfl) ?_
  refine lv_if_lt hx hb zd_checkP_1 (tgt := 9) rfl (fun z => absurd z h0) (fun _ => ?_)
  refine lv_iload_n hx hb zd_checkP_4 rfl (lv_at hl 0 rfl) ?_
  refine lv_iload_n hx hb zd_checkP_5 rfl (lv_at hl 1 rfl) ?_
  refine lv_icmp_lt hx hb zd_checkP_6 (tgt := 16) rfl (fun _ => ?_) (fun z => absurd h1 z)
  refine lv_iload_n hx hb zd_checkP_16 rfl (lv_at hl 0 rfl) ?_
  exact W.iret hx hb hr (fun t ht hW => ⟨rfl, ht⟩) (fun _ hq => nomatch hq) zd_checkP_17
set_option maxHeartbeats 4000000 in
theorem zm_checkIndex (l : Launch) (ad : Nat → Nat) (A : Nat → Prop) (H0 : Heap) (x y : Int32) (h0 : ¬ x < 0) (h1 : x < y) : Met l yZ_checkIndex (Cond.code yZ_checkIndex prog_23_method_155_code 2 none :: am_TT) ({ frames := 3, cells := 0, slots := 0, locals := 100 } : Jvm.Room) (am_Zp ad A H0 [.int x, .int y]) (am_Zq (none)) 0 0 (fun _ => False) := by
  refine Met.ofW (cc := prog_23_method_155_code) (maxL := 2) (ret := none) (by decide) rfl ?_
  intro p e s m args below meth c s₁ B hml hv
  obtain ⟨rfl, rfl, hZ⟩ := hv
  have hx := B.exec
  have hb := B.bytes
  have hr := B.returns
  have hts : ∀ w ∈ am_TT, w.before _ s = true := fun w hw => atoms_spec B.pre w (List.mem_cons_of_mem _ hw)
  have hown : s.vm.findClass "java/lang/String" = some m.cls := findClass_of_methodNamed B.named
  have hlk := B.notSynchronized
  have hS : va_S A s.heap s.heap [] := va_S.rf
  have hl := lv_entry [.int x, .int y] (n := 2) (Nat.le_of_ble_eq_true rfl)
  rw [lg_entry_eq]
  generalize (lg_sl [.int x, .int y] ++ List.replicate (2 - (lg_sl [.int x, .int y]).length) Slot.unset).toArray = ls at hl ⊢
  have hl : lv_has ls 2 [(0, .int x), (1, .int y)] := hl
  obtain ⟨v9, h9, hz9⟩ : ∃ v9 : Value, (v9 = .null ∨ ∃ t, v9 = .ref t) ∧ va_Z am_ZP "SIOOBE_FORMATTER" am_ZF v9 A s s.heap := by
    rcases hZ.2.2.1 with z | ⟨t, z⟩
    · exact ⟨_, Or.inl rfl, z⟩
    · exact ⟨_, Or.inr ⟨t, rfl⟩, z⟩
  refine lv_iload_n hx hb zd_checkIndex_0 rfl (lv_at hl 0 rfl) ?_
  refine lv_iload_n hx hb zd_checkIndex_1 rfl (lv_at hl 1 rfl) ?_
  refine va_gets hx hb hz9 hS hown (am_w hts zf_1053 rfl) (fun _ h => h) zd_checkIndex_2 ?_
  refine am_vrun (va_runS (cc := _) (Ts := am_TT) (own := "java/lang/String") (index := 1059) (y := yZ_checkP) (n := 3) (As := [.int x, .int y, v9]) (bytes := prog_31_method_11_code) (maxL := 3) (ret := (some .int)) ⟨hx, hb, rfl, hown, hts⟩ (zm_checkP l ad A s.heap x y v9 h9 h0 h1) ⟨callB_of (ws' := am_TT) 3 hts (am_goodc zc_checkP) rfl rfl rfl (am_w hts zn_P rfl) (am_w hts zl_1059 rfl) ⟨by decide, by decide, by decide +kernel⟩ ⟨by decide, by decide⟩, am_w hts zt_checkP rfl⟩ ⟨am_Zp.blind, fun U hU hW => am_Zp.to hZ hU hW (fun q _ _ => rfl)⟩ rfl rfl (by rw [hml]; exact hl.1) rfl (Nat.le_of_ble_eq_true rfl) zd_checkIndex_5 ⟨Nat.zero_le _, Nat.zero_le _⟩) ?_
  refine lv_pop hx hb zd_checkIndex_8 rfl ?_
  exact W.vret hx hb hr (fun t ht hW => ⟨rfl, ht⟩) (fun _ hq => nomatch hq) zd_checkIndex_9
theorem am_zlen : ∀ j, j < 15 → (am_strs.getD j []).length < 100 := by decide +kernel
theorem am_zlt {x : Int32} {n : Nat} (h : vp_in x n) (hn : n < 1000) : x < nI n := by
  have h0 : ¬ x < 0 := fun z => h (Or.inl z)
  have h1 : x.toNatClampNeg < n := Nat.not_le.mp fun q => h (Or.inr q)
  obtain ⟨k, hk, rfl⟩ := nI_of h0
  rw [nI_clamp hk] at h1
  exact nI_lt h1 (by omega)
theorem am_zch : ∀ j, j < 15 → ∀ k, k < (am_strs.getD j []).length → ((nI ((am_strs.getD j []).getD k 0) &&& 255).toUInt32 % 65536).toInt32 = nI ((am_strs.getD j []).getD k 0) ∧ narrow .char (.int (nI ((am_strs.getD j []).getD k 0))) = .int (nI ((am_strs.getD j []).getD k 0)) := by decide +kernel
set_option maxHeartbeats 4000000 in
theorem zm_charAtL (l : Launch) (ad : Nat → Nat) (A : Nat → Prop) (H0 : Heap) (j v : Nat) (hj : j < 15) (x : Int32) (hx0 : vp_in x (am_strs.getD j []).length) : Met l yZ_charAtL (Cond.code yZ_charAtL prog_25_method_2_code 2 (some .char) :: am_TT) ({ frames := 5, cells := 0, slots := 0, locals := 150 } : Jvm.Room) (am_Zp1 ad A H0 j v [.ref v, .int x]) (am_Zq (some (.int (nI ((am_strs.getD j []).getD x.toNatClampNeg 0))))) 0 0 (fun _ => False) := by
  refine Met.ofW (cc := prog_25_method_2_code) (maxL := 2) (ret := (some .char)) (by decide) rfl ?_
  intro p e s m args below meth c s₁ B hml hv
  obtain ⟨⟨rfl, rfl, hZ⟩, hZ1⟩ := hv
  have hx := B.exec
  have hb := B.bytes
  have hr := B.returns
  have hts : ∀ w ∈ am_TT, w.before _ s = true := fun w hw => atoms_spec B.pre w (List.mem_cons_of_mem _ hw)
  have hown : s.vm.findClass "java/lang/StringLatin1" = some m.cls := findClass_of_methodNamed B.named
  have hlk := B.notSynchronized
  have hS : va_S A s.heap s.heap [] := va_S.rf
  have hl := lv_entry [Value.ref v, .int x] (n := 2) (Nat.le_of_ble_eq_true rfl)
  rw [lg_entry_eq]
  generalize (lg_sl [Value.ref v, .int x] ++ List.replicate (2 - (lg_sl [Value.ref v, .int x]).length) Slot.unset).toArray = ls at hl ⊢
  have hl : lv_has ls 2 [(0, .ref v), (1, .int x)] := hl
  obtain ⟨z1, z2, z3, z4⟩ := hZ1
  have hb9 := am_zlen j hj
  have h0 : ¬ x < 0 := fun z => hx0 (Or.inl z)
  have h1 : x < nI (am_strs.getD j []).length := am_zlt hx0 (by omega)
  refine lv_iload_n hx hb zd_charAtL_0 rfl (lv_at hl 1 rfl) ?_
  refine lv_aload_n hx hb zd_charAtL_1 rfl (lv_at hl 0 rfl) ?_
  refine va_tlen hx hb z4 hS rfl zd_charAtL_2 ?_
  refine am_vrun (va_runS (cc := _) (Ts := am_TT) (own := "java/lang/StringLatin1") (index := 9) (y := yZ_checkIndex) (n := 2) (As := [.int x, .int (Int32.ofNat (am_strs.getD j []).length)]) (bytes := prog_23_method_155_code) (maxL := 2) (ret := none) ⟨hx, hb, rfl, hown, hts⟩ (zm_checkIndex l ad A s.heap x (Int32.ofNat (am_strs.getD j []).length) h0 h1) ⟨callB_of (ws' := am_TT) 2 hts (am_goodc zc_checkIndex) rfl rfl rfl (am_w hts zn_S rfl) (am_w hts zl_9 rfl) ⟨by decide, by decide, by decide +kernel⟩ ⟨by decide, by decide⟩, am_w hts zt_checkIndex rfl⟩ ⟨am_Zp.blind, fun U hU hW => am_Zp.to hZ hU hW (fun q _ _ => rfl)⟩ rfl rfl (by rw [hml]; exact hl.1) rfl (Nat.le_of_ble_eq_true rfl) zd_charAtL_3 ⟨Nat.zero_le _, Nat.zero_le _⟩) ?_
  refine lv_aload_n hx hb zd_charAtL_6 rfl (lv_at hl 0 rfl) ?_
  refine lv_iload_n hx hb zd_charAtL_7 rfl (lv_at hl 1 rfl) ?_
  refine va_tb hx hb z4 hS hx0 rfl zd_charAtL_8 ?_
  refine lv_sipush hx hb zd_charAtL_9 (v := 255) (by decide) ?_
  refine lv_iand hx hb zd_charAtL_12 ?_
  have hlt : x.toNatClampNeg < (am_strs.getD j []).length := Nat.not_le.mp fun q => hx0 (Or.inr q)
  obtain ⟨k1, k2⟩ := am_zch j hj x.toNatClampNeg hlt
  refine lv_i2c hx hb zd_charAtL_13 k1 ?_
  exact W.zret hx hb hr k2 (fun t ht hW => ⟨rfl, ht⟩) (fun _ hq => nomatch hq) zd_charAtL_14
theorem am_zsh : ∀ j, j < 15 → Int32.ofNat (am_strs.getD j []).length >>> ((0 : Int32) &&& 31) = nI (am_strs.getD j []).length := by decide +kernel
set_option maxHeartbeats 4000000 in
theorem zm_length (l : Launch) (ad : Nat → Nat) (A : Nat → Prop) (H0 : Heap) (j : Nat) (hj : j < 15) : Met l yZ_length (Cond.code yZ_length prog_23_method_54_code 1 (some .int) :: am_TT) ({ frames := 3, cells := 0, slots := 0, locals := 100 } : Jvm.Room) (am_Zp ad A H0 [.ref (ad j)]) (am_Zq (some (.int (nI (am_strs.getD j []).length)))) 0 0 (fun _ => False) := by
  refine Met.ofW (cc := prog_23_method_54_code) (maxL := 1) (ret := (some .int)) (by decide) rfl ?_
  intro p e s m args below meth c s₁ B hml hv
  obtain ⟨rfl, rfl, hZ⟩ := hv
  have hx := B.exec
  have hb := B.bytes
  have hr := B.returns
  have hts : ∀ w ∈ am_TT, w.before _ s = true := fun w hw => atoms_spec B.pre w (List.mem_cons_of_mem _ hw)
  have hown : s.vm.findClass "java/lang/String" = some m.cls := findClass_of_methodNamed B.named
  have hlk := B.notSynchronized
  have hS : va_S A s.heap s.heap [] := va_S.rf
  have hl := lv_entry [Value.ref (ad j)] (n := 1) (Nat.le_of_ble_eq_true rfl)
  rw [lg_entry_eq]
  generalize (lg_sl [Value.ref (ad j)] ++ List.replicate (1 - (lg_sl [Value.ref (ad j)]).length) Slot.unset).toArray = ls at hl ⊢
  have hl : lv_has ls 1 [(0, .ref (ad j))] := hl
  obtain ⟨v, z1, z2, z3, z4⟩ : ∃ v, am_ST1 (ad j) v (am_strs.getD j []) A s s.heap := ⟨_, hZ.1 j hj⟩
  have zr : ∃ cell : Cell, s.heap[ad j]? = some cell ∧ cell.vm.isStatics = false ∧ s.vm.findClass am_ZC = some cell.cls := by obtain ⟨cell, h1, h2, h3, -⟩ := z1; exact ⟨cell, h1, h2, h3⟩
  refine lv_aload_n hx hb zd_length_0 rfl (lv_at hl 0 rfl) ?_
  refine vk_getf hx hb z3 hS hown (am_w hts zf_9 rfl) (fun _ h => h) zd_length_1 ?_
  refine va_tlen hx hb z4 hS rfl zd_length_4 ?_
  refine lv_aload_n hx hb zd_length_5 rfl (lv_at hl 0 rfl) ?_
  refine am_vrun (va_runV (cc := _) (Ts := am_TT) (own := "java/lang/String") (C := am_ZC) (index := 335) (y := yZ_coder) (n := 0) (b := ad j) (As := []) (bytes := prog_23_method_152_code) (maxL := 1) (ret := (some .byte)) ⟨hx, hb, rfl, hown, hts⟩ (zm_coder l ad A s.heap j hj) ⟨callB_of (ws' := am_TT) 0 hts (am_goodc zc_coder) rfl rfl rfl (am_w hts zn_S rfl) (am_w hts zl_335 rfl) ⟨by decide, by decide, by decide +kernel⟩ ⟨by decide, by decide⟩, am_w hts zi_coder rfl, am_w hts zs_coder rfl⟩ ⟨am_Zp.blind, zr, fun U hU hW => am_Zp.to hZ hU hW (fun q _ _ => rfl)⟩ rfl rfl (by rw [hml]; exact hl.1) rfl (Nat.le_of_ble_eq_true rfl) zd_length_6 ⟨Nat.zero_le _, Nat.zero_le _⟩) ?_
  refine lv_ishr hx hb zd_length_9 ?_
  have e9 : Int32.ofNat (am_strs.getD j []).length >>> ((0 : Int32) &&& 31) = nI (am_strs.getD j []).length := am_zsh j hj
  rw [e9]
  exact W.iret hx hb hr (fun t ht hW => ⟨rfl, ht⟩) (fun _ hq => nomatch hq) zd_length_10
set_option maxHeartbeats 4000000 in
theorem zm_charAt (l : Launch) (ad : Nat → Nat) (A : Nat → Prop) (H0 : Heap) (j : Nat) (hj : j < 15) (x : Int32) (hx0 : vp_in x (am_strs.getD j []).length) : Met l yZ_charAt (Cond.code yZ_charAt prog_23_method_56_code 2 (some .char) :: am_TT) ({ frames := 7, cells := 0, slots := 0, locals := 200 } : Jvm.Room) (am_Zp ad A H0 [.ref (ad j), .int x]) (am_Zq (some (.int (nI ((am_strs.getD j []).getD x.toNatClampNeg 0))))) 0 0 (fun _ => False) := by
  refine Met.ofW (cc := prog_23_method_56_code) (maxL := 2) (ret := (some .char)) (by decide) rfl ?_
  intro p e s m args below meth c s₁ B hml hv
  obtain ⟨rfl, rfl, hZ⟩ := hv
  have hx := B.exec
  have hb := B.bytes
  have hr := B.returns
  have hts : ∀ w ∈ am_TT, w.before _ s = true := fun w hw => atoms_spec B.pre w (List.mem_cons_of_mem _ hw)
  have hown : s.vm.findClass "java/lang/String" = some m.cls := findClass_of_methodNamed B.named
  have hlk := B.notSynchronized
  have hS : va_S A s.heap s.heap [] := va_S.rf
  have hl := lv_entry [Value.ref (ad j), .int x] (n := 2) (Nat.le_of_ble_eq_true rfl)
  rw [lg_entry_eq]
  generalize (lg_sl [Value.ref (ad j), .int x] ++ List.replicate (2 - (lg_sl [Value.ref (ad j), .int x]).length) Slot.unset).toArray = ls at hl ⊢
  have hl : lv_has ls 2 [(0, .ref (ad j)), (1, .int x)] := hl
  obtain ⟨v, z1, z2, z3, z4⟩ : ∃ v, am_ST1 (ad j) v (am_strs.getD j []) A s s.heap := ⟨_, hZ.1 j hj⟩
  have zr : ∃ cell : Cell, s.heap[ad j]? = some cell ∧ cell.vm.isStatics = false ∧ s.vm.findClass am_ZC = some cell.cls := by obtain ⟨cell, h1, h2, h3, -⟩ := z1; exact ⟨cell, h1, h2, h3⟩
  refine lv_aload_n hx hb zd_charAt_0 rfl (lv_at hl 0 rfl) ?_
  refine am_vrun (va_runV (cc := _) (Ts := am_TT) (own := "java/lang/String") (C := am_ZC) (index := 492) (y := yZ_isLatin1) (n := 0) (b := ad j) (As := []) (bytes := prog_23_method_154_code) (maxL := 1) (ret := (some .boolean)) ⟨hx, hb, rfl, hown, hts⟩ (zm_isLatin1 l ad A s.heap j hj) ⟨callB_of (ws' := am_TT) 0 hts (am_goodc zc_isLatin1) rfl rfl rfl (am_w hts zn_S rfl) (am_w hts zl_492 rfl) ⟨by decide, by decide, by decide +kernel⟩ ⟨by decide, by decide⟩, am_w hts zi_isLatin1 rfl, am_w hts zs_isLatin1 rfl⟩ ⟨am_Zp.blind, zr, fun U hU hW => am_Zp.to hZ hU hW (fun q _ _ => rfl)⟩ rfl rfl (by rw [hml]; exact hl.1) rfl (Nat.le_of_ble_eq_true rfl) zd_charAt_1 ⟨Nat.zero_le _, Nat.zero_le _⟩) ?_
  refine lv_if_eq hx hb zd_charAt_4 (tgt := 16) rfl (fun z => absurd z (by decide)) (fun _ => ?_)
  refine lv_aload_n hx hb zd_charAt_7 rfl (lv_at hl 0 rfl) ?_
  refine vk_getf hx hb z3 hS hown (am_w hts zf_9 rfl) (fun _ h => h) zd_charAt_8 ?_
  refine lv_iload_n hx hb zd_charAt_11 rfl (lv_at hl 1 rfl) ?_
  refine am_vrun (va_runS (cc := _) (Ts := am_TT) (own := "java/lang/String") (index := 495) (y := yZ_charAtL) (n := 2) (As := [.ref v, .int x]) (bytes := prog_25_method_2_code) (maxL := 2) (ret := (some .char)) ⟨hx, hb, rfl, hown, hts⟩ (zm_charAtL l ad A s.heap j v hj x hx0) ⟨callB_of (ws' := am_TT) 2 hts (am_goodc zc_charAtL) rfl rfl rfl (am_w hts zn_L rfl) (am_w hts zl_495 rfl) ⟨by decide, by decide, by decide +kernel⟩ ⟨by decide, by decide⟩, am_w hts zt_charAtL rfl⟩ ⟨am_Zp1.blind, fun U hU hW => ⟨am_Zp.to hZ hU hW (fun q _ _ => rfl), by rw [hU]; exact am_ST1.moved hW.alike ⟨z1, z2, z3, z4⟩⟩⟩ rfl rfl (by rw [hml]; exact hl.1) rfl (Nat.le_of_ble_eq_true rfl) zd_charAt_12 ⟨Nat.zero_le _, Nat.zero_le _⟩) ?_
  exact W.zret hx hb hr (am_zch j hj _ (Nat.not_le.mp fun q => hx0 (Or.inr q))).2 (fun t ht hW => ⟨rfl, ht⟩) (fun _ hq => nomatch hq) zd_charAt_15
section
variable {G : am_G} {xs : am_X} {own kind : Nat} {cc : ByteArray} {ret : Option FieldType} {p : Program} {l : Launch} {e : Env} {R : Room} {s : State} {m : MethodId} {args : Array Value} {below : List Frame} {meth : Method} {c : Code} {Q : State → Prop} {n0 s0 N1 C1 : Nat} {pc nx : Nat} {op : Instr} {L S L' S' : List Value} {h : am_H} {cal : am_Cal} {hdl : Nat → Nat → Option (Nat × Nat)} {Qq : am_Q}
def am_stro (op : Instr) : Bool := match op with
  | .monitorexit | .instanceof _ | .frem => true
  | _ => false
theorem am_adS {G : am_G} {a : Nat} (h : am_S0 ≤ a ∧ a - am_S0 < am_strs.length) : a ≠ 0 ∧ am_ad G a = G.2.2.2.1 (a - am_S0) ∧ a - am_S0 < 15 := by
  have e8 : am_strs.length = 15 := rfl
  have h2 := h.2
  rw [e8] at h2
  have h1 := h.1
  have e1 : am_S0 = 2000000 := rfl
  have e2 : am_top = 1000000 := rfl
  have e3 : am_scr = 3000000 := rfl
  refine ⟨by omega, ?_, h2⟩
  unfold am_ad
  rw [if_neg (by omega), if_pos (by omega)]
theorem am_cx_ok : ∀ q ∈ am_cx_, Cond.methodLink (am_cn q.1) q.2 yZ_checkIndex ∈ lw_tbl := by decide +kernel
set_option maxHeartbeats 4000000 in
theorem am_strW (E : am_Env G xs own kind cc p R s m args meth c) (hop : am_stro op = true) (ok : am_okb own kind cc ret pc op nx = true)
    (HS : am_out (am_PP G p l e R s m args below meth c Q n0 s0 N1 C1) cal hdl Qq pc nx L h (am_stp xs op nx S h)) (r1 : N1 - n0 ≤ R.cells) (r2 : C1 - s0 ≤ R.slots) : am_PP G p l e R s m args below meth c Q n0 s0 N1 C1 pc L S h := by
  obtain ⟨hx, hb, hown, hts, hsf, hki, hr1, hr2⟩ := E
  have hST := hsf.2.2.2.2.2.2.2.2.2.2.1
  cases op <;> first | (exfalso; simp only [am_stro] at hop; cases hop; done) | skip
  case monitorexit =>
    simp only [am_stp] at HS
    split at HS
    rotate_left
    · exact HS.elim
    rename_i a S0
    cases hsh : am_sh S0 with
    | false => rw [hsh] at HS; exact HS.elim
    | true =>
    rw [hsh] at HS
    obtain ⟨ha, HS⟩ := (show (am_S0 ≤ a ∧ a - am_S0 < am_strs.length) ∧ am_PP G p l e R s m args below meth c Q n0 s0 N1 C1 nx L (.int (nI (am_strs.getD (a - am_S0) []).length) :: S0) h from HS)
    simp only [am_okb] at ok
    split at ok
    rotate_left
    · cases ok
    rename_i i9 hd
    simp only [Bool.and_eq_true, beq_iff_eq, List.contains_iff_mem] at ok
    obtain ⟨ok, rfl⟩ := ok
    obtain ⟨a0, a1, a2⟩ := am_adS (G := G) ha
    have u1 := HS.1
    have u2 := HS.2.1
    have hW : 2 * (F0 m pc (#[] : Array Slot) []).monitorRoom + ((S0.map (am_v G)).map fun v => v.category).sum ≤ 8 := by
      show 2 * 0 + _ ≤ 8
      have := am_sh_sum (G := G) hsh
      omega
    refine ⟨HS.1, HS.2.1, fun q1 q2 q3 H locs ls hR hS hl => ?_⟩
    obtain ⟨v, z1, z2, z3, z4⟩ : ∃ v, am_ST1 (G.2.2.2.1 (a - am_S0)) v (am_strs.getD (a - am_S0) []) (am_A G) s s.heap := ⟨_, hST.1 _ a2⟩
    have zr : ∃ cell : Cell, H[am_ad G a]? = some cell ∧ cell.vm.isStatics = false ∧ s.vm.findClass am_ZC = some cell.cls := by
      obtain ⟨cell, h1, h2, h3, -⟩ := z1.kept hS.2.1
      rw [a1]
      exact ⟨cell, h1, h2, h3⟩
    rw [List.map_cons, am_v1 G a0]
    refine am_vrun (va_runV (cc := cc) (Ts := am_TT) (own := am_cn own) (C := am_ZC) (index := i9) (y := yZ_length) (n := 0) (b := am_ad G a) (As := []) (bytes := prog_23_method_54_code) (maxL := 1) (ret := (some .int)) ⟨hx, hb, rfl, hown, hts⟩ (zm_length l G.2.2.2.1 (am_A G) H (a - am_S0) a2) ⟨callB_of (ws' := am_TT) 0 hts (am_goodc zc_length) rfl rfl rfl (am_w hts zn_S rfl) (am_w hts (am_s1_ok _ ok) rfl) ⟨by decide, by decide, by decide +kernel⟩ ⟨by show 3 + 1 ≤ _; omega, by show 8 + (1 + 11) + 100 ≤ _; omega⟩, am_w hts zi_length rfl, am_w hts zs_length rfl⟩ ⟨am_Zp.blind, zr, fun U hU hW => by rw [a1]; exact am_Zp.to hST hU hW hS.2.1⟩ rfl rfl (hl.1.trans q3) rfl hW (am_dec_of hd) ⟨by omega, by omega⟩) ?_
    exact HS.2.2 q1 q2 q3 H locs ls hR hS hl
  case instanceof j9 =>
    simp only [am_stp] at HS
    split at HS
    rotate_left
    · exact HS.elim
    rename_i x a S0
    cases hsh : am_sh S0 with
    | false => rw [hsh] at HS; exact HS.elim
    | true =>
    rw [hsh] at HS
    obtain ⟨⟨ha, hin⟩, HS⟩ := (show ((am_S0 ≤ a ∧ a - am_S0 < am_strs.length) ∧ vp_in x (am_strs.getD (a - am_S0) []).length) ∧ am_PP G p l e R s m args below meth c Q n0 s0 N1 C1 nx L (.int (nI ((am_strs.getD (a - am_S0) []).getD x.toNatClampNeg 0)) :: S0) h from HS)
    simp only [am_okb] at ok
    split at ok
    rotate_left
    · cases ok
    rename_i i9 hd
    simp only [Bool.and_eq_true, beq_iff_eq, List.contains_iff_mem] at ok
    obtain ⟨ok, rfl⟩ := ok
    obtain ⟨a0, a1, a2⟩ := am_adS (G := G) ha
    have u1 := HS.1
    have u2 := HS.2.1
    have hW : 2 * (F0 m pc (#[] : Array Slot) []).monitorRoom + ((S0.map (am_v G)).map fun v => v.category).sum ≤ 8 := by
      show 2 * 0 + _ ≤ 8
      have := am_sh_sum (G := G) hsh
      omega
    refine ⟨HS.1, HS.2.1, fun q1 q2 q3 H locs ls hR hS hl => ?_⟩
    obtain ⟨v, z1, z2, z3, z4⟩ : ∃ v, am_ST1 (G.2.2.2.1 (a - am_S0)) v (am_strs.getD (a - am_S0) []) (am_A G) s s.heap := ⟨_, hST.1 _ a2⟩
    have zr : ∃ cell : Cell, H[am_ad G a]? = some cell ∧ cell.vm.isStatics = false ∧ s.vm.findClass am_ZC = some cell.cls := by
      obtain ⟨cell, h1, h2, h3, -⟩ := z1.kept hS.2.1
      rw [a1]
      exact ⟨cell, h1, h2, h3⟩
    rw [List.map_cons, List.map_cons, am_v1 G a0]
    refine am_vrun (va_runV (cc := cc) (Ts := am_TT) (own := am_cn own) (C := am_ZC) (index := i9) (y := yZ_charAt) (n := 1) (b := am_ad G a) (As := [.int x]) (bytes := prog_23_method_56_code) (maxL := 2) (ret := (some .char)) ⟨hx, hb, rfl, hown, hts⟩ (zm_charAt l G.2.2.2.1 (am_A G) H (a - am_S0) a2 x hin) ⟨callB_of (ws' := am_TT) 1 hts (am_goodc zc_charAt) rfl rfl rfl (am_w hts zn_S rfl) (am_w hts (am_s2_ok _ ok) rfl) ⟨by decide, by decide, by decide +kernel⟩ ⟨by show 7 + 1 ≤ _; omega, by show 8 + (2 + 11) + 200 ≤ _; omega⟩, am_w hts zi_charAt rfl, am_w hts zs_charAt rfl⟩ ⟨am_Zp.blind, zr, fun U hU hW => by rw [a1]; exact am_Zp.to hST hU hW hS.2.1⟩ rfl rfl (hl.1.trans q3) rfl hW (am_dec_of hd) ⟨by omega, by omega⟩) ?_
    exact HS.2.2 q1 q2 q3 H locs ls hR hS hl
  case frem =>
    simp only [am_stp] at HS
    split at HS
    rotate_left
    · exact HS.elim
    rename_i n x S0
    cases hsh : am_sh S0 with
    | false => rw [hsh] at HS; exact HS.elim
    | true =>
    rw [hsh] at HS
    obtain ⟨⟨h0, h1⟩, HS⟩ := (show (¬ x < 0 ∧ x < n) ∧ am_PP G p l e R s m args below meth c Q n0 s0 N1 C1 nx L S0 h from HS)
    simp only [am_okb] at ok
    split at ok
    rotate_left
    · cases ok
    rename_i i9 hd
    simp only [Bool.and_eq_true, beq_iff_eq, List.contains_iff_mem] at ok
    obtain ⟨ok, rfl⟩ := ok
    have u1 := HS.1
    have u2 := HS.2.1
    have hW : 2 * (F0 m pc (#[] : Array Slot) []).monitorRoom + ((S0.map (am_v G)).map fun v => v.category).sum ≤ 8 := by
      show 2 * 0 + _ ≤ 8
      have := am_sh_sum (G := G) hsh
      omega
    refine ⟨HS.1, HS.2.1, fun q1 q2 q3 H locs ls hR hS hl => ?_⟩
    rw [List.map_cons, List.map_cons]
    refine am_vrun (va_runS (cc := cc) (Ts := am_TT) (own := am_cn own) (index := i9) (y := yZ_checkIndex) (n := 2) (As := [.int x, .int n]) (bytes := prog_23_method_155_code) (maxL := 2) (ret := none) ⟨hx, hb, rfl, hown, hts⟩ (zm_checkIndex l G.2.2.2.1 (am_A G) H x n h0 h1) ⟨callB_of (ws' := am_TT) 2 hts (am_goodc zc_checkIndex) rfl rfl rfl (am_w hts zn_S rfl) (am_w hts (am_cx_ok _ ok) rfl) ⟨by decide, by decide, by decide +kernel⟩ ⟨by show 3 + 1 ≤ _; omega, by show 8 + (2 + 11) + 100 ≤ _; omega⟩, am_w hts zt_checkIndex rfl⟩ ⟨am_Zp.blind, fun U hU hW => am_Zp.to hST hU hW hS.2.1⟩ rfl rfl (hl.1.trans q3) rfl hW (am_dec_of hd) ⟨by omega, by omega⟩) ?_
    exact HS.2.2 q1 q2 q3 H locs ls hR hS hl
end

section
variable {G : am_G} {xs : am_X} {own kind : Nat} {cc : ByteArray} {ret : Option FieldType} {p : Program} {l : Launch} {e : Env} {R : Room} {s : State} {m : MethodId} {args : Array Value} {below : List Frame} {meth : Method} {c : Code} {Q : State → Prop} {n0 s0 N1 C1 : Nat} {pc nx : Nat} {op : Instr} {L S L' S' : List Value} {h : am_H} {cal : am_Cal} {hdl : Nat → Nat → Option (Nat × Nat)} {Qq : am_Q}
def am_pure (op : Instr) : Bool := match op with
  | .ldc _ | .ldc_w _ | .ldc2_w _ | .goto_w _ | .invokedynamic _ | .invokeinterface _ _ | .aconst_null | .iadd | .isub | .imul | .idiv | .irem | .iand | .ior | .ixor | .ishl | .ishr | .iushr | .i2l | .l2i | .i2b | .i2f | .ladd | .lsub | .lmul | .ldiv | .lneg | .lcmp | .fadd | .fmul | .fdiv | .f2d | .dcmp _ | .dup | .dup2 | .dup_x1 | .ineg | .i2c | .pop | .goto _ | .if_icmp _ _ | .ifCond _ _ | .ifnull _ | .ifnonnull _ | .pop2 | .tableswitch _ _ _ _ => true
  | _ => false
theorem am_v0 (G : am_G) : am_v G (.ref 0) = .null := rfl
theorem am_v1 (G : am_G) {a : Nat} (h : a ≠ 0) : am_v G (.ref a) = .ref (am_ad G a) := by
  unfold am_v
  dsimp only
  rw [if_neg h]
theorem am_tg {off t : Int} (h : am_tgt pc off t = true) : (pc : Int) + off = (t.toNat : Int) := by
  simp only [am_tgt, Bool.and_eq_true, decide_eq_true_eq] at h
  omega
theorem am_ldcwf {H : Heap} {locs : List Loc} {cells slots : Nat} {ls : Array Slot} {rest : List Value} (hexec : p.tables.exec = Jvm.exec) (hb : c.code = cc) {own : String} {index : Nat} {v : UInt32} (hown : s.vm.findClass own = some m.cls) (hconst : (Jvm.Cond.constantFloat own index v).before args s = true) (hdg : decode cc pc = .ok (.ldc_w index, 3)) (k : W p l e R s m args below meth c H locs cells slots Q (F0 m (pc + 3) ls (.float v :: rest))) : W p l e R s m args below meth c H locs cells slots Q (F0 m pc ls rest) := by
  intro T hT X
  obtain ⟨t, a, b⟩ := k T hT X
  refine ⟨t, ?_, b⟩
  obtain ⟨k9, cf, hk, hcf, hcp⟩ := Cond.constantFloat_spec hown hconst
  obtain ⟨k', hk', he⟩ := X.warmed.alike.2.2 _ _ hk
  have hdg' : decode c.code pc = .ok (.ldc_w index, 3) := by rw [hb]; exact hdg
  jvm_step X.here [hexec, hdg', ldc_w.wp_float (s := T) (f := F0 m pc ls rest) X.here.top hk' (by rw [he]; exact hcf) hcp]
  exact a
def am_gsw (k : Nat) : String × String × String := match k with
  | 0 => (am_ZC, "COMPACT_STRINGS", "Z")
  | 1 => (am_ZI, "DigitOnes", "[B")
  | _ => (am_ZI, "DigitTens", "[B")
theorem am_gs_ok : ∀ q ∈ am_gs_, Cond.fieldLink (am_cn q.1) q.2.1 (am_gsw q.2.2).1 (am_gsw q.2.2).2.1 (am_gsw q.2.2).2.2 ∈ lw_tbl := by decide +kernel
set_option maxHeartbeats 8000000 in
theorem am_pureW (E : am_Env G xs own kind cc p R s m args meth c) (hop : am_pure op = true) (ok : am_okb own kind cc ret pc op nx = true) (HS : am_out (am_PP G p l e R s m args below meth c Q n0 s0 N1 C1) cal hdl Qq pc nx L h (am_stp xs op nx S h)) : am_PP G p l e R s m args below meth c Q n0 s0 N1 C1 pc L S h := by
  obtain ⟨hx, hb, hown, hts, hsf, hki, hr1, hr2⟩ := E
  cases op <;> first | (exfalso; simp only [am_pure] at hop; cases hop; done) | skip
  case iadd =>
    simp only [am_stp] at HS
    split at HS
    · rename_i y x S0
      replace HS : am_PP G p l e R s m args below meth c Q n0 s0 N1 C1 nx L (.int (x + y) :: S0) h := HS
      simp only [am_okb, Bool.and_eq_true, beq_iff_eq, decide_eq_true_eq] at ok
      obtain ⟨hd, rfl⟩ := ok
      exact ⟨HS.1, HS.2.1, fun q1 q2 q3 H locs ls hR hS hl => lv_iadd hx hb (am_dec_of hd) (HS.2.2 q1 q2 q3 H locs ls hR hS hl)⟩
    · exact HS.elim
  case isub =>
    simp only [am_stp] at HS
    split at HS
    · rename_i y x S0
      replace HS : am_PP G p l e R s m args below meth c Q n0 s0 N1 C1 nx L (.int (x - y) :: S0) h := HS
      simp only [am_okb, Bool.and_eq_true, beq_iff_eq, decide_eq_true_eq] at ok
      obtain ⟨hd, rfl⟩ := ok
      exact ⟨HS.1, HS.2.1, fun q1 q2 q3 H locs ls hR hS hl => lv_isub hx hb (am_dec_of hd) (HS.2.2 q1 q2 q3 H locs ls hR hS hl)⟩
    · exact HS.elim
  case imul =>
    simp only [am_stp] at HS
    split at HS
    · rename_i y x S0
      replace HS : am_PP G p l e R s m args below meth c Q n0 s0 N1 C1 nx L (.int (x * y) :: S0) h := HS
      simp only [am_okb, Bool.and_eq_true, beq_iff_eq, decide_eq_true_eq] at ok
      obtain ⟨hd, rfl⟩ := ok
      exact ⟨HS.1, HS.2.1, fun q1 q2 q3 H locs ls hR hS hl => lv_imul hx hb (am_dec_of hd) (HS.2.2 q1 q2 q3 H locs ls hR hS hl)⟩
    · exact HS.elim
  case iand =>
    simp only [am_stp] at HS
    split at HS
    · rename_i y x S0
      replace HS : am_PP G p l e R s m args below meth c Q n0 s0 N1 C1 nx L (.int (x &&& y) :: S0) h := HS
      simp only [am_okb, Bool.and_eq_true, beq_iff_eq, decide_eq_true_eq] at ok
      obtain ⟨hd, rfl⟩ := ok
      exact ⟨HS.1, HS.2.1, fun q1 q2 q3 H locs ls hR hS hl => lv_iand hx hb (am_dec_of hd) (HS.2.2 q1 q2 q3 H locs ls hR hS hl)⟩
    · exact HS.elim
  case ior =>
    simp only [am_stp] at HS
    split at HS
    · rename_i y x S0
      replace HS : am_PP G p l e R s m args below meth c Q n0 s0 N1 C1 nx L (.int (x ||| y) :: S0) h := HS
      simp only [am_okb, Bool.and_eq_true, beq_iff_eq, decide_eq_true_eq] at ok
      obtain ⟨hd, rfl⟩ := ok
      exact ⟨HS.1, HS.2.1, fun q1 q2 q3 H locs ls hR hS hl => lv_ior hx hb (am_dec_of hd) (HS.2.2 q1 q2 q3 H locs ls hR hS hl)⟩
    · exact HS.elim
  case ixor =>
    simp only [am_stp] at HS
    split at HS
    · rename_i y x S0
      replace HS : am_PP G p l e R s m args below meth c Q n0 s0 N1 C1 nx L (.int (x ^^^ y) :: S0) h := HS
      simp only [am_okb, Bool.and_eq_true, beq_iff_eq, decide_eq_true_eq] at ok
      obtain ⟨hd, rfl⟩ := ok
      exact ⟨HS.1, HS.2.1, fun q1 q2 q3 H locs ls hR hS hl => lv_ixor hx hb (am_dec_of hd) (HS.2.2 q1 q2 q3 H locs ls hR hS hl)⟩
    · exact HS.elim
  case ishl =>
    simp only [am_stp] at HS
    split at HS
    · rename_i y x S0
      replace HS : am_PP G p l e R s m args below meth c Q n0 s0 N1 C1 nx L (.int (x <<< (y &&& 31)) :: S0) h := HS
      simp only [am_okb, Bool.and_eq_true, beq_iff_eq, decide_eq_true_eq] at ok
      obtain ⟨hd, rfl⟩ := ok
      exact ⟨HS.1, HS.2.1, fun q1 q2 q3 H locs ls hR hS hl => lv_ishl hx hb (am_dec_of hd) (HS.2.2 q1 q2 q3 H locs ls hR hS hl)⟩
    · exact HS.elim
  case ishr =>
    simp only [am_stp] at HS
    split at HS
    · rename_i y x S0
      replace HS : am_PP G p l e R s m args below meth c Q n0 s0 N1 C1 nx L (.int (x >>> (y &&& 31)) :: S0) h := HS
      simp only [am_okb, Bool.and_eq_true, beq_iff_eq, decide_eq_true_eq] at ok
      obtain ⟨hd, rfl⟩ := ok
      exact ⟨HS.1, HS.2.1, fun q1 q2 q3 H locs ls hR hS hl => lv_ishr hx hb (am_dec_of hd) (HS.2.2 q1 q2 q3 H locs ls hR hS hl)⟩
    · exact HS.elim
  case iushr =>
    simp only [am_stp] at HS
    split at HS
    · rename_i y x S0
      replace HS : am_PP G p l e R s m args below meth c Q n0 s0 N1 C1 nx L (.int ((x.toUInt32 >>> (y.toUInt32 &&& Int32.toUInt32 31)).toInt32) :: S0) h := HS
      simp only [am_okb, Bool.and_eq_true, beq_iff_eq, decide_eq_true_eq] at ok
      obtain ⟨hd, rfl⟩ := ok
      exact ⟨HS.1, HS.2.1, fun q1 q2 q3 H locs ls hR hS hl => lv_iushr hx hb (am_dec_of hd) rfl (HS.2.2 q1 q2 q3 H locs ls hR hS hl)⟩
    · exact HS.elim
  case idiv =>
    simp only [am_stp] at HS
    split at HS
    · rename_i y x S0
      obtain ⟨hc, HS⟩ := (show (¬ y = 0) ∧ am_PP G p l e R s m args below meth c Q n0 s0 N1 C1 nx L (.int (x / y) :: S0) h from HS)
      simp only [am_okb, Bool.and_eq_true, beq_iff_eq, decide_eq_true_eq] at ok
      obtain ⟨hd, rfl⟩ := ok
      exact ⟨HS.1, HS.2.1, fun q1 q2 q3 H locs ls hR hS hl => lv_idiv hx hb (am_dec_of hd) hc (HS.2.2 q1 q2 q3 H locs ls hR hS hl)⟩
    · exact HS.elim
  case irem =>
    simp only [am_stp] at HS
    split at HS
    · rename_i y x S0
      obtain ⟨hc, HS⟩ := (show (¬ y = 0) ∧ am_PP G p l e R s m args below meth c Q n0 s0 N1 C1 nx L (.int (x - x / y * y) :: S0) h from HS)
      simp only [am_okb, Bool.and_eq_true, beq_iff_eq, decide_eq_true_eq] at ok
      obtain ⟨hd, rfl⟩ := ok
      exact ⟨HS.1, HS.2.1, fun q1 q2 q3 H locs ls hR hS hl => lv_irem hx hb (am_dec_of hd) hc (HS.2.2 q1 q2 q3 H locs ls hR hS hl)⟩
    · exact HS.elim
  case i2l =>
    simp only [am_stp] at HS
    split at HS
    · rename_i x S0
      replace HS : am_PP G p l e R s m args below meth c Q n0 s0 N1 C1 nx L (.long x.toInt64 :: S0) h := HS
      simp only [am_okb, Bool.and_eq_true, beq_iff_eq, decide_eq_true_eq] at ok
      obtain ⟨hd, rfl⟩ := ok
      exact ⟨HS.1, HS.2.1, fun q1 q2 q3 H locs ls hR hS hl => lv_i2l hx hb (am_dec_of hd) rfl (HS.2.2 q1 q2 q3 H locs ls hR hS hl)⟩
    · exact HS.elim
  case l2i =>
    simp only [am_stp] at HS
    split at HS
    · rename_i x S0
      replace HS : am_PP G p l e R s m args below meth c Q n0 s0 N1 C1 nx L (.int x.toInt32 :: S0) h := HS
      simp only [am_okb, Bool.and_eq_true, beq_iff_eq, decide_eq_true_eq] at ok
      obtain ⟨hd, rfl⟩ := ok
      exact ⟨HS.1, HS.2.1, fun q1 q2 q3 H locs ls hR hS hl => lv_l2i hx hb (am_dec_of hd) rfl (HS.2.2 q1 q2 q3 H locs ls hR hS hl)⟩
    · exact HS.elim
  case i2b =>
    simp only [am_stp] at HS
    split at HS
    · rename_i x S0
      replace HS : am_PP G p l e R s m args below meth c Q n0 s0 N1 C1 nx L (.int x.toInt8.toInt32 :: S0) h := HS
      simp only [am_okb, Bool.and_eq_true, beq_iff_eq, decide_eq_true_eq] at ok
      obtain ⟨hd, rfl⟩ := ok
      exact ⟨HS.1, HS.2.1, fun q1 q2 q3 H locs ls hR hS hl => lv_i2b hx hb (am_dec_of hd) rfl (HS.2.2 q1 q2 q3 H locs ls hR hS hl)⟩
    · exact HS.elim
  case i2f =>
    simp only [am_stp] at HS
    split at HS
    · rename_i x S0
      replace HS : am_PP G p l e R s m args below meth c Q n0 s0 N1 C1 nx L (.float (FP.i2f x) :: S0) h := HS
      simp only [am_okb, Bool.and_eq_true, beq_iff_eq, decide_eq_true_eq] at ok
      obtain ⟨hd, rfl⟩ := ok
      exact ⟨HS.1, HS.2.1, fun q1 q2 q3 H locs ls hR hS hl => lv_i2f hx hb (am_dec_of hd) (HS.2.2 q1 q2 q3 H locs ls hR hS hl)⟩
    · exact HS.elim
  case ladd =>
    simp only [am_stp] at HS
    split at HS
    · rename_i y x S0
      replace HS : am_PP G p l e R s m args below meth c Q n0 s0 N1 C1 nx L (.long (x + y) :: S0) h := HS
      simp only [am_okb, Bool.and_eq_true, beq_iff_eq, decide_eq_true_eq] at ok
      obtain ⟨hd, rfl⟩ := ok
      exact ⟨HS.1, HS.2.1, fun q1 q2 q3 H locs ls hR hS hl => lv_ladd hx hb (am_dec_of hd) (HS.2.2 q1 q2 q3 H locs ls hR hS hl)⟩
    · exact HS.elim
  case lsub =>
    simp only [am_stp] at HS
    split at HS
    · rename_i y x S0
      replace HS : am_PP G p l e R s m args below meth c Q n0 s0 N1 C1 nx L (.long (x - y) :: S0) h := HS
      simp only [am_okb, Bool.and_eq_true, beq_iff_eq, decide_eq_true_eq] at ok
      obtain ⟨hd, rfl⟩ := ok
      exact ⟨HS.1, HS.2.1, fun q1 q2 q3 H locs ls hR hS hl => lv_lsub hx hb (am_dec_of hd) (HS.2.2 q1 q2 q3 H locs ls hR hS hl)⟩
    · exact HS.elim
  case lmul =>
    simp only [am_stp] at HS
    split at HS
    · rename_i y x S0
      replace HS : am_PP G p l e R s m args below meth c Q n0 s0 N1 C1 nx L (.long (x * y) :: S0) h := HS
      simp only [am_okb, Bool.and_eq_true, beq_iff_eq, decide_eq_true_eq] at ok
      obtain ⟨hd, rfl⟩ := ok
      exact ⟨HS.1, HS.2.1, fun q1 q2 q3 H locs ls hR hS hl => lv_lmul hx hb (am_dec_of hd) (HS.2.2 q1 q2 q3 H locs ls hR hS hl)⟩
    · exact HS.elim
  case ldiv =>
    simp only [am_stp] at HS
    split at HS
    · rename_i y x S0
      obtain ⟨hc, HS⟩ := (show (¬ y = 0) ∧ am_PP G p l e R s m args below meth c Q n0 s0 N1 C1 nx L (.long (x / y) :: S0) h from HS)
      simp only [am_okb, Bool.and_eq_true, beq_iff_eq, decide_eq_true_eq] at ok
      obtain ⟨hd, rfl⟩ := ok
      exact ⟨HS.1, HS.2.1, fun q1 q2 q3 H locs ls hR hS hl => lv_ldiv hx hb (am_dec_of hd) hc (HS.2.2 q1 q2 q3 H locs ls hR hS hl)⟩
    · exact HS.elim
  case lneg =>
    simp only [am_stp] at HS
    split at HS
    · rename_i x S0
      replace HS : am_PP G p l e R s m args below meth c Q n0 s0 N1 C1 nx L (.long (-x) :: S0) h := HS
      simp only [am_okb, Bool.and_eq_true, beq_iff_eq, decide_eq_true_eq] at ok
      obtain ⟨hd, rfl⟩ := ok
      exact ⟨HS.1, HS.2.1, fun q1 q2 q3 H locs ls hR hS hl => lv_lneg hx hb (am_dec_of hd) (HS.2.2 q1 q2 q3 H locs ls hR hS hl)⟩
    · exact HS.elim
  case ineg =>
    simp only [am_stp] at HS
    split at HS
    · rename_i x S0
      replace HS : am_PP G p l e R s m args below meth c Q n0 s0 N1 C1 nx L (.int (-x) :: S0) h := HS
      simp only [am_okb, Bool.and_eq_true, beq_iff_eq, decide_eq_true_eq] at ok
      obtain ⟨hd, rfl⟩ := ok
      exact ⟨HS.1, HS.2.1, fun q1 q2 q3 H locs ls hR hS hl => lv_ineg hx hb (am_dec_of hd) (HS.2.2 q1 q2 q3 H locs ls hR hS hl)⟩
    · exact HS.elim
  case i2c =>
    simp only [am_stp] at HS
    split at HS
    · rename_i x S0
      replace HS : am_PP G p l e R s m args below meth c Q n0 s0 N1 C1 nx L (.int (x.toUInt32 % 65536).toInt32 :: S0) h := HS
      simp only [am_okb, Bool.and_eq_true, beq_iff_eq, decide_eq_true_eq] at ok
      obtain ⟨hd, rfl⟩ := ok
      exact ⟨HS.1, HS.2.1, fun q1 q2 q3 H locs ls hR hS hl => lv_i2c hx hb (am_dec_of hd) rfl (HS.2.2 q1 q2 q3 H locs ls hR hS hl)⟩
    · exact HS.elim
  case dup_x1 =>
    simp only [am_stp] at HS
    split at HS
    · rename_i x y S0
      replace HS : am_PP G p l e R s m args below meth c Q n0 s0 N1 C1 nx L (.int x :: .ref y :: .int x :: S0) h := HS
      simp only [am_okb, Bool.and_eq_true, beq_iff_eq, decide_eq_true_eq] at ok
      obtain ⟨hd, rfl⟩ := ok
      exact ⟨HS.1, HS.2.1, fun q1 q2 q3 H locs ls hR hS hl => lv_dup_x1 (va := .int x) hx hb (am_dec_of hd) rfl (am_v_cat G (.ref y)) (HS.2.2 q1 q2 q3 H locs ls hR hS hl)⟩
    · exact HS.elim
  case lcmp =>
    simp only [am_stp] at HS
    split at HS
    · rename_i y x S0
      replace HS : am_PP G p l e R s m args below meth c Q n0 s0 N1 C1 nx L (.int (lg_cmp x y) :: S0) h := HS
      simp only [am_okb, Bool.and_eq_true, beq_iff_eq, decide_eq_true_eq] at ok
      obtain ⟨hd, rfl⟩ := ok
      exact ⟨HS.1, HS.2.1, fun q1 q2 q3 H locs ls hR hS hl => W.lcmp hx hb (am_dec_of hd) (HS.2.2 q1 q2 q3 H locs ls hR hS hl)⟩
    · exact HS.elim
  case fadd =>
    simp only [am_stp] at HS
    split at HS
    · rename_i y x S0
      obtain ⟨hc, HS⟩ := (show (vf_n32 (FP.fadd x y)) ∧ am_PP G p l e R s m args below meth c Q n0 s0 N1 C1 nx L (.float (FP.fadd x y) :: S0) h from HS)
      simp only [am_okb, Bool.and_eq_true, beq_iff_eq, decide_eq_true_eq] at ok
      obtain ⟨hd, rfl⟩ := ok
      exact ⟨HS.1, HS.2.1, fun q1 q2 q3 H locs ls hR hS hl => lv_fadd hx hb (am_dec_of hd) hc (HS.2.2 q1 q2 q3 H locs ls hR hS hl)⟩
    · exact HS.elim
  case fmul =>
    simp only [am_stp] at HS
    split at HS
    · rename_i y x S0
      obtain ⟨hc, HS⟩ := (show (vf_n32 (FP.fmul x y)) ∧ am_PP G p l e R s m args below meth c Q n0 s0 N1 C1 nx L (.float (FP.fmul x y) :: S0) h from HS)
      simp only [am_okb, Bool.and_eq_true, beq_iff_eq, decide_eq_true_eq] at ok
      obtain ⟨hd, rfl⟩ := ok
      exact ⟨HS.1, HS.2.1, fun q1 q2 q3 H locs ls hR hS hl => lv_fmul hx hb (am_dec_of hd) hc (HS.2.2 q1 q2 q3 H locs ls hR hS hl)⟩
    · exact HS.elim
  case fdiv =>
    simp only [am_stp] at HS
    split at HS
    · rename_i y x S0
      obtain ⟨hc, HS⟩ := (show (vf_n32 (FP.fdiv x y)) ∧ am_PP G p l e R s m args below meth c Q n0 s0 N1 C1 nx L (.float (FP.fdiv x y) :: S0) h from HS)
      simp only [am_okb, Bool.and_eq_true, beq_iff_eq, decide_eq_true_eq] at ok
      obtain ⟨hd, rfl⟩ := ok
      exact ⟨HS.1, HS.2.1, fun q1 q2 q3 H locs ls hR hS hl => lv_fdiv hx hb (am_dec_of hd) hc (HS.2.2 q1 q2 q3 H locs ls hR hS hl)⟩
    · exact HS.elim
  case f2d =>
    simp only [am_stp] at HS
    split at HS
    · rename_i x S0
      obtain ⟨hc, HS⟩ := (show (vf_n64 (FP.f2d x)) ∧ am_PP G p l e R s m args below meth c Q n0 s0 N1 C1 nx L (.double (FP.f2d x) :: S0) h from HS)
      simp only [am_okb, Bool.and_eq_true, beq_iff_eq, decide_eq_true_eq] at ok
      obtain ⟨hd, rfl⟩ := ok
      exact ⟨HS.1, HS.2.1, fun q1 q2 q3 H locs ls hR hS hl => lv_f2d hx hb (am_dec_of hd) hc (HS.2.2 q1 q2 q3 H locs ls hR hS hl)⟩
    · exact HS.elim
  case dcmp c9 =>
    simp only [am_stp] at HS
    split at HS
    · rename_i y x S0
      replace HS : am_PP G p l e R s m args below meth c Q n0 s0 N1 C1 nx L (.int (Op.cmpValue (FP.dcmp x y) c9) :: S0) h := HS
      simp only [am_okb, Bool.and_eq_true, beq_iff_eq, decide_eq_true_eq] at ok
      obtain ⟨hd, rfl⟩ := ok
      exact ⟨HS.1, HS.2.1, fun q1 q2 q3 H locs ls hR hS hl => lv_dcmp hx hb (am_dec_of hd) (HS.2.2 q1 q2 q3 H locs ls hR hS hl)⟩
    · exact HS.elim
  case aconst_null =>
    simp only [am_stp] at HS
    replace HS : am_PP G p l e R s m args below meth c Q n0 s0 N1 C1 nx L (.ref 0 :: S) h := HS
    simp only [am_okb, Bool.and_eq_true, beq_iff_eq, decide_eq_true_eq] at ok
    obtain ⟨hd, rfl⟩ := ok
    exact ⟨HS.1, HS.2.1, fun q1 q2 q3 H locs ls hR hS hl => lv_null hx hb (am_dec_of hd) (HS.2.2 q1 q2 q3 H locs ls hR hS hl)⟩
  case dup2 =>
    simp only [am_stp] at HS
    split at HS
    · rename_i x y S0
      replace HS : am_PP G p l e R s m args below meth c Q n0 s0 N1 C1 nx L (.int x :: .ref y :: .int x :: .ref y :: S0) h := HS
      simp only [am_okb, Bool.and_eq_true, beq_iff_eq, decide_eq_true_eq] at ok
      obtain ⟨hd, rfl⟩ := ok
      exact ⟨HS.1, HS.2.1, fun q1 q2 q3 H locs ls hR hS hl => lv_dup2_11 hx hb (am_dec_of hd) rfl (am_v_cat G (.ref y)) (HS.2.2 q1 q2 q3 H locs ls hR hS hl)⟩
    · exact HS.elim
  case dup =>
    simp only [am_stp] at HS
    simp only [am_okb, Bool.and_eq_true, beq_iff_eq, decide_eq_true_eq] at ok
    obtain ⟨hd, rfl⟩ := ok
    split at HS
    · rename_i x S0
      replace HS : am_PP G p l e R s m args below meth c Q n0 s0 N1 C1 (pc + 1) L (.int x :: .int x :: S0) h := HS
      exact ⟨HS.1, HS.2.1, fun q1 q2 q3 H locs ls hR hS hl => lv_dup hx hb (am_dec_of hd) rfl (HS.2.2 q1 q2 q3 H locs ls hR hS hl)⟩
    · rename_i x S0
      replace HS : am_PP G p l e R s m args below meth c Q n0 s0 N1 C1 (pc + 1) L (.ref x :: .ref x :: S0) h := HS
      exact ⟨HS.1, HS.2.1, fun q1 q2 q3 H locs ls hR hS hl => lv_dup hx hb (am_dec_of hd) (am_v_cat G (.ref x)) (HS.2.2 q1 q2 q3 H locs ls hR hS hl)⟩
    · exact HS.elim
  case pop =>
    simp only [am_stp] at HS
    simp only [am_okb] at ok
    split at ok
    · rename_i hd
      simp only [beq_iff_eq] at ok
      subst ok
      split at HS
      · rename_i x S0
        replace HS : am_PP G p l e R s m args below meth c Q n0 s0 N1 C1 (pc + 1) L S0 h := HS
        exact ⟨HS.1, HS.2.1, fun q1 q2 q3 H locs ls hR hS hl => lv_pop hx hb (am_dec_of hd) rfl (HS.2.2 q1 q2 q3 H locs ls hR hS hl)⟩
      · rename_i x S0
        replace HS : am_PP G p l e R s m args below meth c Q n0 s0 N1 C1 (pc + 1) L S0 h := HS
        exact ⟨HS.1, HS.2.1, fun q1 q2 q3 H locs ls hR hS hl => lv_pop hx hb (am_dec_of hd) (am_v_cat G (.ref x)) (HS.2.2 q1 q2 q3 H locs ls hR hS hl)⟩
      · exact HS.elim
    · cases ok
  case pop2 =>
    simp only [am_stp] at HS
    split at HS
    · rename_i x
      obtain ⟨z, HS⟩ := (show x ≠ 0 ∧ am_PP G p l e R s m args below meth c Q n0 s0 N1 C1 nx L [] h from HS)
      simp only [am_okb] at ok
      split at ok
      · rename_i i9 hd
        simp only [Bool.and_eq_true, beq_iff_eq, List.contains_iff_mem] at ok
        obtain ⟨ok, rfl⟩ := ok
        refine ⟨HS.1, HS.2.1, fun q1 q2 q3 H locs ls hR hS hl => ?_⟩
        have K := HS.2.2 q1 q2 q3 H locs ls hR hS hl
        rw [List.map_cons, am_v1 G z]
        exact W.objInit hx hb hown (am_w hts (am_ol_ok _ ok) rfl) (am_w hts (by decide +kernel) rfl) (am_w hts (by decide +kernel) rfl) rfl (hl.1.trans q3) rfl (am_dec_of hd) (by omega) (by show 2 * 0 + ([].map _).sum + 12 ≤ _; simp; omega) K
      · cases ok
    · exact HS.elim
  case ldc k =>
    simp only [am_stp] at HS
    replace HS : am_PP G p l e R s m args below meth c Q n0 s0 N1 C1 nx L (.int (nI k) :: S) h := HS
    simp only [am_okb] at ok
    split at ok
    · rename_i n hd
      simp only [Bool.and_eq_true, beq_iff_eq, decide_eq_true_eq, List.contains_iff_mem] at ok
      obtain ⟨ok, rfl⟩ := ok
      exact ⟨HS.1, HS.2.1, fun q1 q2 q3 H locs ls hR hS hl => lv_iconst hx hb (am_dec_of hd) ok (HS.2.2 q1 q2 q3 H locs ls hR hS hl)⟩
    · rename_i n hd
      simp only [Bool.and_eq_true, beq_iff_eq, decide_eq_true_eq, List.contains_iff_mem] at ok
      obtain ⟨ok, rfl⟩ := ok
      exact ⟨HS.1, HS.2.1, fun q1 q2 q3 H locs ls hR hS hl => lv_bipush hx hb (am_dec_of hd) ok (HS.2.2 q1 q2 q3 H locs ls hR hS hl)⟩
    · rename_i n hd
      simp only [Bool.and_eq_true, beq_iff_eq, decide_eq_true_eq, List.contains_iff_mem] at ok
      obtain ⟨ok, rfl⟩ := ok
      exact ⟨HS.1, HS.2.1, fun q1 q2 q3 H locs ls hR hS hl => lv_sipush hx hb (am_dec_of hd) ok (HS.2.2 q1 q2 q3 H locs ls hR hS hl)⟩
    · rename_i i hd
      simp only [Bool.and_eq_true, beq_iff_eq, decide_eq_true_eq, List.contains_iff_mem] at ok
      obtain ⟨ok, rfl⟩ := ok
      exact ⟨HS.1, HS.2.1, fun q1 q2 q3 H locs ls hR hS hl => lv_ldc hx hb hown (am_w hts (am_il_ok _ ok) rfl) (am_dec_of hd) (HS.2.2 q1 q2 q3 H locs ls hR hS hl)⟩
    · rename_i i hd
      simp only [Bool.and_eq_true, beq_iff_eq, decide_eq_true_eq, List.contains_iff_mem] at ok
      obtain ⟨ok, rfl⟩ := ok
      exact ⟨HS.1, HS.2.1, fun q1 q2 q3 H locs ls hR hS hl => lv_ldcw hx hb hown (am_w hts (am_il_ok _ ok) rfl) (am_dec_of hd) (HS.2.2 q1 q2 q3 H locs ls hR hS hl)⟩
    · rename_i i hd
      simp only [Bool.and_eq_true, beq_iff_eq, List.contains_iff_mem] at ok
      obtain ⟨⟨e1, ok⟩, rfl⟩ := ok
      subst e1
      exact ⟨HS.1, HS.2.1, fun q1 q2 q3 H locs ls hR hS hl => va_gets hx hb hsf.2.2.2.2.2.2.2.2.2.2.1.2.1 hS hown (am_w hts (am_gs_ok _ ok) rfl) (fun x hx => hx) (am_dec_of hd) (HS.2.2 q1 q2 q3 H locs ls hR hS hl)⟩
    · cases ok
  case ldc_w k =>
    simp only [am_stp] at HS
    replace HS : am_PP G p l e R s m args below meth c Q n0 s0 N1 C1 nx L (.int (-nI k) :: S) h := HS
    simp only [am_okb] at ok
    split at ok
    · rename_i n hd
      simp only [Bool.and_eq_true, beq_iff_eq, decide_eq_true_eq, List.contains_iff_mem] at ok
      obtain ⟨ok, rfl⟩ := ok
      exact ⟨HS.1, HS.2.1, fun q1 q2 q3 H locs ls hR hS hl => lv_iconst hx hb (am_dec_of hd) ok (HS.2.2 q1 q2 q3 H locs ls hR hS hl)⟩
    · rename_i n hd
      simp only [Bool.and_eq_true, beq_iff_eq, decide_eq_true_eq, List.contains_iff_mem] at ok
      obtain ⟨ok, rfl⟩ := ok
      exact ⟨HS.1, HS.2.1, fun q1 q2 q3 H locs ls hR hS hl => lv_bipush hx hb (am_dec_of hd) ok (HS.2.2 q1 q2 q3 H locs ls hR hS hl)⟩
    · rename_i n hd
      simp only [Bool.and_eq_true, beq_iff_eq, decide_eq_true_eq, List.contains_iff_mem] at ok
      obtain ⟨ok, rfl⟩ := ok
      exact ⟨HS.1, HS.2.1, fun q1 q2 q3 H locs ls hR hS hl => lv_sipush hx hb (am_dec_of hd) ok (HS.2.2 q1 q2 q3 H locs ls hR hS hl)⟩
    · cases ok
  case ldc2_w k =>
    simp only [am_stp] at HS
    replace HS : am_PP G p l e R s m args below meth c Q n0 s0 N1 C1 nx L (.long (lN k) :: S) h := HS
    simp only [am_okb] at ok
    split at ok
    · rename_i n hd
      simp only [Bool.and_eq_true, beq_iff_eq, decide_eq_true_eq, List.contains_iff_mem] at ok
      obtain ⟨ok, rfl⟩ := ok
      exact ⟨HS.1, HS.2.1, fun q1 q2 q3 H locs ls hR hS hl => lv_lconst hx hb (am_dec_of hd) ok (HS.2.2 q1 q2 q3 H locs ls hR hS hl)⟩
    · rename_i i hd
      simp only [Bool.and_eq_true, beq_iff_eq, decide_eq_true_eq, List.contains_iff_mem] at ok
      obtain ⟨ok, rfl⟩ := ok
      exact ⟨HS.1, HS.2.1, fun q1 q2 q3 H locs ls hR hS hl => lv_ldc2 hx hb hown (am_w hts (am_ll_ok _ ok) rfl) (am_dec_of hd) (HS.2.2 q1 q2 q3 H locs ls hR hS hl)⟩
    · cases ok
  case goto_w k =>
    simp only [am_stp] at HS
    replace HS : am_PP G p l e R s m args below meth c Q n0 s0 N1 C1 nx L (.long (Int64.ofInt k) :: S) h := HS
    simp only [am_okb] at ok
    split at ok
    · rename_i i hd
      simp only [Bool.and_eq_true, beq_iff_eq, decide_eq_true_eq, List.contains_iff_mem] at ok
      obtain ⟨ok, rfl⟩ := ok
      exact ⟨HS.1, HS.2.1, fun q1 q2 q3 H locs ls hR hS hl => lv_ldc2 hx hb hown (am_w hts (am_ll_ok _ ok) rfl) (am_dec_of hd) (HS.2.2 q1 q2 q3 H locs ls hR hS hl)⟩
    · cases ok
  case invokedynamic k =>
    simp only [am_stp] at HS
    replace HS : am_PP G p l e R s m args below meth c Q n0 s0 N1 C1 nx L (.float (UInt32.ofNat k) :: S) h := HS
    simp only [am_okb] at ok
    split at ok
    · rename_i hd
      simp only [Bool.and_eq_true, beq_iff_eq, decide_eq_true_eq] at ok
      obtain ⟨ok, rfl⟩ := ok
      rw [← ok] at HS
      exact ⟨HS.1, HS.2.1, fun q1 q2 q3 H locs ls hR hS hl => lv_fconst0 hx hb (am_dec_of hd) (HS.2.2 q1 q2 q3 H locs ls hR hS hl)⟩
    · rename_i hd
      simp only [Bool.and_eq_true, beq_iff_eq, decide_eq_true_eq] at ok
      obtain ⟨ok, rfl⟩ := ok
      rw [← ok] at HS
      exact ⟨HS.1, HS.2.1, fun q1 q2 q3 H locs ls hR hS hl => lv_fconst1 hx hb (am_dec_of hd) (HS.2.2 q1 q2 q3 H locs ls hR hS hl)⟩
    · rename_i i hd
      simp only [Bool.and_eq_true, beq_iff_eq, List.contains_iff_mem] at ok
      obtain ⟨ok, rfl⟩ := ok
      exact ⟨HS.1, HS.2.1, fun q1 q2 q3 H locs ls hR hS hl => lv_ldcf hx hb hown (am_w hts (am_ff_ok _ ok) rfl) (am_dec_of hd) (HS.2.2 q1 q2 q3 H locs ls hR hS hl)⟩
    · rename_i i hd
      simp only [Bool.and_eq_true, beq_iff_eq, List.contains_iff_mem] at ok
      obtain ⟨ok, rfl⟩ := ok
      exact ⟨HS.1, HS.2.1, fun q1 q2 q3 H locs ls hR hS hl => am_ldcwf hx hb hown (am_w hts (am_ff_ok _ ok) rfl) (am_dec_of hd) (HS.2.2 q1 q2 q3 H locs ls hR hS hl)⟩
    · cases ok
  case invokeinterface j w9 =>
    simp only [am_stp] at HS
    replace HS : am_PP G p l e R s m args below meth c Q n0 s0 N1 C1 nx L (.ref (am_S0 + j) :: S) h := HS
    simp only [am_okb] at ok
    split at ok
    · rename_i i hd
      simp only [Bool.and_eq_true, beq_iff_eq, List.contains_iff_mem] at ok
      obtain ⟨ok, rfl⟩ := ok
      have e1 : am_v G (.ref (am_S0 + j)) = .ref (G.2.2.2.1 j) := by
        have hj : j < 1000000 := am_sl_lt _ ok
        show am_v G (.ref (2000000 + j)) = _
        rw [am_v1 G (by omega)]
        unfold am_ad
        rw [if_neg (show ¬ 2000000 + j ≤ 1000000 by omega), if_pos (show 2000000 + j < 3000000 by omega), show 2000000 + j - am_S0 = j from Nat.add_sub_cancel_left _ _]
      refine ⟨HS.1, HS.2.1, fun q1 q2 q3 H locs ls hR hS hl => ?_⟩
      have K := HS.2.2 q1 q2 q3 H locs ls hR hS hl
      rw [List.map_cons, e1] at K
      exact va_ldcS hx hb hown (hsf.2.1 _ ok) (am_dec_of hd) K
    · rename_i i hd
      simp only [Bool.and_eq_true, Bool.or_eq_true, beq_iff_eq, List.contains_iff_mem] at ok
      obtain ⟨ok, rfl⟩ := ok
      have e1 : ∀ j : Nat, j < 1000000 → am_v G (.ref (am_S0 + j)) = .ref (G.2.2.2.1 j) := fun j hj => by
        show am_v G (.ref (2000000 + j)) = _
        rw [am_v1 G (by omega)]
        unfold am_ad
        rw [if_neg (show ¬ 2000000 + j ≤ 1000000 by omega), if_pos (show 2000000 + j < 3000000 by omega), show 2000000 + j - am_S0 = j from Nat.add_sub_cancel_left _ _]
      refine ⟨HS.1, HS.2.1, fun q1 q2 q3 H locs ls hR hS hl => ?_⟩
      have K := HS.2.2 q1 q2 q3 H locs ls hR hS hl
      rcases ok with ⟨rfl, ok⟩ | ⟨rfl, ok⟩
      · rw [List.map_cons, e1 _ (by decide)] at K
        exact va_gets hx hb hsf.2.2.2.2.2.2.2.2.2.2.1.2.2.2.1.1 hS hown (am_w hts (am_gs_ok _ ok) rfl) (fun x hx => hx) (am_dec_of hd) K
      · rw [List.map_cons, e1 _ (by decide)] at K
        exact va_gets hx hb hsf.2.2.2.2.2.2.2.2.2.2.1.2.2.2.2.1 hS hown (am_w hts (am_gs_ok _ ok) rfl) (fun x hx => hx) (am_dec_of hd) K
    · cases ok
  case goto t =>
    simp only [am_stp] at HS
    replace HS : am_PP G p l e R s m args below meth c Q n0 s0 N1 C1 t.toNat L S h := HS
    simp only [am_okb] at ok
    split at ok
    · rename_i off hd
      simp only [Bool.and_eq_true, beq_iff_eq] at ok
      exact ⟨HS.1, HS.2.1, fun q1 q2 q3 H locs ls hR hS hl => lv_goto hx hb (am_dec_of hd) (am_tg ok.1) (HS.2.2 q1 q2 q3 H locs ls hR hS hl)⟩
    · cases ok
  case if_icmp c9 t =>
    simp only [am_stp] at HS
    split at HS
    · rename_i y x S0
      obtain ⟨H1, H2⟩ := (show (am_cond c9 x y → am_PP G p l e R s m args below meth c Q n0 s0 N1 C1 t.toNat L S0 h) ∧ (¬ am_cond c9 x y → am_PP G p l e R s m args below meth c Q n0 s0 N1 C1 nx L S0 h) from HS)
      simp only [am_okb] at ok
      split at ok
      · rename_i c8 off hd
        simp only [Bool.and_eq_true, beq_iff_eq, decide_eq_true_eq] at ok
        obtain ⟨⟨e1, ok⟩, e2⟩ := ok
        subst e1
        subst e2
        refine ⟨?_, ?_, fun q1 q2 q3 H locs ls hR hS hl => ?_⟩
        · by_cases z : am_cond c8 x y
          · exact (H1 z).1
          · exact (H2 z).1
        · by_cases z : am_cond c8 x y
          · exact (H1 z).2.1
          · exact (H2 z).2.1
        · have K1 := fun z => (H1 z).2.2 q1 q2 q3 H locs ls hR hS hl
          have K2 := fun z => (H2 z).2.2 q1 q2 q3 H locs ls hR hS hl
          cases c8
          · exact lv_icmp_eq hx hb (am_dec_of hd) (am_tg ok) K1 K2
          · exact lv_icmp_ne hx hb (am_dec_of hd) (am_tg ok) K1 (fun z => K2 (fun w => w z))
          · exact lv_icmp_lt hx hb (am_dec_of hd) (am_tg ok) K1 K2
          · exact lv_icmp_ge hx hb (am_dec_of hd) (am_tg ok) K1 K2
          · exact lv_icmp_gt hx hb (am_dec_of hd) (am_tg ok) K1 K2
          · exact lv_icmp_le hx hb (am_dec_of hd) (am_tg ok) K1 K2
      · cases ok
    · exact HS.elim
  case ifCond c9 t =>
    simp only [am_stp] at HS
    split at HS
    · rename_i x S0
      obtain ⟨H1, H2⟩ := (show (am_cond c9 x 0 → am_PP G p l e R s m args below meth c Q n0 s0 N1 C1 t.toNat L S0 h) ∧ (¬ am_cond c9 x 0 → am_PP G p l e R s m args below meth c Q n0 s0 N1 C1 nx L S0 h) from HS)
      simp only [am_okb] at ok
      split at ok
      · rename_i c8 off hd
        simp only [Bool.and_eq_true, beq_iff_eq, decide_eq_true_eq] at ok
        obtain ⟨⟨e1, ok⟩, e2⟩ := ok
        subst e1
        subst e2
        refine ⟨?_, ?_, fun q1 q2 q3 H locs ls hR hS hl => ?_⟩
        · by_cases z : am_cond c8 x 0
          · exact (H1 z).1
          · exact (H2 z).1
        · by_cases z : am_cond c8 x 0
          · exact (H1 z).2.1
          · exact (H2 z).2.1
        · have K1 := fun z => (H1 z).2.2 q1 q2 q3 H locs ls hR hS hl
          have K2 := fun z => (H2 z).2.2 q1 q2 q3 H locs ls hR hS hl
          cases c8
          · exact lv_if_eq hx hb (am_dec_of hd) (am_tg ok) K1 K2
          · exact lv_if_ne hx hb (am_dec_of hd) (am_tg ok) K1 (fun z => K2 (fun w => w z))
          · exact lv_if_lt hx hb (am_dec_of hd) (am_tg ok) K1 K2
          · exact lv_if_ge hx hb (am_dec_of hd) (am_tg ok) K1 K2
          · exact lv_if_gt hx hb (am_dec_of hd) (am_tg ok) K1 K2
          · exact lv_if_le hx hb (am_dec_of hd) (am_tg ok) K1 K2
      · cases ok
    · exact HS.elim
  case ifnull t =>
    simp only [am_stp] at HS
    split at HS
    · rename_i x S0
      obtain ⟨H1, H2⟩ := (show (x = 0 → am_PP G p l e R s m args below meth c Q n0 s0 N1 C1 t.toNat L S0 h) ∧ (¬ x = 0 → am_PP G p l e R s m args below meth c Q n0 s0 N1 C1 nx L S0 h) from HS)
      simp only [am_okb] at ok
      split at ok
      · rename_i off hd
        simp only [Bool.and_eq_true, beq_iff_eq] at ok
        obtain ⟨ok, rfl⟩ := ok
        by_cases z : x = 0
        · subst z
          have HS := H1 rfl
          exact ⟨HS.1, HS.2.1, fun q1 q2 q3 H locs ls hR hS hl => lv_ifnullN hx hb (am_dec_of hd) (am_tg ok) (HS.2.2 q1 q2 q3 H locs ls hR hS hl)⟩
        · have HS := H2 z
          refine ⟨HS.1, HS.2.1, fun q1 q2 q3 H locs ls hR hS hl => ?_⟩
          have K := HS.2.2 q1 q2 q3 H locs ls hR hS hl
          rw [List.map_cons, am_v1 G z]
          exact lv_ifnull hx hb (am_dec_of hd) K
      · cases ok
    · exact HS.elim
  case ifnonnull t =>
    simp only [am_stp] at HS
    split at HS
    · rename_i x S0
      obtain ⟨H1, H2⟩ := (show (x ≠ 0 → am_PP G p l e R s m args below meth c Q n0 s0 N1 C1 t.toNat L S0 h) ∧ (¬ x ≠ 0 → am_PP G p l e R s m args below meth c Q n0 s0 N1 C1 nx L S0 h) from HS)
      simp only [am_okb] at ok
      split at ok
      · rename_i off hd
        simp only [Bool.and_eq_true, beq_iff_eq] at ok
        obtain ⟨ok, rfl⟩ := ok
        by_cases z : x = 0
        · subst z
          have HS := H2 (fun q => q rfl)
          exact ⟨HS.1, HS.2.1, fun q1 q2 q3 H locs ls hR hS hl => lv_ifnonnullN hx hb (am_dec_of hd) (HS.2.2 q1 q2 q3 H locs ls hR hS hl)⟩
        · have HS := H1 z
          refine ⟨HS.1, HS.2.1, fun q1 q2 q3 H locs ls hR hS hl => ?_⟩
          have K := HS.2.2 q1 q2 q3 H locs ls hR hS hl
          rw [List.map_cons, am_v1 G z]
          exact lv_ifnonnull hx hb (am_dec_of hd) (am_tg ok) K
      · cases ok
    · exact HS.elim
  case tableswitch d lo hi offs =>
    simp only [am_stp] at HS
    split at HS
    · rename_i x S0
      replace HS : am_PP G p l e R s m args below meth c Q n0 s0 N1 C1 (am_tsw d lo hi offs x) L S0 h := HS
      simp only [am_okb] at ok
      split at ok
      · rename_i d' lo' hi' offs' w9 hd
        simp only [Bool.and_eq_true, beq_iff_eq, decide_eq_true_eq, List.all_eq_true, List.mem_range] at ok
        obtain ⟨⟨⟨⟨⟨t1, rfl⟩, rfl⟩, e3⟩, e4⟩, t2⟩ := ok
        refine ⟨HS.1, HS.2.1, fun q1 q2 q3 H locs ls hR hS hl => ?_⟩
        have K := HS.2.2 q1 q2 q3 H locs ls hR hS hl
        unfold am_tsw at K
        by_cases z : x.toInt < lo' ∨ hi' < x.toInt
        · rw [if_pos z] at K
          exact lv_tableOut hx hb (am_dec_of hd) z (am_tg t1) K
        · rw [if_neg z] at K
          have z1 : ¬ x.toInt < lo' := fun q => z (Or.inl q)
          have z2 : ¬ hi' < x.toInt := fun q => z (Or.inr q)
          have hlt : (x.toInt - lo').toNat < offs.size := by omega
          have t3 := t2 _ hlt
          have e5 : offs'[(x.toInt - lo').toNat]? = some (offs'.getD (x.toInt - lo').toNat 0) := by
            rw [Array.getD_eq_getD_getElem?, Array.getElem?_eq_getElem (by omega)]
            rfl
          have e6 : offs.getD (x.toInt - lo').toNat (-1) = offs.getD (x.toInt - lo').toNat 0 := by
            rw [Array.getD_eq_getD_getElem?, Array.getD_eq_getD_getElem?, Array.getElem?_eq_getElem hlt]
            rfl
          rw [e6] at t3
          exact lv_tableIn hx hb (am_dec_of hd) z1 z2 e5 (am_tg t3) K
      · cases ok
    · exact HS.elim
end

/-! the resolved program is the printed one: decided -/
def am_isr (ci k : Nat) : Bool := match am_ty ci k with
  | .int => false
  | .boolean => false
  | .byte => false
  | _ => true
def am_dec (cc : ByteArray) (pc : Nat) : Option (Instr × Nat) := match decode cc pc with
  | .ok x => some x
  | _ => none
theorem am_dec_of {cc : ByteArray} {pc : Nat} {x : Instr × Nat} (h : am_dec cc pc = some x) : decode cc pc = .ok x := by
  unfold am_dec at h
  split at h
  · cases h; assumption
  · cases h
def am_tgt (pc : Nat) (off t : Int) : Bool := decide ((pc : Int) + off = t) && decide (0 ≤ t)
def am_kind (m : Nat) : Nat := match am_inf[m]? with
  | some i => i.2.2.2.2.2.2
  | none => 9
def am_mcls (m : Nat) : Nat := match am_inf[m]? with
  | some i => i.2.1
  | none => 99
def am_npar (m : Nat) : Nat := match am_inf[m]? with
  | some i => ((parseMethodDescriptor i.1.desc).map (fun d => d.parameters.length)).getD 99
  | none => 99
def am_okb (own kind : Nat) (cc : ByteArray) (ret : Option FieldType) (pc : Nat) (op : Instr) (nx : Nat) : Bool :=
  match op with
  | .ldc k => match am_dec cc pc with
    | some (.iconst n, 1) => decide (Int32.ofInt n = nI k) && nx == pc + 1
    | some (.bipush n, 2) => decide ((Int8.ofInt n).toInt32 = nI k) && nx == pc + 2
    | some (.sipush n, 3) => decide ((Int16.ofInt n).toInt32 = nI k) && nx == pc + 3
    | some (.ldc i, 2) => am_il_.contains (own, i, (k : Int)) && nx == pc + 2
    | some (.ldc_w i, 3) => am_il_.contains (own, i, (k : Int)) && nx == pc + 3
    | some (.getstatic i, 3) => k == 1 && am_gs_.contains (own, i, 0) && nx == pc + 3
    | _ => false
  | .ldc_w k => match am_dec cc pc with
    | some (.iconst n, 1) => decide (Int32.ofInt n = -nI k) && nx == pc + 1
    | some (.bipush n, 2) => decide ((Int8.ofInt n).toInt32 = -nI k) && nx == pc + 2
    | some (.sipush n, 3) => decide ((Int16.ofInt n).toInt32 = -nI k) && nx == pc + 3
    | _ => false
  | .ldc2_w k => match am_dec cc pc with
    | some (.lconst l, 1) => decide (Int64.ofNat (l : Nat) = lN k) && nx == pc + 1
    | some (.ldc2_w i, 3) => am_ll_.contains (own, i, (k : Int)) && nx == pc + 3
    | _ => false
  | .goto_w k => match am_dec cc pc with
    | some (.ldc2_w i, 3) => am_ll_.contains (own, i, k) && nx == pc + 3
    | _ => false
  | .invokedynamic k => match am_dec cc pc with
    | some (.fconst 0, 1) => decide (FP.fconst0 = UInt32.ofNat k) && nx == pc + 1
    | some (.fconst 1, 1) => decide (FP.fconst1 = UInt32.ofNat k) && nx == pc + 1
    | some (.ldc i, 2) => am_ff_.contains (own, i, k) && nx == pc + 2
    | some (.ldc_w i, 3) => am_ff_.contains (own, i, k) && nx == pc + 3
    | _ => false
  | .invokeinterface j _ => match am_dec cc pc with
    | some (.ldc i, 2) => am_sl_.contains (own, i, j) && nx == pc + 2
    | some (.getstatic i, 3) => ((j == 2000 && am_gs_.contains (own, i, 1)) || (j == 2001 && am_gs_.contains (own, i, 2))) && nx == pc + 3
    | _ => false
  | .pop => match am_dec cc pc with
    | some (.pop, 1) => nx == pc + 1
    | _ => false
  | .pop2 => match am_dec cc pc with
    | some (.invokespecial i, 3) => am_ol_.contains (own, i) && nx == pc + 3
    | _ => false
  | .goto t => match am_dec cc pc with
    | some (.goto off, 3) => am_tgt pc off t && nx == pc + 3
    | _ => false
  | .if_icmp c t => match am_dec cc pc with
    | some (.if_icmp c' off, 3) => decide (c' = c) && am_tgt pc off t && nx == pc + 3
    | _ => false
  | .ifCond c t => match am_dec cc pc with
    | some (.ifCond c' off, 3) => decide (c' = c) && am_tgt pc off t && nx == pc + 3
    | _ => false
  | .ifnull t => match am_dec cc pc with
    | some (.ifnull off, 3) => am_tgt pc off t && nx == pc + 3
    | _ => false
  | .ifnonnull t => match am_dec cc pc with
    | some (.ifnonnull off, 3) => am_tgt pc off t && nx == pc + 3
    | _ => false
  | .tableswitch d lo hi offs => match am_dec cc pc with
    | some (.tableswitch d' lo' hi' offs', _) => am_tgt pc d' d && decide (lo' = lo) && decide (hi' = hi) && decide (offs'.size = offs.size) && decide (hi - lo + 1 = (offs.size : Int)) && (List.range offs.size).all (fun i => am_tgt pc (offs'.getD i 0) (offs.getD i (-1)))
    | _ => false
  | .getfield e => match am_dec cc pc with
    | some (.getfield i, 3) => am_fl_.contains (own, i, e) && am_isr (e / 64) (e % 64) == false && nx == pc + 3
    | _ => false
  | .getstatic e => match am_dec cc pc with
    | some (.getfield i, 3) => am_fl_.contains (own, i, e) && am_isr (e / 64) (e % 64) == true && nx == pc + 3
    | _ => false
  | .putfield e => match am_dec cc pc with
    | some (.putfield i, 3) => am_fl_.contains (own, i, e) && decide (am_ty (e / 64) (e % 64) = .int) && (!(am_tf (e / 64) (e % 64)).2.2.2 || (kind == 2 && own == e / 64)) && nx == pc + 3
    | _ => false
  | .putstatic e => match am_dec cc pc with
    | some (.putfield i, 3) => am_fl_.contains (own, i, e) && (decide (am_ty (e / 64) (e % 64) = .boolean) || decide (am_ty (e / 64) (e % 64) = .byte)) && (!(am_tf (e / 64) (e % 64)).2.2.2 || (kind == 2 && own == e / 64)) && nx == pc + 3
    | _ => false
  | .checkcast e => match am_dec cc pc with
    | some (.putfield i, 3) => am_fl_.contains (own, i, e) && am_isr (e / 64) (e % 64) == true && (!(am_tf (e / 64) (e % 64)).2.2.2 || (kind == 2 && own == e / 64)) && nx == pc + 3
    | _ => false
  | .daload => match am_dec cc pc with
    | some (.iaload, 1) => nx == pc + 1
    | _ => false
  | .monitorenter => match am_dec cc pc with
    | some (.arraylength, 1) => nx == pc + 1
    | _ => false
  | .new e => match am_dec cc pc with
    | some (.new i, 3) => am_cl_.contains (own, i, e) && nx == pc + 3
    | _ => false
  | .anewarray t => match am_dec cc pc with
    | some (.newarray .int, 2) => t == 2 && nx == pc + 2
    | some (.newarray .byte, 2) => t == 3 && nx == pc + 2
    | some (.anewarray i, 3) => t == 6 && am_cl_.contains (own, i, 138) && nx == pc + 3
    | _ => false
  | .multianewarray _ _ => match am_dec cc pc with
    | some (.invokestatic i, 3) => am_al_.contains (own, i) && nx == pc + 3
    | _ => false
  | .dadd => match am_dec cc pc with
    | some (.invokestatic i, 3) => am_mm_.contains (own, i, 0) && nx == pc + 3
    | _ => false
  | .dsub => match am_dec cc pc with
    | some (.invokestatic i, 3) => am_mm_.contains (own, i, 1) && nx == pc + 3
    | _ => false
  | .dmul => match am_dec cc pc with
    | some (.invokestatic i, 3) => am_mm_.contains (own, i, 2) && nx == pc + 3
    | _ => false
  | .ddiv => match am_dec cc pc with
    | some (.invokestatic i, 3) => am_mm_.contains (own, i, 3) && nx == pc + 3
    | _ => false
  | .monitorexit => match am_dec cc pc with
    | some (.invokevirtual i, 3) => am_s1_.contains (own, i) && nx == pc + 3
    | _ => false
  | .instanceof _ => match am_dec cc pc with
    | some (.invokevirtual i, 3) => am_s2_.contains (own, i) && nx == pc + 3
    | _ => false
  | .frem => match am_dec cc pc with
    | some (.invokestatic i, 3) => am_cx_.contains (own, i) && nx == pc + 3
    | _ => false
  | .jsr_w _ => match am_dec cc pc with
    | some (.getfield i, 3) => am_fl_.contains (own, i, 641) && nx == pc + 3
    | _ => false
  | .ret _ => match am_dec cc pc with
    | some (.getfield i, 3) => am_fl_.contains (own, i, 640) && nx == pc + 3
    | _ => false
  | .fneg => match am_dec cc pc with
    | some (.arraylength, 1) => nx == pc + 1
    | _ => false
  | .faload => match am_dec cc pc with
    | some (.baload, 1) => nx == pc + 1
    | _ => false
  | .fastore => match am_dec cc pc with
    | some (.invokestatic i, 3) => am_al_.contains (own, i) && nx == pc + 3
    | _ => false
  | .dneg => match am_dec cc pc, am_dec cc (pc + 3) with
    | some (.invokevirtual i, 3), some (.checkcast j, 3) => am_kl_.contains (own, i, 2) && am_ca_.contains (own, j, 2) && nx == pc + 6
    | _, _ => false
  | .drem => match am_dec cc pc, am_dec cc (pc + 3) with
    | some (.invokevirtual i, 3), some (.checkcast j, 3) => am_kl_.contains (own, i, 3) && am_ca_.contains (own, j, 3) && nx == pc + 6
    | _, _ => false
  | .lushr => match am_dec cc pc with
    | some (.multianewarray i 2, 4) => am_ca_.contains (own, i, 7) && nx == pc + 4
    | _ => false
  | .dastore => match am_dec cc pc with
    | some (.aaload, 1) => nx == pc + 1
    | _ => false
  | .f2i => decide (am_dec cc pc = some (.ireturn, 1)) && decide (ret = some .char)
  | .lookupswitch e _ => match am_dec cc pc with
    | some (.invokevirtual i, 3) => am_ml_.contains (own, i, e.toNat / 16 % 512) && am_kind (e.toNat / 16 % 512) == 0 && am_npar (e.toNat / 16 % 512) == e.toNat % 16 && am_mcls (e.toNat / 16 % 512) == e.toNat / 8192 && e.toNat / 8192 == 10 && nx == pc + 3
    | _ => false
  | .ireturn => decide (am_dec cc pc = some (.ireturn, 1)) && decide (ret = some .int)
  | .areturn => decide (am_dec cc pc = some (.ireturn, 1)) && (decide (ret = some .boolean) || decide (ret = some .byte))
  | .dreturn => decide (am_dec cc pc = some (.areturn, 1)) && (match ret with
    | some (.array _) => true
    | some (.object _) => true
    | _ => false)
  | .lreturn => decide (am_dec cc pc = some (.lreturn, 1)) && decide (ret = some .long)
  | .freturn => decide (am_dec cc pc = some (.freturn, 1)) && decide (ret = some .float)
  | .return_ => decide (am_dec cc pc = some (.return_, 1)) && decide (ret = none)
  | .jsr t => match am_dec cc pc, am_dec cc (pc + 3), am_dec cc (pc + 4) with
    | some (.new ik, 3), some (.dup, 1), some (.ldc is, 2) => match am_dec cc (pc + 6), am_dec cc (pc + 9) with
      | some (.invokespecial ic, 3), some (.athrow, 1) => am_xl_.any (fun q => decide (q.1 = own) && decide (q.2.1 = ik) && decide (q.2.2.1 = is) && decide (q.2.2.2.1 = ic) && decide ((q.2.2.2.2.1 : Int) = t))
      | _, _ => false
    | some (.new ik, 3), some (.dup, 1), some (.ldc_w is, 3) => match am_dec cc (pc + 7), am_dec cc (pc + 10) with
      | some (.invokespecial ic, 3), some (.athrow, 1) => am_xl_.any (fun q => decide (q.1 = own) && decide (q.2.1 = ik) && decide (q.2.2.1 = is) && decide (q.2.2.2.1 = ic) && decide ((q.2.2.2.2.1 : Int) = t))
      | _, _ => false
    | _, _, _ => false
  | .invokestatic e => match am_dec cc pc with
    | some (.invokestatic i, 3) => am_ml_.contains (own, i, e / 16) && am_kind (e / 16) == 1 && am_npar (e / 16) == e % 16 && nx == pc + 3
    | _ => false
  | .invokevirtual e => match am_dec cc pc with
    | some (.invokevirtual i, 3) => ((am_ml_.contains (own, i, e / 16 % 512) && am_mcls (e / 16 % 512) == e / 8192) || am_vs_.any (fun q => q.1 == own && q.2.1 == i && q.2.2.1 == e / 8192 && q.2.2.2.1 == e / 16 % 512)) && am_kind (e / 16 % 512) == 0 && am_npar (e / 16 % 512) == e % 16 && nx == pc + 3
    | some (.invokespecial i, 3) => (am_kind (e / 16 % 512) == 2 && (am_ml_.contains (own, i, e / 16 % 512) || am_nl_.contains (own, i, e / 16 % 512)) || am_kind (e / 16 % 512) == 0 && e / 8192 == 11 && am_su_.contains (own, i, e / 16 % 512)) && am_npar (e / 16 % 512) == e % 16 && nx == pc + 3
    | _ => false
  | .iload i => match am_dec cc pc with
    | some (.iload j, 2) => j == i && nx == pc + 2
    | some (.iload_n j, 1) => j.val == i && nx == pc + 1
    | _ => false
  | .aload i => match am_dec cc pc with
    | some (.aload j, 2) => j == i && nx == pc + 2
    | some (.aload_n j, 1) => j.val == i && nx == pc + 1
    | _ => false
  | .lload i => match am_dec cc pc with
    | some (.lload j, 2) => j == i && nx == pc + 2
    | some (.lload_n j, 1) => j.val == i && nx == pc + 1
    | _ => false
  | .fload i => match am_dec cc pc with
    | some (.fload j, 2) => j == i && nx == pc + 2
    | some (.fload_n j, 1) => j.val == i && nx == pc + 1
    | _ => false
  | .dload i => match am_dec cc pc with
    | some (.dload j, 2) => j == i && nx == pc + 2
    | some (.dload_n j, 1) => j.val == i && nx == pc + 1
    | _ => false
  | .istore i => match am_dec cc pc with
    | some (.istore j, 2) => j == i && nx == pc + 2
    | some (.istore_n j, 1) => j.val == i && nx == pc + 1
    | _ => false
  | .astore i => match am_dec cc pc with
    | some (.astore j, 2) => j == i && nx == pc + 2
    | some (.astore_n j, 1) => j.val == i && nx == pc + 1
    | _ => false
  | .lstore i => match am_dec cc pc with
    | some (.lstore j, 2) => j == i && nx == pc + 2
    | some (.lstore_n j, 1) => j.val == i && nx == pc + 1
    | _ => false
  | .fstore i => match am_dec cc pc with
    | some (.fstore j, 2) => j == i && nx == pc + 2
    | some (.fstore_n j, 1) => j.val == i && nx == pc + 1
    | _ => false
  | .dstore i => match am_dec cc pc with
    | some (.dstore j, 2) => j == i && nx == pc + 2
    | some (.dstore_n j, 1) => j.val == i && nx == pc + 1
    | _ => false
  | .iinc i n => match am_dec cc pc with
    | some (.iinc j k, 3) => j == i && decide (k = n) && nx == pc + 3
    | _ => false
  | .iadd | .isub | .imul | .idiv | .irem | .iand | .ior | .ixor | .ishl | .ishr | .iushr | .i2l | .l2i | .i2b | .i2f | .ladd | .lsub | .lmul | .ldiv | .lneg | .lcmp | .fadd | .fmul | .fdiv | .f2d | .dup | .dup2 | .dup_x1 | .ineg | .i2c | .iaload | .baload | .aaload | .iastore | .bastore | .aastore | .arraylength | .aconst_null => decide (am_dec cc pc = some (op, 1)) && nx == pc + 1
  | .dcmp _ => decide (am_dec cc pc = some (op, 1)) && nx == pc + 1
  | _ => false
def am_okt (i : am_I) (t : am_T) : Bool := t.all (fun l => l.all (fun q => am_okb i.2.1 i.2.2.2.2.2.2 i.2.2.1 i.2.2.2.2.1 q.1 q.2.1 q.2.2))

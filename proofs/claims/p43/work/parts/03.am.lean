/-! THE ABSTRACT MACHINE: a flat memory of typed cells (kinds, ints, longs, references by number), values whose references are numbers of cells (0: null), a predicate transformer am_one for one instruction (of a resolved code), am_W its least fixpoint, am_C the calls by depth. What it says is tied to the machine in part 05. -/
/-- memory: kind (1,ci) object of class ci; (2,n) int[]; (3,n) byte[]; (6,n) Graph[]; (7,n) int[][]; ints; longs; references; next cell (cells made), slots made -/
abbrev am_H : Type := (Nat → Nat × Nat) × (Nat → Nat → Int32) × (Nat → Nat → Int64) × (Nat → Nat → Nat) × Nat × Nat
def am_k (h : am_H) (a : Nat) : Nat × Nat := h.1 a
def am_i (h : am_H) (a k : Nat) : Int32 := h.2.1 a k
def am_l (h : am_H) (a k : Nat) : Int64 := h.2.2.1 a k
def am_r (h : am_H) (a k : Nat) : Nat := h.2.2.2.1 a k
def am_n (h : am_H) : Nat := h.2.2.2.2.1
def am_cs (h : am_H) : Nat := h.2.2.2.2.2
def am_pi (h : am_H) (a k : Nat) (v : Int32) : am_H := (h.1, va_up h.2.1 a (upd (h.2.1 a) k v), h.2.2)
def am_pl (h : am_H) (a k : Nat) (v : Int64) : am_H := (h.1, h.2.1, va_up h.2.2.1 a (vp_updL (h.2.2.1 a) k v), h.2.2.2)
def am_pr (h : am_H) (a k : Nat) (v : Nat) : am_H := (h.1, h.2.1, h.2.2.1, va_up h.2.2.2.1 a (va_up (h.2.2.2.1 a) k v), h.2.2.2.2)
def am_clo (h : am_H) (a : Nat) : am_H := (va_up h.1 (am_n h) (h.1 a), va_up h.2.1 (am_n h) (h.2.1 a), va_up h.2.2.1 (am_n h) (fun _ => 0), va_up h.2.2.2.1 (am_n h) (fun _ => 0), am_n h + 1, am_cs h + (h.1 a).2)
def am_mul (h : am_H) (n k : Nat) : am_H := (fun q => if q = am_n h then (7, n) else if am_n h < q ∧ q ≤ am_n h + n then (2, k) else h.1 q, fun q => if am_n h ≤ q ∧ q ≤ am_n h + n then (fun _ => 0) else h.2.1 q, fun q => if am_n h ≤ q ∧ q ≤ am_n h + n then (fun _ => 0) else h.2.2.1 q, fun q => if q = am_n h then (fun j => if j < n then am_n h + 1 + j else 0) else if am_n h < q ∧ q ≤ am_n h + n then (fun _ => 0) else h.2.2.2.1 q, am_n h + 1 + n, am_cs h + n + n * k)
def am_cp (h : am_H) (b sp a dp n : Nat) : am_H := (h.1, va_up h.2.1 a (va_cpy (h.2.1 b) (h.2.1 a) sp dp n), h.2.2)
def am_new (h : am_H) (t n w : Nat) : am_H := (va_up h.1 (am_n h) (t, n), va_up h.2.1 (am_n h) (fun _ => 0), va_up h.2.2.1 (am_n h) (fun _ => 0), va_up h.2.2.2.1 (am_n h) (fun _ => 0), am_n h + 1, am_cs h + w)
def am_thr (h : am_H) : am_H := (h.1, h.2.1, h.2.2.1, h.2.2.2.1, am_n h + 1, am_cs h + 6)
/-- numbers from here on aren't cells: String constants, the script -/
abbrev am_top : Nat := 1000000
abbrev am_S0 : Nat := 2000000
abbrev am_scr : Nat := 3000000
abbrev am_J : Value := .retAddr 0
abbrev am_R : Type := Option Value ⊕ Nat
abbrev am_Q : Type := am_R → am_H → Prop
abbrev am_K : Type := Nat → List Value → List Value → am_H → Prop
abbrev am_Cal : Type := Nat → List Value → am_H → am_Q → Prop
def am_set (L : List Value) (i : Nat) (v : Value) : List Value :=
  match i with
  | 0 => L.set 0 v
  | j + 1 => match L[j]? with
    | some (.long _) => (L.set j am_J).set (j + 1) v
    | some (.double _) => (L.set j am_J).set (j + 1) v
    | _ => L.set (j + 1) v
def am_set2 (L : List Value) (i : Nat) (v : Value) : List Value := (am_set L i v).set (i + 1) am_J
def am_strs : List (List Nat) := [[103, 114, 97, 112, 104], [116, 101, 114, 109, 105, 110, 97, 108], [101, 100, 103, 101], [108, 111, 97, 100], [99, 111, 115, 116], [119, 101, 105, 103, 104, 116], [108, 111, 119], [104, 105, 103, 104], [103, 114, 97, 112, 104, 32], [59], [108, 111, 97, 100, 32], [116, 101, 114, 109, 105, 110, 97, 108, 32], [101, 100, 103, 101, 32], [32], [99, 111, 115, 116, 32, 119, 101, 105, 103, 104, 116, 32, 42, 32, 50, 32, 43, 32, 108, 111, 119, 32, 45, 32, 104, 105, 103, 104, 59]]
/-- cells that are read in the JDK's own methods, the constants among them: string j at am_S0 + j, its bytes at am_S0 + 1000 + j, Integer's two tables at am_S0 + 2000, 2001 -/
def am_k2 (h : am_H) (a : Nat) : Nat × Nat := if a < am_S0 then am_k h a else if a - am_S0 < 15 then (1, 10) else if 1000 ≤ a - am_S0 ∧ a - am_S0 < 1015 then (3, (am_strs.getD (a - am_S0 - 1000) []).length) else if a - am_S0 = 2000 ∨ a - am_S0 = 2001 then (3, 100) else (0, 0)
def am_i2 (h : am_H) (a k : Nat) : Int32 := if a < am_S0 then am_i h a k else if a - am_S0 < 1000 then 0 else if a - am_S0 < 2000 then nI ((am_strs.getD (a - am_S0 - 1000) []).getD k 0) else if a - am_S0 = 2000 then nI (48 + k % 10) else nI (48 + k / 10)
def am_r2 (h : am_H) (a : Nat) : Nat := if a < am_S0 then am_r h a 0 else a + 1000
def am_cp2 (h : am_H) (b sp a dp n : Nat) : am_H := (h.1, va_up h.2.1 a (va_cpy (am_i2 h b) (h.2.1 a) sp dp n), h.2.2)
def am_cond (c : Jvm.ClassFile.Cond) (x y : Int32) : Prop := match c with
  | .eq => x = y
  | .ne => x ≠ y
  | .lt => x < y
  | .ge => y ≤ x
  | .gt => y < x
  | .le => x ≤ y
def am_inc (x : Int32) (n : Int) : Int32 := match n with
  | .ofNat k => x + nI k
  | .negSucc k => x - nI (k + 1)
def am_tsw (d lo hi : Int) (offs : Array Int) (x : Int32) : Nat := if x.toInt < lo ∨ hi < x.toInt then d.toNat else (offs.getD (x.toInt - lo).toNat 0).toNat
def am_arr (h : am_H) (a t : Nat) (i : Int32) : Prop := (am_k h a).1 = t ∧ vp_in i (am_k h a).2
/-- what an instruction does that touches no local: next; check and next; branch; end; call -/
abbrev am_SC : Type := Nat × List Value × am_H
abbrev am_SO : Type := Option (am_SC ⊕ (Prop × am_SC) ⊕ (Prop × Nat × Nat × List Value) ⊕ (Prop × am_R × am_H) ⊕ (Prop × Nat × List Value × List Value))
abbrev am_nx (p : Nat) (S : List Value) (h : am_H) : am_SO := some (.inl (p, S, h))
abbrev am_ck (c : Prop) (p : Nat) (S : List Value) (h : am_H) : am_SO := some (.inr (.inl (c, p, S, h)))
abbrev am_br (c : Prop) (p q : Nat) (S : List Value) : am_SO := some (.inr (.inr (.inl (c, p, q, S))))
abbrev am_end (c : Prop) (r : am_R) (h : am_H) : am_SO := some (.inr (.inr (.inr (.inl (c, r, h)))))
abbrev am_call (c : Prop) (m : Nat) (as rest : List Value) : am_SO := some (.inr (.inr (.inr (.inr (c, m, as, rest)))))
/-- the script: its length and its ints -/
abbrev am_X : Type := Nat × (Nat → Int32)
/-- at most four values, or six of one slot each -/
def am_s1 (v : Value) : Bool := match v with
  | .long _ => false
  | .double _ => false
  | _ => true
def am_sh (S : List Value) : Bool := match S with
  | a :: b :: c :: d :: e :: S => am_s1 a && am_s1 b && am_s1 c && am_s1 d && am_s1 e && (match S with
    | [] => true
    | [f] => am_s1 f
    | _ => false)
  | _ => true
def am_stp (xs : am_X) (op : Instr) (nx : Nat) (S : List Value) (h : am_H) : am_SO :=
  match op with
  | .nop => am_nx nx S h
  | .ldc k => am_nx nx (.int (nI k) :: S) h
  | .ldc_w k => am_nx nx (.int (-nI k) :: S) h
  | .ldc2_w k => am_nx nx (.long (lN k) :: S) h
  | .goto_w k => am_nx nx (.long (Int64.ofInt k) :: S) h
  | .invokedynamic k => am_nx nx (.float (UInt32.ofNat k) :: S) h
  | .invokeinterface j _ => am_nx nx (.ref (am_S0 + j) :: S) h
  | .aconst_null => am_nx nx (.ref 0 :: S) h
  | .iadd => match S with | .int y :: .int x :: S => am_nx nx (.int (x + y) :: S) h | _ => none
  | .isub => match S with | .int y :: .int x :: S => am_nx nx (.int (x - y) :: S) h | _ => none
  | .imul => match S with | .int y :: .int x :: S => am_nx nx (.int (x * y) :: S) h | _ => none
  | .idiv => match S with | .int y :: .int x :: S => am_ck (¬ y = 0) nx (.int (x / y) :: S) h | _ => none
  | .irem => match S with | .int y :: .int x :: S => am_ck (¬ y = 0) nx (.int (x - x / y * y) :: S) h | _ => none
  | .iand => match S with | .int y :: .int x :: S => am_nx nx (.int (x &&& y) :: S) h | _ => none
  | .ior => match S with | .int y :: .int x :: S => am_nx nx (.int (x ||| y) :: S) h | _ => none
  | .ixor => match S with | .int y :: .int x :: S => am_nx nx (.int (x ^^^ y) :: S) h | _ => none
  | .ishl => match S with | .int y :: .int x :: S => am_nx nx (.int (x <<< (y &&& 31)) :: S) h | _ => none
  | .ishr => match S with | .int y :: .int x :: S => am_nx nx (.int (x >>> (y &&& 31)) :: S) h | _ => none
  | .iushr => match S with | .int y :: .int x :: S => am_nx nx (.int ((x.toUInt32 >>> (y.toUInt32 &&& Int32.toUInt32 31)).toInt32) :: S) h | _ => none
  | .i2l => match S with | .int x :: S => am_nx nx (.long x.toInt64 :: S) h | _ => none
  | .l2i => match S with | .long x :: S => am_nx nx (.int x.toInt32 :: S) h | _ => none
  | .i2b => match S with | .int x :: S => am_nx nx (.int x.toInt8.toInt32 :: S) h | _ => none
  | .i2f => match S with | .int x :: S => am_nx nx (.float (FP.i2f x) :: S) h | _ => none
  | .ladd => match S with | .long y :: .long x :: S => am_nx nx (.long (x + y) :: S) h | _ => none
  | .lsub => match S with | .long y :: .long x :: S => am_nx nx (.long (x - y) :: S) h | _ => none
  | .lmul => match S with | .long y :: .long x :: S => am_nx nx (.long (x * y) :: S) h | _ => none
  | .ldiv => match S with | .long y :: .long x :: S => am_ck (¬ y = 0) nx (.long (x / y) :: S) h | _ => none
  | .lneg => match S with | .long x :: S => am_nx nx (.long (-x) :: S) h | _ => none
  | .lcmp => match S with | .long y :: .long x :: S => am_nx nx (.int (lg_cmp x y) :: S) h | _ => none
  | .fadd => match S with | .float y :: .float x :: S => am_ck (vf_n32 (FP.fadd x y)) nx (.float (FP.fadd x y) :: S) h | _ => none
  | .fmul => match S with | .float y :: .float x :: S => am_ck (vf_n32 (FP.fmul x y)) nx (.float (FP.fmul x y) :: S) h | _ => none
  | .fdiv => match S with | .float y :: .float x :: S => am_ck (vf_n32 (FP.fdiv x y)) nx (.float (FP.fdiv x y) :: S) h | _ => none
  | .f2d => match S with | .float x :: S => am_ck (vf_n64 (FP.f2d x)) nx (.double (FP.f2d x) :: S) h | _ => none
  | .dcmp c => match S with | .double y :: .double x :: S => am_nx nx (.int (Op.cmpValue (FP.dcmp x y) c) :: S) h | _ => none
  | .dup => match S with
    | .int x :: S => am_nx nx (.int x :: .int x :: S) h
    | .ref x :: S => am_nx nx (.ref x :: .ref x :: S) h
    | _ => none
  | .dup2 => match S with | .int x :: .ref y :: S => am_nx nx (.int x :: .ref y :: .int x :: .ref y :: S) h | _ => none
  | .pop => match S with
    | .int _ :: S => am_nx nx S h
    | .ref _ :: S => am_nx nx S h
    | _ => none
  | .ineg => match S with | .int x :: S => am_nx nx (.int (-x) :: S) h | _ => none
  | .i2c => match S with | .int x :: S => am_nx nx (.int (x.toUInt32 % 65536).toInt32 :: S) h | _ => none
  | .dup_x1 => match S with | .int x :: .ref y :: S => am_nx nx (.int x :: .ref y :: .int x :: S) h | _ => none
  | .ifnonnull t => match S with | .ref a :: S => am_br (a ≠ 0) t.toNat nx S | _ => none
  | .frem => match S with | .int n :: .int i :: S => bif am_sh S then am_ck (¬ i < 0 ∧ i < n) nx S h else none | _ => none
  | .jsr_w _ => match S with | .ref a :: S => am_ck (am_k2 h a = (1, 10)) nx (.int (am_i2 h a 1) :: S) h | _ => none
  | .ret _ => match S with | .ref a :: S => am_ck (am_k2 h a = (1, 10)) nx (.ref (am_r2 h a) :: S) h | _ => none
  | .fneg => match S with | .ref a :: S => am_ck ((am_k2 h a).1 = 3) nx (.int (nI (am_k2 h a).2) :: S) h | _ => none
  | .faload => match S with | .int i :: .ref a :: S => am_ck ((am_k2 h a).1 = 3 ∧ vp_in i (am_k2 h a).2) nx (.int (am_i2 h a i.toNatClampNeg) :: S) h | _ => none
  | .fastore => match S with
    | .int n :: .int dp :: .ref a :: .int sp :: .ref b :: S => bif am_sh S then am_ck (((am_k h a).1 = 3 ∧ (am_k2 h b).1 = 3) ∧ (¬ sp < 0 ∧ ¬ dp < 0 ∧ ¬ n < 0) ∧ sp.toNatClampNeg + n.toNatClampNeg ≤ (am_k2 h b).2 ∧ dp.toNatClampNeg + n.toNatClampNeg ≤ (am_k h a).2) nx S (am_cp2 h b sp.toNatClampNeg a dp.toNatClampNeg n.toNatClampNeg) else none
    | _ => none
  | .dneg => match S with | .ref a :: S => bif am_sh S then am_ck ((am_k h a).1 = 2 ∧ am_n h < am_top) nx (.ref (am_n h) :: S) (am_clo h a) else none | _ => none
  | .drem => match S with | .ref a :: S => bif am_sh S then am_ck ((am_k h a).1 = 3 ∧ am_n h < am_top ∧ ∀ j, j < (am_k h a).2 → fits .byte (.int (am_i h a j)) = true) nx (.ref (am_n h) :: S) (am_clo h a) else none | _ => none
  | .lushr => match S with | .int k :: .int n :: S => am_ck ((¬ n < 0 ∧ ¬ k < 0 ∧ n.toNatClampNeg ≤ 1000 ∧ k.toNatClampNeg ≤ 1000) ∧ am_n h + n.toNatClampNeg < am_top) nx (.ref (am_n h) :: S) (am_mul h n.toNatClampNeg k.toNatClampNeg) | _ => none
  | .dastore => match S with | .int i :: .ref a :: S => am_ck (am_arr h a 7 i) nx (.ref (am_r h a i.toNatClampNeg) :: S) h | _ => none
  | .f2i => match S with | [.int x] => am_end (0 ≤ x ∧ x < 65536) (.inl (some (.int x))) h | _ => none
  | .lookupswitch e _ => match S.drop (e.toNat % 16) with
    | .ref a :: S' => bif am_sh S' then am_call (am_k2 h a = (1, e.toNat / 8192)) (e.toNat / 16 % 512) (.ref a :: (S.take (e.toNat % 16)).reverse) S' else none
    | _ => none
  | .pop2 => match S with | [.ref a] => am_ck (a ≠ 0) nx [] h | _ => none
  | .dadd => match S with | .int y :: .int x :: S => bif am_sh S then am_nx nx (.int (if x < y then y else x) :: S) h else none | _ => none
  | .dsub => match S with | .int y :: .int x :: S => bif am_sh S then am_nx nx (.int (if y < x then y else x) :: S) h else none | _ => none
  | .dmul => match S with | .long y :: .long x :: S => bif am_sh S then am_nx nx (.long (if y < x then x else y) :: S) h else none | _ => none
  | .ddiv => match S with | .long y :: .long x :: S => bif am_sh S then am_nx nx (.long (if y < x then y else x) :: S) h else none | _ => none
  | .goto t => am_nx t.toNat S h
  | .if_icmp c t => match S with | .int y :: .int x :: S => am_br (am_cond c x y) t.toNat nx S | _ => none
  | .ifCond c t => match S with | .int x :: S => am_br (am_cond c x 0) t.toNat nx S | _ => none
  | .ifnull t => match S with | .ref a :: S => am_br (a = 0) t.toNat nx S | _ => none
  | .tableswitch d lo hi offs => match S with | .int x :: S => am_nx (am_tsw d lo hi offs x) S h | _ => none
  | .getfield e => match S with | .ref a :: S => am_ck (am_k h a = (1, e / 64)) nx (.int (am_i h a (e % 64)) :: S) h | _ => none
  | .getstatic e => match S with | .ref a :: S => am_ck (am_k h a = (1, e / 64)) nx (.ref (am_r h a (e % 64)) :: S) h | _ => none
  | .putfield e => match S with | .int x :: .ref a :: S => am_ck (am_k h a = (1, e / 64)) nx S (am_pi h a (e % 64) x) | _ => none
  | .putstatic e => match S with | .int x :: .ref a :: S => am_ck (am_k h a = (1, e / 64) ∧ (x = 0 ∨ x = 1)) nx S (am_pi h a (e % 64) x) | _ => none
  | .checkcast e => match S with | .ref b :: .ref a :: S => am_ck (am_k h a = (1, e / 64)) nx S (am_pr h a (e % 64) b) | _ => none
  | .iaload => match S with | .int i :: .ref a :: S => am_ck (am_arr h a 2 i) nx (.int (am_i h a i.toNatClampNeg) :: S) h | _ => none
  | .baload => match S with | .int i :: .ref a :: S => am_ck (am_arr h a 3 i) nx (.int (am_i h a i.toNatClampNeg) :: S) h | _ => none
  | .saload => match S with | .int i :: .ref a :: S => am_ck (am_arr h a 4 i) nx (.int (am_i h a i.toNatClampNeg) :: S) h | _ => none
  | .laload => match S with | .int i :: .ref a :: S => am_ck (am_arr h a 5 i) nx (.long (am_l h a i.toNatClampNeg) :: S) h | _ => none
  | .aaload => match S with | .int i :: .ref a :: S => am_ck (am_arr h a 6 i) nx (.ref (am_r h a i.toNatClampNeg) :: S) h | _ => none
  | .daload => match S with | .int i :: .ref a :: S => am_ck (a = am_scr ∧ vp_in i xs.1) nx (.int (xs.2 i.toNatClampNeg) :: S) h | _ => none
  | .monitorenter => match S with | .ref a :: S => am_ck (a = am_scr) nx (.int (nI xs.1) :: S) h | _ => none
  | .iastore => match S with | .int x :: .int i :: .ref a :: S => am_ck (am_arr h a 2 i) nx S (am_pi h a i.toNatClampNeg x) | _ => none
  | .bastore => match S with | .int x :: .int i :: .ref a :: S => am_ck (am_arr h a 3 i) nx S (am_pi h a i.toNatClampNeg (vp_nar .byte x)) | _ => none
  | .sastore => match S with | .int x :: .int i :: .ref a :: S => am_ck (am_arr h a 4 i) nx S (am_pi h a i.toNatClampNeg (vp_nar .boolean x)) | _ => none
  | .lastore => match S with | .long x :: .int i :: .ref a :: S => am_ck (am_arr h a 5 i) nx S (am_pl h a i.toNatClampNeg x) | _ => none
  | .aastore => match S with | .ref b :: .int i :: .ref a :: S => am_ck (am_arr h a 6 i ∧ am_k h b = (1, 2)) nx S (am_pr h a i.toNatClampNeg b) | _ => none
  | .arraylength => match S with | .ref a :: S => am_ck (2 ≤ (am_k h a).1 ∧ (am_k h a).1 ≤ 6) nx (.int (nI (am_k h a).2) :: S) h | _ => none
  | .new e => am_ck (am_n h < am_top) nx (.ref (am_n h) :: S) (am_new h 1 (e / 64) (e % 64))
  | .anewarray t => match S with | .int n :: S => am_ck (am_n h < am_top ∧ ¬ n < 0 ∧ n.toNatClampNeg ≤ 100000) nx (.ref (am_n h) :: S) (am_new h t n.toNatClampNeg n.toNatClampNeg) | _ => none
  | .multianewarray _ _ => match S with
    | .int n :: .int dp :: .ref a :: .int sp :: .ref b :: S => bif am_sh S then am_ck (((am_k h a).1 = 2 ∧ (am_k h b).1 = 2) ∧ (¬ sp < 0 ∧ ¬ dp < 0 ∧ ¬ n < 0) ∧ sp.toNatClampNeg + n.toNatClampNeg ≤ (am_k h b).2 ∧ dp.toNatClampNeg + n.toNatClampNeg ≤ (am_k h a).2) nx S (am_cp h b sp.toNatClampNeg a dp.toNatClampNeg n.toNatClampNeg) else none
    | _ => none
  | .monitorexit => match S with | .ref a :: S => bif am_sh S then am_ck (am_S0 ≤ a ∧ a - am_S0 < am_strs.length) nx (.int (nI (am_strs.getD (a - am_S0) []).length) :: S) h else none | _ => none
  | .instanceof _ => match S with | .int i :: .ref a :: S => bif am_sh S then am_ck ((am_S0 ≤ a ∧ a - am_S0 < am_strs.length) ∧ vp_in i (am_strs.getD (a - am_S0) []).length) nx (.int (nI ((am_strs.getD (a - am_S0) []).getD i.toNatClampNeg 0)) :: S) h else none | _ => none
  | .ireturn => match S with | [.int x] => am_end True (.inl (some (.int x))) h | _ => none
  | .areturn => match S with | [.int x] => am_end (x = 0 ∨ x = 1) (.inl (some (.int x))) h | _ => none
  | .dreturn => match S with | [.ref x] => am_end True (.inl (some (.ref x))) h | _ => none
  | .lreturn => match S with | [.long x] => am_end True (.inl (some (.long x))) h | _ => none
  | .freturn => match S with | [.float x] => am_end True (.inl (some (.float x))) h | _ => none
  | .return_ => match S with | [] => am_end True (.inl none) h | _ => none
  | .jsr k => bif am_sh S then am_end (am_n h < am_top) (.inr k.toNat) (am_thr h) else none
  | .invokestatic e => bif am_sh (S.drop (e % 16)) && Nat.beq (S.take (e % 16)).length (e % 16) then am_call True (e / 16) (S.take (e % 16)).reverse (S.drop (e % 16)) else none
  | .invokevirtual e => match S.drop (e % 16) with
    | .ref a :: S' => bif am_sh S' then am_call (am_k h a = (1, e / 8192)) (e / 16 % 512) (.ref a :: (S.take (e % 16)).reverse) S' else none
    | _ => none
  | _ => none
def am_out (rec : am_K) (cal : am_Cal) (hdl : Nat → Nat → Option (Nat × Nat)) (Q : am_Q) (pc nx : Nat) (L : List Value) (h : am_H) (o : am_SO) : Prop :=
  match o with
  | none => False
  | some (.inl (p, S, h)) => rec p L S h
  | some (.inr (.inl (c, p, S, h))) => c ∧ rec p L S h
  | some (.inr (.inr (.inl (c, p, q, S)))) => (c → rec p L S h) ∧ (¬ c → rec q L S h)
  | some (.inr (.inr (.inr (.inl (c, r, h))))) => c ∧ Q r h
  | some (.inr (.inr (.inr (.inr (c, m, as, S))))) => c ∧ cal m as h (fun r h => match r with
    | .inl none => rec nx L S h
    | .inl (some v) => rec nx L (v :: S) h
    | .inr E => match hdl pc E with
      | none => Q (.inr E) h
      | some (p, i) => rec p (am_set L i am_J) [] h)
/-- what an instruction does that touches the locals (none: another one; some none: it doesn't go) -/
def am_lop (op : Instr) (L S : List Value) : Option (Option (List Value × List Value)) :=
  match op with
  | .iload i => some (match L[i]? with | some (.int x) => some (L, .int x :: S) | _ => none)
  | .aload i => some (match L[i]? with | some (.ref x) => some (L, .ref x :: S) | _ => none)
  | .lload i => some (match L[i]? with | some (.long x) => some (L, .long x :: S) | _ => none)
  | .fload i => some (match L[i]? with | some (.float x) => some (L, .float x :: S) | _ => none)
  | .dload i => some (match L[i]? with | some (.double x) => some (L, .double x :: S) | _ => none)
  | .istore i => some (match S, L[i]? with | .int x :: S, some _ => some (am_set L i (.int x), S) | _, _ => none)
  | .astore i => some (match S, L[i]? with | .ref x :: S, some _ => some (am_set L i (.ref x), S) | _, _ => none)
  | .fstore i => some (match S, L[i]? with | .float x :: S, some _ => some (am_set L i (.float x), S) | _, _ => none)
  | .lstore i => some (match S, L[i + 1]? with | .long x :: S, some _ => some (am_set2 L i (.long x), S) | _, _ => none)
  | .dstore i => some (match S, L[i + 1]? with | .double x :: S, some _ => some (am_set2 L i (.double x), S) | _, _ => none)
  | .iinc i n => some (match L[i]? with | some (.int x) => some (am_set L i (.int (am_inc x n)), S) | _ => none)
  | _ => none
/-- one instruction -/
def am_one (xs : am_X) (code : Nat → Option (Instr × Nat)) (hdl : Nat → Nat → Option (Nat × Nat)) (rec : am_K) (cal : am_Cal) (Q : am_Q) : am_K := fun pc L S h =>
  match code pc with
  | none => False
  | some (op, nx) => match am_lop op L S with
    | some (some (L', S')) => rec nx L' S' h
    | some none => False
    | none => am_out rec cal hdl Q pc nx L h (am_stp xs op nx S h)
/-- its least fixpoint -/
def am_W (xs : am_X) (code : Nat → Option (Instr × Nat)) (hdl : Nat → Nat → Option (Nat × Nat)) (cal : am_Cal) (Q : am_Q) : am_K := fun pc L S h =>
  ∀ P : am_K, (∀ pc L S h, am_one xs code hdl P cal Q pc L S h → P pc L S h) → P pc L S h
def am_pad : List Value → List Value
  | [] => []
  | .long x :: l => .long x :: am_J :: am_pad l
  | .double x :: l => .double x :: am_J :: am_pad l
  | v :: l => v :: am_pad l
def am_loc (args : List Value) (n : Nat) : List Value := am_pad args ++ List.replicate (n - (am_pad args).length) am_J
abbrev am_P : Type := Nat → Option ((Nat → Option (Instr × Nat)) × (Nat → Nat → Option (Nat × Nat)) × Nat)
/-- a call at depth d: the method's code from its entry -/
def am_C (xs : am_X) (P : am_P) : Nat → am_Cal
  | 0 => fun _ _ _ _ => False
  | d + 1 => fun m as h Q => match P m with
    | none => False
    | some (code, hdl, n) => Nat.ble (am_pad as).length n = true ∧ am_W xs code hdl (am_C xs P d) Q 0 (am_loc as n) [] h
/-- code as chunks of 16 bytes -/
abbrev am_T : Type := List (List (Nat × Instr × Nat))
def am_find : List (Nat × Instr × Nat) → Nat → Option (Instr × Nat)
  | [], _ => none
  | (q, x) :: l, pc => bif Nat.beq q pc then some x else am_find l pc
def am_code (t : am_T) (pc : Nat) : Option (Instr × Nat) := match t[pc / 16]? with
  | none => none
  | some l => am_find l pc
/-- the same up to some stops, there a continuation -/
def am_ev (xs : am_X) (code : Nat → Option (Instr × Nat)) (hdl : Nat → Nat → Option (Nat × Nat)) (stop : Nat → Bool) (K : am_K) (cal : am_Cal) (Q : am_Q) : Nat → am_K
  | 0 => fun _ _ _ _ => False
  | n + 1 => fun pc L S h => bif stop pc then K pc L S h else am_one xs code hdl (am_ev xs code hdl stop K cal Q n) cal Q pc L S h

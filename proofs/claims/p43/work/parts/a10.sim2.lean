/-! THE TIE, 2: one instruction that neither calls nor ends -/
/-- words that are kept by laws of their own -/
def am_nwb (w : Cond) : Bool := match w with
  | .castable _ _ => true
  | .declares _ => true
  | .methodLinkNest _ _ _ _ => true
  | _ => false
/-- a String constant: its coder, its bytes -/
def am_ST1 (k v : Nat) (tx : List Nat) (A : Nat → Prop) (U : State) (H : Heap) : Prop := va_O "java/lang/String" k A U H ∧ va_OF "java/lang/String" "coder" "B" (.int 0) k A U H ∧ va_OF "java/lang/String" "value" "[B" (.ref v) k A U H ∧ va_T .byte v tx.length (fun j => .int (nI (tx.getD j 0))) A U H
theorem am_ST1.moved {k v : Nat} {tx : List Nat} {A : Nat → Prop} {u U : State} {H : Heap} (hvm : u.vm.Alike U.vm) (h : am_ST1 k v tx A u H) : am_ST1 k v tx A U H := ⟨va_O.moved hvm h.1, va_OF.moved hvm h.2.1, va_OF.moved hvm h.2.2.1, va_T.moved hvm h.2.2.2⟩
theorem am_ST1.kept {k v : Nat} {tx : List Nat} {A : Nat → Prop} {U : State} {H H1 : Heap} (h : am_ST1 k v tx A U H) (hq : ∀ a : Nat, a < H.size → ¬ A a → H1[a]? = H[a]?) : am_ST1 k v tx A U H1 := ⟨h.1.kept hq, h.2.1.kept hq, h.2.2.1.kept hq, h.2.2.2.kept hq⟩
abbrev am_ZC : String := "java/lang/String"
abbrev am_ZP : String := "jdk/internal/util/Preconditions"
abbrev am_ZF : String := "Ljava/util/function/BiFunction;"
abbrev am_ZI : String := "java/lang/Integer"
/-- the String constants, Integer's two tables of digits -/
def am_ST (ad : Nat → Nat) (A : Nat → Prop) (U : State) (H : Heap) : Prop := (∀ j, j < 15 → am_ST1 (ad j) (ad (1000 + j)) (am_strs.getD j []) A U H) ∧ va_Z am_ZC "COMPACT_STRINGS" "Z" (.int 1) A U H ∧ va_Zq am_ZP "SIOOBE_FORMATTER" am_ZF A U H ∧ (va_Z am_ZI "DigitOnes" "[B" (.ref (ad 2000)) A U H ∧ va_T .byte (ad 2000) 100 (fun j => .int (nI (48 + j % 10))) A U H) ∧ (va_Z am_ZI "DigitTens" "[B" (.ref (ad 2001)) A U H ∧ va_T .byte (ad 2001) 100 (fun j => .int (nI (48 + j / 10))) A U H)
theorem am_ST.moved {ad : Nat → Nat} {A : Nat → Prop} {u U : State} {H : Heap} (hvm : u.vm.Alike U.vm) (h : am_ST ad A u H) : am_ST ad A U H := ⟨fun j hj => (h.1 j hj).moved hvm, va_Z.moved hvm h.2.1, va_Zq.moved hvm h.2.2.1, ⟨va_Z.moved hvm h.2.2.2.1.1, va_T.moved hvm h.2.2.2.1.2⟩, ⟨va_Z.moved hvm h.2.2.2.2.1, va_T.moved hvm h.2.2.2.2.2⟩⟩
theorem am_ST.kept {ad : Nat → Nat} {A : Nat → Prop} {U : State} {H H1 : Heap} (h : am_ST ad A U H) (hq : ∀ a : Nat, a < H.size → ¬ A a → H1[a]? = H[a]?) : am_ST ad A U H1 := ⟨fun j hj => (h.1 j hj).kept hq, h.2.1.kept hq, h.2.2.1.kept hq, ⟨h.2.2.2.1.1.kept hq, h.2.2.2.1.2.kept hq⟩, ⟨h.2.2.2.2.1.kept hq, h.2.2.2.2.2.kept hq⟩⟩
def am_ex (k : Nat) : String := match k with
  | 1 => "java/lang/IllegalArgumentException"
  | 2 => "java/lang/IndexOutOfBoundsException"
  | _ => "java/lang/IllegalStateException"
/-- has any method a handler? -/
def am_hx : Bool := am_inf.any (fun i => !i.2.2.2.2.2.1.isEmpty)
def am_NC (U : State) : Prop := ∀ a b : Nat, 1 ≤ a → a ≤ 3 → 1 ≤ b → b ≤ 3 → a ≠ b → am_hx = true → va_Nc (am_ex a) (am_ex b) U
theorem am_NC.moved {u U : State} (hvm : u.vm.Alike U.vm) (h : am_NC u) : am_NC U := fun a b h1 h2 h3 h4 h5 h6 => (h a b h1 h2 h3 h4 h5 h6).moved hvm
/-- what stands at a method's entry beside its cells -/
def am_SF (G : am_G) (xs : am_X) (s : State) : Prop :=
  va_K G.1 am_cl (am_tys G) s ∧ (∀ q ∈ am_sl_, vk_R (am_cn q.1) q.2.1 (am_txt q.2.2) (G.2.2.2.1 q.2.2) s) ∧ (∀ q ∈ am_xl_, ∃ sa, vk_R (am_cn q.1) q.2.2.1 q.2.2.2.2.2 sa s) ∧ va_X G.2.2.2.2.2 xs.1 xs.2 s s.heap ∧ G.2.2.2.2.2 < G.2.2.1 + 1 ∧ G.2.2.1 + 1 ≤ s.heap.size ∧ (va_AO "MultiwayCut$Graph" s ∧ am_AO s) ∧ vx_Zq Bundle.tN "UNASSIGNED_STACK" Bundle.steD (fun q => G.2.2.1 + 1 ≤ q) s s.heap ∧ vx_Zq Bundle.tN "SUPPRESSED_SENTINEL" Bundle.listD (fun q => G.2.2.1 + 1 ≤ q) s s.heap ∧ (∀ w, w ∈ lw_tbl → am_nwb w = true → va_Nw w s) ∧ am_ST G.2.2.2.1 (am_A G) s s.heap ∧ am_NC s
def am_Env (G : am_G) (xs : am_X) (own kind : Nat) (cc : ByteArray) (p : Program) (R : Room) (s : State) (m : MethodId) (args : Array Value) (meth : Method) (c : Code) : Prop :=
  p.tables.exec = Jvm.exec ∧ c.code = cc ∧ s.vm.findClass (am_cn own) = some m.cls ∧ (∀ w ∈ am_TT, w.before args s = true) ∧ am_SF G xs s ∧ (kind = 2 → meth.name = "<init>") ∧ 12 ≤ R.frames ∧ 768 ≤ R.locals
theorem am_w {args : Array Value} {s : State} (hts : ∀ w ∈ am_TT, w.before args s = true) {w : Cond} (h : w ∈ lw_tbl) (g : goodWord w = true) : w.before args s = true := hts w (am_TT_of h g)
def am_nosp (op : Instr) : Bool := match op with
  | .ireturn | .areturn | .dreturn | .lreturn | .freturn | .return_ | .jsr _ | .invokestatic _ | .invokevirtual _ | .monitorexit | .instanceof _ | .lookupswitch _ _ | .frem | .f2i => false
  | _ => true
theorem am_nw_warm {w : Cond} (hw : am_nwb w = true) {s U : State} (hW : s.WarmedH U.vm) (h : va_Nw w s) : va_Nw w U := by
  cases w <;> first | (exfalso; simp only [am_nwb] at hw; cases hw; done) | exact va_Nw.warmC hW h | exact va_Nw.warmD hW h | exact va_Nw.warmM hW h
theorem am_nw_use {w : Cond} (hw : am_nwb w = true) {A : Array Value} {U : State} (h : va_Nw w U) : w.before A U = true := by
  cases w <;> first | (exfalso; simp only [am_nwb] at hw; cases hw; done) | exact va_Nw.use rfl h
theorem am_nw_of {w : Cond} (hw : am_nwb w = true) {A : Array Value} {U : State} (h : w.before A U = true) : va_Nw w U := by
  cases w <;> first | (exfalso; simp only [am_nwb] at hw; cases hw; done) | exact va_Nw.of rfl h
/-- it goes on into a callee -/
theorem am_SF.to {G : am_G} {xs : am_X} {s U : State} (h : am_SF G xs s) (hW : s.WarmedH U.vm) (hz : s.heap.size ≤ U.heap.size) (hq : ∀ q : Nat, q < s.heap.size → ¬ am_A G q → U.heap[q]? = s.heap[q]?) : am_SF G xs U := by
  obtain ⟨h1, h2, h3, h4, h5, h6, h7, h8, h9, h10⟩ := h
  have hA : ¬ am_A G G.2.2.2.2.2 := Nat.not_le.mpr h5
  exact ⟨va_K.moved hW.alike h1, fun q hq => vk_R.warm hW (h2 q hq), fun q hq => by obtain ⟨sa, hs⟩ := h3 q hq; exact ⟨sa, vk_R.warm hW hs⟩, va_X.moved hW.alike (h4.kept (hq _ (by omega) hA)), h5, Nat.le_trans h6 hz, ⟨h7.1.moved hW.alike, h7.2.moved hW.alike⟩, vx_Zq.moved hW.alike (h8.kept hq), vx_Zq.moved hW.alike (h9.kept hq), ⟨fun w m g => am_nw_warm g hW (h10.1 w m g), (h10.2.1.kept hq).moved hW.alike, h10.2.2.moved hW.alike⟩⟩
theorem am_SF.blind {G : am_G} {xs : am_X} {U : State} (h : am_SF G xs U) (g : JFrame) (mk : MethodId) (a : Array Value) : am_SF G xs (U.calling g mk a) := by
  obtain ⟨h1, h2, h3, h4, h5, h6, h7, h8, h9, h10⟩ := h
  have hA : U.vm.Alike (U.calling g mk a).vm := Vm.Alike.refl U.vm
  exact ⟨va_K.moved (u := U) hA h1, fun q hq => vk_R.same (u := U) rfl (h2 q hq), fun q hq => by obtain ⟨sa, hs⟩ := h3 q hq; exact ⟨sa, vk_R.same (u := U) rfl hs⟩, va_X.moved (u := U) hA h4, h5, h6, ⟨h7.1.moved (u := U) hA, h7.2.moved (u := U) hA⟩, vx_Zq.moved (u := U) hA h8, vx_Zq.moved (u := U) hA h9, ⟨fun w m g => by
    have h := h10.1 w m g
    cases w <;> first | (exfalso; simp only [am_nwb] at g; cases g; done) | exact va_Nw.same (u := U) rfl rfl h, h10.2.1.moved (u := U) hA, h10.2.2.moved (u := U) hA⟩⟩

/-! THE TIE, 2: one instruction that neither calls nor ends -/
def am_y (m : Nat) : MethodName := match am_inf[m]? with
  | some i => i.1
  | none => ⟨"", "", ""⟩
/-- what stands at a method's entry beside its cells -/
def am_SF (G : am_G) (xs : am_X) (s : State) : Prop :=
  va_K G.1 am_cl (am_tys G) s ∧ (∀ q ∈ am_sl_, vk_R (am_cn q.1) q.2.1 (am_txt q.2.2) (G.2.2.2.1 q.2.2) s) ∧ (∀ q ∈ am_xl_, ∃ sa, vk_R (am_cn q.1) q.2.2.1 q.2.2.2.2.2 sa s) ∧ va_X G.2.2.2.2.2 xs.1 xs.2 s s.heap ∧ G.2.2.2.2.2 < G.2.2.1 + 1 ∧ G.2.2.1 + 1 ≤ s.heap.size ∧ va_AO "MultiwayCut$Graph" s ∧ vx_Zq Bundle.tN "UNASSIGNED_STACK" Bundle.steD (fun q => G.2.2.1 + 1 ≤ q) s s.heap ∧ vx_Zq Bundle.tN "SUPPRESSED_SENTINEL" Bundle.listD (fun q => G.2.2.1 + 1 ≤ q) s s.heap ∧ (∀ q ∈ am_nl_, va_Nw (.methodLinkNest (am_cn q.1) q.2.1 (am_y q.2.2) "MultiwayCut") s)
def am_Env (G : am_G) (xs : am_X) (own kind : Nat) (cc : ByteArray) (p : Program) (R : Room) (s : State) (m : MethodId) (args : Array Value) (meth : Method) (c : Code) : Prop :=
  p.tables.exec = Jvm.exec ∧ c.code = cc ∧ s.vm.findClass (am_cn own) = some m.cls ∧ (∀ w ∈ am_TT, w.before args s = true) ∧ am_SF G xs s ∧ (kind = 2 → meth.name = "<init>") ∧ 12 ≤ R.frames ∧ 768 ≤ R.locals
theorem am_w {args : Array Value} {s : State} (hts : ∀ w ∈ am_TT, w.before args s = true) {w : Cond} (h : w ∈ lw_tbl) (g : goodWord w = true) : w.before args s = true := hts w (am_TT_of h g)
def am_nosp (op : Instr) : Bool := match op with
  | .ireturn | .areturn | .dreturn | .lreturn | .freturn | .return_ | .jsr _ | .invokestatic _ | .invokevirtual _ | .monitorexit | .instanceof _ => false
  | _ => true

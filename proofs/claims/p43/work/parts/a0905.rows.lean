/-! ROWS OF ROWS OF INTS: what must stand for them, and the instruction that makes them, walked here -/
/-- both array classes stand, the one over the other -/
def am_AO (U : State) : Prop := ∃ (ci ca : ClassId) (ka : Class), U.vm.findClass "[I" = some ci ∧ U.vm.findClass "[[I" = some ca ∧ U.vm.classes[ca]? = some ka ∧ ka.kind = .array ci (.array .int)
theorem am_AO.moved {u U : State} (hvm : u.vm.Alike U.vm) (h : am_AO u) : am_AO U := by
  obtain ⟨ci, ca, ka, h1, h2, h3, h4⟩ := h
  obtain ⟨kb, h5, h6⟩ := hvm.2.2 _ _ h3
  exact ⟨ci, ca, kb, (hvm.findClass _ none).trans h1, (hvm.findClass _ none).trans h2, h5, by rw [h6]; exact h4⟩
theorem am_AO.of {A : Array Value} {U : State} (h : (Cond.arrayOver (.array .int)).before A U = true) : am_AO U := by
  simp only [Cond.before, Cond.holds, Cond.value, beq_iff_eq, Option.bind_eq_some_iff, Option.map_eq_some_iff] at h
  obtain ⟨ci, h1, ca, h2, ka, h3, h4⟩ := h
  obtain ⟨w, h5, -⟩ := Array.findIdx?_eq_some_iff_getElem.mp h2
  have h6 : U.vm.classes[ca] = ka := (Array.getElem?_eq_some_iff.mp h3).2
  rw [h6] at h5
  cases hq : ka.kind with
  | array cp ty =>
    rw [hq] at h4 h5
    have h5 : (cp == ci) = true := h5
    have h4 : (decide (ty = FieldType.int.array) && decide (U.vm.findClass ("[" ++ FieldType.int.array.toString) = some ca)) = true := h4
    simp only [Bool.and_eq_true, decide_eq_true_eq, beq_iff_eq] at h4 h5
    exact ⟨ci, ca, ka, h1, h4.2, h3, by rw [hq, h5, h4.1]⟩
  | _ => rw [hq] at h4; cases h4
/-- the rows made so far: the outer array, i of its rows -/
def am_mkS (T : State) (ca ci : ClassId) (N M : Nat) : Nat → State
  | 0 => T.pushCell (arrV ca N fun _ => .null)
  | i + 1 => ((am_mkS T ca ci N M i).pushCell (arrV ci M fun _ => .int 0)).setCell T.heap.size (arrV ca N fun j => if j < i + 1 then .ref (T.heap.size + 1 + j) else .null)
theorem am_mkU (b i : Nat) : updV (fun j => if j < i then Value.ref (b + 1 + j) else .null) i (.ref (b + 1 + i)) = fun j => if j < i + 1 then .ref (b + 1 + j) else .null := by
  funext j
  unfold updV
  by_cases q : j = i
  · rw [if_pos q, if_pos (by omega), q]
  · rw [if_neg q]
    show (if j < i then Value.ref (b + 1 + j) else .null) = _
    by_cases q2 : j < i
    · rw [if_pos q2, if_pos (by omega)]
    · rw [if_neg q2, if_neg (by omega)]
theorem am_mk0 (b : Nat) : (fun j => if j < 0 then Value.ref (b + 1 + j) else .null) = fun _ => Value.null := funext fun j => if_neg (Nat.not_lt_zero j)
theorem am_mkP (T : State) (ca ci : ClassId) (N M : Nat) : ∀ i, (am_mkS T ca ci N M i).heap.size = T.heap.size + 1 + i ∧ (am_mkS T ca ci N M i).heap[T.heap.size]? = some (arrV ca N fun j => if j < i then .ref (T.heap.size + 1 + j) else .null) ∧ (∀ a, a < T.heap.size → (am_mkS T ca ci N M i).heap[a]? = T.heap[a]?) ∧ (∀ j, j < i → (am_mkS T ca ci N M i).heap[T.heap.size + 1 + j]? = some (arrV ci M fun _ => .int 0)) ∧ (am_mkS T ca ci N M i).vm = T.vm
  | 0 => by
    rw [am_mk0]
    refine ⟨?_, State.heap_pushCell_size .., fun a ha => State.heap_pushCell_of_lt T _ ha, fun j hj => absurd hj (Nat.not_lt_zero j), rfl⟩
    show (T.heap.push _).size = _
    rw [Array.size_push]
  | i + 1 => by
    obtain ⟨h1, h2, h3, h4, h5⟩ := am_mkP T ca ci N M i
    unfold am_mkS
    generalize am_mkS T ca ci N M i = F at *
    have e : ∀ a, ((F.pushCell (arrV ci M fun _ => .int 0)).setCell T.heap.size (arrV ca N fun j => if j < i + 1 then .ref (T.heap.size + 1 + j) else .null)).heap[a]? = if T.heap.size = a then some (arrV ca N fun j => if j < i + 1 then .ref (T.heap.size + 1 + j) else .null) else (F.pushCell (arrV ci M fun _ => .int 0)).heap[a]? := fun a => by
      show ((F.heap.push _).setIfInBounds _ _)[a]? = _
      rw [Array.getElem?_setIfInBounds]
      by_cases q : T.heap.size = a
      · rw [if_pos q, if_pos q, if_pos (by rw [Array.size_push]; omega)]
      · rw [if_neg q, if_neg q]
        rfl
    refine ⟨?_, ?_, fun a ha => ?_, fun j hj => ?_, h5⟩
    · show ((F.heap.push _).setIfInBounds _ _).size = _
      rw [Array.size_setIfInBounds, Array.size_push, h1]
      omega
    · rw [e, if_pos rfl]
    · have z : a < F.heap.size := by omega
      rw [e, if_neg (by omega), State.heap_pushCell_of_lt F _ z]
      exact h3 a ha
    · rw [e, if_neg (by omega)]
      by_cases q : j = i
      · subst q
        rw [← h1]
        exact State.heap_pushCell_size ..
      · have z : T.heap.size + 1 + j < F.heap.size := by omega
        rw [State.heap_pushCell_of_lt F _ z]
        exact h4 j (by omega)
section
variable {p : Program} {l : Launch} {e : Env} {R : Room} {s : State} {m : MethodId} {args : Array Value} {below : List Frame} {meth : Method} {c : Code} {T : State} {locs : List Loc} {cells slots : Nat}
theorem am_mkX (X : Stand p l e R s m args below meth c T locs cells slots) (ca ci : ClassId) (N M : Nat) : ∀ i, Stand p l e R s m args below meth c (am_mkS T ca ci N M i) locs (cells + 1 + i) (slots + N + i * M)
  | 0 => by
    have h := X.pushed (arrV ca N fun _ => .null)
    rw [arrV_size] at h
    rw [Nat.zero_mul]
    exact h
  | i + 1 => by
    obtain ⟨h1, h2, h3, h4, h5⟩ := am_mkP T ca ci N M i
    have z : T.heap.size < (am_mkS T ca ci N M i).heap.size := by omega
    have h := (((am_mkX X ca ci N M i).pushed (arrV ci M fun _ => .int 0)).stored (a := T.heap.size) ((State.heap_pushCell_of_lt (am_mkS T ca ci N M i) _ z).trans h2) i (.ref (T.heap.size + 1 + i))).dropFresh (fun x hx => by
      have hx := List.mem_singleton.mp hx
      subst hx
      exact X.heapGrown)
    rw [arrV_size, arrV_store, am_mkU] at h
    have e : slots + N + (i + 1) * M = slots + N + i * M + M := by rw [Nat.succ_mul]; omega
    rw [e]
    exact h
end
section
variable {E : CtlPost} {e : Env} {d : Bool} {acts : List Action}
theorem am_mkI {u : State} {ci cc : ClassId} {kc : Class} {k : Int32} {Q : Addr → Pre} (h1 : u.vm.classes[ci]? = some kc) (h2 : kc.kind = .array cc .int) (h3 : ¬ k < 0) (h4 : ¬ k.toNatClampNeg > e.platform.arrayLengthLimit) (h5 : ¬ k.toNatClampNeg * componentBytes .int > e.platform.maxHeapBytes) (h6 : u.heap.size < e.platform.maxCells) (h7 : u.slotsUsed + k.toNatClampNeg ≤ e.platform.maxSlots) (hq : ∀ acts', Q u.heap.size d acts' (u.pushCell (arrV ci k.toNatClampNeg fun _ => .int 0))) : wp (Jvm.Op.multianewarray.make ci [k]) Q E e d acts u := by
  rw [Jvm.Op.multianewarray.make]
  simp only [if_neg h3, wp_bind', wp_pure', W.theClass]
  refine ⟨kc, h1, ?_⟩
  rw [h2]
  refine W.newArray_of h1 h2 h4 h5 h6 h7 rfl fun acts' => ?_
  have hq := hq acts'
  rw [← arrV_new] at hq
  exact hq
end
section
variable {p : Program} {l : Launch} {e : Env} {R : Room} {s : State} {m : MethodId} {args : Array Value} {below : List Frame} {meth : Method} {c : Code} {u : State} {locs : List Loc} {cells slots : Nat} {E : CtlPost} {d : Bool} {acts : List Action}
set_option maxHeartbeats 1000000 in
theorem am_mkO (X : Stand p l e R s m args below meth c u locs cells slots) {g : JFrame} {ca ci cc : ClassId} {ka kc : Class} {n k : Int32} {Q : Addr → Pre} (h1 : u.vm.classes[ca]? = some ka) (h2 : ka.kind = .array ci (.array .int)) (h3 : u.vm.classes[ci]? = some kc) (h4 : kc.kind = .array cc .int) (hn : ¬ n < 0) (hk : ¬ k < 0) (hn2 : n.toNatClampNeg ≤ 1000) (hk2 : k.toNatClampNeg ≤ 1000)
    (hcells : cells + (1 + n.toNatClampNeg) ≤ R.cells) (hslots : slots + (n.toNatClampNeg + n.toNatClampNeg * k.toNatClampNeg) ≤ R.slots) (hq : ∀ d' acts', Q u.heap.size d' acts' ((am_mkS u ca ci n.toNatClampNeg k.toNatClampNeg n.toNatClampNeg).setTop g)) : wp (Jvm.Op.multianewarray.make ca [n, k]) Q E e d acts (u.setTop g) := by
  have l1 : e.platform.arrayLengthLimit = _ := Launch.admits_arrayLengthLimit X.admits
  have l2 : e.platform.maxHeapBytes = _ := Launch.admits_maxHeapBytes X.admits
  obtain ⟨r1, r2⟩ := X.roomAbove hcells hslots
  rw [Jvm.Op.multianewarray.make]
  simp only [if_neg hn, wp_bind', wp_pure', W.theClass]
  refine ⟨ka, h1, ?_⟩
  rw [h2]
  simp only [wp_bind', wp_pure']
  refine W.newArray_of (s := u.setTop g) h1 h2 (by rw [l1]; omega) (by rw [l2]; show ¬ n.toNatClampNeg * 4 > _; omega) (by show u.heap.size < _; omega) (by show u.slotsUsed + _ ≤ _; omega) rfl fun acts' => ?_
  have hz : [k].find? (fun x => decide (x < 0)) = none := by simp [hk]
  rw [hz]
  simp only [ite_self, wp_bind', wp_pure', Std.Legacy.Range.forIn_eq_forIn_range', Std.Legacy.Range.size]
  have hf : (u.setTop g).pushCell { cls := ca, slots := Array.replicate n.toNatClampNeg .null } = (am_mkS u ca ci n.toNatClampNeg k.toNatClampNeg 0).setTop g := by
    show ((u.pushCell _).setTop g) = ((u.pushCell _).setTop g)
    rw [← arrV_new]
  rw [hf]
  generalize hN : n.toNatClampNeg = N at *
  generalize hM : k.toNatClampNeg = M at *
  refine wp_forIn_inv (fun r t => ∃ i, r = List.range' i (N - i) ∧ i ≤ N ∧ t = (am_mkS u ca ci N M i).setTop g) _ _ ⟨0, by simp, Nat.zero_le _, rfl⟩ (fun x r t d' acts' Q' hI hy => ?_) (fun t d' acts' hI => ?_)
  · obtain ⟨i, hr, hi, rfl⟩ := hI
    have hlt : i < N := Nat.lt_of_not_le fun q => by
      rw [Nat.sub_eq_zero_of_le q] at hr
      cases hr
    rw [show N - i = N - (i + 1) + 1 by omega, List.range'_succ] at hr
    obtain ⟨rfl, rfl⟩ := List.cons.inj hr
    obtain ⟨f1, f2, f3, f4, f5⟩ := am_mkP u ca ci N M x
    have hx : x * M + M ≤ N * M := by
      rw [← Nat.succ_mul]
      exact Nat.mul_le_mul_right M hlt
    obtain ⟨q1, q2⟩ := (am_mkX X ca ci N M x).roomAbove (a := 1) (b := M) (by omega) (by omega)
    simp only [wp_bind', wp_pure']
    subst hM
    refine am_mkI (by show (am_mkS u ca ci N _ x).vm.classes[ci]? = _; rw [f5]; exact h3) h4 hk (by rw [l1]; omega) (by rw [l2]; show ¬ k.toNatClampNeg * 4 > _; omega) (by show (am_mkS u ca ci N _ x).heap.size < _; omega) q2 fun acts2 => ?_
    simp only [wp_bind', wp_pure', W.writeLoc]
    refine ⟨_, (State.heap_pushCell_of_lt ((am_mkS u ca ci N k.toNatClampNeg x).setTop g) _ (by show u.heap.size < (am_mkS u ca ci N _ x).heap.size; omega)).trans f2, by simp [arrV], by rw [arrV_size]; exact hlt, ?_, ?_⟩
    · show State.fitsSlot _ ca .none x (.ref _) = true
      simp [State.fitsSlot, State.slotType?, f5, h1, h2, fits]
    · refine hy _ _ _ ⟨x + 1, rfl, hlt, ?_⟩
      rw [arrV_store]
      show (((am_mkS u ca ci N k.toNatClampNeg x).pushCell _).setCell u.heap.size _).setTop g = _
      rw [show ((am_mkS u ca ci N k.toNatClampNeg x).setTop g).heap.size = u.heap.size + 1 + x from f1, am_mkU]
      rfl
  · obtain ⟨i, hr, hi, rfl⟩ := hI
    have he : i = N := by
      have z := congrArg List.length hr
      rw [List.length_range'] at z
      have z : 0 = N - i := z
      omega
    subst he
    exact hq _ _
end

/-! THE TIE: bytes copied, rows cloned, rows of rows made -/
section
variable {G : am_G} {p : Program} {l : Launch} {e : Env} {R : Room} {s : State} {m : MethodId} {args : Array Value} {below : List Frame} {meth : Method} {c : Code} {H : Heap} {locs : List Loc} {cells slots : Nat} {Q : State → Prop} {h : am_H} {cc : ByteArray} {pc : Nat} {ls : Array Slot} {rest : List Value}
theorem am_cp2_at {b sp a dp n : Nat} : am_i (am_cp2 h b sp a dp n) a = va_cpy (am_i2 h b) (am_i h a) sp dp n := by
  show va_up h.2.1 a (va_cpy (am_i2 h b) (h.2.1 a) sp dp n) a = _
  unfold va_up
  rw [if_pos rfl]
  rfl
theorem am_cp2_o {b sp a dp n x : Nat} (hx : x ≠ a) : am_cell G (am_cp2 h b sp a dp n) x = am_cell G h x := am_cell_eq rfl (by funext z; simp [am_cp2, am_i, va_up, hx]) rfl rfl
theorem am_srcT {U : State} {H1 : Heap} {A : Nat → Prop} {t N n : Nat} {f : Nat → Value} (hT : va_T .byte t N f A U H1) (hn : n = N) : ∃ cs : Cell, H1[t]? = some cs ∧ U.isArrayOf cs .byte ∧ cs.vm ≠ .unknown ∧ n ≤ cs.slots.size ∧ ∀ j, j < n → cs.slots[j]? = some (f j) := by
  obtain ⟨cell, h1, h2, h3, h4, -, h6, -⟩ := hT
  subst hn
  exact ⟨cell, h1, h2, h3, h4, h6⟩
/-- a row of bytes that is read -/
theorem am_src (hK : va_K G.1 am_cl (am_tys G) s) (hR : am_Rel G h H) (hS : va_S (am_A G) s.heap H locs) (hST : am_ST G.2.2.2.1 (am_A G) s s.heap) {b n : Nat} (hb : am_k2 h b = (3, n)) : ∃ (ab : Nat), am_v G (.ref b) = .ref ab ∧ (∃ cs : Cell, H[ab]? = some cs ∧ s.isArrayOf cs .byte ∧ cs.vm ≠ .unknown ∧ n ≤ cs.slots.size ∧ ∀ j, j < n → cs.slots[j]? = some (.int (am_i2 h b j))) ∧ ∀ j, j < n → fits .byte (.int (am_i2 h b j)) = true := by
  have kept : ∀ a : Nat, a < s.heap.size → ¬ am_A G a → H[a]? = s.heap[a]? := hS.2.1
  by_cases hlo : b < am_S0
  · rw [k2_lo hlo] at hb
    rw [i2_lo hlo]
    have hk0 := am_k0 hb
    have hat := hR.2.2.2.2 b hk0
    rw [am_cell3 hb] at hat
    refine ⟨am_ad G b, am_v1 G (am_nz hR hk0), ⟨vp_cell (G.2.1 3) (n, .inl (am_i h b)), hat, (hK.2 1 _ rfl).1 n (fun j => .int (am_i h b j)), (fun q => by cases q), ?_, fun j hj => ?_⟩, fun j hj => hR.2.2.1.2 b (by rw [hb]) j (by rw [hb]; exact hj)⟩
    · show n ≤ (arrV _ _ _).slots.size
      rw [arrV_size]
      exact Nat.le_refl _
    · show (arrV _ _ _).slots[_]? = _
      rw [arrV_read _ _ hj]
  · rcases k2_hi3 hlo (show (am_k2 h b).1 = 3 by rw [hb]) with ⟨j, hj, rfl, e1, e2⟩ | ⟨rfl, e1, e2⟩ | ⟨rfl, e1, e2⟩
    · have en : n = (am_strs.getD j []).length := congrArg Prod.snd (hb.symm.trans e1)
      obtain ⟨cs, c1, c2, c3, c4, c5⟩ := am_srcT ((hST.1 j hj).2.2.2.kept kept) en
      refine ⟨_, am_vS G (by omega), ⟨cs, c1, c2, c3, c4, fun i hi => by rw [e2]; exact c5 i hi⟩, fun i hi => ?_⟩
      rw [e2]
      exact zb_fit _ (strs_asc j hj i (by rw [← en]; exact hi))
    · have en : n = 100 := congrArg Prod.snd (hb.symm.trans e1)
      obtain ⟨cs, c1, c2, c3, c4, c5⟩ := am_srcT (hST.2.2.2.1.2.kept kept) en
      refine ⟨_, am_vS G (by decide), ⟨cs, c1, c2, c3, c4, fun i hi => by rw [e2]; exact c5 i hi⟩, fun i hi => ?_⟩
      rw [e2]
      exact zb_fit _ (by omega)
    · have en : n = 100 := congrArg Prod.snd (hb.symm.trans e1)
      obtain ⟨cs, c1, c2, c3, c4, c5⟩ := am_srcT (hST.2.2.2.2.2.kept kept) en
      refine ⟨_, am_vS G (by decide), ⟨cs, c1, c2, c3, c4, fun i hi => by rw [e2]; exact c5 i hi⟩, fun i hi => ?_⟩
      rw [e2]
      exact zb_fit _ (by omega)
set_option maxHeartbeats 1000000 in
theorem am_copybW (hexec : p.tables.exec = Jvm.exec) (hb : c.code = cc) (hml : c.maxLocals = ls.size) {own : String} {index : Nat} (hown : s.vm.findClass own = some m.cls) (hlink : (Cond.methodLink own index arraycopyName).before args s = true) (hnat : (Cond.native arraycopyName).before args s = true) (hstat : (Cond.static arraycopyName).before args s = true) (hini : (Cond.initialized "java/lang/System").before args s = true)
    (hK : va_K G.1 am_cl (am_tys G) s) (hR : am_Rel G h H) (hS : va_S (am_A G) s.heap H locs) (hST : am_ST G.2.2.2.1 (am_A G) s s.heap) {a a0 n0 n1 : Nat} (ha : am_k h a = (3, n1)) (ha0 : am_k2 h a0 = (3, n0))
    {sp dp n : Int32} (h1 : ¬ sp < 0) (h2 : ¬ dp < 0) (h3 : ¬ n < 0) (h4 : sp.toNatClampNeg + n.toNatClampNeg ≤ n0) (h5 : dp.toNatClampNeg + n.toNatClampNeg ≤ n1)
    (hframes : 1 ≤ R.frames) (hlocals : (rest.map fun v => v.category).sum + (nativeFrameWords "java/lang/System" "arraycopy" 5 + 11) ≤ R.locals) (hdg : decode cc pc = .ok (.invokestatic index, 3))
    (kk : ∀ (H1 : Heap) (locs1 : List Loc), am_Rel G (am_cp2 h a0 sp.toNatClampNeg a dp.toNatClampNeg n.toNatClampNeg) H1 → va_S (am_A G) s.heap H1 locs1 → W p l e R s m args below meth c H1 locs1 cells slots Q (F0 m (pc + 3) ls rest)) : W p l e R s m args below meth c H locs cells slots Q (F0 m pc ls (.int n :: .int dp :: .ref (am_ad G a) :: .int sp :: am_v G (.ref a0) :: rest)) := by
  have nn : ∀ z : Int32, ¬ z < 0 → z.toInt = (z.toNatClampNeg : Int) := by
    intro z hz
    have hz0 : (0 : Int) ≤ z.toInt := by
      have := Int32.not_lt.mp hz
      simpa using Int32.le_iff_toInt_le.mp this
    show z.toInt = ((z.toInt.toNat : Nat) : Int)
    omega
  have hka := am_k0 ha
  obtain ⟨ab, eab, ⟨scr, hc0, hs2, hs3, hs4, hs5⟩, hfit⟩ := am_src hK hR hS hST ha0
  rw [eab]
  obtain ⟨f, hf⟩ : ∃ f, f = am_i2 h a0 := ⟨_, rfl⟩
  obtain ⟨g, hg⟩ : ∃ g, g = am_i h a := ⟨_, rfl⟩
  rw [← hf] at hs5 hfit
  intro T hT X
  have hc1 : H[am_ad G a]? = some (vp_cell (G.2.1 3) (n1, .inl g)) := by
    have := hR.2.2.2.2 a hka
    rw [am_cell3 ha, ← hg] at this
    exact this
  obtain ⟨hs6, k0, hk0, cm0, hkk0⟩ := hs2
  obtain ⟨-, k1, hk1, cm1, hkk1⟩ := (hK.2 1 _ rfl).1 n1 (fun j => .int (g j))
  obtain ⟨vm', X', step⟩ := X.arraycopy hexec hown hlink hnat hstat hini (src := ab) (dst := am_ad G a) (cs := scr) (cd := vp_cell (G.2.1 3) (n1, .inl g)) (srcPos := sp) (destPos := dp) (n := n) (by rw [hT]; exact hc0) (by rw [hT]; exact hc1)
    hs6 (fun _ h => by cases h) hs3 (fun h => by cases h) hk0 hk1 hkk0 hkk1 (by simp [refKind]) h1 h2 h3
    (by rw [nn sp h1, nn n h3]; omega)
    (by rw [nn dp h2, nn n h3]; show ¬ _ > ((arrV (G.2.1 3) n1 (fun j => .int (g j))).slots.size : Int); rw [arrV_size]; omega)
    (fun vm₁ _ i hi => by
      have e : scr.slots.getD (sp.toNatClampNeg + i) .null = .int (f (sp.toNatClampNeg + i)) := by
        rw [Array.getD_eq_getD_getElem?, hs5 _ (by omega)]
        rfl
      refine ⟨?_, ?_⟩
      · rw [e]
        exact hfit _ (by omega)
      · rw [e]
        exact trivial)
    (g := F0 m pc ls (.int n :: .int dp :: .ref (am_ad G a) :: .int sp :: .ref ab :: rest)) rfl (by rw [hml]) (rest := rest) rfl (by rw [hb]; exact hdg) hframes (by show 2 * 0 + _ + _ ≤ _; omega)
  have e1 : copied scr (vp_cell (G.2.1 3) (n1, .inl g)) sp dp n = vp_cell (G.2.1 3) (n1, .inl (va_cpy f g sp.toNatClampNeg dp.toNatClampNeg n.toNatClampNeg)) := va_copiedX (fun z => .int z) scr (G.2.1 3) f g hs5 h4
  rw [e1] at X' step
  have hl : am_ad G a < H.size := (Array.getElem?_eq_some_iff.mp hc1).1
  have hheap : ((T.setVm vm').setCell (am_ad G a) (vp_cell (G.2.1 3) (n1, .inl (va_cpy f g sp.toNatClampNeg dp.toNatClampNeg n.toNatClampNeg)))).heap = H.setIfInBounds (am_ad G a) (vp_cell (G.2.1 3) (n1, .inl (va_cpy f g sp.toNatClampNeg dp.toNatClampNeg n.toNatClampNeg))) := by rw [← hT]; rfl
  have oq : ∀ q : Nat, q ≠ am_ad G a → (H.setIfInBounds (am_ad G a) (vp_cell (G.2.1 3) (n1, .inl (va_cpy f g sp.toNatClampNeg dp.toNatClampNeg n.toNatClampNeg))))[q]? = H[q]? := fun q hq => by simp [Array.getElem?_setIfInBounds, Ne.symm hq]
  obtain ⟨t, a1, b1⟩ := kk _ _ (hR.wr (h' := am_cp2 h a0 sp.toNatClampNeg a dp.toNatClampNeg n.toNatClampNeg) hka rfl (fun _ => rfl) (by simp) oq (by
      rw [am_cell3 (h := am_cp2 h a0 sp.toNatClampNeg a dp.toNatClampNeg n.toNatClampNeg) (show am_k _ a = _ from ha)]
      show (H.setIfInBounds (am_ad G a) _)[am_ad G a]? = some _
      rw [Array.getElem?_setIfInBounds, if_pos rfl, if_pos hl]
      rw [am_cp2_at, hf, hg]) (fun x hx => am_cp2_o hx) (fun q j hj => by
      rw [am_cp2_at]
      unfold va_cpy
      split
      · rw [← hf]
        exact hfit _ (by omega)
      · exact hR.2.2.1.2 a q j hj)) ⟨by simp; exact hS.1, fun q g1 g2 => by
      rw [oq q (fun e => g2 (by rw [e]; exact am_Aa hR hka))]
      exact hS.2.1 q g1 g2, fun q hq => by
      rcases List.mem_append.mp hq with h | h
      · exact hS.2.2 q h
      · obtain ⟨z, -, hz⟩ := List.mem_map.mp h
        rw [← hz]
        exact am_Aa hR hka⟩ _ hheap X'
  exact ⟨t, step t a1, b1⟩
theorem am_clo_k (h : am_H) (a x : Nat) : am_k (am_clo h a) x = if x = am_n h then am_k h a else am_k h x := rfl
theorem am_clo_i (h : am_H) (a : Nat) : am_i (am_clo h a) (am_n h) = am_i h a := by
  show va_up h.2.1 (am_n h) (h.2.1 a) (am_n h) = _
  unfold va_up
  rw [if_pos rfl]
  rfl
theorem am_clo_o {a x : Nat} (hx : x ≠ am_n h) : am_cell G (am_clo h a) x = am_cell G h x := am_cell_eq (by rw [am_clo_k, if_neg hx]) (by funext z; simp [am_clo, am_i, va_up, hx]) (by funext z; simp [am_clo, am_l, va_up, hx]) (by funext z; simp [am_clo, am_r, va_up, hx])
set_option maxHeartbeats 1000000 in
theorem am_cloneW (hexec : p.tables.exec = Jvm.exec) (hb : c.code = cc) (hml : c.maxLocals = ls.size) {own ad : String} {index : Nat} (hown : s.vm.findClass own = some m.cls)
    (hlink : (Cond.methodLink own index ⟨ad, "clone", "()Ljava/lang/Object;"⟩).before args s = true) (hsame : (Cond.sameMethod ad "java/lang/Object" "clone" "()Ljava/lang/Object;").before args s = true)
    (hnat : (Cond.native ⟨"java/lang/Object", "clone", "()Ljava/lang/Object;"⟩).before args s = true) (hinst : (Cond.instanceMethod ⟨"java/lang/Object", "clone", "()Ljava/lang/Object;"⟩).before args s = true)
    (hsel : (Cond.selects ad ⟨ad, "clone", "()Ljava/lang/Object;"⟩ ⟨"java/lang/Object", "clone", "()Ljava/lang/Object;"⟩).before args s = true) (hcl : va_Nw (.castable ad "java/lang/Cloneable") s)
    (hK : va_K G.1 am_cl (am_tys G) s) (hR : am_Rel G h H) (hS : va_S (am_A G) s.heap H locs) {a t n t0 : Nat} {ty : FieldType} (ht1 : t = 2 ∨ t = 3) (hk : am_k h a = (t, n)) (ht0 : (am_tys G)[t0]? = some (G.2.1 t, ty)) (htop : am_n h < am_top)
    (hnm : s.vm.findClass ad = some (G.2.1 t)) (hfit : ∀ j, j < n → fits ty (.int (am_i h a j)) = true)
    (hframes : 1 ≤ R.frames) (hlocals : (rest.map fun v => v.category).sum + 14 ≤ R.locals) (hcells : cells + 1 ≤ R.cells) (hslots : slots + n ≤ R.slots) (hdg : decode cc pc = .ok (.invokevirtual index, 3))
    (kk : ∀ (H1 : Heap), am_Rel G (am_clo h a) H1 → va_S (am_A G) s.heap H1 locs → H1[H.size]? = some (vp_cell (G.2.1 t) (n, .inl (am_i h a))) → W p l e R s m args below meth c H1 locs (cells + 1) (slots + n) Q (F0 m (pc + 3) ls (.ref H.size :: rest))) : W p l e R s m args below meth c H locs cells slots Q (F0 m pc ls (.ref (am_ad G a) :: rest)) := by
  have hk0 : (am_k h a).1 ≠ 0 := by rw [hk]; show t ≠ 0; omega
  have ecell : ∀ (h' : am_H) (x : Nat), am_k h' x = (t, n) → am_cell G h' x = .inl (G.2.1 t, n, .inl (am_i h' x)) := fun h' x e => by
    rcases ht1 with rfl | rfl
    · exact am_cell2 e
    · exact am_cell3 e
  have hsz : (vp_cell (G.2.1 t) (n, .inl (am_i h a))).slots.size = n := arrV_size _ _ _
  have hat := hR.2.2.2.2 a hk0
  rw [ecell h a hk] at hat
  obtain ⟨c0, t0', f1, f2, f3⟩ := Cond.castable_spec (va_Nw.use (A := args) rfl hcl)
  cases hnm.symm.trans f1
  intro T hT X
  have hcellT : T.heap[am_ad G a]? = some (vp_cell (G.2.1 t) (n, .inl (am_i h a))) := by rw [hT]; exact hat
  obtain ⟨-, kA, hkA, comp, hkind⟩ := State.isArrayOf_alike X.warmed.alike ((hK.2 t0 _ ht0).1 0 (fun _ => .null))
  obtain ⟨-, kS, hkS, compS, hkindS⟩ := (hK.2 t0 _ ht0).1 0 (fun _ => .null)
  obtain ⟨vm', X', st⟩ := X.cloneArray hexec hown hlink hsame hnat hinst hsel (a := am_ad G a) (cell := vp_cell (G.2.1 t) (n, .inl (am_i h a))) hcellT (fun k h => by cases h) (fun h => by cases h) hnm f2 f3
    (fun i v hv => by
      have hk' : T.vm.classes[G.2.1 t]? = some kA := hkA
      have hi : i < n := by
        have := (Array.getElem?_eq_some_iff.mp hv).1
        rw [hsz] at this
        exact this
      have hv2 : v = .int (am_i h a i) := by
        have h9 : (vp_cell (G.2.1 t) (n, .inl (am_i h a))).slots[i]? = some (.int (am_i h a i)) := by
          show (arrV _ _ _).slots[_]? = _
          rw [arrV_read _ _ hi]
        exact Option.some.inj (hv.symm.trans h9)
      subst hv2
      show State.fitsSlot _ (G.2.1 t) _ i _ = true
      simpa [State.fitsSlot, State.slotType?, hk', hkind, vp_cell, arrV] using hfit i hi)
    (g := F0 m pc ls (.ref (am_ad G a) :: rest)) rfl (by rw [hml]) rfl (by rw [hb]; exact hdg) hframes (by show 2 * 0 + _ + 14 ≤ _; omega) hcells (by rw [hsz]; exact hslots) (hloader := Vm.clonesLoader_of_array hkS hkindS)
  have hcellE : ({ cls := (vp_cell (G.2.1 t) (n, .inl (am_i h a))).cls, slots := (vp_cell (G.2.1 t) (n, .inl (am_i h a))).slots } : Cell) = vp_cell (G.2.1 t) (n, .inl (am_i h a)) := rfl
  rw [hcellE, hsz] at X'
  generalize hH1 : H.push (vp_cell (G.2.1 t) (n, .inl (am_i h a))) = H1
  have z1 : H1.size = H.size + 1 := by rw [← hH1, Array.size_push]
  have e1 : H1[H.size]? = some (vp_cell (G.2.1 t) (n, .inl (am_i h a))) := by rw [← hH1, Array.getElem?_push_size]
  have o1 : ∀ q : Nat, q < H.size → H1[q]? = H[q]? := fun q hq => by rw [← hH1, Array.getElem?_push, if_neg (Nat.ne_of_lt hq)]
  have kn : am_k (am_clo h a) (am_n h) = (t, n) := by rw [am_clo_k, if_pos rfl, hk]
  obtain ⟨t9, b1, b2⟩ := kk H1 (hR.nw (h' := am_clo h a) htop rfl (fun x hx => by rw [am_clo_k, if_neg hx]) z1 o1 (fun _ => by
      rw [ecell _ _ kn, (am_vn hR htop).2, am_clo_i]
      exact e1) (fun x hx => am_clo_o hx) (fun q j hj => by
      rw [am_clo_i]
      rw [kn] at q hj
      have q : t = 3 := q
      exact hR.2.2.1.2 a (by rw [hk]; exact q) j (by rw [hk]; exact hj))) (am_S_new hS z1 o1) e1
    ((T.setVm vm').pushCell (vp_cell (G.2.1 t) (n, .inl (am_i h a)))) (by rw [← hH1, ← hT]; rfl) X'
  refine ⟨t9, st t9 ?_, b2⟩
  rw [hcellE, hT]
  exact b1
end

def am_A0 (t : ArrayType) : (Nat → Int32) ⊕ (Nat → Int64) ⊕ (Nat → UInt32) ⊕ (Nat → UInt64) ⊕ (Nat → Option Nat) := match t with
  | .long => .inr (.inl (fun _ => 0))
  | _ => .inl (fun _ => 0)
theorem am_sh_sum {G : am_G} {S : List Value} (h : am_sh S = true) : ((S.map (am_v G)).map fun v => v.category).sum ≤ 8 := by
  have hc : ∀ v, (am_v G v).category ≤ 2 := fun v => by rw [am_v_cat]; cases v <;> simp [Value.category]
  have h1 : ∀ v, am_s1 v = true → (am_v G v).category ≤ 1 := fun v z => by rw [am_v_cat]; cases v <;> simp_all [Value.category, am_s1]
  match S, h with
  | [], _ => simp
  | [a], _ => simp; have := hc a; omega
  | [a, b], _ => simp; have := hc a; have := hc b; omega
  | [a, b, d], _ => simp; have := hc a; have := hc b; have := hc d; omega
  | [a, b, d, f], _ => simp; have := hc a; have := hc b; have := hc d; have := hc f; omega
  | [a, b, d, f, i], h =>
    simp only [am_sh, Bool.and_eq_true] at h
    obtain ⟨⟨⟨⟨⟨ha, hb⟩, hd⟩, hf⟩, hi⟩, -⟩ := h
    simp
    have := h1 a ha; have := h1 b hb; have := h1 d hd; have := h1 f hf; have := h1 i hi
    omega
  | [a, b, d, f, i, j], h =>
    simp only [am_sh, Bool.and_eq_true] at h
    obtain ⟨⟨⟨⟨⟨ha, hb⟩, hd⟩, hf⟩, hi⟩, hj⟩ := h
    simp
    have := h1 a ha; have := h1 b hb; have := h1 d hd; have := h1 f hf; have := h1 i hi; have := h1 j hj
    omega
  | a :: b :: d :: f :: i :: j :: k :: S, h =>
    simp only [am_sh, Bool.and_false] at h
    cases h
section
variable {G : am_G} {p : Program} {l : Launch} {e : Env} {R : Room} {s : State} {m : MethodId} {args : Array Value} {below : List Frame} {meth : Method} {c : Code} {H : Heap} {locs : List Loc} {cells slots : Nat} {Q : State → Prop} {h : am_H} {cc : ByteArray} {pc : Nat} {ls : Array Slot} {rest : List Value}
theorem am_cp_at {b sp a dp n : Nat} : am_i (am_cp h b sp a dp n) a = va_cpy (am_i h b) (am_i h a) sp dp n := by
  show va_up h.2.1 a (va_cpy (h.2.1 b) (h.2.1 a) sp dp n) a = _
  unfold va_up
  rw [if_pos rfl]
  rfl
theorem am_new_i {t n w : Nat} : am_i (am_new h t n w) (am_n h) = fun _ => 0 := by
  show va_up h.2.1 (am_n h) (fun _ => 0) (am_n h) = _
  unfold va_up
  rw [if_pos rfl]
theorem am_new_l {t n w : Nat} : am_l (am_new h t n w) (am_n h) = fun _ => 0 := by
  show va_up h.2.2.1 (am_n h) (fun _ => 0) (am_n h) = _
  unfold va_up
  rw [if_pos rfl]
theorem am_copyW (hexec : p.tables.exec = Jvm.exec) (hb : c.code = cc) (hml : c.maxLocals = ls.size) {own : String} {index : Nat} (hown : s.vm.findClass own = some m.cls) (hlink : (Cond.methodLink own index arraycopyName).before args s = true) (hnat : (Cond.native arraycopyName).before args s = true) (hstat : (Cond.static arraycopyName).before args s = true) (hini : (Cond.initialized "java/lang/System").before args s = true)
    (hK : va_K G.1 am_cl (am_tys G) s) (hR : am_Rel G h H) (hS : va_S (am_A G) s.heap H locs) {a a0 n0 n1 : Nat} (ha : am_k h a = (2, n1)) (ha0 : am_k h a0 = (2, n0))
    {sp dp n : Int32} (h1 : ¬ sp < 0) (h2 : ¬ dp < 0) (h3 : ¬ n < 0) (h4 : sp.toNatClampNeg + n.toNatClampNeg ≤ n0) (h5 : dp.toNatClampNeg + n.toNatClampNeg ≤ n1)
    (hframes : 1 ≤ R.frames) (hlocals : (rest.map fun v => v.category).sum + (nativeFrameWords "java/lang/System" "arraycopy" 5 + 11) ≤ R.locals) (hdg : decode cc pc = .ok (.invokestatic index, 3))
    (kk : ∀ (H1 : Heap) (locs1 : List Loc), am_Rel G (am_cp h a0 sp.toNatClampNeg a dp.toNatClampNeg n.toNatClampNeg) H1 → va_S (am_A G) s.heap H1 locs1 → W p l e R s m args below meth c H1 locs1 cells slots Q (F0 m (pc + 3) ls rest)) : W p l e R s m args below meth c H locs cells slots Q (F0 m pc ls (.int n :: .int dp :: .ref (am_ad G a) :: .int sp :: .ref (am_ad G a0) :: rest)) := by
  have nn : ∀ z : Int32, ¬ z < 0 → z.toInt = (z.toNatClampNeg : Int) := by
    intro z hz
    have hz0 : (0 : Int) ≤ z.toInt := by
      have := Int32.not_lt.mp hz
      simpa using Int32.le_iff_toInt_le.mp this
    show z.toInt = ((z.toInt.toNat : Nat) : Int)
    omega
  have hka := am_k0 ha
  have hka0 := am_k0 ha0
  obtain ⟨f, hf⟩ : ∃ f, f = am_i h a0 := ⟨_, rfl⟩
  obtain ⟨g, hg⟩ : ∃ g, g = am_i h a := ⟨_, rfl⟩
  intro T hT X
  have hc0 : H[am_ad G a0]? = some (vp_cell (G.2.1 2) (n0, .inl f)) := by
    have := hR.2.2.2.2 a0 hka0
    rw [am_cell2 ha0, ← hf] at this
    exact this
  have hc1 : H[am_ad G a]? = some (vp_cell (G.2.1 2) (n1, .inl g)) := by
    have := hR.2.2.2.2 a hka
    rw [am_cell2 ha, ← hg] at this
    exact this
  obtain ⟨-, k0, hk0, cm0, hkk0⟩ := (hK.2 0 _ rfl).1 n0 (fun j => .int (f j))
  obtain ⟨-, k1, hk1, cm1, hkk1⟩ := (hK.2 0 _ rfl).1 n1 (fun j => .int (g j))
  obtain ⟨vm', X', step⟩ := X.arraycopy hexec hown hlink hnat hstat hini (src := am_ad G a0) (dst := am_ad G a) (cs := vp_cell (G.2.1 2) (n0, .inl f)) (cd := vp_cell (G.2.1 2) (n1, .inl g)) (srcPos := sp) (destPos := dp) (n := n) (by rw [hT]; exact hc0) (by rw [hT]; exact hc1)
    (fun _ h => by cases h) (fun _ h => by cases h) (fun h => by cases h) (fun h => by cases h) hk0 hk1 hkk0 hkk1 (by simp) h1 h2 h3
    (by rw [nn sp h1, nn n h3]; show ¬ _ > ((arrV (G.2.1 2) n0 (fun j => .int (f j))).slots.size : Int); rw [arrV_size]; omega)
    (by rw [nn dp h2, nn n h3]; show ¬ _ > ((arrV (G.2.1 2) n1 (fun j => .int (g j))).slots.size : Int); rw [arrV_size]; omega)
    (fun vm₁ _ i hi => by
      have e : (vp_cell (G.2.1 2) (n0, .inl f)).slots.getD (sp.toNatClampNeg + i) .null = .int (f (sp.toNatClampNeg + i)) := by
        show (arrV (G.2.1 2) n0 (fun j => .int (f j))).slots.getD _ _ = _
        rw [Array.getD_eq_getD_getElem?, arrV_read _ _ (by omega)]
        rfl
      refine ⟨?_, ?_⟩
      · rw [e]
        rfl
      · rw [e]
        exact trivial)
    (g := F0 m pc ls (.int n :: .int dp :: .ref (am_ad G a) :: .int sp :: .ref (am_ad G a0) :: rest)) rfl (by rw [hml]) (rest := rest) rfl (by rw [hb]; exact hdg) hframes (by show 2 * 0 + _ + _ ≤ _; omega)
  have e1 : copied (vp_cell (G.2.1 2) (n0, .inl f)) (vp_cell (G.2.1 2) (n1, .inl g)) sp dp n = vp_cell (G.2.1 2) (n1, .inl (va_cpy f g sp.toNatClampNeg dp.toNatClampNeg n.toNatClampNeg)) := va_copied (fun z => .int z) (G.2.1 2) (G.2.1 2) f g h4
  rw [e1] at X' step
  have hl : am_ad G a < H.size := (Array.getElem?_eq_some_iff.mp hc1).1
  have hheap : ((T.setVm vm').setCell (am_ad G a) (vp_cell (G.2.1 2) (n1, .inl (va_cpy f g sp.toNatClampNeg dp.toNatClampNeg n.toNatClampNeg)))).heap = H.setIfInBounds (am_ad G a) (vp_cell (G.2.1 2) (n1, .inl (va_cpy f g sp.toNatClampNeg dp.toNatClampNeg n.toNatClampNeg))) := by rw [← hT]; rfl
  have oq : ∀ q : Nat, q ≠ am_ad G a → (H.setIfInBounds (am_ad G a) (vp_cell (G.2.1 2) (n1, .inl (va_cpy f g sp.toNatClampNeg dp.toNatClampNeg n.toNatClampNeg))))[q]? = H[q]? := fun q hq => by simp [Array.getElem?_setIfInBounds, Ne.symm hq]
  obtain ⟨t, a1, b1⟩ := kk _ _ (hR.wr (h' := am_cp h a0 sp.toNatClampNeg a dp.toNatClampNeg n.toNatClampNeg) hka rfl (fun _ => rfl) (by simp) oq (by
      rw [am_cell2 (h := am_cp h a0 sp.toNatClampNeg a dp.toNatClampNeg n.toNatClampNeg) (show am_k _ a = _ from ha)]
      show (H.setIfInBounds (am_ad G a) _)[am_ad G a]? = some _
      rw [Array.getElem?_setIfInBounds, if_pos rfl, if_pos hl]
      rw [am_cp_at, hf, hg]) (fun x hx => am_cp_o hx) (fun q => by rw [ha] at q; cases q)) ⟨by simp; exact hS.1, fun q g1 g2 => by
      rw [oq q (fun e => g2 (by rw [e]; exact am_Aa hR hka))]
      exact hS.2.1 q g1 g2, fun q hq => by
      rcases List.mem_append.mp hq with h | h
      · exact hS.2.2 q h
      · obtain ⟨z, -, hz⟩ := List.mem_map.mp h
        rw [← hz]
        exact am_Aa hR hka⟩ _ hheap X'
  exact ⟨t, step t a1, b1⟩
end
section
variable {G : am_G} {xs : am_X} {own kind : Nat} {cc : ByteArray} {ret : Option FieldType} {p : Program} {l : Launch} {e : Env} {R : Room} {s : State} {m : MethodId} {args : Array Value} {below : List Frame} {meth : Method} {c : Code} {Q : State → Prop} {n0 s0 N1 C1 : Nat} {pc nx : Nat} {op : Instr} {L S L' S' : List Value} {h : am_H} {cal : am_Cal} {hdl : Nat → Nat → Option (Nat × Nat)} {Qq : am_Q}
def am_allo (op : Instr) : Bool := match op with
  | .new _ | .anewarray _ | .multianewarray _ _ | .dadd | .dsub | .dmul | .ddiv => true
  | _ => false
theorem am_new_fs {ci w j : Nat} (hc : ci < 12) (hj : j < am_nf ci) : defaultValue (am_ty ci j) = vp_V (am_fs G (am_new h 1 ci w) (am_n h) ci) j := by
  have hv : vp_V (am_fs G (am_new h 1 ci w) (am_n h) ci) j = if am_isr ci j = true then .null else .int 0 := by
    unfold vp_V
    rw [List.getD_eq_getElem?_getD, am_fs_get hj]
    simp [am_new, am_r, am_i, va_up, am_v]
  rw [hv]
  rcases am_ty_all _ hc _ hj with z | z | z | z
  · rw [if_neg (by unfold am_isr; rw [z]; exact Bool.false_ne_true), z]; rfl
  · rw [if_neg (by unfold am_isr; rw [z]; exact Bool.false_ne_true), z]; rfl
  · rw [if_neg (by unfold am_isr; rw [z]; exact Bool.false_ne_true), z]; rfl
  · rw [if_pos z.1, z.2.1]
theorem am_vn {H : Heap} (hR : am_Rel G h H) (ht : am_n h < am_top) : am_v G (.ref (am_n h)) = .ref H.size ∧ am_ad G (am_n h) = H.size := by
  have h1 := hR.2.2.1.1
  have e1 : am_ad G (am_n h) = H.size := by
    unfold am_ad
    rw [if_pos (by omega), hR.1]
  exact ⟨by rw [am_v1 G (by omega), e1], e1⟩
theorem am_new_n {t n w : Nat} : am_n (am_new h t n w) = am_n h + 1 := rfl
theorem am_new_s {t n w : Nat} : am_cs (am_new h t n w) = am_cs h + w := rfl
/-- behind a new array of plain values -/
theorem am_newaW {H : Heap} {locs : List Loc} {ls : Array Slot} {S0 : List Value} {n : Int32} {t : Nat} {atype : ArrayType} (hx : p.tables.exec = Jvm.exec) (hb : c.code = cc) (hts : ∀ w ∈ am_TT, w.before args s = true) (hK : va_K G.1 am_cl (am_tys G) s) (hR : am_Rel G h H) (hS : va_S (am_A G) s.heap H locs)
    (ht : t + 1 < 6) (ty : (am_tys G)[t]? = some (G.2.1 (t + 2), newarray.typeOf atype)) (hw : Cond.arrayClass (newarray.typeOf atype) ∈ lw_tbl) (hra : va_RA s (G.2.1 (t + 2)) (newarray.typeOf atype) → s.vm.findClass ("[" ++ (newarray.typeOf atype).toString) = some (G.2.1 (t + 2)))
    (hce : ∀ N : Nat, am_cell G (am_new h (t + 2) N N) (am_n h) = .inl (G.2.1 (t + 2), N, am_A0 atype)) (hcv : ∀ N : Nat, vp_cell (G.2.1 (t + 2)) (N, am_A0 atype) = arrV (G.2.1 (t + 2)) N (fun _ => defaultValue (newarray.typeOf atype)))
    (hbt : componentBytes (newarray.typeOf atype) ≤ 8)
    (k1 : am_n h < am_top) (k2 : ¬ n < 0) (k3 : n.toNatClampNeg ≤ 100000) (q1 : n0 ≤ am_n h) (q2 : s0 ≤ am_cs h) (r1 : N1 - n0 ≤ R.cells) (r2 : C1 - s0 ≤ R.slots) (hl : am_lh G ls L) (q3 : L.length = c.maxLocals)
    (hdg : decode cc pc = .ok (.newarray atype, 2)) (HS : am_PP G p l e R s m args below meth c Q n0 s0 N1 C1 (pc + 2) L (.ref (am_n h) :: S0) (am_new h (t + 2) n.toNatClampNeg n.toNatClampNeg)) : W p l e R s m args below meth c H locs (am_n h - n0) (am_cs h - s0) Q (F0 m pc ls (.int n :: S0.map (am_v G))) := by
  have u1 := HS.1
  have u2 := HS.2.1
  rw [am_new_n] at u1
  rw [am_new_s] at u2
  refine va_newaK hx hb (am_w hts hw rfl) rfl hdg rfl k2 rfl (Nat.le_trans (Nat.mul_le_mul k3 hbt) (by decide)) (by omega) (by omega) rfl fun H1 cA e1 z1 o1 hAr hNm => ?_
  have hA : cA = G.2.1 (t + 2) := by
    have h2 := hra ((hK.2 t _ ty).2)
    exact Option.some.inj (hNm.symm.trans h2)
  subst hA
  obtain ⟨v1, v2⟩ := am_vn hR k1
  have K := HS.2.2 (by rw [am_new_n]; omega) (by rw [am_new_s]; omega) q3 H1 locs ls (hR.nw k1 rfl (fun x hx9 => am_new_ko hx9) z1 o1 (fun _ => by
    rw [hce, v2]
    show H1[H.size]? = some (vp_cell _ _)
    rw [hcv]
    exact e1) (fun x hx9 => am_new_o hx9) (fun _ j _ => by rw [am_new_i]; rfl)) (am_S_new hS z1 o1) hl
  rw [List.map_cons, v1, am_new_n, am_new_s, show am_n h + 1 - n0 = am_n h - n0 + 1 by omega, show am_cs h + n.toNatClampNeg - s0 = am_cs h - s0 + n.toNatClampNeg by omega] at K
  exact K
set_option maxHeartbeats 4000000 in
theorem am_alloW (E : am_Env G xs own kind cc p R s m args meth c) (r1 : N1 - n0 ≤ R.cells) (r2 : C1 - s0 ≤ R.slots) (hop : am_allo op = true) (ok : am_okb own kind cc ret pc op nx = true) (HS : am_out (am_PP G p l e R s m args below meth c Q n0 s0 N1 C1) cal hdl Qq pc nx L h (am_stp xs op nx S h)) : am_PP G p l e R s m args below meth c Q n0 s0 N1 C1 pc L S h := by
  have E0 := E
  obtain ⟨hx, hb, hown, hts, hsf, hki, hr1, hr2⟩ := E
  have hK := hsf.1
  cases op <;> first | (exfalso; simp only [am_allo] at hop; cases hop; done) | skip
  case dadd =>
    simp only [am_stp] at HS
    split at HS
    rotate_left
    · exact HS.elim
    rename_i y x S0
    cases hsh : am_sh S0 with
    | false => rw [hsh] at HS; exact HS.elim
    | true =>
    rw [hsh] at HS
    replace HS : am_PP G p l e R s m args below meth c Q n0 s0 N1 C1 nx L (.int (if x < y then y else x) :: S0) h := HS
    simp only [am_okb] at ok
    split at ok
    rotate_left
    · cases ok
    rename_i i9 hd
    simp only [Bool.and_eq_true, beq_iff_eq, List.contains_iff_mem] at ok
    obtain ⟨ok, rfl⟩ := ok
    have hrest : ((S0.map (am_v G)).map fun v => v.category).sum ≤ 8 := am_sh_sum hsh
    have u1 := HS.1
    have u2 := HS.2.1
    refine ⟨HS.1, HS.2.1, fun q1 q2 q3 H locs ls hR hS hl => ?_⟩
    exact va_mmax hx hb (q3.symm.trans hl.1.symm) hown (am_w hts (am_mm_ok _ ok) rfl) (am_w hts (by decide +kernel) rfl) (am_w hts (by decide +kernel) rfl) (am_w hts (by decide +kernel) rfl) (by omega) (by omega) (by omega) (by omega) (am_dec_of hd) (HS.2.2 q1 q2 q3 H locs ls hR hS hl)
  case dsub =>
    simp only [am_stp] at HS
    split at HS
    rotate_left
    · exact HS.elim
    rename_i y x S0
    cases hsh : am_sh S0 with
    | false => rw [hsh] at HS; exact HS.elim
    | true =>
    rw [hsh] at HS
    replace HS : am_PP G p l e R s m args below meth c Q n0 s0 N1 C1 nx L (.int (if y < x then y else x) :: S0) h := HS
    simp only [am_okb] at ok
    split at ok
    rotate_left
    · cases ok
    rename_i i9 hd
    simp only [Bool.and_eq_true, beq_iff_eq, List.contains_iff_mem] at ok
    obtain ⟨ok, rfl⟩ := ok
    have hrest : ((S0.map (am_v G)).map fun v => v.category).sum ≤ 8 := am_sh_sum hsh
    have u1 := HS.1
    have u2 := HS.2.1
    refine ⟨HS.1, HS.2.1, fun q1 q2 q3 H locs ls hR hS hl => ?_⟩
    exact va_mmin hx hb (q3.symm.trans hl.1.symm) hown (am_w hts (am_mm_ok _ ok) rfl) (am_w hts (by decide +kernel) rfl) (am_w hts (by decide +kernel) rfl) (am_w hts (by decide +kernel) rfl) (by omega) (by omega) (by omega) (by omega) (am_dec_of hd) (HS.2.2 q1 q2 q3 H locs ls hR hS hl)
  case dmul =>
    simp only [am_stp] at HS
    split at HS
    rotate_left
    · exact HS.elim
    rename_i y x S0
    cases hsh : am_sh S0 with
    | false => rw [hsh] at HS; exact HS.elim
    | true =>
    rw [hsh] at HS
    replace HS : am_PP G p l e R s m args below meth c Q n0 s0 N1 C1 nx L (.long (if y < x then x else y) :: S0) h := HS
    simp only [am_okb] at ok
    split at ok
    rotate_left
    · cases ok
    rename_i i9 hd
    simp only [Bool.and_eq_true, beq_iff_eq, List.contains_iff_mem] at ok
    obtain ⟨ok, rfl⟩ := ok
    have hrest : ((S0.map (am_v G)).map fun v => v.category).sum ≤ 8 := am_sh_sum hsh
    have u1 := HS.1
    have u2 := HS.2.1
    refine ⟨HS.1, HS.2.1, fun q1 q2 q3 H locs ls hR hS hl => ?_⟩
    exact va_mmax_long hx hb (q3.symm.trans hl.1.symm) hown (am_w hts (am_mm_ok _ ok) rfl) (am_w hts (by decide +kernel) rfl) (am_w hts (by decide +kernel) rfl) (am_w hts (by decide +kernel) rfl) (by omega) (by omega) (by omega) (by omega) (am_dec_of hd) (HS.2.2 q1 q2 q3 H locs ls hR hS hl)
  case ddiv =>
    simp only [am_stp] at HS
    split at HS
    rotate_left
    · exact HS.elim
    rename_i y x S0
    cases hsh : am_sh S0 with
    | false => rw [hsh] at HS; exact HS.elim
    | true =>
    rw [hsh] at HS
    replace HS : am_PP G p l e R s m args below meth c Q n0 s0 N1 C1 nx L (.long (if y < x then y else x) :: S0) h := HS
    simp only [am_okb] at ok
    split at ok
    rotate_left
    · cases ok
    rename_i i9 hd
    simp only [Bool.and_eq_true, beq_iff_eq, List.contains_iff_mem] at ok
    obtain ⟨ok, rfl⟩ := ok
    have hrest : ((S0.map (am_v G)).map fun v => v.category).sum ≤ 8 := am_sh_sum hsh
    have u1 := HS.1
    have u2 := HS.2.1
    refine ⟨HS.1, HS.2.1, fun q1 q2 q3 H locs ls hR hS hl => ?_⟩
    exact va_mmin_long hx hb (q3.symm.trans hl.1.symm) hown (am_w hts (am_mm_ok _ ok) rfl) (am_w hts (by decide +kernel) rfl) (am_w hts (by decide +kernel) rfl) (am_w hts (by decide +kernel) rfl) (by omega) (by omega) (by omega) (by omega) (am_dec_of hd) (HS.2.2 q1 q2 q3 H locs ls hR hS hl)
  case new e9 =>
    simp only [am_stp] at HS
    obtain ⟨k1, HS⟩ := (show am_n h < am_top ∧ am_PP G p l e R s m args below meth c Q n0 s0 N1 C1 nx L (.ref (am_n h) :: S) (am_new h 1 (e9 / 64) (e9 % 64)) from HS)
    simp only [am_okb] at ok
    split at ok
    rotate_left
    · cases ok
    rename_i i9 hd
    simp only [Bool.and_eq_true, beq_iff_eq, List.contains_iff_mem] at ok
    obtain ⟨ok, rfl⟩ := ok
    obtain ⟨c1, c2⟩ := am_cl_ok2 _ ok
    obtain ⟨g1, g2, g3, g4⟩ := am_ci_ok _ c1
    dsimp only at c1 c2 g1 g2 g3 g4
    rw [c2] at HS
    have u1 := HS.1
    have u2 := HS.2.1
    rw [am_new_n] at u1
    rw [am_new_s] at u2
    refine ⟨by omega, by omega, fun q1 q2 q3 H locs ls hR hS hl => ?_⟩
    have hKn := hK.1 _ _ g4
    refine W.newcK hx hb hown (am_w hts (am_cl_ok _ ok) rfl) (am_w hts g1 rfl) (am_w hts g2 rfl) rfl (am_dec_of hd) (by omega) (by omega) hKn.2.1 rfl fun H1 kC hkC e1 z1 o1 => ?_
    obtain ⟨v1, v2⟩ := am_vn hR k1
    have K := HS.2.2 (by rw [am_new_n]; omega) (by rw [am_new_s]; omega) q3 H1 locs ls (hR.nw k1 rfl (fun x hx9 => am_new_ko hx9) z1 o1 (fun _ => by
      rw [am_cell1 am_new_k, v2]
      exact ⟨_, g4, (u_born (am_ty (e9 / 64)) hts (fun w hw => am_TT_of (g3 w hw).1 (g3 w hw).2) hKn hkC e1 (am_ty_ok _ c1)).to (fun j hj => am_new_fs c1 hj)⟩) (fun x hx9 => am_new_o hx9) (fun _ j _ => by rw [am_new_i]; rfl)) (am_S_new hS z1 o1) hl
    rw [List.map_cons, v1, am_new_n, am_new_s, show am_n h + 1 - n0 = am_n h - n0 + 1 by omega, show am_cs h + am_nf (e9 / 64) - s0 = am_cs h - s0 + am_nf (e9 / 64) by omega] at K
    exact K
  case anewarray t9 =>
    simp only [am_stp] at HS
    split at HS
    rotate_left
    · exact HS.elim
    rename_i n S0
    obtain ⟨⟨k1, k2, k3⟩, HS⟩ := (show (am_n h < am_top ∧ ¬ n < 0 ∧ n.toNatClampNeg ≤ 100000) ∧ am_PP G p l e R s m args below meth c Q n0 s0 N1 C1 nx L (.ref (am_n h) :: S0) (am_new h t9 n.toNatClampNeg n.toNatClampNeg) from HS)
    have u1 := HS.1
    have u2 := HS.2.1
    rw [am_new_n] at u1
    rw [am_new_s] at u2
    refine ⟨by omega, by omega, fun q1 q2 q3 H locs ls hR hS hl => ?_⟩
    simp only [am_okb] at ok
    split at ok
    · rename_i hd
      simp only [Bool.and_eq_true, beq_iff_eq] at ok
      obtain ⟨rfl, rfl⟩ := ok
      exact am_newaW (atype := .int) hx hb hts hK hR hS (t := 0) (by decide) rfl (by decide +kernel) (fun z => z) (fun N => by rw [am_cell2 am_new_k, am_new_i]; rfl) (fun N => rfl) (by decide) k1 k2 k3 q1 q2 r1 r2 hl q3 (am_dec_of hd) HS
    · rename_i hd
      simp only [Bool.and_eq_true, beq_iff_eq] at ok
      obtain ⟨rfl, rfl⟩ := ok
      exact am_newaW (atype := .byte) hx hb hts hK hR hS (t := 1) (by decide) rfl (by decide +kernel) (fun z => z) (fun N => by rw [am_cell3 am_new_k, am_new_i]; rfl) (fun N => rfl) (by decide) k1 k2 k3 q1 q2 r1 r2 hl q3 (am_dec_of hd) HS
    · rename_i i9 hd
      simp only [Bool.and_eq_true, beq_iff_eq, List.contains_iff_mem] at ok
      obtain ⟨⟨rfl, ok⟩, rfl⟩ := ok
      have h9 := am_cl_ok _ ok
      dsimp only at h9
      rw [show am_cn (138 / 64) = "MultiwayCut$Graph" from by decide +kernel] at h9
      refine W.anew hx hb hown (C := "MultiwayCut$Graph") (am_w hts h9 rfl) (va_AO.use hsf.2.2.2.2.2.2.1.1) rfl (am_dec_of hd) rfl k2 (by omega) (by omega) (by omega) fun cA kA comp f1 f2 f3 f4 => ?_
      generalize hH1 : H.push ({ cls := cA, slots := Array.replicate n.toNatClampNeg .null, vm := .none } : Cell) = H1
      have z1 : H1.size = H.size + 1 := by rw [← hH1, Array.size_push]
      have e1 : H1[H.size]? = some (arrV cA n.toNatClampNeg (fun _ => .null)) := by rw [← hH1, Array.getElem?_push_size, ← arrV_new]
      have o1 : ∀ q : Nat, q < H.size → H1[q]? = H[q]? := fun q hq => by rw [← hH1, Array.getElem?_push, if_neg (Nat.ne_of_lt hq)]
      have hA : cA = G.2.1 6 := by
        obtain ⟨kA2, comp2, h21, h22, h23, h24⟩ := (hK.2 3 _ rfl).2
        exact Option.some.inj (f1.symm.trans h24)
      subst hA
      obtain ⟨v1, v2⟩ := am_vn hR k1
      have K := HS.2.2 (by rw [am_new_n]; omega) (by rw [am_new_s]; omega) q3 H1 locs ls (hR.nw k1 rfl (fun x hx9 => am_new_ko hx9) z1 o1 (fun _ => by
        rw [am_cell6 am_new_k, v2]
        show H1[H.size]? = some (vp_cell _ _)
        rw [e1, vp_cell_q]
        simp [am_new, am_r, va_up, va_rf]) (fun x hx9 => am_new_o hx9) (fun _ j _ => by rw [am_new_i]; rfl)) (am_S_new hS z1 o1) hl
      rw [List.map_cons, v1, am_new_n, am_new_s, show am_n h + 1 - n0 = am_n h - n0 + 1 by omega, show am_cs h + n.toNatClampNeg - s0 = am_cs h - s0 + n.toNatClampNeg by omega] at K
      exact K
    · cases ok
  case multianewarray x1 x2 =>
    simp only [am_stp] at HS
    split at HS
    rotate_left
    · exact HS.elim
    rename_i n dp a sp b S0
    cases hsh : am_sh S0 with
    | false => rw [hsh] at HS; exact HS.elim
    | true =>
    rw [hsh] at HS
    obtain ⟨⟨⟨ka, kb⟩, ⟨k1, k2, k3⟩, k4, k5⟩, HS⟩ := (show (((am_k h a).1 = 2 ∧ (am_k h b).1 = 2) ∧ (¬ sp < 0 ∧ ¬ dp < 0 ∧ ¬ n < 0) ∧ sp.toNatClampNeg + n.toNatClampNeg ≤ (am_k h b).2 ∧ dp.toNatClampNeg + n.toNatClampNeg ≤ (am_k h a).2) ∧ am_PP G p l e R s m args below meth c Q n0 s0 N1 C1 nx L S0 (am_cp h b sp.toNatClampNeg a dp.toNatClampNeg n.toNatClampNeg) from HS)
    simp only [am_okb] at ok
    split at ok
    rotate_left
    · cases ok
    rename_i i9 hd
    simp only [Bool.and_eq_true, beq_iff_eq, List.contains_iff_mem] at ok
    obtain ⟨ok, rfl⟩ := ok
    refine ⟨HS.1, HS.2.1, fun q1 q2 q3 H locs ls hR hS hl => ?_⟩
    have hka : am_k h a = (2, (am_k h a).2) := Prod.ext ka rfl
    have hkb : am_k h b = (2, (am_k h b).2) := Prod.ext kb rfl
    have hrest : ((S0.map (am_v G)).map fun v => v.category).sum ≤ 8 := am_sh_sum hsh
    rw [List.map_cons, List.map_cons, List.map_cons, List.map_cons, List.map_cons, am_v1 G (am_nz hR (am_k0 hka)), am_v1 G (am_nz hR (am_k0 hkb))]
    refine am_copyW hx hb (q3.symm.trans hl.1.symm) hown (am_w hts (am_al_ok _ ok) rfl) (am_w hts (by decide +kernel) rfl) (am_w hts (by decide +kernel) rfl) (am_w hts (by decide +kernel) rfl) hK hR hS hka hkb k1 k2 k3 k4 k5 (by omega) (Nat.le_trans (Nat.add_le_add_right hrest _) (Nat.le_trans (by decide) hr2)) (am_dec_of hd) fun H1 locs1 hR1 hS1 => ?_
    exact HS.2.2 q1 q2 q3 H1 locs1 ls hR1 hS1 hl
end

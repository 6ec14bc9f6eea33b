/-! THE TIE: rows of rows; the four instructions -/
section
variable {G : am_G} {p : Program} {l : Launch} {e : Env} {R : Room} {s : State} {m : MethodId} {args : Array Value} {below : List Frame} {meth : Method} {c : Code} {H : Heap} {locs : List Loc} {cells slots : Nat} {Q : State → Prop} {h : am_H} {cc : ByteArray} {pc : Nat} {ls : Array Slot} {rest : List Value}
theorem am_mul_k (h : am_H) (n k x : Nat) : am_k (am_mul h n k) x = if x = am_n h then (7, n) else if am_n h < x ∧ x ≤ am_n h + n then (2, k) else am_k h x := rfl
theorem am_mul_i (h : am_H) (n k x : Nat) : am_i (am_mul h n k) x = if am_n h ≤ x ∧ x ≤ am_n h + n then (fun _ => 0) else am_i h x := rfl
theorem am_mul_o {n k x : Nat} (hx : x < am_n h ∨ am_n h + n < x) : am_cell G (am_mul h n k) x = am_cell G h x := by
  have c1 : ¬ (am_n h ≤ x ∧ x ≤ am_n h + n) := by omega
  have c2 : x ≠ am_n h := by omega
  have c3 : ¬ (am_n h < x ∧ x ≤ am_n h + n) := by omega
  refine am_cell_eq (by rw [am_mul_k, if_neg c2, if_neg c3]) (by rw [am_mul_i, if_neg c1]) ?_ ?_
  · show (if am_n h ≤ x ∧ x ≤ am_n h + n then _ else h.2.2.1 x) = _
    rw [if_neg c1]
    rfl
  · show (if x = am_n h then _ else if am_n h < x ∧ x ≤ am_n h + n then _ else h.2.2.2.1 x) = _
    rw [if_neg c2, if_neg c3]
    rfl
set_option maxHeartbeats 1000000 in
theorem am_mulW (hexec : p.tables.exec = Jvm.exec) (hb : c.code = cc) {own : String} {index : Nat} (hown : s.vm.findClass own = some m.cls)
    (hlink : (Cond.classLink own index "[[I").before args s = true) (hover : am_AO s) (harr : (Cond.arrayClass .int).before args s = true)
    (hK : va_K G.1 am_cl (am_tys G) s) (hR : am_Rel G h H) (hS : va_S (am_A G) s.heap H locs) {n k : Int32} (hn : ¬ n < 0) (hk : ¬ k < 0) (hn2 : n.toNatClampNeg ≤ 1000) (hk2 : k.toNatClampNeg ≤ 1000) (htop : am_n h + n.toNatClampNeg < am_top)
    (hcells : cells + (1 + n.toNatClampNeg) ≤ R.cells) (hslots : slots + (n.toNatClampNeg + n.toNatClampNeg * k.toNatClampNeg) ≤ R.slots) (hdg : decode cc pc = .ok (.multianewarray index 2, 4))
    (kk : ∀ (H1 : Heap), am_Rel G (am_mul h n.toNatClampNeg k.toNatClampNeg) H1 → va_S (am_A G) s.heap H1 locs → W p l e R s m args below meth c H1 locs (cells + 1 + n.toNatClampNeg) (slots + n.toNatClampNeg + n.toNatClampNeg * k.toNatClampNeg) Q (F0 m (pc + 4) ls (.ref H.size :: rest))) : W p l e R s m args below meth c H locs cells slots Q (F0 m pc ls (.int k :: .int n :: rest)) := by
  intro T hT X
  have hdg' : decode c.code pc = .ok (.multianewarray index 2, 4) := by rw [hb]; exact hdg
  have hpl : e.platform.magicAccessors = ({} : Platform).magicAccessors := by rw [X.admits.platform]
  obtain ⟨c0, hc0, hcl⟩ := Cond.classLink_spec hown hlink e.platform hpl
  obtain ⟨hg1, hW1, -⟩ := State.classEntry (e := e) X.warmed hcl
  generalize T.vm.noted m.cls index (.cls c0) = vm₁ at hg1 hW1
  obtain ⟨ci, ca, ka, h1, h2, h3, h4⟩ := hover
  obtain ⟨cI, kI, cd, g1, g2, g3⟩ := Cond.arrayClass_spec harr
  have y1 : ca = G.2.1 7 := Option.some.inj (h2.symm.trans (hK.2 2 _ rfl).2)
  have y2 : ci = G.2.1 2 := Option.some.inj (h1.symm.trans (hK.2 0 _ rfl).2)
  have y3 : cI = G.2.1 2 := Option.some.inj (g1.symm.trans (hK.2 0 _ rfl).2)
  have y4 : c0 = G.2.1 7 := Option.some.inj (hc0.symm.trans (hK.2 2 _ rfl).2)
  subst y1 y2 y3 y4
  obtain ⟨kb, h5, h6⟩ := hW1.alike.2.2 _ _ h3
  obtain ⟨kJ, g5, g6⟩ := hW1.alike.2.2 _ _ g2
  have XN := X.noted hW1
  have hs0 : (T.setVm vm₁).heap = H := hT
  have step : ∀ t, Steps p.tables e below ((am_mkS (T.setVm vm₁) (G.2.1 7) (G.2.1 2) n.toNatClampNeg k.toNatClampNeg n.toNatClampNeg).setTop (F0 m (pc + 4) ls (.ref T.heap.size :: rest))) t → Steps p.tables e below (T.setTop (F0 m pc ls (.int k :: .int n :: rest))) t := fun t ht => by
    have XF := am_mkX XN (G.2.1 7) (G.2.1 2) n.toNatClampNeg k.toNatClampNeg n.toNatClampNeg
    jvm_step X.here [hexec, hdg']
    simp only [Jvm.Op.multianewarray.sem, wp_bind', W.resolveClassAt_links (State.method?_setTop (F0 m pc ls (.int k :: .int n :: rest)) X.here.top) hg1]
    rw [W.popN, if_neg (by decide)]
    refine ⟨F0 m pc ls (.int k :: .int n :: rest), State.topJava?_setTop' (s := T.setVm vm₁) _ X.here.top, [.int n, .int k], rest, rfl, rfl, ?_⟩
    simp only [List.mapM_cons, List.mapM_nil, wp_bind', wp_pure']
    have eS : ((T.setTop (F0 m pc ls (.int k :: .int n :: rest))).setVm vm₁).setTop { F0 m pc ls (.int k :: .int n :: rest) with stack := rest } = (T.setVm vm₁).setTop { F0 m pc ls (.int k :: .int n :: rest) with stack := rest } := State.setTop_setTop (T.setVm vm₁) _ _
    rw [eS]
    refine am_mkO (u := T.setVm vm₁) XN h5 (by rw [h6]; exact h4) g5 (by rw [g6]; exact g3) hn hk hn2 hk2 hcells hslots fun d' acts' => ?_
    simp only [wp_bind', W.mark, W.pushRef, State.topJava?_setTop' _ XF.here.top, Option.some.injEq, exists_eq_left', State.setTop_setTop]
    intro acts
    simp [jvm, XF.here.top]
    exact ht
  have X1 := am_mkX XN (G.2.1 7) (G.2.1 2) n.toNatClampNeg k.toNatClampNeg n.toNatClampNeg
  obtain ⟨f1, f2, f5, f6, -⟩ := am_mkP (T.setVm vm₁) (G.2.1 7) (G.2.1 2) n.toNatClampNeg k.toNatClampNeg n.toNatClampNeg
  rw [hs0] at f1 f2 f5 f6
  generalize hF : (am_mkS (T.setVm vm₁) (G.2.1 7) (G.2.1 2) n.toNatClampNeg k.toNatClampNeg n.toNatClampNeg) = F at f1 f2 f5 f6 X1 step
  have e1 := hR.2.2.1.1
  have eH := hR.1
  have ead : ∀ x, x ≤ am_top → am_ad G x = G.2.2.1 + x := fun x hx => if_pos hx
  generalize n.toNatClampNeg = N at *
  generalize k.toNatClampNeg = M at *
  have et : am_n h + N < 1000000 := htop
  have REL : am_Rel G (am_mul h N M) F.heap := by
    refine ⟨?_, ?_, ⟨?_, fun x hx j hj => ?_⟩, fun x hx => ?_, fun x hx => ?_⟩
    · show F.heap.size = G.2.2.1 + (am_n h + 1 + N)
      omega
    · show am_n h + 1 + N ≤ 1000000
      omega
    · show 1 ≤ am_n h + 1 + N
      omega
    · rw [am_mul_k] at hx hj
      by_cases c1 : x = am_n h
      · rw [if_pos c1] at hx; cases hx
      · rw [if_neg c1] at hx hj
        by_cases c2 : am_n h < x ∧ x ≤ am_n h + N
        · rw [if_pos c2] at hx; cases hx
        · rw [if_neg c2] at hx hj
          rw [am_mul_i, if_neg (by omega)]
          exact hR.2.2.1.2 x hx j hj
    · have hx : x = 0 ∨ am_n h + 1 + N ≤ x := hx
      rw [am_mul_k, if_neg (by omega), if_neg (by omega)]
      exact hR.2.2.2.1 x (by omega)
    · by_cases c1 : x = am_n h
      · subst c1
        rw [am_cell7 (h := am_mul h N M) (n := N) (by rw [am_mul_k, if_pos rfl])]
        show F.heap[am_ad G (am_n h)]? = some (vp_cell _ _)
        rw [ead _ (by show am_n h ≤ 1000000; omega), ← eH, f2]
        congr 1
        rw [vp_cell_q]
        unfold arrV
        congr 1
        congr 1
        funext j
        have hj := j.isLt
        have er : am_r (am_mul h N M) (am_n h) j.val = am_n h + 1 + j.val := by
          show (if am_n h = am_n h then (fun j => if j < N then am_n h + 1 + j else 0) else _) j.val = _
          rw [if_pos rfl, if_pos hj]
        show (if j.val < N then Value.ref (H.size + 1 + j.val) else .null) = va_rf _
        rw [if_pos hj, er, if_neg (by omega), ead _ (by show am_n h + 1 + j.val ≤ 1000000; omega)]
        show Value.ref (H.size + 1 + j.val) = Value.ref (G.2.2.1 + (am_n h + 1 + j.val))
        rw [show H.size + 1 + j.val = G.2.2.1 + (am_n h + 1 + j.val) by omega]
      · by_cases c2 : am_n h < x ∧ x ≤ am_n h + N
        · have ek : am_k (am_mul h N M) x = (2, M) := by rw [am_mul_k, if_neg c1, if_pos c2]
          rw [am_cell2 ek, am_mul_i, if_pos (by omega)]
          show F.heap[am_ad G x]? = some (vp_cell _ _)
          rw [ead _ (by show x ≤ 1000000; omega), show G.2.2.1 + x = H.size + 1 + (x - am_n h - 1) by omega, f6 (x - am_n h - 1) (by omega)]
          rfl
        · rw [am_mul_k, if_neg c1, if_neg c2] at hx
          have hlt : x < am_n h := Nat.not_le.mp fun q => hx (hR.2.2.2.1 x (Or.inr q))
          rw [am_mul_o (Or.inl hlt)]
          exact (hR.2.2.2.2 x hx).kept (f5 _ (hR.2.2.2.2 x hx).lt)
  obtain ⟨t, a1, b1⟩ := kk F.heap REL ⟨by have := hS.1; omega, fun q g1 g2 => (f5 q (Nat.lt_of_lt_of_le g1 hS.1)).trans (hS.2.1 q g1 g2), hS.2.2⟩ F rfl X1
  refine ⟨t, step t ?_, b1⟩
  rw [hT]
  exact a1
end
section
variable {G : am_G} {xs : am_X} {own kind : Nat} {cc : ByteArray} {ret : Option FieldType} {p : Program} {l : Launch} {e : Env} {R : Room} {s : State} {m : MethodId} {args : Array Value} {below : List Frame} {meth : Method} {c : Code} {Q : State → Prop} {n0 s0 N1 C1 : Nat} {pc nx : Nat} {op : Instr} {L S L' S' : List Value} {h : am_H} {cal : am_Cal} {hdl : Nat → Nat → Option (Nat × Nat)} {Qq : am_Q}
def am_newo (op : Instr) : Bool := match op with
  | .fastore | .dneg | .drem | .lushr => true
  | _ => false
def am_caw (k : Nat) : String := match k with
  | 2 => "[I"
  | 3 => "[B"
  | _ => "[[I"
theorem am_ca_ok : ∀ q ∈ am_ca_, Cond.classLink (am_cn q.1) q.2.1 (am_caw q.2.2) ∈ lw_tbl := by decide +kernel
theorem am_kl_ok : ∀ q ∈ am_kl_, Cond.methodLink (am_cn q.1) q.2.1 ⟨am_caw q.2.2, "clone", "()Ljava/lang/Object;"⟩ ∈ lw_tbl := by decide +kernel
set_option maxHeartbeats 4000000 in
theorem am_newoW (E : am_Env G xs own kind cc p R s m args meth c) (r1 : N1 - n0 ≤ R.cells) (r2 : C1 - s0 ≤ R.slots) (hop : am_newo op = true) (ok : am_okb own kind cc ret pc op nx = true) (HS : am_out (am_PP G p l e R s m args below meth c Q n0 s0 N1 C1) cal hdl Qq pc nx L h (am_stp xs op nx S h)) : am_PP G p l e R s m args below meth c Q n0 s0 N1 C1 pc L S h := by
  obtain ⟨hx, hb, hown, hts, hsf, hki, hr1, hr2⟩ := E
  have hK := hsf.1
  have hST := hsf.2.2.2.2.2.2.2.2.2.2.1
  have hNw := hsf.2.2.2.2.2.2.2.2.2.1
  cases op <;> first | (exfalso; simp only [am_newo] at hop; cases hop; done) | skip
  case fastore =>
    simp only [am_stp] at HS
    split at HS
    rotate_left
    · exact HS.elim
    rename_i n dp a sp b S0
    cases hsh : am_sh S0 with
    | false => rw [hsh] at HS; exact HS.elim
    | true =>
    rw [hsh] at HS
    obtain ⟨⟨⟨ka, kb⟩, ⟨k1, k2, k3⟩, k4, k5⟩, HS⟩ := (show (((am_k h a).1 = 3 ∧ (am_k2 h b).1 = 3) ∧ (¬ sp < 0 ∧ ¬ dp < 0 ∧ ¬ n < 0) ∧ sp.toNatClampNeg + n.toNatClampNeg ≤ (am_k2 h b).2 ∧ dp.toNatClampNeg + n.toNatClampNeg ≤ (am_k h a).2) ∧ am_PP G p l e R s m args below meth c Q n0 s0 N1 C1 nx L S0 (am_cp2 h b sp.toNatClampNeg a dp.toNatClampNeg n.toNatClampNeg) from HS)
    simp only [am_okb] at ok
    split at ok
    rotate_left
    · cases ok
    rename_i i9 hd
    simp only [Bool.and_eq_true, beq_iff_eq, List.contains_iff_mem] at ok
    obtain ⟨ok, rfl⟩ := ok
    refine ⟨HS.1, HS.2.1, fun q1 q2 q3 H locs ls hR hS hl => ?_⟩
    have hka : am_k h a = (3, (am_k h a).2) := Prod.ext ka rfl
    have hkb : am_k2 h b = (3, (am_k2 h b).2) := Prod.ext kb rfl
    have hrest : ((S0.map (am_v G)).map fun v => v.category).sum ≤ 8 := am_sh_sum hsh
    rw [List.map_cons, List.map_cons, List.map_cons, List.map_cons, List.map_cons, am_v1 G (am_nz hR (am_k0 hka))]
    refine am_copybW hx hb (q3.symm.trans hl.1.symm) hown (am_w hts (am_al_ok _ ok) rfl) (am_w hts (by decide +kernel) rfl) (am_w hts (by decide +kernel) rfl) (am_w hts (by decide +kernel) rfl) hK hR hS hST hka hkb k1 k2 k3 k4 k5 (by omega) (Nat.le_trans (Nat.add_le_add_right hrest _) (Nat.le_trans (by decide) hr2)) (am_dec_of hd) fun H1 locs1 hR1 hS1 => ?_
    exact HS.2.2 q1 q2 q3 H1 locs1 ls hR1 hS1 hl
  case dneg =>
    simp only [am_stp] at HS
    split at HS
    rotate_left
    · exact HS.elim
    rename_i a S0
    cases hsh : am_sh S0 with
    | false => rw [hsh] at HS; exact HS.elim
    | true =>
    rw [hsh] at HS
    obtain ⟨⟨ka, kt⟩, HS⟩ := (show ((am_k h a).1 = 2 ∧ am_n h < am_top) ∧ am_PP G p l e R s m args below meth c Q n0 s0 N1 C1 nx L (.ref (am_n h) :: S0) (am_clo h a) from HS)
    simp only [am_okb] at ok
    split at ok
    rotate_left
    · cases ok
    rename_i i9 j9 hd hd2
    simp only [Bool.and_eq_true, beq_iff_eq, List.contains_iff_mem] at ok
    obtain ⟨⟨ok, ok2⟩, rfl⟩ := ok
    have hka : am_k h a = (2, (am_k h a).2) := Prod.ext ka rfl
    have hrest : ((S0.map (am_v G)).map fun v => v.category).sum ≤ 8 := am_sh_sum hsh
    have u1 := HS.1
    have u2 := HS.2.1
    have e1 : am_n (am_clo h a) = am_n h + 1 := rfl
    have e2 : am_cs (am_clo h a) = am_cs h + (am_k h a).2 := rfl
    rw [e1] at u1
    rw [e2] at u2
    refine ⟨by omega, by omega, fun q1 q2 q3 H locs ls hR hS hl => ?_⟩
    have hnm : s.vm.findClass "[I" = some (G.2.1 2) := (hK.2 0 _ rfl).2
    have hl2 : (Cond.classLink (am_cn own) j9 "[I").before args s = true := am_w hts (am_ca_ok _ ok2) rfl
    rw [List.map_cons, am_v1 G (am_nz hR (am_k0 hka))]
    refine am_cloneW (ad := "[I") (ty := .int) (t := 2) (t0 := 0) hx hb (q3.symm.trans hl.1.symm) hown (am_w hts (am_kl_ok _ ok) rfl) (am_w hts (by decide +kernel) rfl) (am_w hts (by decide +kernel) rfl) (am_w hts (by decide +kernel) rfl) (am_w hts (by decide +kernel) rfl) (hNw _ (by decide +kernel) rfl) hK hR hS (Or.inl rfl) hka rfl kt hnm (fun j _ => rfl) (by omega) (by omega) (by omega) (by omega) (am_dec_of hd) fun H1 hR1 hS1 hc1 => ?_
    have hP1 : va_P G.1 am_cl [(H.size, .inl (G.2.1 2, (am_k h a).2, .inl (am_i h a)))] H1 := by
      intro k q hq
      have hz : k < 1 := (List.getElem?_eq_some_iff.mp hq).1
      rw [show k = 0 by omega] at hq
      cases hq
      exact hc1
    refine va_castA (D := G.1) (cl := am_cl) hx hb hown hl2 hP1 0 rfl hnm (am_dec_of hd2) ?_
    obtain ⟨v1, v2⟩ := am_vn hR kt
    have K := HS.2.2 (by rw [e1]; omega) (by rw [e2]; omega) q3 H1 locs ls hR1 hS1 hl
    rw [List.map_cons, v1, e1, e2, show am_n h + 1 - n0 = am_n h - n0 + 1 by omega, show am_cs h + (am_k h a).2 - s0 = am_cs h - s0 + (am_k h a).2 by omega] at K
    exact K
  case drem =>
    simp only [am_stp] at HS
    split at HS
    rotate_left
    · exact HS.elim
    rename_i a S0
    cases hsh : am_sh S0 with
    | false => rw [hsh] at HS; exact HS.elim
    | true =>
    rw [hsh] at HS
    obtain ⟨⟨ka, kt, kf⟩, HS⟩ := (show ((am_k h a).1 = 3 ∧ am_n h < am_top ∧ ∀ j, j < (am_k h a).2 → fits .byte (.int (am_i h a j)) = true) ∧ am_PP G p l e R s m args below meth c Q n0 s0 N1 C1 nx L (.ref (am_n h) :: S0) (am_clo h a) from HS)
    simp only [am_okb] at ok
    split at ok
    rotate_left
    · cases ok
    rename_i i9 j9 hd hd2
    simp only [Bool.and_eq_true, beq_iff_eq, List.contains_iff_mem] at ok
    obtain ⟨⟨ok, ok2⟩, rfl⟩ := ok
    have hka : am_k h a = (3, (am_k h a).2) := Prod.ext ka rfl
    have hrest : ((S0.map (am_v G)).map fun v => v.category).sum ≤ 8 := am_sh_sum hsh
    have u1 := HS.1
    have u2 := HS.2.1
    have e1 : am_n (am_clo h a) = am_n h + 1 := rfl
    have e2 : am_cs (am_clo h a) = am_cs h + (am_k h a).2 := rfl
    rw [e1] at u1
    rw [e2] at u2
    refine ⟨by omega, by omega, fun q1 q2 q3 H locs ls hR hS hl => ?_⟩
    have hnm : s.vm.findClass "[B" = some (G.2.1 3) := (hK.2 1 _ rfl).2
    have hl2 : (Cond.classLink (am_cn own) j9 "[B").before args s = true := am_w hts (am_ca_ok _ ok2) rfl
    rw [List.map_cons, am_v1 G (am_nz hR (am_k0 hka))]
    refine am_cloneW (ad := "[B") (ty := .byte) (t := 3) (t0 := 1) hx hb (q3.symm.trans hl.1.symm) hown (am_w hts (am_kl_ok _ ok) rfl) (am_w hts (by decide +kernel) rfl) (am_w hts (by decide +kernel) rfl) (am_w hts (by decide +kernel) rfl) (am_w hts (by decide +kernel) rfl) (hNw _ (by decide +kernel) rfl) hK hR hS (Or.inr rfl) hka rfl kt hnm kf (by omega) (by omega) (by omega) (by omega) (am_dec_of hd) fun H1 hR1 hS1 hc1 => ?_
    have hP1 : va_P G.1 am_cl [(H.size, .inl (G.2.1 3, (am_k h a).2, .inl (am_i h a)))] H1 := by
      intro k q hq
      have hz : k < 1 := (List.getElem?_eq_some_iff.mp hq).1
      rw [show k = 0 by omega] at hq
      cases hq
      exact hc1
    refine va_castA (D := G.1) (cl := am_cl) hx hb hown hl2 hP1 0 rfl hnm (am_dec_of hd2) ?_
    obtain ⟨v1, v2⟩ := am_vn hR kt
    have K := HS.2.2 (by rw [e1]; omega) (by rw [e2]; omega) q3 H1 locs ls hR1 hS1 hl
    rw [List.map_cons, v1, e1, e2, show am_n h + 1 - n0 = am_n h - n0 + 1 by omega, show am_cs h + (am_k h a).2 - s0 = am_cs h - s0 + (am_k h a).2 by omega] at K
    exact K
  case lushr =>
    simp only [am_stp] at HS
    split at HS
    rotate_left
    · exact HS.elim
    rename_i k n S0
    obtain ⟨⟨⟨k1, k2, k3, k4⟩, kt⟩, HS⟩ := (show ((¬ n < 0 ∧ ¬ k < 0 ∧ n.toNatClampNeg ≤ 1000 ∧ k.toNatClampNeg ≤ 1000) ∧ am_n h + n.toNatClampNeg < am_top) ∧ am_PP G p l e R s m args below meth c Q n0 s0 N1 C1 nx L (.ref (am_n h) :: S0) (am_mul h n.toNatClampNeg k.toNatClampNeg) from HS)
    simp only [am_okb] at ok
    split at ok
    rotate_left
    · cases ok
    rename_i i9 hd
    simp only [Bool.and_eq_true, beq_iff_eq, List.contains_iff_mem] at ok
    obtain ⟨ok, rfl⟩ := ok
    have u1 := HS.1
    have u2 := HS.2.1
    have e1 : am_n (am_mul h n.toNatClampNeg k.toNatClampNeg) = am_n h + 1 + n.toNatClampNeg := rfl
    have e2 : am_cs (am_mul h n.toNatClampNeg k.toNatClampNeg) = am_cs h + n.toNatClampNeg + n.toNatClampNeg * k.toNatClampNeg := rfl
    rw [e1] at u1
    rw [e2] at u2
    refine ⟨by omega, by omega, fun q1 q2 q3 H locs ls hR hS hl => ?_⟩
    have hl2 : (Cond.classLink (am_cn own) i9 "[[I").before args s = true := am_w hts (am_ca_ok _ ok) rfl
    refine am_mulW hx hb hown hl2 hsf.2.2.2.2.2.2.1.2 (am_w hts (by decide +kernel) rfl) hK hR hS k1 k2 k3 k4 kt (by omega) (by omega) (am_dec_of hd) fun H1 hR1 hS1 => ?_
    obtain ⟨v1, v2⟩ := am_vn hR (show am_n h < am_top by omega)
    have K := HS.2.2 (by rw [e1]; omega) (by rw [e2]; omega) q3 H1 locs ls hR1 hS1 hl
    rw [List.map_cons, v1, e1, e2, show am_n h + 1 + n.toNatClampNeg - n0 = am_n h - n0 + 1 + n.toNatClampNeg by omega, show am_cs h + n.toNatClampNeg + n.toNatClampNeg * k.toNatClampNeg - s0 = am_cs h - s0 + n.toNatClampNeg + n.toNatClampNeg * k.toNatClampNeg by omega] at K
    exact K
end

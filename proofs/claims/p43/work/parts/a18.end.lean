/-! THE TIE, 3: the ends of a method -/
def am_Qc (G : am_G) (r : am_R) (h' : am_H) : Array Value → State → Outcome → State → Prop := fun _ st o t => ∃ ov : Option Value, r = .inl ov ∧ o = .returned (ov.map (am_v G)) ∧ am_Rel G h' t.heap ∧ va_F (am_A G) st t
def am_XC (G : am_G) (r : am_R) (h' : am_H) : String → State → State → Prop := fun E st t => ∃ k : Nat, r = .inr k ∧ am_ex k = E ∧ (1 ≤ k ∧ k ≤ 3) ∧ am_Rel G h' t.heap ∧ va_F (am_A G) st t
section
variable {G : am_G} {xs : am_X} {own kind : Nat} {cc : ByteArray} {ret : Option FieldType} {p : Program} {l : Launch} {e : Env} {R : Room} {s : State} {m : MethodId} {args : Array Value} {below : List Frame} {meth : Method} {c : Code} {n0 s0 : Nat} {pc nx : Nat} {op : Instr} {L S : List Value} {h h0 : am_H} {r : am_R} {rec : am_K} {cal : am_Cal} {hdl : Nat → Nat → Option (Nat × Nat)}
def am_ends (op : Instr) : Bool := match op with
  | .ireturn | .areturn | .f2i | .dreturn | .lreturn | .freturn | .return_ | .jsr _ => true
  | _ => false
theorem am_Rel.thr {H H1 : Heap} (R : am_Rel G h H) (ht : am_n h < am_top) (hz : H1.size = H.size + 1) (oq : ∀ q : Nat, q < H.size → H1[q]? = H[q]?) : am_Rel G (am_thr h) H1 := by
  refine R.nw (h' := am_thr h) ht rfl (fun _ _ => rfl) hz oq (fun z => ?_) (fun _ _ => rfl) (fun z => ?_)
  · exact absurd (R.2.2.2.1 (am_n h) (Or.inr (Nat.le_refl _))) z
  · exact absurd ((R.2.2.2.1 (am_n h) (Or.inr (Nat.le_refl _))).symm.trans z) (by decide)
theorem am_c16 (x : Int32) (hx : 0 ≤ x ∧ x < 65536) : narrow .char (.int x) = .int x := by
  have e0 : (0 : Int32).toInt = 0 := by decide
  obtain ⟨k, hk, rfl⟩ : ∃ k, k < 65536 ∧ x = nI k := by
    have h1 := hx.1
    have h2 := hx.2
    rw [fa_le, e0] at h1
    rw [fa_lt, show (65536 : Int32).toInt = 65536 from by decide] at h2
    exact ⟨x.toInt.toNat, by omega, by rw [fa_eq, nI_toInt (by omega)]; omega⟩
  show Value.int _ = Value.int _
  congr 1
  apply Int32.toBitVec_inj.mp
  apply BitVec.eq_of_toNat_eq
  have e1 : (nI k).toBitVec.toNat = k := by
    show (BitVec.ofNat 32 k).toNat = k
    rw [BitVec.toNat_ofNat]
    omega
  simp [e1]
  omega
set_option maxHeartbeats 4000000 in
theorem am_endW (E : am_Env G xs own kind cc p R s m args meth c) (hop : am_ends op = true) (ok : am_okb own kind cc ret pc op nx = true) (hret : meth.sig.returnType = ret) (hlocks : meth.locks = false) (hst : l.stackTraces = false) (hex : own ≠ 9 → ∀ x ∈ c.exceptionTable.toList, False) (r1 : am_n h0 - n0 ≤ R.cells) (r2 : am_cs h0 - s0 ≤ R.slots)
    (HS : am_out rec cal hdl (fun r2 h2 => r2 = r ∧ h2 = h0) pc nx L h (am_stp xs op nx S h)) : am_PP G p l e R s m args below meth c (vx_MQ below (am_Qc G r h0) (am_XC G r h0) args s (am_n h0 - n0) (am_cs h0 - s0) (am_A G)) n0 s0 (am_n h0) (am_cs h0) pc L S h := by
  have E0 := E
  obtain ⟨hx, hb, hown, hts, hsf, hki, hr1, hr2⟩ := E
  cases op <;> first | (exfalso; simp only [am_ends] at hop; cases hop; done) | skip
  case ireturn =>
    simp only [am_stp] at HS
    split at HS
    rotate_left
    · exact HS.elim
    rename_i x
    obtain ⟨hc, rfl, rfl⟩ := (show True ∧ (.inl (some (.int x)) : am_R) = r ∧ h = h0 from HS)
    simp only [am_okb, Bool.and_eq_true, decide_eq_true_eq] at ok
    obtain ⟨hd, rfl⟩ := ok
    refine ⟨Nat.le_refl _, Nat.le_refl _, fun q1 q2 q3 H locs ls hR hS hl => vx_ret (W.iret hx hb hret (fun t ht hW => ⟨_, rfl, rfl, by rw [ht]; exact hR, hS.F ht⟩) hS.2.2 (am_dec_of hd) hlocks)⟩
  case areturn =>
    simp only [am_stp] at HS
    split at HS
    rotate_left
    · exact HS.elim
    rename_i x
    obtain ⟨hc, rfl, rfl⟩ := (show (x = 0 ∨ x = 1) ∧ (.inl (some (.int x)) : am_R) = r ∧ h = h0 from HS)
    simp only [am_okb, Bool.and_eq_true, decide_eq_true_eq] at ok
    simp only [Bool.or_eq_true, decide_eq_true_eq] at ok
    obtain ⟨hd, hrr⟩ := ok
    refine ⟨Nat.le_refl _, Nat.le_refl _, fun q1 q2 q3 H locs ls hR hS hl => vx_ret (W.zret (ty := (ret.getD .boolean)) hx hb (by rw [hret]; rcases hrr with z | z <;> rw [z] <;> rfl) (by rcases hrr with z | z <;> rw [z] <;> first | exact (am_i8 x hc).1 | exact (am_i8b x hc).1) (fun t ht hW => ⟨_, rfl, rfl, by rw [ht]; exact hR, hS.F ht⟩) hS.2.2 (am_dec_of hd) hlocks)⟩
  case f2i =>
    simp only [am_stp] at HS
    split at HS
    rotate_left
    · exact HS.elim
    rename_i x
    obtain ⟨hc, rfl, rfl⟩ := (show (0 ≤ x ∧ x < 65536) ∧ (.inl (some (.int x)) : am_R) = r ∧ h = h0 from HS)
    simp only [am_okb, Bool.and_eq_true, decide_eq_true_eq] at ok
    obtain ⟨hd, rfl⟩ := ok
    refine ⟨Nat.le_refl _, Nat.le_refl _, fun q1 q2 q3 H locs ls hR hS hl => vx_ret (W.zret hx hb hret (am_c16 x hc) (fun t ht hW => ⟨_, rfl, rfl, by rw [ht]; exact hR, hS.F ht⟩) hS.2.2 (am_dec_of hd) hlocks)⟩
  case lreturn =>
    simp only [am_stp] at HS
    split at HS
    rotate_left
    · exact HS.elim
    rename_i x
    obtain ⟨hc, rfl, rfl⟩ := (show True ∧ (.inl (some (.long x)) : am_R) = r ∧ h = h0 from HS)
    simp only [am_okb, Bool.and_eq_true, decide_eq_true_eq] at ok
    obtain ⟨hd, rfl⟩ := ok
    refine ⟨Nat.le_refl _, Nat.le_refl _, fun q1 q2 q3 H locs ls hR hS hl => vx_ret (W.lret hx hb hret (fun t ht hW => ⟨_, rfl, rfl, by rw [ht]; exact hR, hS.F ht⟩) hS.2.2 (am_dec_of hd) hlocks)⟩
  case freturn =>
    simp only [am_stp] at HS
    split at HS
    rotate_left
    · exact HS.elim
    rename_i x
    obtain ⟨hc, rfl, rfl⟩ := (show True ∧ (.inl (some (.float x)) : am_R) = r ∧ h = h0 from HS)
    simp only [am_okb, Bool.and_eq_true, decide_eq_true_eq] at ok
    obtain ⟨hd, rfl⟩ := ok
    refine ⟨Nat.le_refl _, Nat.le_refl _, fun q1 q2 q3 H locs ls hR hS hl => vx_ret (W.fret hx hb hret (fun t ht hW => ⟨_, rfl, rfl, by rw [ht]; exact hR, hS.F ht⟩) hS.2.2 (am_dec_of hd) hlocks)⟩
  case return_ =>
    simp only [am_stp] at HS
    split at HS
    rotate_left
    · exact HS.elim
    obtain ⟨hc, rfl, rfl⟩ := (show True ∧ (.inl (none) : am_R) = r ∧ h = h0 from HS)
    simp only [am_okb, Bool.and_eq_true, decide_eq_true_eq] at ok
    obtain ⟨hd, rfl⟩ := ok
    refine ⟨Nat.le_refl _, Nat.le_refl _, fun q1 q2 q3 H locs ls hR hS hl => vx_ret (W.vret hx hb hret (fun t ht hW => ⟨_, rfl, rfl, by rw [ht]; exact hR, hS.F ht⟩) hS.2.2 (am_dec_of hd) hlocks)⟩
  case dreturn =>
    simp only [am_stp] at HS
    split at HS
    rotate_left
    · exact HS.elim
    rename_i x
    obtain ⟨hc, rfl, rfl⟩ := (show True ∧ (.inl (some (.ref x)) : am_R) = r ∧ h = h0 from HS)
    simp only [am_okb, Bool.and_eq_true, decide_eq_true_eq] at ok
    obtain ⟨hd, hrr⟩ := ok
    obtain ⟨rt, hrt, hr2⟩ : ∃ rt, ret = some rt ∧ ((∃ n, rt = .object n) ∨ ∃ t, rt = .array t) := by
      split at hrr
      · exact ⟨_, rfl, Or.inr ⟨_, rfl⟩⟩
      · exact ⟨_, rfl, Or.inl ⟨_, rfl⟩⟩
      · cases hrr
    refine ⟨Nat.le_refl _, Nat.le_refl _, fun q1 q2 q3 H locs ls hR hS hl => vx_ret (W.aret (v := am_v G (.ref x)) hx hb (hret.trans hrt) hr2 (by by_cases z : x = 0; exact Or.inl (by rw [z]; rfl); exact Or.inr ⟨_, am_v1 G z⟩) (fun t ht hW => ⟨_, rfl, rfl, by rw [ht]; exact hR, hS.F ht⟩) hS.2.2 (am_dec_of hd) hlocks)⟩
  case jsr k9 =>
    simp only [am_stp] at HS
    cases hsh : am_sh S with
    | false => rw [hsh] at HS; exact HS.elim
    | true =>
    rw [hsh] at HS
    obtain ⟨ht, rfl, rfl⟩ := (show am_n h < am_top ∧ (.inr k9.toNat : am_R) = r ∧ am_thr h = h0 from HS)
    have e1 : am_n (am_thr h) = am_n h + 1 := rfl
    have e2 : am_cs (am_thr h) = am_cs h + 6 := rfl
    refine ⟨by omega, by omega, fun q1 q2 q3 H locs ls hR hS hl => ?_⟩
    have hrest : ((S.map (am_v G)).map fun v => v.category).sum ≤ 8 := am_sh_sum hsh
    have X : ∀ q ∈ am_xl_, q.1 = own → ((q.2.2.2.2.1 : Nat) : Int) = k9 → (∃ sa, vk_R "MultiwayCut" q.2.2.1 q.2.2.2.2.2 sa s) ∧ am_ex k9.toNat = am_ex q.2.2.2.2.1 ∧ s.vm.findClass "MultiwayCut" = some m.cls ∧ (Cond.classLink "MultiwayCut" q.2.1 (am_ex q.2.2.2.2.1)).before args s = true ∧ (Cond.initialized (am_ex q.2.2.2.2.1)).before args s = true ∧ (∀ w ∈ vx_atS "MultiwayCut" q.2.2.2.1 (am_ex q.2.2.2.2.1) am_sup, w.before args s = true) ∧ (∀ w ∈ Cond.classLink "MultiwayCut" q.2.1 (am_ex q.2.2.2.2.1) :: Cond.initialized (am_ex q.2.2.2.2.1) :: vx_atS "MultiwayCut" q.2.2.2.1 (am_ex q.2.2.2.2.1) am_sup, vx_ot w = true) ∧ Bundle.fit (am_ex q.2.2.2.2.1) = true ∧ own ≠ 9 ∧ (1 ≤ k9.toNat ∧ k9.toNat ≤ 3) := by
      intro q hq ho hk
      obtain ⟨z1, z2, z3, z4⟩ := am_xl_1 q hq
      have hown2 := hown
      rw [← ho, z1] at hown2
      obtain ⟨sa, hsa⟩ := hsf.2.2.1 q hq
      rw [z1] at hsa z2
      have key : ∀ (ic E9 : Nat), (vx_atS "MultiwayCut" ic (am_ex E9) am_sup).all (fun w => (decide (w ∈ lw_tbl) && (goodWord w || am_nwb w)) && vx_ot w) = true → ∀ w ∈ vx_atS "MultiwayCut" ic (am_ex E9) am_sup, w.before args s = true ∧ vx_ot w = true := by
        intro ic E9 hall w hw
        have := List.all_eq_true.mp hall w hw
        simp only [Bool.and_eq_true, decide_eq_true_eq, Bool.or_eq_true] at this
        obtain ⟨⟨y1, y2⟩, y3⟩ := this
        refine ⟨?_, y3⟩
        rcases y2 with y2 | y2
        · exact am_w hts y1 y2
        · exact am_nw_use y2 (hsf.2.2.2.2.2.2.2.2.2.1 w y1 y2)
      have key2 : ∀ w ∈ vx_atS "MultiwayCut" q.2.2.2.1 (am_ex q.2.2.2.2.1) am_sup, w.before args s = true ∧ vx_ot w = true := by
        rcases z4 with z | z | z
        · have a1 := (Prod.mk.inj z).1; have a2 := (Prod.mk.inj z).2
          rw [a1, a2]; exact key _ _ am_xs_1
        · have a1 := (Prod.mk.inj z).1; have a2 := (Prod.mk.inj z).2
          rw [a1, a2]; exact key _ _ am_xs_3
        · have a1 := (Prod.mk.inj z).1; have a2 := (Prod.mk.inj z).2
          rw [a1, a2]; exact key _ _ am_xs_2
      refine ⟨⟨sa, hsa⟩, by rw [← hk]; rfl, hown2, am_w hts z2 rfl, am_w hts z3 rfl, fun w hw => (key2 w hw).1, fun w hw => ?_, ?_, ?_, ?_⟩
      · rcases List.mem_cons.mp hw with rfl | hw
        · rfl
        · rcases List.mem_cons.mp hw with rfl | hw
          · rfl
          · exact (key2 w hw).2
      · rcases z4 with z | z | z <;> (have a2 := (Prod.mk.inj z).2; rw [a2]; decide +kernel)
      · intro e9
        rw [← ho] at e9
        rw [e9] at z1
        exact absurd z1 (by decide +kernel)
      · rcases z4 with z | z | z <;> (have a2 := (Prod.mk.inj z).2; omega)
    have hUN := hsf.2.2.2.2.2.2.2.1
    have hSN := hsf.2.2.2.2.2.2.2.2.1
    have post : ∀ (_ : 1 ≤ k9.toNat ∧ k9.toNat ≤ 3) (t : State) (q9 : Nat), s.vm.Alike t.vm → t.heap.size = H.size + 1 → (∀ q : Nat, q < H.size → t.heap[q]? = H[q]?) → am_XC G (.inr k9.toNat) (am_thr h) (am_ex k9.toNat) s t := fun hk3 t _ _ hz oq =>
      ⟨_, rfl, rfl, hk3, hR.thr ht hz oq, ⟨by have := hS.1; omega, fun q z1 z2 => (oq q (Nat.lt_of_lt_of_le z1 hS.1)).trans (hS.2.1 q z1 z2)⟩⟩
    simp only [am_okb] at ok
    split at ok
    · rename_i ik is h1 h2 h3
      split at ok
      rotate_left
      · cases ok
      rename_i ic h4 h5
      simp only [List.any_eq_true, Bool.and_eq_true, decide_eq_true_eq] at ok
      obtain ⟨q, hq, ⟨⟨⟨o1, o2⟩, o3⟩, o4⟩, o5⟩ := ok
      obtain ⟨⟨sa, hsa⟩, g1, g2, g3, g4, g5, g6, g7, g8, g9⟩ := X q hq o1 o5
      rw [o2] at g3 g6
      rw [o3] at hsa
      rw [o4] at g5 g6
      rw [← g1] at g3 g4 g5 g6 g7
      exact am_throwS hx hb hst g2 g7 (by decide +kernel) g3 g4 hsa g5 g6 hUN hSN hS (hl.1.trans q3) (am_dec_of h1) (am_dec_of h2) (am_dec_of h3) (am_dec_of h4) (am_dec_of h5) (fun x hx9 => (hex g8 x hx9).elim) (by show 2 + 3 < R.frames; omega) (by show _ + (13 * (2 + 1) + 43) ≤ R.locals; omega) (by omega) (by omega) hlocks (fun t a b d => post g9 t 0 a b d) hS.2.2 (by omega) (by omega)
    · rename_i ik is h1 h2 h3
      split at ok
      rotate_left
      · cases ok
      rename_i ic h4 h5
      simp only [List.any_eq_true, Bool.and_eq_true, decide_eq_true_eq] at ok
      obtain ⟨q, hq, ⟨⟨⟨o1, o2⟩, o3⟩, o4⟩, o5⟩ := ok
      obtain ⟨⟨sa, hsa⟩, g1, g2, g3, g4, g5, g6, g7, g8, g9⟩ := X q hq o1 o5
      rw [o2] at g3 g6
      rw [o3] at hsa
      rw [o4] at g5 g6
      rw [← g1] at g3 g4 g5 g6 g7
      exact am_throwSW hx hb hst g2 g7 (by decide +kernel) g3 g4 hsa g5 g6 hUN hSN hS (hl.1.trans q3) (am_dec_of h1) (am_dec_of h2) (am_dec_of h3) (am_dec_of h4) (am_dec_of h5) (fun x hx9 => (hex g8 x hx9).elim) (by show 2 + 3 < R.frames; omega) (by show _ + (13 * (2 + 1) + 43) ≤ R.locals; omega) (by omega) (by omega) hlocks (fun t a b d => post g9 t 0 a b d) hS.2.2 (by omega) (by omega)
    · cases ok
end

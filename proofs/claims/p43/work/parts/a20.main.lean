/-! THE TIE, 5: a method's code from any point; the tie by depth -/
theorem am_find_mem : ∀ {l : List (Nat × Instr × Nat)} {pc : Nat} {x : Instr × Nat}, am_find l pc = some x → (pc, x) ∈ l
  | [], pc, x, h => by cases h
  | (q, y) :: l, pc, x, h => by
    unfold am_find at h
    cases e : Nat.beq q pc with
    | true =>
      rw [e] at h
      have : q = pc := Nat.eq_of_beq_eq_true e
      subst this
      cases h
      exact List.mem_cons_self
    | false =>
      rw [e] at h
      exact List.mem_cons_of_mem _ (am_find_mem h)
theorem am_code_mem {t : am_T} {pc : Nat} {x : Instr × Nat} (h : am_code t pc = some x) : ∃ l ∈ t, (pc, x) ∈ l := by
  unfold am_code at h
  cases e : t[pc / 16]? with
  | none => rw [e] at h; cases h
  | some l => rw [e] at h; exact ⟨l, List.mem_of_getElem? e, am_find_mem h⟩
theorem am_okb_of {i : am_I} {t : am_T} (ok : am_okt i t = true) {pc : Nat} {op : Instr} {nx : Nat} (h : am_code t pc = some (op, nx)) : am_okb i.2.1 i.2.2.2.2.2.2 i.2.2.1 i.2.2.2.2.1 pc op nx = true := by
  obtain ⟨l, hl, hx⟩ := am_code_mem h
  exact List.all_eq_true.mp (List.all_eq_true.mp ok l hl) _ hx
set_option maxHeartbeats 4000000 in
theorem am_kinds {own kind : Nat} {cc : ByteArray} {ret : Option FieldType} {pc nx : Nat} {op : Instr} {L S : List Value} (ok : am_okb own kind cc ret pc op nx = true) (h : am_lop op L S = none) : am_pure op = true ∨ am_memo op = true ∨ am_allo op = true ∨ am_stro op = true ∨ am_ends op = true ∨ am_calls op = true ∨ am_newo op = true := by
  cases op <;> first
    | exact Or.inl rfl
    | exact Or.inr (Or.inl rfl)
    | exact Or.inr (Or.inr (Or.inl rfl))
    | exact Or.inr (Or.inr (Or.inr (Or.inl rfl)))
    | exact Or.inr (Or.inr (Or.inr (Or.inr (Or.inl rfl))))
    | exact Or.inr (Or.inr (Or.inr (Or.inr (Or.inr (Or.inl rfl)))))
    | exact Or.inr (Or.inr (Or.inr (Or.inr (Or.inr (Or.inr rfl)))))
    | (exfalso; unfold am_okb at ok; cases ok; done)
    | (exfalso; unfold am_lop at h; cases h; done)
theorem am_lh.storeJ {G : am_G} {ls' : Array Slot} {L : List Value} {i : Nat} {x : Value} (h2 : lv_has ls' L.length ((i, x) :: (am_as G L).filter (fun q => !(q.1 == i) && !(q.1 + 1 == i && q.2.category == 2)))) : am_lh G ls' (am_set L i am_J) := by
  refine ⟨h2.1.trans (am_set_len L i am_J).symm, h2.2.1, fun j w hj hw => ?_⟩
  rcases am_set_get hj hw with ⟨rfl, rfl⟩ | ⟨n1, hl, n2⟩
  · exact absurd rfl hw
  · refine h2.2.2 (j, am_v G w) (List.mem_cons_of_mem _ (List.mem_filter.mpr ⟨am_as_mem.mpr ⟨w, hl, hw, rfl⟩, ?_⟩))
    dsimp only
    rw [am_v_cat]
    have e1 : (j == i) = false := by simpa using n1
    rw [e1]
    by_cases z : j + 1 = i
    · have : ¬ w.category = 2 := fun q => n2 ⟨z, q⟩
      simp [this]
    · simp [z]
section
variable {G : am_G} {xs : am_X} {own kind : Nat} {cc : ByteArray} {ret : Option FieldType} {p : Program} {l : Launch} {e : Env} {R : Room} {s : State} {m : MethodId} {args : Array Value} {below : List Frame} {meth : Method} {c : Code} {n0 s0 : Nat} {pc : Nat} {L S : List Value} {h h0 : am_H} {r : am_R}
set_option maxHeartbeats 4000000 in
theorem am_hT_of {maxL : Nat} (E : am_Env G xs own kind cc p R s m args meth c) (hlocks : meth.locks = false) (hml : c.maxLocals = maxL) {hl : List (Nat × Nat × Nat × Nat × Nat × Nat)} {hh : List (Nat × Nat × Nat × Nat)} (htab : c.exceptionTable.toList = tableOf hh) (okl : hl.length = hh.length) (oka : (hl.zip hh).all (am_okq own maxL cc) = true) (hhx : hl ≠ [] → am_hx = true) :
    am_hT G p l e R s m args below meth c (vx_MQ below (am_Qc G r h0) (am_XC G r h0) args s (am_n h0 - n0) (am_cs h0 - s0) (am_A G)) n0 s0 (am_hd hl) (fun r2 h2 => r2 = r ∧ h2 = h0) := by
  intro pc k L h1 H1 locs1 q ce ls rest hk3 hR1 hS1 hl1 q3 hn hs hce hcv hcl hm
  obtain ⟨hx, hb, hown, hts, hsf, -⟩ := E
  have hNC := hsf.2.2.2.2.2.2.2.2.2.2.2
  by_cases hx9 : am_hx = true
  rotate_left
  · have e0 : hl = [] := Classical.byContradiction fun z => hx9 (hhx z)
    subst e0
    have e1 : hh = [] := List.eq_nil_of_length_eq_zero okl.symm
    subst e1
    obtain ⟨e1, rfl⟩ := hm
    have htab2 : c.exceptionTable.toList = [] := htab
    refine vx_outP (E := am_ex k) hown hlocks (by rw [htab2]; exact fun z hz => nomatch hz) hce hcv hcl (fun t ht hW => ⟨k, e1.symm, rfl, hk3, by rw [ht]; exact hR1, ?_⟩) hS1.2.2 (Nat.le_refl _) (Nat.le_refl _)
    exact ⟨by rw [ht]; exact hS1.1, fun q z1 z2 => by rw [ht]; exact hS1.2.1 q z1 z2⟩
  have hnw := hsf.2.2.2.2.2.2.2.2.2.1
  have key : ∀ (hl : List (Nat × Nat × Nat × Nat × Nat × Nat)) (suf : List (Nat × Nat × Nat × Nat)) (pre : List ExceptionTableEntry), c.exceptionTable.toList = pre ++ tableOf suf → hl.length = suf.length → (hl.zip suf).all (am_okq own maxL cc) = true →
      (∀ z ∈ pre, covers z pc = false ∨ (z.catchType ≠ 0 ∧ ∃ nm : String, (Cond.classLink (am_cn own) z.catchType nm).before args s = true ∧ va_Nc (am_ex k) nm s)) →
      (match am_hd hl pc k with
       | none => (.inr k : am_R) = r ∧ h1 = h0
       | some (pt, i) => ∀ ls', am_lh G ls' (am_set L i am_J) → W p l e R s m args below meth c H1 locs1 (am_n h1 - n0) (am_cs h1 - s0) (vx_MQ below (am_Qc G r h0) (am_XC G r h0) args s (am_n h0 - n0) (am_cs h0 - s0) (am_A G)) (F0 m pt ls' [])) →
      vx_W p l e R s m args below meth c H1 locs1 (am_n h1 - n0) (am_cs h1 - s0) (vx_MQ below (am_Qc G r h0) (am_XC G r h0) args s (am_n h0 - n0) (am_cs h0 - s0) (am_A G)) (F0 m pc ls rest) q := by
    intro hl
    induction hl with
    | nil =>
      intro suf pre h1' h2' h3' h4' h5'
      cases suf with
      | cons a b => cases h2'
      | nil =>
        obtain ⟨e1, rfl⟩ := h5'
        have htab2 : c.exceptionTable.toList = pre := by rw [h1']; exact List.append_nil _
        refine vx_outP (E := am_ex k) hown hlocks (by rw [htab2]; exact h4') hce hcv hcl (fun t ht hW => ⟨k, e1.symm, rfl, hk3, by rw [ht]; exact hR1, ?_⟩) hS1.2.2 (Nat.le_refl _) (Nat.le_refl _)
        exact ⟨by rw [ht]; exact hS1.1, fun q z1 z2 => by rw [ht]; exact hS1.2.1 q z1 z2⟩
    | cons x hl ih =>
      intro suf pre h1' h2' h3' h4' h5'
      cases suf with
      | nil => cases h2'
      | cons y suf =>
        rw [List.zip_cons_cons, List.all_cons, Bool.and_eq_true] at h3'
        obtain ⟨h3a, h3b⟩ := h3'
        have h2b : hl.length = suf.length := Nat.succ.inj h2'
        have hsp : c.exceptionTable.toList = pre ++ (⟨y.1, y.2.1, y.2.2.1, y.2.2.2⟩ : ExceptionTableEntry) :: tableOf suf := h1'
        simp only [am_okq, Bool.and_eq_true, beq_iff_eq, decide_eq_true_eq, List.contains_iff_mem] at h3a
        obtain ⟨⟨⟨⟨⟨⟨o1, o2⟩, o3⟩, o4⟩, o5⟩, o6⟩, o7⟩ := h3a
        obtain ⟨c1, c2, c3⟩ := am_xc_ok _ o4
        have hlink : (Cond.classLink (am_cn own) y.2.2.2 (am_ex x.2.2.2.1)).before args s = true := am_w hts c1 rfl
        unfold am_hd at h5'
        cases hcv2 : (Nat.ble x.1 pc && Nat.blt pc x.2.1) with
        | false =>
          have e9 : (Nat.ble x.1 pc && Nat.blt pc x.2.1 && Nat.beq k x.2.2.2.1) = false := by rw [hcv2]; rfl
          rw [e9] at h5'
          refine ih suf (pre ++ [⟨y.1, y.2.1, y.2.2.1, y.2.2.2⟩]) (by rw [List.append_assoc]; exact hsp) h2b h3b (fun z hz => ?_) h5'
          rcases List.mem_append.mp hz with hz | hz
          · exact h4' z hz
          · rw [List.mem_singleton.mp hz]
            left
            show (decide (y.1 ≤ pc) && decide (pc < y.2.1)) = false
            rw [← o1, ← o2]
            cases e8 : (decide (x.1 ≤ pc) && decide (pc < x.2.1)) with
            | false => rfl
            | true =>
              simp only [Bool.and_eq_true, decide_eq_true_eq] at e8
              have a1 : Nat.ble x.1 pc = true := Nat.ble_eq_true_of_le e8.1
              have a2 : Nat.blt pc x.2.1 = true := Nat.ble_eq_true_of_le e8.2
              rw [a1, a2] at hcv2
              cases hcv2
        | true =>
          cases hk9 : Nat.beq k x.2.2.2.1 with
          | false =>
            have e9 : (Nat.ble x.1 pc && Nat.blt pc x.2.1 && Nat.beq k x.2.2.2.1) = false := by rw [hcv2, hk9]; rfl
            rw [e9] at h5'
            refine ih suf (pre ++ [⟨y.1, y.2.1, y.2.2.1, y.2.2.2⟩]) (by rw [List.append_assoc]; exact hsp) h2b h3b (fun z hz => ?_) h5'
            rcases List.mem_append.mp hz with hz | hz
            · exact h4' z hz
            · rw [List.mem_singleton.mp hz]
              right
              refine ⟨o5, am_ex x.2.2.2.1, hlink, hNC _ _ hk3.1 hk3.2 c2 c3 ?_ hx9⟩
              intro e7
              rw [e7] at hk9
              rw [Nat.beq_refl] at hk9
              cases hk9
          | true =>
            have e9 : (Nat.ble x.1 pc && Nat.blt pc x.2.1 && Nat.beq k x.2.2.2.1) = true := by rw [hcv2, hk9]; rfl
            rw [e9] at h5'
            have h5' : ∀ ls', am_lh G ls' (am_set L x.2.2.2.2.2 am_J) → W p l e R s m args below meth c H1 locs1 (am_n h1 - n0) (am_cs h1 - s0) (vx_MQ below (am_Qc G r h0) (am_XC G r h0) args s (am_n h0 - n0) (am_cs h0 - s0) (am_A G)) (F0 m x.2.2.2.2.1 ls' []) := h5'
            have hke : k = x.2.2.2.1 := Nat.eq_of_beq_eq_true hk9
            rw [← hke] at hlink
            simp only [Bool.and_eq_true] at hcv2
            have hcast : (Cond.castable (am_ex k) (am_ex k)).before args s = true := am_nw_use rfl (hnw _ (am_ex_ok k (by omega) hk3.1) rfl)
            refine vx_catch (own := am_cn own) (name := am_ex k) (E := am_ex k) hown pre ⟨y.1, y.2.1, y.2.2.1, y.2.2.2⟩ (tableOf suf) hsp h4' ?_ o5 hlink hcast hce hcv hcl ?_
            · show (decide (y.1 ≤ pc) && decide (pc < y.2.1)) = true
              rw [← o1, ← o2, decide_eq_true (Nat.le_of_ble_eq_true hcv2.1), decide_eq_true (show pc < x.2.1 from Nat.le_of_ble_eq_true hcv2.2)]
              rfl
            · have hlt : x.2.2.2.2.2 < L.length := by rw [q3, hml]; exact o6
              show W p l e R s m args below meth c H1 locs1 (am_n h1 - n0) (am_cs h1 - s0) _ (F0 m y.2.2.1 ls [.ref q])
              split at o7
              · rename_i j hd
                simp only [Bool.and_eq_true, beq_iff_eq] at o7
                obtain ⟨o8, o9⟩ := o7
                rw [o8] at hd
                rw [o9] at h5'
                exact lv_astore hx hb (am_dec_of hd) hl1.has hlt rfl (fun ls' hl' => h5' ls' (am_lh.storeJ hl'))
              · rename_i j hd
                simp only [Bool.and_eq_true, beq_iff_eq] at o7
                obtain ⟨o8, o9⟩ := o7
                rw [o9] at h5'
                exact lv_astore_n hx hb (am_dec_of hd) o8 hl1.has hlt rfl (fun ls' hl' => h5' ls' (am_lh.storeJ hl'))
              · cases o7
  exact key hl hh [] htab okl oka (fun z hz => nomatch hz) hm
theorem am_walk {d : Nat} {i : am_I} {t : am_T} {hl : List (Nat × Nat × Nat × Nat × Nat × Nat)} (E : am_Env G xs i.2.1 i.2.2.2.2.2.2 i.2.2.1 p R s m args meth c) (hRd : d + 13 ≤ R.frames ∧ 64 * d + 832 ≤ R.locals) (r1 : am_n h0 - n0 ≤ R.cells) (r2 : am_cs h0 - s0 ≤ R.slots)
    (IH : ∀ mid as h r h', mid < 126 → am_C xs am_P0 d mid as h (fun r2 h2 => r2 = r ∧ h2 = h') → am_Met G xs l d mid as h r h') (okt : am_okt i t = true) (hret : meth.sig.returnType = i.2.2.2.2.1) (hlocks : meth.locks = false) (hst : l.stackTraces = false) (hex : i.2.1 ≠ 9 → ∀ x ∈ c.exceptionTable.toList, False)
    (hT : am_hT G p l e R s m args below meth c (vx_MQ below (am_Qc G r h0) (am_XC G r h0) args s (am_n h0 - n0) (am_cs h0 - s0) (am_A G)) n0 s0 (am_hd hl) (fun r2 h2 => r2 = r ∧ h2 = h0))
    (H : am_W xs (am_code t) (am_hd hl) (am_C xs am_P0 d) (fun r2 h2 => r2 = r ∧ h2 = h0) pc L S h) : am_PP G p l e R s m args below meth c (vx_MQ below (am_Qc G r h0) (am_XC G r h0) args s (am_n h0 - n0) (am_cs h0 - s0) (am_A G)) n0 s0 (am_n h0) (am_cs h0) pc L S h := by
  refine H (am_PP G p l e R s m args below meth c (vx_MQ below (am_Qc G r h0) (am_XC G r h0) args s (am_n h0 - n0) (am_cs h0 - s0) (am_A G)) n0 s0 (am_n h0) (am_cs h0)) ?_
  intro pc L S h H1
  unfold am_one at H1
  cases e1 : am_code t pc with
  | none => rw [e1] at H1; exact H1.elim
  | some z =>
    obtain ⟨op, nx⟩ := z
    rw [e1] at H1
    have ok := am_okb_of okt e1
    dsimp only at H1
    cases e2 : am_lop op L S with
    | some y =>
      rw [e2] at H1
      cases y with
      | none => exact H1.elim
      | some w =>
        obtain ⟨L', S'⟩ := w
        exact am_lopW E ok e2 H1
    | none =>
      rw [e2] at H1
      dsimp only at H1
      rcases am_kinds ok e2 with hop | hop | hop | hop | hop | hop | hop
      · exact am_pureW E hop ok H1
      · exact am_memW E hop ok H1
      · exact am_alloW E r1 r2 hop ok H1
      · exact am_strW E hop ok H1 r1 r2
      · exact am_endW E hop ok hret hlocks hst hex r1 r2 H1
      · exact am_callW E hRd r1 r2 IH hop ok (fun r h z => by rw [z.2]; exact ⟨Nat.le_refl _, Nat.le_refl _⟩) hT H1
      · exact am_newoW E r1 r2 hop ok H1
end
/-! entry: the locals -/
theorem am_pad_len (G : am_G) : ∀ as : List Value, (lg_sl (as.map (am_v G))).length = (am_pad as).length
  | [] => rfl
  | v :: as => by
    have ih := am_pad_len G as
    have e1 : lg_sl ((v :: as).map (am_v G)) = (if (am_v G v).category = 2 then [.val (am_v G v), .second] else [.val (am_v G v)]) ++ lg_sl (as.map (am_v G)) := by
      simp [lg_sl]
    rw [e1, am_v_cat]
    cases v <;> simp [am_pad, Value.category, ih] <;> omega
theorem am_pad_args (G : am_G) : ∀ (as : List Value) (k j : Nat) (w : Value), (am_pad as)[j]? = some w → w ≠ am_J → (k + j, am_v G w) ∈ lv_args k (as.map (am_v G))
  | [], k, j, w, h, _ => by simp [am_pad] at h
  | v :: as, k, j, w, h, hw => by
    have two : v.category = 2 → am_pad (v :: as) = v :: am_J :: am_pad as := by
      intro h; cases v <;> first | rfl | (simp [Value.category] at h)
    have one : ¬ v.category = 2 → am_pad (v :: as) = v :: am_pad as := by
      intro h; cases v <;> first | rfl | (simp [Value.category] at h)
    rw [List.map_cons]
    unfold lv_args
    rw [am_v_cat]
    by_cases h2 : v.category = 2
    · rw [if_pos h2]
      rw [two h2] at h
      match j, h with
      | 0, h => cases h; exact List.mem_cons_self
      | 1, h => cases h; exact absurd rfl hw
      | j + 2, h =>
        have := am_pad_args G as (k + 2) j w h hw
        rw [show k + (j + 2) = k + 2 + j by omega]
        exact List.mem_cons_of_mem _ this
    · rw [if_neg h2]
      rw [one h2] at h
      match j, h with
      | 0, h => cases h; exact List.mem_cons_self
      | j + 1, h =>
        have := am_pad_args G as (k + 1) j w h hw
        rw [show k + (j + 1) = k + 1 + j by omega]
        exact List.mem_cons_of_mem _ this
theorem am_loc_len {as : List Value} {n : Nat} (h : (am_pad as).length ≤ n) : (am_loc as n).length = n := by
  unfold am_loc
  rw [List.length_append, List.length_replicate]
  omega
theorem am_loc_lh (G : am_G) {as : List Value} {n : Nat} (h : (am_pad as).length ≤ n) : am_lh G ((lg_sl (as.map (am_v G)) ++ List.replicate (n - (lg_sl (as.map (am_v G))).length) Slot.unset).toArray) (am_loc as n) := by
  have hl := lv_entry (as.map (am_v G)) (n := n) (by rw [am_pad_len]; exact h)
  refine ⟨hl.1.trans (am_loc_len h).symm, hl.2.1, fun j w hj hw => ?_⟩
  unfold am_loc at hj
  rw [List.getElem?_append] at hj
  split at hj
  · have := hl.2.2 _ (am_pad_args G as 0 j w hj hw)
    rw [show 0 + j = j by omega] at this
    exact this
  · rw [List.getElem?_replicate] at hj
    split at hj
    · cases hj; exact absurd rfl hw
    · cases hj
set_option maxHeartbeats 4000000 in
theorem am_tie {G : am_G} {xs : am_X} {l : Launch} (hst : l.stackTraces = false) : ∀ (d mid : Nat) (as : List Value) (h : am_H) (r : am_R) (h' : am_H), mid < 126 → am_C xs am_P0 d mid as h (fun r2 h2 => r2 = r ∧ h2 = h') → am_Met G xs l d mid as h r h'
  | 0, _, _, _, _, _, _, H => H.elim
  | d + 1, mid, as, h, r, h', hlt, H => by
    intro i hi
    have hm := am_mok_at mid i hlt hi
    rw [am_C_eq] at H
    have hq : ∃ q, am_prog[mid]? = some q := ⟨_, List.getElem?_eq_getElem (show mid < am_prog.length by rw [am_prog_len]; omega)⟩
    obtain ⟨q, hq⟩ := hq
    have hok := am_ok_at mid i q hi hq
    have eP : am_P0 mid = some (am_code q.1, am_hd q.2.1, q.2.2) := by unfold am_P0; rw [hq]
    rw [eP] at H
    obtain ⟨hb9, H⟩ := H
    simp only [am_okm, am_okh, Bool.and_eq_true, beq_iff_eq] at hok
    obtain ⟨⟨okt, okl, oka⟩, hmx⟩ := hok
    have hpl : (am_pad as).length ≤ i.2.2.2.1 := by rw [hmx]; exact Nat.le_of_ble_eq_true hb9
    have key : ∀ (p : Program) (e : Env) (s : State) (m : MethodId) (args : Array Value) (below : List Frame) (meth : Method) (c : Code) (s₁ : State), BodyLoose p l i.1 (headSpec (am_ws i) (am_rm (d + 1) (am_n h' - am_n h) (am_cs h' - am_cs h))) i.2.2.1 i.2.2.2.1 i.2.2.2.2.1 e s m args below meth c s₁ → c.maxLocals = i.2.2.2.1 → c.exceptionTable.toList = tableOf i.2.2.2.2.2.1 → am_Pre G xs as h args s →
        W p l e (am_rm (d + 1) (am_n h' - am_n h) (am_cs h' - am_cs h)) s m args below meth c s.heap [] 0 0 (vx_MQ below (am_Qc G r h') (am_XC G r h') args s (am_n h' - am_n h) (am_cs h' - am_cs h) (am_A G)) (entryFrame m args i.2.2.2.1) := by
      intro p e s m args below meth c s₁ B hml htab hP
      obtain ⟨rfl, hR, hSF⟩ := hP
      have hts := atoms_spec (ws := am_ws i) B.pre
      have E : am_Env G xs i.2.1 i.2.2.2.2.2.2 i.2.2.1 p (am_rm (d + 1) (am_n h' - am_n h) (am_cs h' - am_cs h)) s m (as.map (am_v G)).toArray meth c := by
        refine ⟨B.exec, B.bytes, ?_, fun w hw => hts w (List.mem_cons_of_mem _ hw), hSF, fun hk => ?_, ?_, ?_⟩
        · rw [hm.1.2.2.2.1]; exact findClass_of_methodNamed B.named
        · have hkw := hm.2.2.2
          unfold am_kw at hkw
          rw [hk] at hkw
          rw [(name_of_methodNamed B.named B.method).1]
          exact hkw.2.1
        · show 12 ≤ d + 1 + 12; omega
        · show 768 ≤ 64 * (d + 1) + 768; omega
      have hex : i.2.1 ≠ 9 → ∀ x ∈ c.exceptionTable.toList, False := by
        intro hne x hx
        rw [htab] at hx
        have hkw := hm.2.2.2
        have hz : i.2.2.2.2.2.1 = [] := by
          cases hh : i.2.2.2.2.2.1 with
          | nil => rfl
          | cons y ys =>
            cases hq2 : q.2.1 with
            | nil => rw [hq2, hh] at okl; cases okl
            | cons z zs =>
              rw [hq2, hh, List.zip_cons_cons, List.all_cons, Bool.and_eq_true] at oka
              exact absurd (am_hz i (List.mem_of_getElem? hi) (by rw [hh]; rfl)) hne
        rw [hz] at hx
        cases hx
      have hW := am_walk (n0 := am_n h) (s0 := am_cs h) (below := below) (e := e) E ⟨by show d + 13 ≤ d + 1 + 12; omega, by show 64 * d + 832 ≤ 64 * (d + 1) + 768; omega⟩ (Nat.le_refl _) (Nat.le_refl _) (fun mid as h r h' hlt H => am_tie hst d mid as h r h' hlt H) okt B.returns B.notSynchronized hst hex (am_hT_of E B.notSynchronized hml htab okl oka (fun hne => by
        refine List.any_eq_true.mpr ⟨i, List.mem_of_getElem? hi, ?_⟩
        cases hh : i.2.2.2.2.2.1 with
        | nil => rw [hh] at okl; exact absurd (List.eq_nil_of_length_eq_zero okl) hne
        | cons y ys => rfl)) H
      have hfin := hW.2.2 (Nat.le_refl _) (Nat.le_refl _) (by rw [hml, hmx]; exact am_loc_len (by rw [← hmx]; exact hpl)) s.heap [] _ hR va_S.rf (by rw [← hmx]; exact am_loc_lh G hpl)
      rw [Nat.sub_self, Nat.sub_self] at hfin
      rw [lg_entry_eq]
      exact hfin
    cases hh : i.2.2.2.2.2.1 with
    | nil =>
      refine vx_ofW (cc := i.2.2.1) (maxL := i.2.2.2.1) (ret := i.2.2.2.2.1) (ws' := am_TT) hm.1.1 (by unfold am_ws am_cw; rw [hh]) ?_
      intro p e s m args below meth c s₁ B hml ht hP
      refine key p e s m args below meth c s₁ B hml ?_ hP
      rw [hh]
      cases e9 : c.exceptionTable.toList with
      | nil => rfl
      | cons x xs => exact (ht x (by rw [e9]; exact List.mem_cons_self)).elim
    | cons y ys =>
      have hws : am_ws i = Cond.codeWith i.1 i.2.2.1 i.2.2.2.1 i.2.2.2.2.1 (y :: ys) :: am_TT := by unfold am_ws am_cw; rw [hh]
      refine vx_ofWH (cc := i.2.2.1) (maxL := i.2.2.2.1) (ret := i.2.2.2.2.1) (hh := y :: ys) (ws' := am_TT) hm.1.1 hws ?_
      intro p e s m args below meth c s₁ B hml hP
      refine key p e s m args below meth c s₁ B hml ?_ hP
      rw [hh]
      exact vx_table (x := i.1) B (atoms_spec (ws := am_ws i) B.pre _ (by rw [hws]; exact List.mem_cons_self))

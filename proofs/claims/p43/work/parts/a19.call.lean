/-! THE TIE, 4: calls -/
set_option maxRecDepth 100000 in
theorem am_ar1 {k d r : Nat} (hk : k ≤ 45) (h : 64 * d + 832 ≤ r) : 8 + (k + 11) + (64 * d + 768) ≤ r := by omega
set_option maxRecDepth 100000 in
theorem am_ar2 {d r : Nat} (h : d + 13 ≤ r) : d + 12 + 1 ≤ r := by omega
def am_ws (i : am_I) : List Cond := am_cw i :: am_TT
def am_rm (d mc ms : Nat) : Jvm.Room := { frames := d + 12, cells := mc, slots := ms, locals := 64 * d + 768 }
def am_Pre (G : am_G) (xs : am_X) (as : List Value) (h : am_H) : Array Value → State → Prop := fun a U => a = (as.map (am_v G)).toArray ∧ am_Rel G h U.heap ∧ am_SF G xs U
theorem am_Pre.blind {G : am_G} {xs : am_X} {as : List Value} {h : am_H} : FrameBlind (am_Pre G xs as h) := fun a _ g mk q => ⟨q.1, q.2.1, q.2.2.blind g mk a⟩
def am_Met (G : am_G) (xs : am_X) (l : Launch) (d mid : Nat) (as : List Value) (h : am_H) (r : am_R) (h' : am_H) : Prop := ∀ i, am_inf[mid]? = some i → vx_Met l i.1 (am_ws i) (am_rm d (am_n h' - am_n h) (am_cs h' - am_cs h)) (am_Pre G xs as h) (am_Qc G r h') (am_XC G r h') (am_n h' - am_n h) (am_cs h' - am_cs h) (am_A G)
theorem am_goodws {i : am_I} (hm : am_mok i) : GoodIn am_TT (am_ws i) := fun w hw => by
  rcases List.mem_cons.mp hw with rfl | hw
  · exact ⟨am_TT_of hm.2.1 hm.1.2.1, good_of_word hm.1.2.1⟩
  · exact ⟨hw, good_of_word (List.mem_filter.mp hw).2⟩
section
variable {G : am_G} {xs : am_X} {own kind : Nat} {cc : ByteArray} {ret : Option FieldType} {p : Program} {l : Launch} {e : Env} {R : Room} {s : State} {m : MethodId} {args : Array Value} {below : List Frame} {meth : Method} {c : Code} {Q : State → Prop} {n0 s0 N1 C1 : Nat} {pc nx : Nat} {op : Instr} {L S L' S' : List Value} {h : am_H} {hdl : Nat → Nat → Option (Nat × Nat)} {Qq : am_Q}
theorem am_runW {H : Heap} {locs : List Loc} {cells slots mc ms : Nat} {ls : Array Slot} {st0 rest : List Value} {r1 : am_R} {h1 : am_H} {aa : Array Value} (hr : vx_Run p l e R s m args below meth c H locs cells slots mc ms (F0 m pc ls st0) rest (am_Qc G r1 h1 aa) (am_XC G r1 h1) (am_A G)) (hS : va_S (am_A G) s.heap H locs)
    (kret : ∀ (ov : Option Value) (H1 : Heap) (locs1 : List Loc), r1 = .inl ov → am_Rel G h1 H1 → va_S (am_A G) s.heap H1 locs1 → W p l e R s m args below meth c H1 locs1 (cells + mc) (slots + ms) Q (F0 m (pc + 3) ls ((ov.map (am_v G)).toList ++ rest)))
    (kthr : ∀ (k : Nat) (H1 : Heap) (locs1 : List Loc) (q : Addr) (ce : Cell), r1 = .inr k → 1 ≤ k ∧ k ≤ 3 → am_Rel G h1 H1 → va_S (am_A G) s.heap H1 locs1 → H1[q]? = some ce → ce.vm = .none → s.vm.findClass (am_ex k) = some ce.cls → vx_W p l e R s m args below meth c H1 locs1 (cells + mc) (slots + ms) Q (F0 m pc ls rest) q) : W p l e R s m args below meth c H locs cells slots Q (F0 m pc ls st0) := by
  intro T hT X
  rcases hr T hT X with ⟨v, st₀, t, T', L, h0, X', hL, e1, e2, ⟨ov, hr1, hv, hR1, hF⟩, st⟩ | ⟨q, st₀, t, T', L, E, ce, h0, X', hL, e1, e2, ⟨k, hr1, hE, hk3, hR1, hF⟩, hce, hcv, hcl, st⟩
  · cases hv
    obtain ⟨k1, k2, k3⟩ := vx_keep h0 e1 hS (fun q _ h => h) (fun q h => h) hL hF
    obtain ⟨t2, a1, b1⟩ := kret ov T'.heap (locs ++ L) hr1 (by rw [e1]; exact hR1) k3 T' rfl X'
    exact ⟨t2, st t2 a1, b1⟩
  · obtain ⟨k1, k2, k3⟩ := vx_keep h0 e1 hS (fun q _ h => h) (fun q h => h) hL hF
    obtain ⟨t2, a1, b1⟩ := kthr k T'.heap (locs ++ L) q ce hr1 hk3 (by rw [e1]; exact hR1) k3 (by rw [e1]; exact hce) hcv (by rw [hE]; exact hcl) T' rfl X'
    exact ⟨t2, st.trans a1, b1⟩
def am_calls (op : Instr) : Bool := match op with
  | .invokestatic _ | .invokevirtual _ | .lookupswitch _ _ => true
  | _ => false
/-- what a throw out of a callee does here -/
def am_hT (G : am_G) (p : Program) (l : Launch) (e : Env) (R : Room) (s : State) (m : MethodId) (args : Array Value) (below : List Frame) (meth : Method) (c : Code) (Q : State → Prop) (n0 s0 : Nat) (hdl : Nat → Nat → Option (Nat × Nat)) (Qq : am_Q) : Prop :=
  ∀ (pc k : Nat) (L : List Value) (h1 : am_H) (H1 : Heap) (locs1 : List Loc) (q : Addr) (ce : Cell) (ls : Array Slot) (rest : List Value), 1 ≤ k ∧ k ≤ 3 → am_Rel G h1 H1 → va_S (am_A G) s.heap H1 locs1 → am_lh G ls L → L.length = c.maxLocals → n0 ≤ am_n h1 → s0 ≤ am_cs h1 → H1[q]? = some ce → ce.vm = .none → s.vm.findClass (am_ex k) = some ce.cls →
    (match hdl pc k with
     | none => Qq (.inr k) h1
     | some (pt, i) => ∀ ls', am_lh G ls' (am_set L i am_J) → W p l e R s m args below meth c H1 locs1 (am_n h1 - n0) (am_cs h1 - s0) Q (F0 m pt ls' [])) →
    vx_W p l e R s m args below meth c H1 locs1 (am_n h1 - n0) (am_cs h1 - s0) Q (F0 m pc ls rest) q
theorem am_inf_of {mid n : Nat} (h : am_kind mid = n) (hn : n < 9) : ∃ i, am_inf[mid]? = some i ∧ i.2.2.2.2.2.2 = n ∧ i.2.1 = am_mcls mid ∧ ((parseMethodDescriptor i.1.desc).map (fun d => d.parameters.length)).getD 99 = am_npar mid ∧ i.1 = am_y mid := by
  unfold am_kind at h
  unfold am_mcls am_npar am_y
  cases e : am_inf[mid]? with
  | none => rw [e] at h; dsimp only at h; omega
  | some i => rw [e] at h; exact ⟨i, rfl, h, rfl, rfl, rfl⟩
theorem am_par {o : Option Nat} {n : Nat} (h : o.getD 99 = n) (hn : n < 16) : o = some n := by
  cases o with
  | none => simp at h; omega
  | some k => simp at h; rw [h]
abbrev am_AS : String := "java/lang/AbstractStringBuilder"
theorem am_ml_vi : ∀ q ∈ am_ml_, am_vi (am_y q.2.2) = false := by decide +kernel
theorem am_vs_ok : ∀ q ∈ am_vs_, Cond.methodLink (am_cn q.1) q.2.1 (am_y q.2.2.2.2) ∈ lw_tbl ∧ Cond.sameMethod (am_y q.2.2.2.2).cls am_AS (am_y q.2.2.2.2).name (am_y q.2.2.2.2).desc ∈ lw_tbl ∧ Cond.selects "java/lang/StringBuilder" (am_y q.2.2.2.2) (am_y q.2.2.2.1) ∈ lw_tbl ∧ (q.2.2.1 = 11 ∧ q.2.2.2.1 < 126 ∧ q.2.2.2.2 < 126 ∧ am_kind q.2.2.2.2 = 0 ∧ am_mcls q.2.2.2.2 = 15 ∧ am_npar q.2.2.2.2 = am_npar q.2.2.2.1) := by decide +kernel
theorem am_su_ok : ∀ q ∈ am_su_, Cond.methodLink (am_cn q.1) q.2.1 (am_y q.2.2) ∈ lw_tbl ∧ Cond.sameMethod (am_y q.2.2).cls (am_y q.2.2).cls (am_y q.2.2).name (am_y q.2.2).desc ∈ lw_tbl ∧ Cond.superclass (am_cn q.1) (am_y q.2.2).cls ∈ lw_tbl ∧ (q.1 = 11 ∧ q.2.2 < 126 ∧ (am_y q.2.2).name ≠ "<init>") := by decide +kernel
set_option maxHeartbeats 4000000 in
set_option maxRecDepth 100000 in
theorem am_callW {d : Nat} (E : am_Env G xs own kind cc p R s m args meth c) (hRd : d + 13 ≤ R.frames ∧ 64 * d + 832 ≤ R.locals) (r1 : N1 - n0 ≤ R.cells) (r2 : C1 - s0 ≤ R.slots)
    (IH : ∀ mid as h r h', mid < 126 → am_C xs am_P0 d mid as h (fun r2 h2 => r2 = r ∧ h2 = h') → am_Met G xs l d mid as h r h') (hop : am_calls op = true) (ok : am_okb own kind cc ret pc op nx = true)
    (hQn : ∀ r h, Qq r h → am_n h ≤ N1 ∧ am_cs h ≤ C1) (hT : am_hT G p l e R s m args below meth c Q n0 s0 hdl Qq)
    (HS : am_out (am_PP G p l e R s m args below meth c Q n0 s0 N1 C1) (am_C xs am_P0 d) hdl Qq pc nx L h (am_stp xs op nx S h)) : am_PP G p l e R s m args below meth c Q n0 s0 N1 C1 pc L S h := by
  have E0 := E
  obtain ⟨hx, hb, hown, hts, hsf, hki, hr1, hr2⟩ := E
  have hK := hsf.1
  have hloc : ∀ {k a b : Nat}, k ≤ 45 → 8 + (k + 11) + (am_rm d a b).locals ≤ R.locals := by
    intro k a b hk
    exact am_ar1 hk hRd.2
  have hfr : ∀ {a b : Nat}, (am_rm d a b).frames + 1 ≤ R.frames := by
    intro a b
    exact am_ar2 hRd.1
  -- behind the call
  have fin : ∀ (mid : Nat) (as rest : List Value), mid < 126 → nx = pc + 3 → am_sh rest = true → am_C xs am_P0 d mid as h (fun r h => match r with
      | .inl none => am_PP G p l e R s m args below meth c Q n0 s0 N1 C1 nx L rest h
      | .inl (some v) => am_PP G p l e R s m args below meth c Q n0 s0 N1 C1 nx L (v :: rest) h
      | .inr E => match hdl pc E with
        | none => Qq (.inr E) h
        | some (p9, i) => am_PP G p l e R s m args below meth c Q n0 s0 N1 C1 p9 (am_set L i am_J) [] h) →
      (∀ (r1 : am_R) (h1 : am_H) (i : am_I), am_inf[mid]? = some i → vx_Met l i.1 (am_ws i) (am_rm d (am_n h1 - am_n h) (am_cs h1 - am_cs h)) (am_Pre G xs as h) (am_Qc G r1 h1) (am_XC G r1 h1) (am_n h1 - am_n h) (am_cs h1 - am_cs h) (am_A G) → n0 ≤ am_n h → s0 ≤ am_cs h → am_n h ≤ am_n h1 → am_cs h ≤ am_cs h1 → am_n h1 ≤ N1 → am_cs h1 ≤ C1 → L.length = c.maxLocals →
        ∀ (H : Heap) (locs : List Loc) (ls : Array Slot), am_Rel G h H → va_S (am_A G) s.heap H locs → am_lh G ls L →
        ∃ aa, vx_Run p l e R s m args below meth c H locs (am_n h - n0) (am_cs h - s0) (am_n h1 - am_n h) (am_cs h1 - am_cs h) (F0 m pc ls (S.map (am_v G))) (rest.map (am_v G)) (am_Qc G r1 h1 aa) (am_XC G r1 h1) (am_A G)) →
      (∃ i, am_inf[mid]? = some i) → am_PP G p l e R s m args below meth c Q n0 s0 N1 C1 pc L S h := by
    intro mid as rest hlt hnx hsh HC hrun ⟨i, hi⟩
    obtain ⟨rr, h1, k1, k2, k3⟩ := am_C_det _ _ _ _ _ HC
    have M := IH _ _ _ _ _ hlt k3 i hi
    have cnt : am_n h1 ≤ N1 ∧ am_cs h1 ≤ C1 := by
      match rr, k1 with
      | .inl none, k1 => exact ⟨k1.1, k1.2.1⟩
      | .inl (some v), k1 => exact ⟨k1.1, k1.2.1⟩
      | .inr E, k1 =>
        dsimp only at k1
        cases e3 : hdl pc E with
        | none => rw [e3] at k1; exact hQn _ _ k1
        | some w => rw [e3] at k1; exact ⟨k1.1, k1.2.1⟩
    refine ⟨Nat.le_trans k2.1 cnt.1, Nat.le_trans k2.2 cnt.2, fun q1 q2 q3 H locs ls hR hS hl => ?_⟩
    obtain ⟨aa, RUN⟩ := hrun rr h1 i hi M q1 q2 k2.1 k2.2 cnt.1 cnt.2 q3 H locs ls hR hS hl
    have ec : am_n h - n0 + (am_n h1 - am_n h) = am_n h1 - n0 := by have := k2.1; omega
    have es : am_cs h - s0 + (am_cs h1 - am_cs h) = am_cs h1 - s0 := by have := k2.2; omega
    refine am_runW RUN hS (fun ov H1 locs1 e1 hR1 hS1 => ?_) (fun k H1 locs1 q ce e1 hk3 hR1 hS1 g1 g2 g3 => ?_)
    · rw [ec, es, ← hnx]
      subst e1
      cases ov with
      | none => exact k1.2.2 (Nat.le_trans q1 k2.1) (Nat.le_trans q2 k2.2) q3 H1 locs1 ls hR1 hS1 hl
      | some v => exact k1.2.2 (Nat.le_trans q1 k2.1) (Nat.le_trans q2 k2.2) q3 H1 locs1 ls hR1 hS1 hl
    · rw [ec, es]
      subst e1
      refine hT pc k L h1 H1 locs1 q ce ls _ hk3 hR1 hS1 hl q3 (Nat.le_trans q1 k2.1) (Nat.le_trans q2 k2.2) g1 g2 g3 ?_
      dsimp only at k1
      cases e3 : hdl pc k with
      | none => rw [e3] at k1; exact k1
      | some w =>
        rw [e3] at k1
        exact fun ls' hl' => k1.2.2 (Nat.le_trans q1 k2.1) (Nat.le_trans q2 k2.2) ((am_set_len _ _ _).trans q3) H1 locs1 ls' hR1 hS1 hl'
  have hfit : ∀ {h1 : am_H}, n0 ≤ am_n h → s0 ≤ am_cs h → am_n h ≤ am_n h1 → am_cs h ≤ am_cs h1 → am_n h1 ≤ N1 → am_cs h1 ≤ C1 → am_n h - n0 + (am_n h1 - am_n h) ≤ R.cells ∧ am_cs h - s0 + (am_cs h1 - am_cs h) ≤ R.slots := by
    intro h1 a1 a2 a3 a4 a5 a6
    omega
  have hPre : ∀ {as : List Value} {H : Heap} {locs : List Loc}, am_Rel G h H → va_S (am_A G) s.heap H locs → ∀ U : State, U.heap = H → s.WarmedH U.vm → am_Pre G xs as h (as.map (am_v G)).toArray U := by
    intro as H locs hR hS U hU hW
    exact ⟨rfl, by rw [hU]; exact hR, hsf.to hW (by rw [hU]; exact hS.1) (fun q h1 h2 => by rw [hU]; exact hS.2.1 q h1 h2)⟩
  cases op <;> first | (exfalso; simp only [am_calls] at hop; cases hop; done) | skip
  case invokestatic e9 =>
    simp only [am_stp] at HS
    cases hsh : (am_sh (S.drop (e9 % 16)) && Nat.beq (S.take (e9 % 16)).length (e9 % 16)) with
    | false => rw [hsh] at HS; exact HS.elim
    | true =>
    rw [hsh] at HS
    simp only [Bool.and_eq_true, Nat.beq_eq] at hsh
    simp only [am_okb] at ok
    split at ok
    rotate_left
    · cases ok
    rename_i i9 hd
    simp only [Bool.and_eq_true, beq_iff_eq, List.contains_iff_mem] at ok
    obtain ⟨⟨⟨ok, o2⟩, o3⟩, o4⟩ := ok
    obtain ⟨i, hi, g1, g2, g3, g4⟩ := am_inf_of o2 (by omega)
    have hm := am_mok_at _ _ (am_ml_lt _ ok) hi
    have hln := am_ml_ok _ ok
    rw [← g4] at hln
    refine fin (e9 / 16) _ _ (am_ml_lt _ ok) o4 hsh.1 HS.2 (fun rr h1 i' hi' M a1 a2 a3 a4 a5 a6 q3 H locs ls hR hS hl => ?_) ⟨i, hi⟩
    cases hi.symm.trans hi'
    have hkw := hm.2.2.2
    unfold am_kw at hkw
    rw [g1] at hkw
    have hpar := am_par (g3.trans o3) (by omega)
    have hstk : S.map (am_v G) = (((S.take (e9 % 16)).reverse).map (am_v G)).reverse ++ (S.drop (e9 % 16)).map (am_v G) := by
      rw [← List.map_reverse, List.reverse_reverse, ← List.map_append, List.take_append_drop]
    have hlen : (((S.take (e9 % 16)).reverse).map (am_v G)).length = e9 % 16 := by
      rw [List.length_map, List.length_reverse]; exact hsh.2
    cases hh : i.2.2.2.2.2.1 with
    | nil =>
      exact ⟨_, vx_runS (cc := cc) (Ts := am_TT) ⟨hx, hb, rfl, hown, hts⟩ M ⟨callB_of (ws' := am_TT) (bytes := i.2.2.1) (maxL := i.2.2.2.1) (ret := i.2.2.2.2.1) (e9 % 16) hts (am_goodws hm) (by unfold am_ws am_cw; rw [hh]) rfl rfl (am_w hts hm.2.2.1 rfl) (am_w hts hln rfl) ⟨hm.1.2.2.2.2.1, hm.1.2.2.2.2.2, hpar⟩ ⟨hfr, hloc hm.1.2.2.1⟩, am_w hts hkw rfl⟩ ⟨am_Pre.blind, hPre hR hS⟩ rfl hlen (hl.1.trans q3) hstk (by show 2 * 0 + _ ≤ 8; have := am_sh_sum (G := G) hsh.1; omega) (am_dec_of hd) (hfit a1 a2 a3 a4 a5 a6)⟩
    | cons hh1 hh2 =>
      have ecw : am_cw i = Cond.codeWith i.1 i.2.2.1 i.2.2.2.1 i.2.2.2.2.1 (hh1 :: hh2) := by unfold am_cw; rw [hh]
      have hcw := hm.2.1
      have hgw := hm.1.2.1
      rw [ecw] at hcw hgw
      exact ⟨_, vx_runSX (cc := cc) (Ts := am_TT) (hh := hh1 :: hh2) (bytes := i.2.2.1) (maxL := i.2.2.2.1) (ret := i.2.2.2.2.1) (n := e9 % 16) ⟨hx, hb, rfl, hown, hts⟩ M ⟨⟨rfl, rfl, hfr, hloc hm.1.2.2.1, pay_in hts (am_goodws hm), by unfold am_ws; rw [ecw]; exact List.mem_cons_self⟩, am_w hts hcw hgw, am_w hts hm.2.2.1 rfl, ⟨hm.1.2.2.2.2.1, hm.1.2.2.2.2.2⟩, (fun sig hs => by rw [hs] at hpar; exact (Option.some.inj hpar).symm), am_w hts hln rfl, am_w hts hkw rfl⟩ ⟨am_Pre.blind, hPre hR hS⟩ rfl hlen (hl.1.trans q3) hstk (by show 2 * 0 + _ ≤ 8; have := am_sh_sum (G := G) hsh.1; omega) (am_dec_of hd) (hfit a1 a2 a3 a4 a5 a6)⟩
  case invokevirtual e9 =>
    simp only [am_stp] at HS
    split at HS
    rotate_left
    · exact HS.elim
    rename_i a S1 hdrop
    cases hsh : am_sh S1 with
    | false => rw [hsh] at HS; exact HS.elim
    | true =>
    rw [hsh] at HS
    obtain ⟨hk, HS⟩ := (show am_k h a = (1, e9 / 8192) ∧ _ from HS)
    have hlen0 : (S.take (e9 % 16)).length = e9 % 16 := by
      have h1 : (S.drop (e9 % 16)).length = S.length - e9 % 16 := List.length_drop
      rw [hdrop] at h1
      simp at h1
      rw [List.length_take]
      omega
    have hstk : a ≠ 0 → S.map (am_v G) = (((S.take (e9 % 16)).reverse).map (am_v G)).reverse ++ .ref (am_ad G a) :: S1.map (am_v G) := by
      intro ha
      rw [← List.map_reverse, List.reverse_reverse, ← am_v1 G ha, ← List.map_cons, ← List.map_append, ← hdrop, List.take_append_drop]
    have hlen : (((S.take (e9 % 16)).reverse).map (am_v G)).length = e9 % 16 := by
      rw [List.length_map, List.length_reverse]; exact hlen0
    have hW : 2 * (F0 m pc (#[] : Array Slot) []).monitorRoom + ((S1.map (am_v G)).map fun v => v.category).sum ≤ 8 := by
      show 2 * 0 + _ ≤ 8
      have := am_sh_sum (G := G) hsh
      omega
    have hPreV : ∀ {H : Heap} {locs : List Loc}, am_Rel G h H → va_S (am_A G) s.heap H locs → ∀ U : State, U.heap = H → s.WarmedH U.vm → am_Pre G xs (.ref a :: (S.take (e9 % 16)).reverse) h (Value.ref (am_ad G a) :: ((S.take (e9 % 16)).reverse).map (am_v G)).toArray U := by
      intro H locs hR hS U hU hW
      have := hPre (as := .ref a :: (S.take (e9 % 16)).reverse) hR hS U hU hW
      rw [List.map_cons, am_v1 G (am_nz hR (am_k0 hk))] at this
      exact this
    simp only [am_okb] at ok
    split at ok
    · rename_i i9 hd
      simp only [Bool.and_eq_true, Bool.or_eq_true, beq_iff_eq, List.contains_iff_mem] at ok
      obtain ⟨⟨⟨ok, o2⟩, o3⟩, o4⟩ := ok
      obtain ⟨i, hi, g1, g2, g3, g4⟩ := am_inf_of o2 (by omega)
      rcases ok with ⟨ok, o5⟩ | ok
      · have hm := am_mok_at _ _ (am_ml_lt _ ok) hi
        have hln := am_ml_ok _ ok
        have hvi := am_ml_vi _ ok
        rw [← g4] at hln
        dsimp only at hvi
        rw [← g4] at hvi
        refine fin (e9 / 16 % 512) _ _ (am_ml_lt _ ok) o4 hsh HS (fun rr h1 i' hi' M a1 a2 a3 a4 a5 a6 q3 H locs ls hR hS hl => ?_) ⟨i, hi⟩
        cases hi.symm.trans hi'
        have hkw := hm.2.2.2
        unfold am_kw at hkw
        rw [g1] at hkw
        have hpar := am_par (g3.trans o3) (by omega)
        have hci : e9 / 8192 < 12 := by
          have hat := hR.2.2.2.2 a (am_k0 hk)
          rw [am_cell1 hk] at hat
          obtain ⟨r9, h9, -⟩ := hat
          exact (List.getElem?_eq_some_iff.mp h9).1
        obtain ⟨-, -, -, g9⟩ := am_ci_ok _ hci
        have hrc := va_recv hK (hR.P1 (am_k0 hk) (am_cell1 hk)) g9 (q0 := 0) rfl
        have hcls : am_cn (e9 / 8192) = i.1.cls := by rw [← o5, ← g2]; exact hm.1.2.2.2.1
        have hse := hkw.2.1 (by rw [g2, o5]; omega) hvi
        dsimp only at hrc
        rw [hcls] at hrc
        exact ⟨_, vx_runV (cc := cc) (Ts := am_TT) (C := i.1.cls) ⟨hx, hb, rfl, hown, hts⟩ M ⟨callB_of (ws' := am_TT) (bytes := i.2.2.1) (maxL := i.2.2.2.1) (ret := i.2.2.2.2.1) (e9 % 16) hts (am_goodws hm) (by unfold am_ws am_cw; rw [hkw.2.2]) rfl rfl (am_w hts hm.2.2.1 rfl) (am_w hts hln rfl) ⟨hm.1.2.2.2.2.1, hm.1.2.2.2.2.2, hpar⟩ ⟨hfr, hloc hm.1.2.2.1⟩, am_w hts hkw.1 rfl, am_w hts hse rfl⟩ ⟨am_Pre.blind, hrc, hPreV hR hS⟩ rfl hlen (hl.1.trans q3) (hstk (am_nz hR (am_k0 hk))) hW (am_dec_of hd) (hfit a1 a2 a3 a4 a5 a6)⟩
      · obtain ⟨q, hq, ho⟩ := List.any_eq_true.mp ok
        simp only [Bool.and_eq_true, beq_iff_eq] at ho
        obtain ⟨⟨⟨ho1, ho2⟩, ho3⟩, ho4⟩ := ho
        obtain ⟨w1, w2, w3, w4, w5, w6, w7, w8, w9⟩ := am_vs_ok q hq
        rw [ho1, ho2] at w1
        rw [ho4] at w3 w5 w9
        have hci : e9 / 8192 = 11 := ho3.symm.trans w4
        have hm := am_mok_at _ _ w5 hi
        obtain ⟨ix, hix, x1, x2, x3, x4⟩ := am_inf_of w7 (by omega)
        have hmx := am_mok_at _ _ w6 hix
        have hkx := hmx.2.2.2
        unfold am_kw at hkx
        rw [x1] at hkx
        rw [← x4] at w1 w2 w3
        rw [← g4] at w3
        have hclx : ix.1.cls = am_AS := by rw [← hmx.1.2.2.2.1, x2, w8]; rfl
        refine fin (e9 / 16 % 512) _ _ w5 o4 hsh HS (fun rr h1 i' hi' M a1 a2 a3 a4 a5 a6 q3 H locs ls hR hS hl => ?_) ⟨i, hi⟩
        cases hi.symm.trans hi'
        have hkw := hm.2.2.2
        unfold am_kw at hkw
        rw [g1] at hkw
        have hparx := am_par (x3.trans (w9.trans o3)) (by omega)
        obtain ⟨-, -, -, g9⟩ := am_ci_ok 11 (by decide)
        rw [hci] at hk
        have hrc := va_recv hK (hR.P1 (am_k0 hk) (am_cell1 hk)) g9 (q0 := 0) rfl
        dsimp only at hrc
        have hcwx : am_cw ix = Cond.code ix.1 ix.2.2.1 ix.2.2.2.1 ix.2.2.2.2.1 := by unfold am_cw; rw [hkx.2.2]
        have hcodex : (Cond.code ix.1 ix.2.2.1 ix.2.2.2.1 ix.2.2.2.2.1).before args s = true := by rw [← hcwx]; exact am_w hts hmx.2.1 hmx.1.2.1
        have hcw : am_cw i = Cond.code i.1 i.2.2.1 i.2.2.2.1 i.2.2.2.2.1 := by unfold am_cw; rw [hkw.2.2]
        have hcode : (Cond.code i.1 i.2.2.1 i.2.2.2.1 i.2.2.2.2.1).before args s = true := by rw [← hcw]; exact am_w hts hm.2.1 hm.1.2.1
        have hdecl : va_Decl s ⟨am_AS, ix.1.name, ix.1.desc⟩ := by
          have := va_Decl.of (am_w hts hkx.1 rfl) hcodex
          rw [← hclx]
          exact this
        exact ⟨_, vx_runU (cc := cc) (Ts := am_TT) (C := "java/lang/StringBuilder") (owner := am_AS) (x := ix.1) (y := i.1) (bytes := i.2.2.1) (maxL := i.2.2.2.1) (ret := i.2.2.2.2.1) (n := e9 % 16) ⟨hx, hb, rfl, hown, hts⟩ M ⟨⟨rfl, rfl, hfr, hloc hm.1.2.2.1, pay_in hts (am_goodws hm), by unfold am_ws; rw [hcw]; exact List.mem_cons_self⟩, hcode, am_w hts hm.2.2.1 rfl, ⟨by decide, by decide⟩, (fun sig hs => by rw [hs] at hparx; exact (Option.some.inj hparx).symm), am_w hts w1 rfl, am_w hts w2 rfl, hdecl, am_w hts w3 rfl, am_w hts hkw.1 rfl⟩ ⟨am_Pre.blind, hrc, hPreV hR hS⟩ rfl hlen (hl.1.trans q3) (hstk (am_nz hR (am_k0 hk))) hW (am_dec_of hd) (hfit a1 a2 a3 a4 a5 a6)⟩
    · rename_i i9 hd
      simp only [Bool.and_eq_true, beq_iff_eq, List.contains_iff_mem, Bool.or_eq_true] at ok
      obtain ⟨⟨ok, o3⟩, o4⟩ := ok
      rcases ok with ⟨o2, ok⟩ | ⟨⟨o2, o5⟩, ok⟩
      · obtain ⟨i, hi, g1, g2, g3, g4⟩ := am_inf_of o2 (by omega)
        have hlt9 : e9 / 16 % 512 < 126 := by rcases ok with ok | ok; exact am_ml_lt _ ok; exact am_nl_lt _ ok
        have hm := am_mok_at _ _ hlt9 hi
        refine fin (e9 / 16 % 512) _ _ hlt9 o4 hsh HS (fun rr h1 i' hi' M a1 a2 a3 a4 a5 a6 q3 H locs ls hR hS hl => ?_) ⟨i, hi⟩
        cases hi.symm.trans hi'
        have hkw := hm.2.2.2
        unfold am_kw at hkw
        rw [g1] at hkw
        have hpar := am_par (g3.trans o3) (by omega)
        have ecw : am_ws i = Cond.code i.1 i.2.2.1 i.2.2.2.1 none :: am_TT := by unfold am_ws am_cw; rw [hkw.2.2.2, hkw.2.2.1]
        rcases ok with ok | ok
        · have hln := am_ml_ok _ ok
          rw [← g4] at hln
          exact ⟨_, vx_runI (cc := cc) (Ts := am_TT) ⟨hx, hb, rfl, hown, hts⟩ M ⟨callB_of (ws' := am_TT) (bytes := i.2.2.1) (maxL := i.2.2.2.1) (ret := none) (e9 % 16) hts (am_goodws hm) ecw rfl rfl (am_w hts hm.2.2.1 rfl) (am_w hts hln rfl) ⟨hm.1.2.2.2.2.1, hm.1.2.2.2.2.2, hpar⟩ ⟨hfr, hloc hm.1.2.2.1⟩, hkw.2.1, am_w hts hkw.1 rfl⟩ ⟨am_Pre.blind, hPreV hR hS⟩ rfl hlen (hl.1.trans q3) (hstk (am_nz hR (am_k0 hk))) hW (am_dec_of hd) (hfit a1 a2 a3 a4 a5 a6)⟩
        · have hln := am_nl_ok _ ok
          rw [← g4] at hln
          exact ⟨_, vx_runIN (cc := cc) (Ts := am_TT) (host := "MultiwayCut") ⟨hx, hb, rfl, hown, hts⟩ M ⟨va_cnB (ws' := am_TT) (bytes := i.2.2.1) (maxL := i.2.2.2.1) (ret := none) (e9 % 16) hts (am_goodws hm) ecw rfl rfl (hsf.2.2.2.2.2.2.2.2.2.1 _ hln rfl) (am_w hts hm.2.2.1 rfl) ⟨hm.1.2.2.2.2.1, hm.1.2.2.2.2.2, hpar⟩ ⟨hfr, hloc hm.1.2.2.1⟩, hkw.2.1, am_w hts hkw.1 rfl⟩ ⟨am_Pre.blind, hPreV hR hS⟩ rfl hlen (hl.1.trans q3) (hstk (am_nz hR (am_k0 hk))) hW (am_dec_of hd) (hfit a1 a2 a3 a4 a5 a6)⟩
      · obtain ⟨i, hi, g1, g2, g3, g4⟩ := am_inf_of o2 (by omega)
        obtain ⟨w1, w2, w3, w4, w5, w6⟩ := am_su_ok _ ok
        dsimp only at w1 w2 w3 w4 w5 w6
        have hm := am_mok_at _ _ w5 hi
        rw [← g4] at w1 w2 w3 w6
        refine fin (e9 / 16 % 512) _ _ w5 o4 hsh HS (fun rr h1 i' hi' M a1 a2 a3 a4 a5 a6 q3 H locs ls hR hS hl => ?_) ⟨i, hi⟩
        cases hi.symm.trans hi'
        have hkw := hm.2.2.2
        unfold am_kw at hkw
        rw [g1] at hkw
        have hpar := am_par (g3.trans o3) (by omega)
        obtain ⟨-, -, -, g9⟩ := am_ci_ok 11 (by decide)
        rw [o5] at hk
        have hrc := va_recv hK (hR.P1 (am_k0 hk) (am_cell1 hk)) g9 (q0 := 0) rfl
        dsimp only at hrc
        have hcw : am_cw i = Cond.code i.1 i.2.2.1 i.2.2.2.1 i.2.2.2.2.1 := by unfold am_cw; rw [hkw.2.2]
        have hcode : (Cond.code i.1 i.2.2.1 i.2.2.2.1 i.2.2.2.2.1).before args s = true := by rw [← hcw]; exact am_w hts hm.2.1 hm.1.2.1
        exact ⟨_, vx_runSU (cc := cc) (Ts := am_TT) (C := "java/lang/StringBuilder") (y := i.1) (bytes := i.2.2.1) (maxL := i.2.2.2.1) (ret := i.2.2.2.2.1) (n := e9 % 16) (hK.1 11 _ g9).2 ⟨hx, hb, rfl, hown, hts⟩ M ⟨⟨rfl, rfl, hfr, hloc hm.1.2.2.1, pay_in hts (am_goodws hm), by unfold am_ws; rw [hcw]; exact List.mem_cons_self⟩, am_w hts w1 rfl, am_w hts w2 rfl, am_w hts w3 rfl, am_w hts hkw.1 rfl, am_w hts hm.2.2.1 rfl, hcode, w6, (fun sig hs => by rw [hs] at hpar; exact (Option.some.inj hpar).symm)⟩ ⟨am_Pre.blind, hrc, hPreV hR hS⟩ rfl hlen (hl.1.trans q3) (hstk (am_nz hR (am_k0 hk))) hW (am_dec_of hd) (hfit a1 a2 a3 a4 a5 a6)⟩
    · cases ok
  case lookupswitch e8 w8 =>
    obtain ⟨e9, he9⟩ : ∃ e9, e9 = e8.toNat := ⟨_, rfl⟩
    simp only [am_stp, ← he9] at HS
    split at HS
    rotate_left
    · exact HS.elim
    rename_i a S1 hdrop
    cases hsh : am_sh S1 with
    | false => rw [hsh] at HS; exact HS.elim
    | true =>
    rw [hsh] at HS
    obtain ⟨hk, HS⟩ := (show am_k2 h a = (1, e9 / 8192) ∧ _ from HS)
    have hlen0 : (S.take (e9 % 16)).length = e9 % 16 := by
      have h1 : (S.drop (e9 % 16)).length = S.length - e9 % 16 := List.length_drop
      rw [hdrop] at h1
      simp at h1
      rw [List.length_take]
      omega
    have hstk : S.map (am_v G) = (((S.take (e9 % 16)).reverse).map (am_v G)).reverse ++ am_v G (.ref a) :: S1.map (am_v G) := by
      rw [← List.map_reverse, List.reverse_reverse, ← List.map_cons, ← List.map_append, ← hdrop, List.take_append_drop]
    have hlen : (((S.take (e9 % 16)).reverse).map (am_v G)).length = e9 % 16 := by
      rw [List.length_map, List.length_reverse]; exact hlen0
    have hW : 2 * (F0 m pc (#[] : Array Slot) []).monitorRoom + ((S1.map (am_v G)).map fun v => v.category).sum ≤ 8 := by
      show 2 * 0 + _ ≤ 8
      have := am_sh_sum (G := G) hsh
      omega
    simp only [am_okb, ← he9] at ok
    split at ok
    rotate_left
    · cases ok
    rename_i i9 hd
    simp only [Bool.and_eq_true, beq_iff_eq, List.contains_iff_mem] at ok
    obtain ⟨⟨⟨⟨⟨ok, o2⟩, o3⟩, o5⟩, o6⟩, o4⟩ := ok
    obtain ⟨i, hi, g1, g2, g3, g4⟩ := am_inf_of o2 (by omega)
    have hm := am_mok_at _ _ (am_ml_lt _ ok) hi
    have hln := am_ml_ok _ ok
    have hvi := am_ml_vi _ ok
    rw [← g4] at hln
    dsimp only at hvi
    rw [← g4] at hvi
    refine fin (e9 / 16 % 512) _ _ (am_ml_lt _ ok) o4 hsh HS (fun rr h1 i' hi' M a1 a2 a3 a4 a5 a6 q3 H locs ls hR hS hl => ?_) ⟨i, hi⟩
    cases hi.symm.trans hi'
    have hkw := hm.2.2.2
    unfold am_kw at hkw
    rw [g1] at hkw
    have hpar := am_par (g3.trans o3) (by omega)
    have hse := hkw.2.1 (by rw [g2, o5, o6]; decide) hvi
    have hcls : "java/lang/String" = i.1.cls := by rw [← hm.1.2.2.2.1, g2, o5, o6]; rfl
    rw [o6] at hk
    obtain ⟨ab, eab, hrc⟩ : ∃ ab, am_v G (.ref a) = .ref ab ∧ ∃ cell : Cell, H[ab]? = some cell ∧ cell.vm.isStatics = false ∧ s.vm.findClass i.1.cls = some cell.cls := by
      rw [← hcls]
      by_cases hlo : a < am_S0
      · rw [k2_lo hlo] at hk
        obtain ⟨-, -, -, g9⟩ := am_ci_ok 10 (by decide)
        exact ⟨_, am_v1 G (am_nz hR (am_k0 hk)), va_recv hK (hR.P1 (am_k0 hk) (am_cell1 hk)) g9 (q0 := 0) rfl⟩
      · obtain ⟨j, hj, rfl⟩ := k2_hi hlo hk
        obtain ⟨cell, h1, h2, h3, -⟩ := ((hsf.2.2.2.2.2.2.2.2.2.2.1.1 j hj).1).kept hS.2.1
        exact ⟨_, am_vS G (by omega), cell, h1, h2, h3⟩
    rw [eab] at hstk
    have hPreV : ∀ U : State, U.heap = H → s.WarmedH U.vm → am_Pre G xs (.ref a :: (S.take (e9 % 16)).reverse) h (Value.ref ab :: ((S.take (e9 % 16)).reverse).map (am_v G)).toArray U := by
      intro U hU hW
      have := hPre (as := .ref a :: (S.take (e9 % 16)).reverse) hR hS U hU hW
      rw [List.map_cons, eab] at this
      exact this
    exact ⟨_, vx_runV (cc := cc) (Ts := am_TT) (C := i.1.cls) ⟨hx, hb, rfl, hown, hts⟩ M ⟨callB_of (ws' := am_TT) (bytes := i.2.2.1) (maxL := i.2.2.2.1) (ret := i.2.2.2.2.1) (e9 % 16) hts (am_goodws hm) (by unfold am_ws am_cw; rw [hkw.2.2]) rfl rfl (am_w hts hm.2.2.1 rfl) (am_w hts hln rfl) ⟨hm.1.2.2.2.2.1, hm.1.2.2.2.2.2, hpar⟩ ⟨hfr, hloc hm.1.2.2.1⟩, am_w hts hkw.1 rfl, am_w hts hse rfl⟩ ⟨am_Pre.blind, hrc, hPreV⟩ rfl hlen (hl.1.trans q3) hstk hW (am_dec_of hd) (hfit a1 a2 a3 a4 a5 a6)⟩
end

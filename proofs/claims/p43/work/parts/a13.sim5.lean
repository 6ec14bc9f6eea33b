section
variable {G : am_G} {xs : am_X} {own kind : Nat} {cc : ByteArray} {ret : Option FieldType} {p : Program} {l : Launch} {e : Env} {R : Room} {s : State} {m : MethodId} {args : Array Value} {below : List Frame} {meth : Method} {c : Code} {Q : State → Prop} {n0 s0 N1 C1 : Nat} {pc nx : Nat} {op : Instr} {L S L' S' : List Value} {h : am_H} {cal : am_Cal} {hdl : Nat → Nat → Option (Nat × Nat)} {Qq : am_Q}
def am_fs (G : am_G) (h : am_H) (a ci : Nat) : List Value := (List.range (am_nf ci)).map (fun k => if am_isr ci k = true then am_v G (.ref (am_r h a k)) else .int (am_i h a k))
theorem am_cell1 {a ci : Nat} (hk : am_k h a = (1, ci)) : am_cell G h a = .inr (ci, am_fs G h a ci) := by
  unfold am_cell
  rw [hk]
  rfl
theorem am_fs_get {a ci k : Nat} (hk : k < am_nf ci) : (am_fs G h a ci)[k]? = some (if am_isr ci k = true then am_v G (.ref (am_r h a k)) else .int (am_i h a k)) := by
  unfold am_fs
  rw [List.getElem?_map, List.getElem?_range hk]
  rfl
theorem am_fs_len {a ci : Nat} : (am_fs G h a ci).length = am_nf ci := by
  unfold am_fs
  simp
theorem am_k0 {a t n : Nat} (hk : am_k h a = (t + 1, n)) : (am_k h a).1 ≠ 0 := by
  rw [hk]
  exact Nat.succ_ne_zero _
theorem am_nz {H : Heap} {a : Nat} (R : am_Rel G h H) (hk : (am_k h a).1 ≠ 0) : a ≠ 0 := by
  have := (am_in R hk).1
  omega
theorem am_Aa {H : Heap} {a : Nat} (R : am_Rel G h H) (hk : (am_k h a).1 ≠ 0) : am_A G (am_ad G a) := by
  have := am_in R hk
  show G.2.2.1 + 1 ≤ am_ad G a
  omega
theorem am_fin11 : ∀ c, c < 12 → ∀ k, k < am_nf c → (am_tf c k).2.2.2 = true → c < 11 := by decide +kernel
/-- a field is written -/
theorem am_putW {H : Heap} {locs : List Loc} {cells slots : Nat} {ls : Array Slot} {rest : List Value} (E : am_Env G xs own kind cc p R s m args meth c) (hR : am_Rel G h H) (hS : va_S (am_A G) s.heap H locs) {a i e9 : Nat} {v : Value} {h' : am_H} (hk : am_k h a = (1, e9 / 64)) (ok : (own, i, e9) ∈ am_fl_)
    (hf : (am_tf (e9 / 64) (e9 % 64)).2.2.2 = false ∨ (kind = 2 ∧ own = e9 / 64)) (hn : narrow (am_ty (e9 / 64) (e9 % 64)) v = v) (hfit : fits (am_ty (e9 / 64) (e9 % 64)) v = true)
    (h1 : am_n h' = am_n h) (h2 : ∀ x, am_k h' x = am_k h x) (h3 : am_fs G h' a (e9 / 64) = (am_fs G h a (e9 / 64)).set (e9 % 64) v) (h4 : ∀ x, x ≠ a → am_cell G h' x = am_cell G h x)
    (hdg : decode cc pc = .ok (.putfield i, 3)) (kk : ∀ (H1 : Heap) (locs1 : List Loc), am_Rel G h' H1 → va_S (am_A G) s.heap H1 locs1 → W p l e R s m args below meth c H1 locs1 cells slots Q (F0 m (pc + 3) ls rest)) : W p l e R s m args below meth c H locs cells slots Q (F0 m pc ls (v :: .ref (am_ad G a) :: rest)) := by
  obtain ⟨hx, hb, hown, hts, hsf, hki, hr1, hr2⟩ := E
  obtain ⟨c1, c2⟩ := am_fl_ok2 _ ok
  obtain ⟨-, -, g3, hc⟩ := am_ci_ok _ c1
  have hin : ∀ w ∈ u_ws (am_cn (e9 / 64)) (am_tf (e9 / 64)) (am_nf (e9 / 64)), w ∈ am_TT := fun w hw => am_TT_of (g3 w hw).1 (g3 w hw).2
  have hk0 := am_k0 hk
  have hK := hsf.1
  have hap := va_apart (own := am_cn own) hts hin (am_ty (e9 / 64)) (am_ty_ok _ c1) (am_nm_ok _ c1) hK hc
  have hat := hR.2.2.2.2 a hk0
  rw [am_cell1 hk] at hat
  obtain ⟨r, h9, cell, q1, q2, q3, q4⟩ := hat
  have hr : r = (am_cn (e9 / 64), am_tf (e9 / 64), am_nf (e9 / 64)) := Option.some.inj (h9.symm.trans hc)
  subst hr
  obtain ⟨hSl, hfc, kC, hkC, hkind⟩ := hK.1 _ _ hc
  obtain ⟨cf, kf, fi, f, hi, hsl⟩ := hSl _ c2
  have hd := am_ty_ok _ c1 _ c2
  have hlay := hts _ (hin _ (u_in_lay c2))
  have hlink := am_w hts (am_fl_ok _ ok) rfl
  have hst := (u_facts hfc hkC (u_lays hts hin c2) hi).1
  have hl : e9 % 64 < (am_fs G h a (e9 / 64)).length := by rw [am_fs_len]; exact c2
  have fin : ∀ (H1 : Heap), H1[am_ad G a]? = some (cell.setSlot (G.1.2 (e9 / 64) (e9 % 64)) v) → H1.size = H.size → (∀ q, q ≠ am_ad G a → H1[q]? = H[q]?) → am_Rel G h' H1 := fun H1 e1 e2 e3 =>
    hR.wr hk0 h1 h2 e2 e3 (by
      rw [am_cell1 ((h2 a).trans hk), h3]
      exact ⟨_, hc, t_OB.to (V := updV (vp_V (am_fs G h a (e9 / 64))) (e9 % 64) v) ⟨_, e1, q2, q3, t_set q4 hap c2 v⟩ (fun j _ => vp_updV_set hl v j)⟩) h4 (fun q => by rw [hk] at q; cases q)
  rcases hf with hfin | ⟨rfl, ho⟩
  · unfold u_lay at hlay
    rw [if_neg (by rw [hfin]; decide)] at hlay
    have h6 := u_store hfc hkC hkind hlay hi hd hn hfit
    refine W.putK hx hb (f := f) ⟨hown, hlink, ⟨_, _, _, hi⟩, hst⟩ (by rw [q2]; exact h6) q1 q3 (by rw [hsl]; exact k2_hasslot (q4 _ c2)) rfl rfl hdg fun H' e1 e2 e3 => ?_
    rw [hsl] at e1 ⊢
    exact kk H' _ (fin H' e1 e2 e3) (hS.put e2 e3 (am_Aa hR hk0))
  · by_cases hfin : (am_tf (e9 / 64) (e9 % 64)).2.2.2 = true
    · unfold u_lay at hlay
      rw [if_pos hfin] at hlay
      have hcf : m.cls = cf := by
        obtain ⟨_, _, c', _, _, _, -, -, hf', -, -, -, hown2, -⟩ := Cond.laysFinal_spec hlay
        have e1 : c' = cf := by have := hi.symm.trans hf'; simp at this; exact this.1.symm
        rw [am_own_ok _ (am_fin11 _ c1 _ c2 hfin) _ c2, ← ho] at hown2
        rw [← e1]; exact Option.some.inj (hown.symm.trans hown2)
      have h6 := u_fits hfc hkC hkind (Or.inr hlay) hi hd hn hfit
      refine W.putFinK hx hb hown hlink hi hst hcf (hki rfl) (by rw [q2]; exact h6) q1 q3 (by rw [hsl]; exact k2_hasslot (q4 _ c2)) rfl rfl hdg fun H' e1 e2 e3 => ?_
      rw [hsl] at e1 ⊢
      exact kk H' _ (fin H' e1 e2 e3) (hS.put e2 e3 (am_Aa hR hk0))
    · unfold u_lay at hlay
      rw [if_neg hfin] at hlay
      have h6 := u_store hfc hkC hkind hlay hi hd hn hfit
      refine W.putK hx hb (f := f) ⟨hown, hlink, ⟨_, _, _, hi⟩, hst⟩ (by rw [q2]; exact h6) q1 q3 (by rw [hsl]; exact k2_hasslot (q4 _ c2)) rfl rfl hdg fun H' e1 e2 e3 => ?_
      rw [hsl] at e1 ⊢
      exact kk H' _ (fin H' e1 e2 e3) (hS.put e2 e3 (am_Aa hR hk0))
theorem am_pi_fs {a ci k : Nat} {x : Int32} (hk : k < am_nf ci) (hr : am_isr ci k = false) : am_fs G (am_pi h a k x) a ci = (am_fs G h a ci).set k (.int x) := by
  apply List.ext_getElem?
  intro j
  rw [List.getElem?_set]
  by_cases hj : j < am_nf ci
  · rw [am_fs_get hj]
    by_cases hjk : k = j
    · subst hjk
      rw [hr, if_neg Bool.false_ne_true, if_pos rfl, if_pos (show k < (am_fs G h a ci).length by rw [am_fs_len]; exact hj)]
      simp [am_pi, am_i, va_up, upd]
    · rw [if_neg hjk, am_fs_get hj]
      simp [am_pi, am_i, am_r, va_up, upd, Ne.symm hjk]
  · have e1 : (am_fs G (am_pi h a k x) a ci)[j]? = none := by rw [List.getElem?_eq_none_iff, am_fs_len]; omega
    have e2 : (am_fs G h a ci)[j]? = none := by rw [List.getElem?_eq_none_iff, am_fs_len]; omega
    rw [e1, if_neg (by omega), e2]
theorem am_pr_fs {a ci k b : Nat} (hk : k < am_nf ci) (hr : am_isr ci k = true) : am_fs G (am_pr h a k b) a ci = (am_fs G h a ci).set k (am_v G (.ref b)) := by
  apply List.ext_getElem?
  intro j
  rw [List.getElem?_set]
  by_cases hj : j < am_nf ci
  · rw [am_fs_get hj]
    by_cases hjk : k = j
    · subst hjk
      rw [hr, if_pos rfl, if_pos rfl, if_pos (show k < (am_fs G h a ci).length by rw [am_fs_len]; exact hj)]
      simp [am_pr, am_r, va_up]
    · rw [if_neg hjk, am_fs_get hj]
      simp [am_pr, am_i, am_r, va_up, Ne.symm hjk]
  · have e1 : (am_fs G (am_pr h a k b) a ci)[j]? = none := by rw [List.getElem?_eq_none_iff, am_fs_len]; omega
    have e2 : (am_fs G h a ci)[j]? = none := by rw [List.getElem?_eq_none_iff, am_fs_len]; omega
    rw [e1, if_neg (by omega), e2]
theorem am_pi_o {a k x : Nat} {v : Int32} (hx : x ≠ a) : am_cell G (am_pi h a k v) x = am_cell G h x := am_cell_eq rfl (by funext z; simp [am_pi, am_i, va_up, hx]) rfl rfl
theorem am_pl_o {a k x : Nat} {v : Int64} (hx : x ≠ a) : am_cell G (am_pl h a k v) x = am_cell G h x := am_cell_eq rfl rfl (by funext z; simp [am_pl, am_l, va_up, hx]) rfl
theorem am_pr_o {a k x b : Nat} (hx : x ≠ a) : am_cell G (am_pr h a k b) x = am_cell G h x := am_cell_eq rfl rfl rfl (by funext z; simp [am_pr, am_r, va_up, hx])
theorem am_cp_o {b sp a dp n x : Nat} (hx : x ≠ a) : am_cell G (am_cp h b sp a dp n) x = am_cell G h x := am_cell_eq rfl (by funext z; simp [am_cp, am_i, va_up, hx]) rfl rfl
theorem am_arr_k {a t : Nat} {i : Int32} (hk : am_arr h a t i) : am_k h a = (t, (am_k h a).2) := Prod.ext hk.1 rfl
theorem am_cell2 {a n : Nat} (hk : am_k h a = (2, n)) : am_cell G h a = .inl (G.2.1 2, n, .inl (am_i h a)) := by unfold am_cell; rw [hk]; rfl
theorem am_cell3 {a n : Nat} (hk : am_k h a = (3, n)) : am_cell G h a = .inl (G.2.1 3, n, .inl (am_i h a)) := by unfold am_cell; rw [hk]; rfl
theorem am_cell4 {a n : Nat} (hk : am_k h a = (4, n)) : am_cell G h a = .inl (G.2.1 6, n, .inr (.inr (.inr (.inr (fun j => if am_r h a j = 0 then none else some (am_ad G (am_r h a j))))))) := by unfold am_cell; rw [hk]; rfl
theorem am_cell5 {a n : Nat} (hk : am_k h a = (5, n)) : am_cell G h a = .inl (G.2.1 6, n, .inr (.inr (.inr (.inr (fun j => if am_r h a j = 0 then none else some (am_ad G (am_r h a j))))))) := by unfold am_cell; rw [hk]; rfl
theorem am_cell6 {a n : Nat} (hk : am_k h a = (6, n)) : am_cell G h a = .inl (G.2.1 6, n, .inr (.inr (.inr (.inr (fun j => if am_r h a j = 0 then none else some (am_ad G (am_r h a j))))))) := by unfold am_cell; rw [hk]; rfl
theorem am_cell7 {a n : Nat} (hk : am_k h a = (7, n)) : am_cell G h a = .inl (G.2.1 7, n, .inr (.inr (.inr (.inr (fun j => if am_r h a j = 0 then none else some (am_ad G (am_r h a j))))))) := by unfold am_cell; rw [hk]; rfl
theorem am_vS (G : am_G) {j : Nat} (hj : j < 1000000) : am_v G (.ref (am_S0 + j)) = .ref (G.2.2.2.1 j) := by
  show am_v G (.ref (2000000 + j)) = _
  rw [am_v1 G (by omega)]
  unfold am_ad
  rw [if_neg (show ¬ 2000000 + j ≤ 1000000 by omega), if_pos (show 2000000 + j < 3000000 by omega), show 2000000 + j - am_S0 = j from Nat.add_sub_cancel_left _ _]
theorem k2_hi {a : Nat} (hlo : ¬ a < am_S0) (hk : am_k2 h a = (1, 10)) : ∃ j : Nat, j < 15 ∧ a = am_S0 + j := by
  have e0 : am_S0 = 2000000 := rfl
  unfold am_k2 at hk
  rw [if_neg hlo] at hk
  by_cases c1 : a - am_S0 < 15
  · exact ⟨a - am_S0, c1, by omega⟩
  · rw [if_neg c1] at hk
    split at hk
    · cases hk
    · split at hk <;> cases hk
theorem k2_hi3 {a : Nat} (hlo : ¬ a < am_S0) (hk : (am_k2 h a).1 = 3) : (∃ j : Nat, j < 15 ∧ a = am_S0 + (1000 + j) ∧ am_k2 h a = (3, (am_strs.getD j []).length) ∧ ∀ k, am_i2 h a k = nI ((am_strs.getD j []).getD k 0)) ∨ (a = am_S0 + 2000 ∧ am_k2 h a = (3, 100) ∧ ∀ k, am_i2 h a k = nI (48 + k % 10)) ∨ (a = am_S0 + 2001 ∧ am_k2 h a = (3, 100) ∧ ∀ k, am_i2 h a k = nI (48 + k / 10)) := by
  have e0 : am_S0 = 2000000 := rfl
  have ei : ∀ k, am_i2 h a k = if a - am_S0 < 1000 then 0 else if a - am_S0 < 2000 then nI ((am_strs.getD (a - am_S0 - 1000) []).getD k 0) else if a - am_S0 = 2000 then nI (48 + k % 10) else nI (48 + k / 10) := fun k => if_neg hlo
  have ek : am_k2 h a = if a - am_S0 < 15 then (1, 10) else if 1000 ≤ a - am_S0 ∧ a - am_S0 < 1015 then (3, (am_strs.getD (a - am_S0 - 1000) []).length) else if a - am_S0 = 2000 ∨ a - am_S0 = 2001 then (3, 100) else (0, 0) := if_neg hlo
  rw [ek] at hk
  by_cases c1 : a - am_S0 < 15
  · rw [if_pos c1] at hk; cases hk
  · rw [if_neg c1] at hk ek
    by_cases c2 : 1000 ≤ a - am_S0 ∧ a - am_S0 < 1015
    · rw [if_pos c2] at ek
      refine Or.inl ⟨a - am_S0 - 1000, by omega, by omega, ek, fun k => ?_⟩
      rw [ei, if_neg (by omega), if_pos (by omega)]
    · rw [if_neg c2] at hk ek
      by_cases c3 : a - am_S0 = 2000 ∨ a - am_S0 = 2001
      · rw [if_pos c3] at ek
        rcases c3 with c3 | c3
        · refine Or.inr (Or.inl ⟨by omega, ek, fun k => ?_⟩)
          rw [ei, if_neg (by omega), if_neg (by omega), if_pos c3]
        · refine Or.inr (Or.inr ⟨by omega, ek, fun k => ?_⟩)
          rw [ei, if_neg (by omega), if_neg (by omega), if_neg (by omega)]
      · rw [if_neg c3] at hk; cases hk
theorem am_new_o {t n w x : Nat} (hx : x ≠ am_n h) : am_cell G (am_new h t n w) x = am_cell G h x := am_cell_eq (by simp [am_new, am_k, va_up, hx]) (by funext z; simp [am_new, am_i, va_up, hx]) (by funext z; simp [am_new, am_l, va_up, hx]) (by funext z; simp [am_new, am_r, va_up, hx])
theorem am_new_k {t n w : Nat} : am_k (am_new h t n w) (am_n h) = (t, n) := by simp [am_new, am_k, va_up]
theorem am_new_ko {t n w x : Nat} (hx : x ≠ am_n h) : am_k (am_new h t n w) x = am_k h x := by simp [am_new, am_k, va_up, hx]
theorem am_S_new {H H1 : Heap} {locs : List Loc} (hS : va_S (am_A G) s.heap H locs) (hz : H1.size = H.size + 1) (oq : ∀ q : Nat, q < H.size → H1[q]? = H[q]?) : va_S (am_A G) s.heap H1 locs :=
  ⟨Nat.le_trans hS.1 (by omega), fun x h1 h2 => (oq x (Nat.lt_of_lt_of_le h1 hS.1)).trans (hS.2.1 x h1 h2), hS.2.2⟩
end

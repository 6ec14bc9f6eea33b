section
variable {G : am_G} {xs : am_X} {own kind : Nat} {cc : ByteArray} {ret : Option FieldType} {p : Program} {l : Launch} {e : Env} {R : Room} {s : State} {m : MethodId} {args : Array Value} {below : List Frame} {meth : Method} {c : Code} {Q : State → Prop} {n0 s0 N1 C1 : Nat} {pc nx : Nat} {op : Instr} {L S L' S' : List Value} {h : am_H} {cal : am_Cal} {hdl : Nat → Nat → Option (Nat × Nat)} {Qq : am_Q}
def am_memo (op : Instr) : Bool := match op with
  | .getfield _ | .getstatic _ | .putfield _ | .putstatic _ | .checkcast _ | .iaload | .baload | .aaload | .daload | .monitorenter | .iastore | .bastore | .aastore | .arraylength | .jsr_w _ | .ret _ | .fneg | .faload | .dastore => true
  | _ => false
theorem am_i8b (x : Int32) (h : x = 0 ∨ x = 1) : narrow .byte (.int x) = .int x ∧ fits .byte (.int x) = true := by
  rcases h with rfl | rfl <;> exact ⟨rfl, rfl⟩
theorem am_i8 (x : Int32) (h : x = 0 ∨ x = 1) : narrow .boolean (.int x) = .int x ∧ fits .boolean (.int x) = true := by
  rcases h with rfl | rfl <;> exact ⟨rfl, rfl⟩
set_option maxHeartbeats 8000000 in
theorem am_memW (E : am_Env G xs own kind cc p R s m args meth c) (hop : am_memo op = true) (ok : am_okb own kind cc ret pc op nx = true) (HS : am_out (am_PP G p l e R s m args below meth c Q n0 s0 N1 C1) cal hdl Qq pc nx L h (am_stp xs op nx S h)) : am_PP G p l e R s m args below meth c Q n0 s0 N1 C1 pc L S h := by
  have E0 := E
  obtain ⟨hx, hb, hown, hts, hsf, hki, hr1, hr2⟩ := E
  have hK := hsf.1
  cases op <;> first | (exfalso; simp only [am_memo] at hop; cases hop; done) | skip
  case getfield e9 =>
    simp only [am_stp] at HS
    split at HS
    · rename_i a S0
      obtain ⟨hk, HS⟩ := (show am_k h a = (1, e9 / 64) ∧ am_PP G p l e R s m args below meth c Q n0 s0 N1 C1 nx L (.int (am_i h a (e9 % 64)) :: S0) h from HS)
      simp only [am_okb] at ok
      split at ok
      · rename_i i9 hd
        simp only [Bool.and_eq_true, beq_iff_eq, List.contains_iff_mem] at ok
        obtain ⟨⟨ok, hi⟩, rfl⟩ := ok
        obtain ⟨c1, c2⟩ := am_fl_ok2 _ ok
        obtain ⟨-, -, g3, g4⟩ := am_ci_ok _ c1
        have hv := am_fs_get (G := G) (h := h) (a := a) (ci := e9 / 64) c2
        rw [hi, if_neg Bool.false_ne_true] at hv
        refine ⟨HS.1, HS.2.1, fun q1 q2 q3 H locs ls hR hS hl => ?_⟩
        have K := HS.2.2 q1 q2 q3 H locs ls hR hS hl
        rw [List.map_cons, am_v1 G (am_nz hR (am_k0 hk))]
        exact va_get (D := G.1) (cl := am_cl) hx hb (Ts := am_TT) hts (fun w hw => am_TT_of (g3 w hw).1 (g3 w hw).2) hown hK (hR.P1 (am_k0 hk) (am_cell1 hk)) 0 rfl g4 (e9 % 64) c2 (am_w hts (am_fl_ok _ ok) rfl) (fun _ z => z) (v := .int (am_i h a (e9 % 64))) hv (am_dec_of hd) K
      · cases ok
    · exact HS.elim
  case getstatic e9 =>
    simp only [am_stp] at HS
    split at HS
    · rename_i a S0
      obtain ⟨hk, HS⟩ := (show am_k h a = (1, e9 / 64) ∧ am_PP G p l e R s m args below meth c Q n0 s0 N1 C1 nx L (.ref (am_r h a (e9 % 64)) :: S0) h from HS)
      simp only [am_okb] at ok
      split at ok
      · rename_i i9 hd
        simp only [Bool.and_eq_true, beq_iff_eq, List.contains_iff_mem] at ok
        obtain ⟨⟨ok, hi⟩, rfl⟩ := ok
        obtain ⟨c1, c2⟩ := am_fl_ok2 _ ok
        obtain ⟨-, -, g3, g4⟩ := am_ci_ok _ c1
        have hv := am_fs_get (G := G) (h := h) (a := a) (ci := e9 / 64) c2
        rw [hi, if_pos rfl] at hv
        refine ⟨HS.1, HS.2.1, fun q1 q2 q3 H locs ls hR hS hl => ?_⟩
        have K := HS.2.2 q1 q2 q3 H locs ls hR hS hl
        rw [List.map_cons, am_v1 G (am_nz hR (am_k0 hk))]
        exact va_get (D := G.1) (cl := am_cl) hx hb (Ts := am_TT) hts (fun w hw => am_TT_of (g3 w hw).1 (g3 w hw).2) hown hK (hR.P1 (am_k0 hk) (am_cell1 hk)) 0 rfl g4 (e9 % 64) c2 (am_w hts (am_fl_ok _ ok) rfl) (fun _ z => z) (v := am_v G (.ref (am_r h a (e9 % 64)))) hv (am_dec_of hd) K
      · cases ok
    · exact HS.elim
  case putfield e9 =>
    simp only [am_stp] at HS
    split at HS
    · rename_i x a S0
      obtain ⟨hk, HS⟩ := (show am_k h a = (1, e9 / 64) ∧ am_PP G p l e R s m args below meth c Q n0 s0 N1 C1 nx L S0 (am_pi h a (e9 % 64) x) from HS)
      simp only [am_okb] at ok
      split at ok
      · rename_i i9 hd
        simp only [Bool.and_eq_true, beq_iff_eq, List.contains_iff_mem, decide_eq_true_eq, Bool.or_eq_true, Bool.not_eq_true'] at ok
        obtain ⟨⟨⟨ok, hi⟩, hf⟩, rfl⟩ := ok
        obtain ⟨c1, c2⟩ := am_fl_ok2 _ ok
        have hr : am_isr (e9 / 64) (e9 % 64) = false := by unfold am_isr; rw [hi]
        refine ⟨HS.1, HS.2.1, fun q1 q2 q3 H locs ls hR hS hl => ?_⟩
        rw [List.map_cons, List.map_cons, am_v1 G (am_nz hR (am_k0 hk))]
        exact am_putW E0 hR hS (h' := am_pi h a (e9 % 64) x) hk ok hf (by rw [hi]; rfl) (by rw [hi]; rfl) rfl (fun _ => rfl) (am_pi_fs c2 hr) (fun x hx => am_pi_o hx) (am_dec_of hd) (fun H1 locs1 hR1 hS1 => HS.2.2 q1 q2 q3 H1 locs1 ls hR1 hS1 hl)
      · cases ok
    · exact HS.elim
  case putstatic e9 =>
    simp only [am_stp] at HS
    split at HS
    · rename_i x a S0
      obtain ⟨hk, HS⟩ := (show (am_k h a = (1, e9 / 64) ∧ (x = 0 ∨ x = 1)) ∧ am_PP G p l e R s m args below meth c Q n0 s0 N1 C1 nx L S0 (am_pi h a (e9 % 64) x) from HS)
      simp only [am_okb] at ok
      split at ok
      · rename_i i9 hd
        simp only [Bool.and_eq_true, beq_iff_eq, List.contains_iff_mem, decide_eq_true_eq, Bool.or_eq_true, Bool.not_eq_true'] at ok
        obtain ⟨⟨⟨ok, hi⟩, hf⟩, rfl⟩ := ok
        obtain ⟨c1, c2⟩ := am_fl_ok2 _ ok
        have hr : am_isr (e9 / 64) (e9 % 64) = false := by unfold am_isr; rcases hi with hi | hi <;> rw [hi]
        have hnf : narrow (am_ty (e9 / 64) (e9 % 64)) (.int x) = .int x ∧ fits (am_ty (e9 / 64) (e9 % 64)) (.int x) = true := by
          rcases hi with hi | hi
          · rw [hi]; exact am_i8 x hk.2
          · rw [hi]; exact am_i8b x hk.2
        refine ⟨HS.1, HS.2.1, fun q1 q2 q3 H locs ls hR hS hl => ?_⟩
        rw [List.map_cons, List.map_cons, am_v1 G (am_nz hR (am_k0 hk.1))]
        exact am_putW E0 hR hS (h' := am_pi h a (e9 % 64) x) hk.1 ok hf hnf.1 hnf.2 rfl (fun _ => rfl) (am_pi_fs c2 hr) (fun x hx => am_pi_o hx) (am_dec_of hd) (fun H1 locs1 hR1 hS1 => HS.2.2 q1 q2 q3 H1 locs1 ls hR1 hS1 hl)
      · cases ok
    · exact HS.elim
  case checkcast e9 =>
    simp only [am_stp] at HS
    split at HS
    · rename_i b a S0
      obtain ⟨hk, HS⟩ := (show am_k h a = (1, e9 / 64) ∧ am_PP G p l e R s m args below meth c Q n0 s0 N1 C1 nx L S0 (am_pr h a (e9 % 64) b) from HS)
      simp only [am_okb] at ok
      split at ok
      · rename_i i9 hd
        simp only [Bool.and_eq_true, beq_iff_eq, List.contains_iff_mem, decide_eq_true_eq, Bool.or_eq_true, Bool.not_eq_true'] at ok
        obtain ⟨⟨⟨ok, hi⟩, hf⟩, rfl⟩ := ok
        obtain ⟨c1, c2⟩ := am_fl_ok2 _ ok
        have hty : (∀ a, narrow (am_ty (e9 / 64) (e9 % 64)) (.ref a) = .ref a ∧ fits (am_ty (e9 / 64) (e9 % 64)) (.ref a) = true) ∧ narrow (am_ty (e9 / 64) (e9 % 64)) .null = .null ∧ fits (am_ty (e9 / 64) (e9 % 64)) .null = true := by
          rcases am_ty_all _ c1 _ c2 with z | z | z | z
          · exfalso; unfold am_isr at hi; rw [z] at hi; cases hi
          · exfalso; unfold am_isr at hi; rw [z] at hi; cases hi
          · exfalso; unfold am_isr at hi; rw [z] at hi; cases hi
          · exact z.2.2
        have hnf : narrow (am_ty (e9 / 64) (e9 % 64)) (am_v G (.ref b)) = am_v G (.ref b) ∧ fits (am_ty (e9 / 64) (e9 % 64)) (am_v G (.ref b)) = true := by
          by_cases hb0 : b = 0
          · subst hb0; exact hty.2
          · rw [am_v1 G hb0]; exact hty.1 _
        refine ⟨HS.1, HS.2.1, fun q1 q2 q3 H locs ls hR hS hl => ?_⟩
        rw [List.map_cons, List.map_cons, am_v1 G (am_nz hR (am_k0 hk))]
        exact am_putW E0 hR hS (h' := am_pr h a (e9 % 64) b) hk ok hf hnf.1 hnf.2 rfl (fun _ => rfl) (am_pr_fs c2 hi) (fun x hx => am_pr_o hx) (am_dec_of hd) (fun H1 locs1 hR1 hS1 => HS.2.2 q1 q2 q3 H1 locs1 ls hR1 hS1 hl)
      · cases ok
    · exact HS.elim
  case iaload =>
    simp only [am_stp] at HS
    split at HS
    · rename_i i a S0
      obtain ⟨hk, HS⟩ := (show am_arr h a 2 i ∧ am_PP G p l e R s m args below meth c Q n0 s0 N1 C1 nx L (.int (am_i h a i.toNatClampNeg) :: S0) h from HS)
      have hk9 := am_arr_k hk
      simp only [am_okb, Bool.and_eq_true, beq_iff_eq, decide_eq_true_eq] at ok
      obtain ⟨hd, rfl⟩ := ok
      refine ⟨HS.1, HS.2.1, fun q1 q2 q3 H locs ls hR hS hl => ?_⟩
      have K := HS.2.2 q1 q2 q3 H locs ls hR hS hl
      rw [List.map_cons, List.map_cons, am_v1 G (am_nz hR (am_k0 hk9))]
      exact va_iald (D := G.1) (cl := am_cl) hx hb hK (hR.P1 (am_k0 hk9) (am_cell2 hk9)) 0 0 rfl rfl hk.2 (am_dec_of hd) K
    · exact HS.elim
  case baload =>
    simp only [am_stp] at HS
    split at HS
    · rename_i i a S0
      obtain ⟨hk, HS⟩ := (show am_arr h a 3 i ∧ am_PP G p l e R s m args below meth c Q n0 s0 N1 C1 nx L (.int (am_i h a i.toNatClampNeg) :: S0) h from HS)
      have hk9 := am_arr_k hk
      simp only [am_okb, Bool.and_eq_true, beq_iff_eq, decide_eq_true_eq] at ok
      obtain ⟨hd, rfl⟩ := ok
      refine ⟨HS.1, HS.2.1, fun q1 q2 q3 H locs ls hR hS hl => ?_⟩
      have K := HS.2.2 q1 q2 q3 H locs ls hR hS hl
      rw [List.map_cons, List.map_cons, am_v1 G (am_nz hR (am_k0 hk9))]
      exact va_bald (D := G.1) (cl := am_cl) hx hb hK (hR.P1 (am_k0 hk9) (am_cell3 hk9)) 0 1 rfl rfl hk.2 (am_dec_of hd) K
    · exact HS.elim
  case aaload =>
    simp only [am_stp] at HS
    split at HS
    · rename_i i a S0
      obtain ⟨hk, HS⟩ := (show am_arr h a 6 i ∧ am_PP G p l e R s m args below meth c Q n0 s0 N1 C1 nx L (.ref (am_r h a i.toNatClampNeg) :: S0) h from HS)
      have hk9 := am_arr_k hk
      simp only [am_okb, Bool.and_eq_true, beq_iff_eq, decide_eq_true_eq] at ok
      obtain ⟨hd, rfl⟩ := ok
      refine ⟨HS.1, HS.2.1, fun q1 q2 q3 H locs ls hR hS hl => ?_⟩
      have K := HS.2.2 q1 q2 q3 H locs ls hR hS hl
      rw [List.map_cons, List.map_cons, am_v1 G (am_nz hR (am_k0 hk9))]
      have e9 : am_v G (.ref (am_r h a i.toNatClampNeg)) = va_rf (if am_r h a i.toNatClampNeg = 0 then none else some (am_ad G (am_r h a i.toNatClampNeg))) := by
        by_cases z : am_r h a i.toNatClampNeg = 0
        · rw [z]; rfl
        · rw [am_v1 G z, if_neg z]; rfl
      rw [List.map_cons, e9] at K
      exact va_aldq (D := G.1) (cl := am_cl) hx hb hK (hR.P1 (am_k0 hk9) (am_cell6 hk9)) 0 3 rfl rfl hk.2 (am_dec_of hd) K
    · exact HS.elim
  case dastore =>
    simp only [am_stp] at HS
    split at HS
    · rename_i i a S0
      obtain ⟨hk, HS⟩ := (show am_arr h a 7 i ∧ am_PP G p l e R s m args below meth c Q n0 s0 N1 C1 nx L (.ref (am_r h a i.toNatClampNeg) :: S0) h from HS)
      have hk9 := am_arr_k hk
      simp only [am_okb] at ok
      split at ok
      rotate_left
      · cases ok
      rename_i hd
      simp only [beq_iff_eq] at ok
      subst ok
      refine ⟨HS.1, HS.2.1, fun q1 q2 q3 H locs ls hR hS hl => ?_⟩
      have K := HS.2.2 q1 q2 q3 H locs ls hR hS hl
      rw [List.map_cons, List.map_cons, am_v1 G (am_nz hR (am_k0 hk9))]
      have e9 : am_v G (.ref (am_r h a i.toNatClampNeg)) = va_rf (if am_r h a i.toNatClampNeg = 0 then none else some (am_ad G (am_r h a i.toNatClampNeg))) := by
        by_cases z : am_r h a i.toNatClampNeg = 0
        · rw [z]; rfl
        · rw [am_v1 G z, if_neg z]; rfl
      rw [List.map_cons, e9] at K
      have hlt : i.toNatClampNeg < (am_k h a).2 := Nat.not_le.mp fun q => hk.2 (Or.inr q)
      exact W.aald (v := va_rf (if am_r h a i.toNatClampNeg = 0 then none else some (am_ad G (am_r h a i.toNatClampNeg)))) (ty := .array .int) hx hb (hR.P1 (am_k0 hk9) (am_cell7 hk9) 0 _ rfl) ((hK.2 2 _ rfl).1 (am_k h a).2 (fun j => va_rf (if am_r h a j = 0 then none else some (am_ad G (am_r h a j))))) rfl (fun q => by cases q) (by show ¬ (i < 0 ∨ (arrV _ _ _).slots.size ≤ _); rw [arrV_size]; exact hk.2) (by show (arrV _ _ _).slots[_]? = _; rw [arrV_read _ _ hlt]) rfl rfl (am_dec_of hd) K
    · exact HS.elim
  case jsr_w w9 =>
    simp only [am_stp] at HS
    split at HS
    · rename_i a S0
      obtain ⟨hk, HS⟩ := (show am_k2 h a = (1, 10) ∧ am_PP G p l e R s m args below meth c Q n0 s0 N1 C1 nx L (.int (am_i2 h a 1) :: S0) h from HS)
      simp only [am_okb] at ok
      split at ok
      · rename_i i9 hd
        simp only [Bool.and_eq_true, beq_iff_eq, List.contains_iff_mem] at ok
        obtain ⟨ok, rfl⟩ := ok
        refine ⟨HS.1, HS.2.1, fun q1 q2 q3 H locs ls hR hS hl => ?_⟩
        have K := HS.2.2 q1 q2 q3 H locs ls hR hS hl
        have hl0 := am_fl_ok _ ok
        dsimp only at hl0
        rw [show (641 : Nat) / 64 = 10 from rfl, show (641 : Nat) % 64 = 1 from rfl] at hl0
        have hln : (Cond.fieldLink (am_cn own) i9 "java/lang/String" "coder" "B").before args s = true := am_w hts hl0 rfl
        by_cases hlo : a < am_S0
        · rw [k2_lo hlo] at hk
          rw [i2_lo hlo] at K
          have hv := am_fs_get (G := G) (h := h) (a := a) (ci := 10) (k := 1) (by decide)
          rw [show am_isr 10 1 = false from rfl, if_neg Bool.false_ne_true] at hv
          obtain ⟨-, -, g3, g4⟩ := am_ci_ok 10 (by decide)
          rw [List.map_cons, am_v1 G (am_nz hR (am_k0 hk))]
          exact va_get (D := G.1) (cl := am_cl) hx hb (Ts := am_TT) hts (fun w hw => am_TT_of (g3 w hw).1 (g3 w hw).2) hown hK (hR.P1 (am_k0 hk) (am_cell1 hk)) 0 rfl g4 1 (by decide) hln (fun _ z => z) (v := .int (am_i h a 1)) hv (am_dec_of hd) K
        · obtain ⟨j, hj, rfl⟩ := k2_hi hlo hk
          have hST := hsf.2.2.2.2.2.2.2.2.2.2.1.1 j hj
          rw [List.map_cons, am_vS G (by omega)]
          rw [(isS_c h hj).2.1] at K
          exact vk_getf hx hb hST.2.1 hS hown hln (fun _ z => z) (am_dec_of hd) K
      · cases ok
    · exact HS.elim
  case ret w9 =>
    simp only [am_stp] at HS
    split at HS
    · rename_i a S0
      obtain ⟨hk, HS⟩ := (show am_k2 h a = (1, 10) ∧ am_PP G p l e R s m args below meth c Q n0 s0 N1 C1 nx L (.ref (am_r2 h a) :: S0) h from HS)
      simp only [am_okb] at ok
      split at ok
      · rename_i i9 hd
        simp only [Bool.and_eq_true, beq_iff_eq, List.contains_iff_mem] at ok
        obtain ⟨ok, rfl⟩ := ok
        refine ⟨HS.1, HS.2.1, fun q1 q2 q3 H locs ls hR hS hl => ?_⟩
        have K := HS.2.2 q1 q2 q3 H locs ls hR hS hl
        have hl0 := am_fl_ok _ ok
        dsimp only at hl0
        rw [show (640 : Nat) / 64 = 10 from rfl, show (640 : Nat) % 64 = 0 from rfl] at hl0
        have hln : (Cond.fieldLink (am_cn own) i9 "java/lang/String" "value" "[B").before args s = true := am_w hts hl0 rfl
        by_cases hlo : a < am_S0
        · rw [k2_lo hlo] at hk
          rw [r2_lo hlo] at K
          have hv := am_fs_get (G := G) (h := h) (a := a) (ci := 10) (k := 0) (by decide)
          rw [show am_isr 10 0 = true from rfl, if_pos rfl] at hv
          obtain ⟨-, -, g3, g4⟩ := am_ci_ok 10 (by decide)
          rw [List.map_cons, am_v1 G (am_nz hR (am_k0 hk))]
          exact va_get (D := G.1) (cl := am_cl) hx hb (Ts := am_TT) hts (fun w hw => am_TT_of (g3 w hw).1 (g3 w hw).2) hown hK (hR.P1 (am_k0 hk) (am_cell1 hk)) 0 rfl g4 0 (by decide) hln (fun _ z => z) (v := am_v G (.ref (am_r h a 0))) hv (am_dec_of hd) K
        · obtain ⟨j, hj, rfl⟩ := k2_hi hlo hk
          have hST := hsf.2.2.2.2.2.2.2.2.2.2.1.1 j hj
          rw [List.map_cons, am_vS G (by omega)]
          have er : am_r2 h (am_S0 + j) = am_S0 + (1000 + j) := by
            unfold am_r2
            rw [if_neg hlo, Nat.add_assoc, Nat.add_comm j 1000]
          rw [er, List.map_cons, am_vS G (by omega)] at K
          exact vk_getf hx hb hST.2.2.1 hS hown hln (fun _ z => z) (am_dec_of hd) K
      · cases ok
    · exact HS.elim
  case fneg =>
    simp only [am_stp] at HS
    split at HS
    · rename_i a S0
      obtain ⟨hk, HS⟩ := (show (am_k2 h a).1 = 3 ∧ am_PP G p l e R s m args below meth c Q n0 s0 N1 C1 nx L (.int (nI (am_k2 h a).2) :: S0) h from HS)
      simp only [am_okb] at ok
      split at ok
      rotate_left
      · cases ok
      rename_i hd
      simp only [beq_iff_eq] at ok
      subst ok
      refine ⟨HS.1, HS.2.1, fun q1 q2 q3 H locs ls hR hS hl => ?_⟩
      have K := HS.2.2 q1 q2 q3 H locs ls hR hS hl
      have hST := hsf.2.2.2.2.2.2.2.2.2.2.1
      by_cases hlo : a < am_S0
      · rw [k2_lo hlo] at hk K
        have hkk : am_k h a = (3, (am_k h a).2) := Prod.ext hk rfl
        have hk0 : (am_k h a).1 ≠ 0 := by omega
        rw [List.map_cons, am_v1 G (am_nz hR hk0)]
        exact va_alen (D := G.1) (cl := am_cl) hx hb hK (hR.P1 hk0 (am_cell3 hkk)) 0 1 rfl rfl rfl (am_dec_of hd) K
      · rcases k2_hi3 hlo hk with ⟨j, hj, rfl, e1, e2⟩ | ⟨rfl, e1, e2⟩ | ⟨rfl, e1, e2⟩
        · rw [e1] at K
          rw [List.map_cons, am_vS G (by omega)]
          exact va_tlen hx hb (hST.1 j hj).2.2.2 hS rfl (am_dec_of hd) K
        · rw [e1] at K
          rw [List.map_cons, am_vS G (by decide)]
          exact va_tlen hx hb hST.2.2.2.1.2 hS rfl (am_dec_of hd) K
        · rw [e1] at K
          rw [List.map_cons, am_vS G (by decide)]
          exact va_tlen hx hb hST.2.2.2.2.2 hS rfl (am_dec_of hd) K
    · exact HS.elim
  case faload =>
    simp only [am_stp] at HS
    split at HS
    · rename_i i a S0
      obtain ⟨⟨hk, hin⟩, HS⟩ := (show ((am_k2 h a).1 = 3 ∧ vp_in i (am_k2 h a).2) ∧ am_PP G p l e R s m args below meth c Q n0 s0 N1 C1 nx L (.int (am_i2 h a i.toNatClampNeg) :: S0) h from HS)
      simp only [am_okb] at ok
      split at ok
      rotate_left
      · cases ok
      rename_i hd
      simp only [beq_iff_eq] at ok
      subst ok
      refine ⟨HS.1, HS.2.1, fun q1 q2 q3 H locs ls hR hS hl => ?_⟩
      have K := HS.2.2 q1 q2 q3 H locs ls hR hS hl
      have hST := hsf.2.2.2.2.2.2.2.2.2.2.1
      by_cases hlo : a < am_S0
      · rw [k2_lo hlo] at hk hin
        rw [i2_lo hlo] at K
        have hkk : am_k h a = (3, (am_k h a).2) := Prod.ext hk rfl
        have hk0 : (am_k h a).1 ≠ 0 := by omega
        rw [List.map_cons, List.map_cons, am_v1 G (am_nz hR hk0)]
        exact va_bald (D := G.1) (cl := am_cl) hx hb hK (hR.P1 hk0 (am_cell3 hkk)) 0 1 rfl rfl hin (am_dec_of hd) K
      · rcases k2_hi3 hlo hk with ⟨j, hj, rfl, e1, e2⟩ | ⟨rfl, e1, e2⟩ | ⟨rfl, e1, e2⟩
        · rw [e1] at hin
          rw [e2] at K
          rw [List.map_cons, List.map_cons, am_vS G (by omega)]
          exact va_tb hx hb (hST.1 j hj).2.2.2 hS hin rfl (am_dec_of hd) K
        · rw [e1] at hin
          rw [e2] at K
          rw [List.map_cons, List.map_cons, am_vS G (by decide)]
          exact va_tb hx hb hST.2.2.2.1.2 hS hin rfl (am_dec_of hd) K
        · rw [e1] at hin
          rw [e2] at K
          rw [List.map_cons, List.map_cons, am_vS G (by decide)]
          exact va_tb hx hb hST.2.2.2.2.2 hS hin rfl (am_dec_of hd) K
    · exact HS.elim
  case daload =>
    simp only [am_stp] at HS
    split at HS
    · rename_i i a S0
      obtain ⟨⟨ha9, hin⟩, HS2⟩ := (show (a = am_scr ∧ vp_in i xs.1) ∧ am_PP G p l e R s m args below meth c Q n0 s0 N1 C1 nx L (.int (xs.2 i.toNatClampNeg) :: S0) h from HS)
      subst ha9
      simp only [am_okb] at ok
      split at ok
      rotate_left
      · cases ok
      rename_i hd
      simp only [beq_iff_eq] at ok
      subst ok
      refine ⟨HS2.1, HS2.2.1, fun q1 q2 q3 H locs ls hR hS hl => ?_⟩
      have K := HS2.2.2 q1 q2 q3 H locs ls hR hS hl
      obtain ⟨-, -, -, hX, hbl, hbs, -⟩ := hsf
      rw [List.map_cons, List.map_cons, am_v1 G (by decide), show am_ad G am_scr = G.2.2.2.2.2 from rfl]
      exact va_sld hx hb hX (by omega) (show ¬ (am_A G) _ from Nat.not_le.mpr hbl) hS hin (am_dec_of hd) K
    · exact HS.elim
  case monitorenter =>
    simp only [am_stp] at HS
    split at HS
    · rename_i a S0
      obtain ⟨ha9, HS2⟩ := (show a = am_scr ∧ am_PP G p l e R s m args below meth c Q n0 s0 N1 C1 nx L (.int (nI xs.1) :: S0) h from HS)
      subst ha9
      simp only [am_okb] at ok
      split at ok
      rotate_left
      · cases ok
      rename_i hd
      simp only [beq_iff_eq] at ok
      subst ok
      refine ⟨HS2.1, HS2.2.1, fun q1 q2 q3 H locs ls hR hS hl => ?_⟩
      have K := HS2.2.2 q1 q2 q3 H locs ls hR hS hl
      obtain ⟨-, -, -, hX, hbl, hbs, -⟩ := hsf
      rw [List.map_cons, am_v1 G (by decide), show am_ad G am_scr = G.2.2.2.2.2 from rfl]
      exact va_slen hx hb hX (by omega) (show ¬ (am_A G) _ from Nat.not_le.mpr hbl) hS (am_dec_of hd) K
    · exact HS.elim
  case iastore =>
    simp only [am_stp] at HS
    split at HS
    · rename_i x i a S0
      obtain ⟨hk, HS⟩ := (show am_arr h a 2 i ∧ am_PP G p l e R s m args below meth c Q n0 s0 N1 C1 nx L S0 (am_pi h a i.toNatClampNeg x) from HS)
      have hk9 := am_arr_k hk
      simp only [am_okb, Bool.and_eq_true, beq_iff_eq, decide_eq_true_eq] at ok
      obtain ⟨hd, rfl⟩ := ok
      refine ⟨HS.1, HS.2.1, fun q1 q2 q3 H locs ls hR hS hl => ?_⟩
      have hk0 := am_k0 hk9
      have hat := hR.2.2.2.2 a hk0
      rw [am_cell2 hk9] at hat
      rw [List.map_cons, List.map_cons, List.map_cons, am_v1 G (am_nz hR hk0)]
      refine W.iast hx hb (a := am_ad G a) hat ((hK.2 0 _ rfl).1 _ _) (fun q => by cases q) (by show ¬ (i < 0 ∨ (arrV _ _ _).slots.size ≤ _); rw [arrV_size]; exact hk.2) rfl rfl (am_dec_of hd) fun H1 e1 z oq => ?_
      refine HS.2.2 q1 q2 q3 H1 _ ls (hR.wr hk0 rfl (fun _ => rfl) z oq ?_ (fun x9 hx9 => am_pi_o hx9) (fun q => by rw [hk9] at q; cases q)) (hS.put z oq (am_Aa hR hk0)) hl
      rw [am_cell2 (h := am_pi h a i.toNatClampNeg x) (show am_k _ a = _ from hk9)]
      show H1[am_ad G a]? = some (vp_cell _ _)
      rw [e1]
      dsimp only
      rw [vp_cell_i, vp_cell_i, arrV_store]
      congr 2
      funext q
      by_cases hq : q = i.toNatClampNeg
      · subst hq
        simp [updV, am_pi, am_i, va_up, upd]
        try rfl
      · simp [updV, am_pi, am_i, va_up, upd, hq]
    · exact HS.elim
  case bastore =>
    simp only [am_stp] at HS
    split at HS
    · rename_i x i a S0
      obtain ⟨hk, HS⟩ := (show am_arr h a 3 i ∧ am_PP G p l e R s m args below meth c Q n0 s0 N1 C1 nx L S0 (am_pi h a i.toNatClampNeg (vp_nar .byte x)) from HS)
      have hk9 := am_arr_k hk
      simp only [am_okb, Bool.and_eq_true, beq_iff_eq, decide_eq_true_eq] at ok
      obtain ⟨hd, rfl⟩ := ok
      refine ⟨HS.1, HS.2.1, fun q1 q2 q3 H locs ls hR hS hl => ?_⟩
      have hk0 := am_k0 hk9
      have hat := hR.2.2.2.2 a hk0
      rw [am_cell3 hk9] at hat
      rw [List.map_cons, List.map_cons, List.map_cons, am_v1 G (am_nz hR hk0)]
      refine W.bast hx hb (a := am_ad G a) hat ((hK.2 1 _ rfl).1 _ _) (fun q => by cases q) (by show ¬ (i < 0 ∨ (arrV _ _ _).slots.size ≤ _); rw [arrV_size]; exact hk.2) rfl rfl (am_dec_of hd) fun H1 e1 z oq => ?_
      refine HS.2.2 q1 q2 q3 H1 _ ls (hR.wr hk0 rfl (fun _ => rfl) z oq ?_ (fun x9 hx9 => am_pi_o hx9) (fun q j hj => by
        rw [i_pi_same]
        split
        · exact am_fitb x
        · exact hR.2.2.1.2 a q j hj)) (hS.put z oq (am_Aa hR hk0)) hl
      rw [am_cell3 (h := am_pi h a i.toNatClampNeg (vp_nar .byte x)) (show am_k _ a = _ from hk9)]
      show H1[am_ad G a]? = some (vp_cell _ _)
      rw [e1]
      dsimp only
      rw [vp_cell_i, vp_cell_i, arrV_store]
      congr 2
      funext q
      by_cases hq : q = i.toNatClampNeg
      · subst hq
        simp [updV, am_pi, am_i, va_up, upd, vp_nar]
        try rfl
      · simp [updV, am_pi, am_i, va_up, upd, vp_nar, hq]
    · exact HS.elim
  case aastore =>
    simp only [am_stp] at HS
    split at HS
    · rename_i b i a S0
      obtain ⟨⟨hk, hkb⟩, HS⟩ := (show (am_arr h a 6 i ∧ am_k h b = (1, 2)) ∧ am_PP G p l e R s m args below meth c Q n0 s0 N1 C1 nx L S0 (am_pr h a i.toNatClampNeg b) from HS)
      have hk9 := am_arr_k hk
      simp only [am_okb, Bool.and_eq_true, beq_iff_eq, decide_eq_true_eq] at ok
      obtain ⟨hd, rfl⟩ := ok
      refine ⟨HS.1, HS.2.1, fun q1 q2 q3 H locs ls hR hS hl => ?_⟩
      have hk0 := am_k0 hk9
      have hat := hR.2.2.2.2 a hk0
      rw [am_cell6 hk9] at hat
      have hbz := am_nz hR (am_k0 hkb)
      rw [List.map_cons, List.map_cons, List.map_cons, am_v1 G (am_nz hR hk0), am_v1 G hbz]
      have hlt : i.toNatClampNeg < (am_k h a).2 := Nat.not_le.mp fun q => hk.2 (Or.inr q)
      have h0 : ¬ i < 0 := fun q => hk.2 (Or.inl q)
      have hvv := hR.2.2.2.2 b (am_k0 hkb)
      rw [am_cell1 hkb] at hvv
      obtain ⟨r', hr', cellV, g1, g2, g3, -⟩ := hvv
      have hcls := (hK.1 2 _ rfl).2
      obtain ⟨kA, comp, k1, k2, k3, -⟩ := (hK.2 3 _ rfl).2
      have hcomp : comp = G.1.1 2 := Option.some.inj (k3.symm.trans hcls.1)
      subst hcomp
      obtain ⟨kC, hkC, -⟩ := hcls.2
      refine W.aast hx hb (a := am_ad G a) (v := am_ad G b) hat (fun q h => by cases h) (fun h => by cases h) k1 k2 rfl hkC ⟨h0, by show _ < (arrV _ _ _).slots.size; rw [arrV_size]; exact hlt⟩ g1 (fun q h => by rw [g3] at h; cases h) (by rw [g2]; exact hkC) (by rw [g2]; exact va_assign hcls) rfl rfl (am_dec_of hd) fun H1 e1 z oq => ?_
      refine HS.2.2 q1 q2 q3 H1 _ ls (hR.wr hk0 rfl (fun _ => rfl) z oq ?_ (fun x9 hx9 => am_pr_o hx9) (fun q => by rw [hk9] at q; cases q)) (hS.put z oq (am_Aa hR hk0)) hl
      rw [am_cell6 (h := am_pr h a i.toNatClampNeg b) (show am_k _ a = _ from hk9)]
      show H1[am_ad G a]? = some (vp_cell _ _)
      rw [e1]
      dsimp only
      rw [vp_cell_q, vp_cell_q, arrV_store]
      congr 2
      funext q
      by_cases hq : q = i.toNatClampNeg
      · subst hq
        simp [updV, am_pr, am_r, va_up, va_rf, hbz]
      · simp [updV, am_pr, am_r, va_up, hq]
        try rfl
    · exact HS.elim
  case arraylength =>
    simp only [am_stp] at HS
    split at HS
    · rename_i a S0
      obtain ⟨⟨k1, k2⟩, HS⟩ := (show (2 ≤ (am_k h a).1 ∧ (am_k h a).1 ≤ 6) ∧ am_PP G p l e R s m args below meth c Q n0 s0 N1 C1 nx L (.int (nI (am_k h a).2) :: S0) h from HS)
      simp only [am_okb, Bool.and_eq_true, beq_iff_eq, decide_eq_true_eq] at ok
      obtain ⟨hd, rfl⟩ := ok
      refine ⟨HS.1, HS.2.1, fun q1 q2 q3 H locs ls hR hS hl => ?_⟩
      have K := HS.2.2 q1 q2 q3 H locs ls hR hS hl
      have hk0 : (am_k h a).1 ≠ 0 := by omega
      rw [List.map_cons, am_v1 G (am_nz hR hk0)]
      obtain ⟨t, n, hkk⟩ : ∃ t n, am_k h a = (t, n) := ⟨_, _, rfl⟩
      rw [hkk] at k1 k2 K
      dsimp only at k1 k2 K
      rcases (show t = 2 ∨ t = 3 ∨ t = 4 ∨ t = 5 ∨ t = 6 by omega) with rfl | rfl | rfl | rfl | rfl
      · exact va_alen (D := G.1) (cl := am_cl) hx hb hK (hR.P1 hk0 (am_cell2 hkk)) 0 0 rfl rfl rfl (am_dec_of hd) K
      · exact va_alen (D := G.1) (cl := am_cl) hx hb hK (hR.P1 hk0 (am_cell3 hkk)) 0 1 rfl rfl rfl (am_dec_of hd) K
      · exact va_alen (D := G.1) (cl := am_cl) hx hb hK (hR.P1 hk0 (am_cell4 hkk)) 0 3 rfl rfl rfl (am_dec_of hd) K
      · exact va_alen (D := G.1) (cl := am_cl) hx hb hK (hR.P1 hk0 (am_cell5 hkk)) 0 3 rfl rfl rfl (am_dec_of hd) K
      · exact va_alen (D := G.1) (cl := am_cl) hx hb hK (hR.P1 hk0 (am_cell6 hkk)) 0 3 rfl rfl rfl (am_dec_of hd) K
    · exact HS.elim
end

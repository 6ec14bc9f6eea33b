/-! THE LAW: its forty calls -/
abbrev LW (xs : am_X) (d : Nat) (Q : am_Q) : am_K := am_W xs (am_code at_La_law) (am_hd ah_La_law) (am_C xs am_P0 d) Q
abbrev lL (i : Nat) (v5 v6 v7 v8 : Value) : List Value := [.ref am_scr, .ref 1, .ref 87, .ref 104, .int (nI (6 * i)), v5, v6, v7, v8]
/-- where a call begins -/
def Lc (xs : am_X) (d : Nat) (Q : am_Q) (i : Nat) (h : am_H) (st : stD) : Prop := (22 ≤ d ∧ 6 * i + 5 < xs.1 ∧ xs.1 ≤ 3072) ∧ (CI h st ∧ MI h st ∧ TN h ∧ am_n h < 800000) ∧ ∀ h' st' v5 v6 v7 v8, CI h' st' → MI h' st' → TN h' → am_n h' ≤ am_n h + 3 → am_cs h' ≤ am_cs h + 720 → LW xs d Q 1936 (lL i v5 v6 v7 v8) [] h'
/-- an int of the script -/
def sx (xs : am_X) (i j : Nat) : Int32 := xs.2 (nI (6 * i) + nI j).toNatClampNeg
section
variable {xs : am_X} {d i : Nat} {h : am_H} {st : stD} {Q : am_Q}
theorem Lc.ar (C : Lc xs d Q i h st) {j : Nat} (hj : j ≤ 5) : am_scr = am_scr ∧ vp_in (nI (6 * i) + nI j) xs.1 := ⟨rfl, by rw [nI_add]; exact vp_in_nI (by have := C.1.2.1; omega) (by have := C.1.2.2; omega)⟩
theorem Lc.fin (C : Lc xs d Q i h st) {h1 h2 : am_H} {st' : stD} (F1 : clF2 h h1) (F2 : moF h1 h2) (I2 : CI h2 st') (M2 : MI h2 st') (v5 v6 v7 v8 : Value) : LW xs d Q 1936 (lL i v5 v6 v7 v8) [] h2 := by
  have n := F2.n
  have c := F2.cs
  exact C.2.2 h2 st' v5 v6 v7 v8 I2 M2 (TN_mo (TN_cl C.2.1.2.2.1 F1) F2) (by rw [n]; exact F1.2.2.1.2) (by rw [c]; exact F1.2.2.2)
theorem ck_out {h : am_H} (hs : sh h) : am_arr h 104 5 (nI 0) := ck_arr (sk_104 hs) (e := 0) rfl (by decide) (by decide)
set_option maxHeartbeats 4000000 in
theorem l_errorOffset (C : Lc xs d Q i h st) (v5 v6 v7 v8 : Value) : LW xs d Q 345 (lL i v5 v6 v7 v8) [] h := by
  obtain ⟨⟨hd, hb, h3⟩, ⟨I, M, T, hN⟩, nx⟩ := id C
  refine am_go (fun p => p == 1936) (fun K cal Q' hK hC hQ => ?_)
  refine And.intro (sk_1 I.1) (hC _ _ _ _ (k_errorOffset (by omega) I (fun h1 I1 F1 => ?_)))
  have M1 := MI_cl M I1.1 (clF2_of F1)
  refine And.intro (sk_87 I1.1) (hC _ _ _ _ (q_errorOffset (by omega) M1 (fun h2 M2 F2 e0 => ?_)))
  exact And.intro (fun _ => hK _ _ _ _ (C.fin (clF2_of F1) F2 (CI_mo I1 F2) M2 _ _ _ _)) (fun z => absurd rfl z)
set_option maxHeartbeats 4000000 in
theorem l_size (C : Lc xs d Q i h st) (v5 v6 v7 v8 : Value) : LW xs d Q 358 (lL i v5 v6 v7 v8) [] h := by
  obtain ⟨⟨hd, hb, h3⟩, ⟨I, M, T, hN⟩, nx⟩ := id C
  refine am_go (fun p => p == 1936) (fun K cal Q' hK hC hQ => ?_)
  refine And.intro (sk_1 I.1) (hC _ _ _ _ (k_size (by omega) I (fun h1 I1 F1 => ?_)))
  have M1 := MI_cl M I1.1 (clF2_of F1)
  refine And.intro (sk_87 I1.1) (hC _ _ _ _ (q_size (by omega) M1 (fun h2 M2 F2 e0 => ?_)))
  exact And.intro (fun _ => hK _ _ _ _ (C.fin (clF2_of F1) F2 (CI_mo I1 F2) M2 _ _ _ _)) (fun z => absurd rfl z)
set_option maxHeartbeats 4000000 in
theorem l_edgeCount (C : Lc xs d Q i h st) (v5 v6 v7 v8 : Value) : LW xs d Q 371 (lL i v5 v6 v7 v8) [] h := by
  obtain ⟨⟨hd, hb, h3⟩, ⟨I, M, T, hN⟩, nx⟩ := id C
  refine am_go (fun p => p == 1936) (fun K cal Q' hK hC hQ => ?_)
  refine And.intro (sk_1 I.1) (hC _ _ _ _ (k_edgeCount (by omega) I (fun h1 I1 F1 => ?_)))
  have M1 := MI_cl M I1.1 (clF2_of F1)
  refine And.intro (sk_87 I1.1) (hC _ _ _ _ (q_edgeCount (by omega) M1 (fun h2 M2 F2 e0 => ?_)))
  exact And.intro (fun _ => hK _ _ _ _ (C.fin (clF2_of F1) F2 (CI_mo I1 F2) M2 _ _ _ _)) (fun z => absurd rfl z)
set_option maxHeartbeats 4000000 in
theorem l_terminals (C : Lc xs d Q i h st) (v5 v6 v7 v8 : Value) : LW xs d Q 384 (lL i v5 v6 v7 v8) [] h := by
  obtain ⟨⟨hd, hb, h3⟩, ⟨I, M, T, hN⟩, nx⟩ := id C
  refine am_go (fun p => p == 1936) (fun K cal Q' hK hC hQ => ?_)
  refine And.intro (sk_1 I.1) (hC _ _ _ _ (k_terminals (by omega) I (fun h1 I1 F1 => ?_)))
  have M1 := MI_cl M I1.1 (clF2_of F1)
  refine And.intro (sk_87 I1.1) (hC _ _ _ _ (q_terminals (by omega) M1 (fun h2 M2 F2 e0 => ?_)))
  exact And.intro (fun _ => hK _ _ _ _ (C.fin (clF2_of F1) F2 (CI_mo I1 F2) M2 _ _ _ _)) (fun z => absurd rfl z)
set_option maxHeartbeats 4000000 in
theorem l_lowerBound (C : Lc xs d Q i h st) (v5 v6 v7 v8 : Value) : LW xs d Q 752 (lL i v5 v6 v7 v8) [] h := by
  obtain ⟨⟨hd, hb, h3⟩, ⟨I, M, T, hN⟩, nx⟩ := id C
  refine am_go (fun p => p == 1936) (fun K cal Q' hK hC hQ => ?_)
  refine And.intro (sk_1 I.1) (hC _ _ _ _ (k_lowerBound (by omega) I (fun h1 I1 F1 => ?_)))
  have M1 := MI_cl M I1.1 (clF2_of F1)
  refine And.intro (sk_87 I1.1) (hC _ _ _ _ (q_lowerBound (by omega) M1 (fun h2 M2 F2 e0 => ?_)))
  exact And.intro (fun _ => hK _ _ _ _ (C.fin (clF2_of F1) F2 (CI_mo I1 F2) M2 _ _ _ _)) (fun z => absurd rfl z)
set_option maxHeartbeats 4000000 in
theorem l_rounds (C : Lc xs d Q i h st) (v5 v6 v7 v8 : Value) : LW xs d Q 897 (lL i v5 v6 v7 v8) [] h := by
  obtain ⟨⟨hd, hb, h3⟩, ⟨I, M, T, hN⟩, nx⟩ := id C
  refine am_go (fun p => p == 1936) (fun K cal Q' hK hC hQ => ?_)
  refine And.intro (sk_1 I.1) (hC _ _ _ _ (k_rounds (by omega) I (fun h1 I1 F1 => ?_)))
  have M1 := MI_cl M I1.1 (clF2_of F1)
  refine And.intro (sk_87 I1.1) (hC _ _ _ _ (q_rounds (by omega) M1 (fun h2 M2 F2 e0 => ?_)))
  exact And.intro (fun _ => hK _ _ _ _ (C.fin (clF2_of F1) F2 (CI_mo I1 F2) M2 _ _ _ _)) (fun z => absurd rfl z)
set_option maxHeartbeats 4000000 in
theorem l_exactCost (C : Lc xs d Q i h st) (v5 v6 v7 v8 : Value) : LW xs d Q 966 (lL i v5 v6 v7 v8) [] h := by
  obtain ⟨⟨hd, hb, h3⟩, ⟨I, M, T, hN⟩, nx⟩ := id C
  refine am_go (fun p => p == 1936) (fun K cal Q' hK hC hQ => ?_)
  refine And.intro (sk_1 I.1) (hC _ _ _ _ (k_exactCost (by omega) I (fun h1 I1 F1 => ?_)))
  have M1 := MI_cl M I1.1 (clF2_of F1)
  refine And.intro (sk_87 I1.1) (hC _ _ _ _ (q_exactCost (by omega) M1 (fun h2 M2 F2 e0 => ?_)))
  exact And.intro (fun _ => hK _ _ _ _ (C.fin (clF2_of F1) F2 (CI_mo I1 F2) M2 _ _ _ _)) (fun z => absurd rfl z)
set_option maxHeartbeats 4000000 in
theorem l_cost (C : Lc xs d Q i h st) (v5 v6 v7 v8 : Value) : LW xs d Q 1259 (lL i v5 v6 v7 v8) [] h := by
  obtain ⟨⟨hd, hb, h3⟩, ⟨I, M, T, hN⟩, nx⟩ := id C
  refine am_go (fun p => p == 1936) (fun K cal Q' hK hC hQ => ?_)
  refine And.intro (sk_1 I.1) (hC _ _ _ _ (k_cost (by omega) I (fun h1 I1 F1 => ?_)))
  have M1 := MI_cl M I1.1 (clF2_of F1)
  refine And.intro (sk_87 I1.1) (hC _ _ _ _ (q_cost (by omega) M1 (fun h2 M2 F2 e0 => ?_)))
  exact And.intro (fun _ => hK _ _ _ _ (C.fin (clF2_of F1) F2 (CI_mo I1 F2) M2 _ _ _ _)) (fun z => absurd rfl z)
set_option maxHeartbeats 4000000 in
theorem l_cut (C : Lc xs d Q i h st) (v5 v6 v7 v8 : Value) : LW xs d Q 1272 (lL i v5 v6 v7 v8) [] h := by
  obtain ⟨⟨hd, hb, h3⟩, ⟨I, M, T, hN⟩, nx⟩ := id C
  refine am_go (fun p => p == 1936) (fun K cal Q' hK hC hQ => ?_)
  refine And.intro (sk_1 I.1) (hC _ _ _ _ (k_cut (by omega) I (fun h1 I1 F1 => ?_)))
  have M1 := MI_cl M I1.1 (clF2_of F1)
  refine And.intro (sk_87 I1.1) (hC _ _ _ _ (q_cut (by omega) M1 (fun h2 M2 F2 e0 => ?_)))
  exact And.intro (fun _ => hK _ _ _ _ (C.fin (clF2_of F1) F2 (CI_mo I1 F2) M2 _ _ _ _)) (fun z => absurd rfl z)
set_option maxHeartbeats 4000000 in
theorem l_useNearest (C : Lc xs d Q i h st) (v5 v6 v7 v8 : Value) : LW xs d Q 1495 (lL i v5 v6 v7 v8) [] h := by
  obtain ⟨⟨hd, hb, h3⟩, ⟨I, M, T, hN⟩, nx⟩ := id C
  refine am_go (fun p => p == 1936) (fun K cal Q' hK hC hQ => ?_)
  refine And.intro (sk_1 I.1) (hC _ _ _ _ (k_useNearest (by omega) I (fun h1 I1 F1 => ?_)))
  have M1 := MI_cl M I1.1 (clF2_of F1)
  refine And.intro (sk_87 I1.1) (hC _ _ _ _ (q_useNearest (by omega) M1 (fun h2 M2 F2 => ?_)))
  exact And.intro (fun _ => hK _ _ _ _ (C.fin (clF2_of F1) F2 (CI_mo I1 F2) M2 _ _ _ _)) (fun z => absurd rfl z)
set_option maxHeartbeats 4000000 in
theorem l_useExact (C : Lc xs d Q i h st) (v5 v6 v7 v8 : Value) : LW xs d Q 1552 (lL i v5 v6 v7 v8) [] h := by
  obtain ⟨⟨hd, hb, h3⟩, ⟨I, M, T, hN⟩, nx⟩ := id C
  refine am_go (fun p => p == 1936) (fun K cal Q' hK hC hQ => ?_)
  refine And.intro (sk_1 I.1) (hC _ _ _ _ (k_useExact (by omega) I (fun h1 I1 F1 => ?_)))
  have M1 := MI_cl M I1.1 (clF2_of F1)
  refine And.intro (sk_87 I1.1) (hC _ _ _ _ (q_useExact (by omega) M1 (fun h2 M2 F2 => ?_)))
  exact And.intro (fun _ => hK _ _ _ _ (C.fin (clF2_of F1) F2 (CI_mo I1 F2) M2 _ _ _ _)) (fun z => absurd rfl z)
set_option maxHeartbeats 4000000 in
theorem l_undo (C : Lc xs d Q i h st) (v5 v6 v7 v8 : Value) : LW xs d Q 1909 (lL i v5 v6 v7 v8) [] h := by
  obtain ⟨⟨hd, hb, h3⟩, ⟨I, M, T, hN⟩, nx⟩ := id C
  refine am_go (fun p => p == 1936) (fun K cal Q' hK hC hQ => ?_)
  refine And.intro (sk_1 I.1) (hC _ _ _ _ (k_undo (by omega) I (fun e => ?_) (fun g t h1 e I1 F1 => ?_)))
  · refine And.intro (sk_87 I.1) (hC _ _ _ _ (q_undo (by omega) M (fun _ h2 M2 F2 => ?_) (fun g t h2 e2 _ _ => by rw [e] at e2; cases e2)))
    exact And.intro (fun _ => hK _ _ _ _ (C.fin (clF2_of clF.rf) F2 (CI_mo I F2) M2 _ _ _ _)) (fun z => absurd rfl z)
  · have M1 := MI_cl M I1.1 (clF2_of F1)
    refine And.intro (sk_87 I1.1) (hC _ _ _ _ (q_undo (by omega) M1 (fun e2 h2 _ _ => by rw [e] at e2; cases e2) (fun g2 t2 h2 e2 M2 F2 => ?_)))
    rw [e] at e2
    cases e2
    exact And.intro (fun _ => hK _ _ _ _ (C.fin (clF2_of F1) F2 (CI_mo I1 F2) M2 _ _ _ _)) (fun z => absurd rfl z)
set_option maxHeartbeats 4000000 in
theorem l_checksum (C : Lc xs d Q i h st) (v5 v6 v7 v8 : Value) : LW xs d Q 1922 (lL i v5 v6 v7 v8) [] h := by
  obtain ⟨⟨hd, hb, h3⟩, ⟨I, M, T, hN⟩, nx⟩ := id C
  refine am_go (fun p => p == 1936) (fun K cal Q' hK hC hQ => ?_)
  refine And.intro (sk_1 I.1) (hC _ _ _ _ (k_checksum (by omega) I (fun h1 I1 F1 => ?_)))
  have M1 := MI_cl M I1.1 (clF2_of F1)
  refine And.intro (sk_87 I1.1) (hC _ _ _ _ (q_checksum (by omega) M1 (fun h2 M2 F2 => ?_)))
  exact And.intro (fun _ => hK _ _ _ _ (C.fin (clF2_of F1) F2 (CI_mo I1 F2) M2 _ _ _ _)) (fun z => absurd (lg_same _) z)
set_option maxHeartbeats 4000000 in
theorem l_append (C : Lc xs d Q i h st) (v5 v6 v7 v8 : Value) : LW xs d Q 216 (lL i v5 v6 v7 v8) [] h := by
  obtain ⟨⟨hd, hb, h3⟩, ⟨I, M, T, hN⟩, nx⟩ := id C
  refine am_go (fun p => p == 1936) (fun K cal Q' hK hC hQ => ?_)
  refine And.intro (C.ar (j := 1) (by decide)) (And.intro (C.ar (j := 2) (by decide)) (And.intro (C.ar (j := 3) (by decide)) (And.intro (C.ar (j := 4) (by decide)) (And.intro (C.ar (j := 5) (by decide)) ?_))))
  refine And.intro (sk_1 I.1) (hC _ _ _ _ (k_append (by omega) I (fun j => sx xs i (j + 1)) (fun e => ?_) (fun h1 e I1 F1 => ?_)))
  · refine And.intro (C.ar (j := 1) (by decide)) (And.intro (C.ar (j := 2) (by decide)) (And.intro (C.ar (j := 3) (by decide)) (And.intro (C.ar (j := 4) (by decide)) (And.intro (C.ar (j := 5) (by decide)) ?_))))
    refine And.intro (sk_87 I.1) (hC _ _ _ _ (q_append (by omega) M (fun j => sx xs i (j + 1)) (fun _ h2 M2 F2 => ?_) (fun h2 e2 _ _ => by omega)))
    exact And.intro (fun _ => hK _ _ _ _ (C.fin (clF2_of clF.rf) F2 (CI_mo I F2) M2 _ _ _ _)) (fun z => absurd rfl z)
  · have M1 := MI_cl M I1.1 (clF2_of F1)
    refine And.intro (C.ar (j := 1) (by decide)) (And.intro (C.ar (j := 2) (by decide)) (And.intro (C.ar (j := 3) (by decide)) (And.intro (C.ar (j := 4) (by decide)) (And.intro (C.ar (j := 5) (by decide)) ?_))))
    refine And.intro (sk_87 I1.1) (hC _ _ _ _ (q_append (by omega) M1 (fun j => sx xs i (j + 1)) (fun e2 h2 _ _ => by omega) (fun h2 e2 M2 F2 => ?_)))
    exact And.intro (fun _ => hK _ _ _ _ (C.fin (clF2_of F1) F2 (CI_mo I1 F2) M2 _ _ _ _)) (fun z => absurd rfl z)
set_option maxHeartbeats 4000000 in
theorem l_ratio (C : Lc xs d Q i h st) (v5 v6 v7 v8 : Value) : LW xs d Q 1285 (lL i v5 v6 v7 v8) [] h := by
  obtain ⟨⟨hd, hb, h3⟩, ⟨I, M, T, hN⟩, nx⟩ := id C
  have wf : gwf st.1 := I.2.1.2.2.2.2.2.2
  have nn : vf_n64 (FP.f2d (sRatio st.1)) := sRatio_n wf
  refine am_go (fun p => p == 1936) (fun K cal Q' hK hC hQ => ?_)
  refine And.intro (sk_1 I.1) (hC _ _ _ _ (k_ratio (by omega) I (fun h1 I1 F1 => ?_)))
  have M1 := MI_cl M I1.1 (clF2_of F1)
  refine And.intro nn (And.intro (sk_87 I1.1) (hC _ _ _ _ (q_ratio (by omega) M1 (fun h2 M2 F2 => ?_))))
  refine And.intro nn ?_
  have fin := fun a b c e => hK _ _ _ _ (C.fin (clF2_of F1) F2 (CI_mo I1 F2) M2 a b c e)
  refine And.intro (fun _ => fin _ _ _ _) (fun z => ?_)
  refine And.intro (fun y => absurd y z) (fun _ => ?_)
  exact And.intro (fun _ => fin _ _ _ _) (fun y => absurd (Classical.not_not.mp y) z)
set_option maxHeartbeats 4000000 in
theorem l_meanCost (C : Lc xs d Q i h st) (v5 v6 v7 v8 : Value) : LW xs d Q 1328 (lL i v5 v6 v7 v8) [] h := by
  obtain ⟨⟨hd, hb, h3⟩, ⟨I, M, T, hN⟩, nx⟩ := id C
  have wf : gwf st.1 := I.2.1.2.2.2.2.2.2
  have nn : vf_n64 (FP.f2d (sMean st.1)) := f2d_pos (sMean_pos wf)
  refine am_go (fun p => p == 1936) (fun K cal Q' hK hC hQ => ?_)
  refine And.intro (sk_1 I.1) (hC _ _ _ _ (k_meanCost (by omega) I (fun h1 I1 F1 => ?_)))
  have M1 := MI_cl M I1.1 (clF2_of F1)
  refine And.intro nn (And.intro (sk_87 I1.1) (hC _ _ _ _ (q_meanCost (by omega) M1 (fun h2 M2 F2 => ?_))))
  refine And.intro nn ?_
  have fin := fun a b c e => hK _ _ _ _ (C.fin (clF2_of F1) F2 (CI_mo I1 F2) M2 a b c e)
  refine And.intro (fun _ => fin _ _ _ _) (fun z => ?_)
  refine And.intro (fun y => absurd y z) (fun _ => ?_)
  exact And.intro (fun _ => fin _ _ _ _) (fun y => absurd (Classical.not_not.mp y) z)
theorem cd_sBurden (g : gD) (v : Int32) : (sBurden g v).1 ≤ 3 := by
  unfold sBurden
  repeat' split
  all_goals exact Nat.le_of_ble_eq_true rfl
set_option maxHeartbeats 4000000 in
theorem l_burden (C : Lc xs d Q i h st) (v5 v6 v7 v8 : Value) : LW xs d Q 397 (lL i v5 v6 v7 v8) [] h := by
  obtain ⟨⟨hd, hb, h3⟩, ⟨I, M, T, hN⟩, nx⟩ := id C
  have cd := cd_sBurden st.1 (sx xs i 1)
  refine am_go (fun p => p == 1936) (fun K cal Q' hK hC hQ => ?_)
  refine And.intro (C.ar (j := 1) (by decide)) (And.intro trivial (hC _ _ _ _ (h_burden (by omega) I (Nat.lt_trans hN (by decide)) (sx xs i 1) (fun h1 I1 F1 o1 => ?_))))
  have M1 := MI_cl M I1.1 F1
  refine And.intro (C.ar (j := 1) (by decide)) (And.intro (sk_87 I1.1) (hC _ _ _ _ (q_burden (by omega) M1 (sx xs i 1) (fun h2 M2 F2 e0 => ?_))))
  have I2 := CI_mo I1 F2
  have o2 := out_mo F2
  refine And.intro (sk_87 I2.1) (hC _ _ _ _ (q_thrown (by omega) M2 ?_))
  refine And.intro (fun _ => ?_) (fun z => absurd e0 z)
  have fin := fun a b c e => hK _ _ _ _ (C.fin F1 F2 I2 M2 a b c e)
  refine And.intro (fun _ => fin _ _ _ _) (fun z => ?_)
  have c0 := (nI_eq (Nat.lt_of_le_of_lt cd (by decide)) (by decide)).mp (show nI (sBurden st.1 (sx xs i 1)).1 = nI 0 from Classical.not_not.mp z)
  refine And.intro (ck_out I2.1) ?_
  have e9 : lg_cmp (am_l h2 104 0) (sBurden st.1 (sx xs i 1)).2.toInt64 = 0 := by rw [o2, o1 c0]; exact lg_same _
  exact And.intro (fun _ => fin _ _ _ _) (fun y => absurd e9 y)
theorem cd_sCutCost (g : gD) (v : Int32) : (sCutCost g v).1 ≤ 3 := by
  unfold sCutCost
  repeat' split
  all_goals exact Nat.le_of_ble_eq_true rfl
set_option maxHeartbeats 4000000 in
theorem l_cutCost (C : Lc xs d Q i h st) (v5 v6 v7 v8 : Value) : LW xs d Q 521 (lL i v5 v6 v7 v8) [] h := by
  obtain ⟨⟨hd, hb, h3⟩, ⟨I, M, T, hN⟩, nx⟩ := id C
  have cd := cd_sCutCost st.1 (sx xs i 1)
  refine am_go (fun p => p == 1936) (fun K cal Q' hK hC hQ => ?_)
  refine And.intro (C.ar (j := 1) (by decide)) (And.intro trivial (hC _ _ _ _ (h_cutCost (by omega) I (Nat.lt_trans hN (by decide)) (sx xs i 1) (fun h1 I1 F1 o1 => ?_))))
  have M1 := MI_cl M I1.1 F1
  refine And.intro (C.ar (j := 1) (by decide)) (And.intro (sk_87 I1.1) (hC _ _ _ _ (q_cutCost (by omega) M1 (sx xs i 1) (fun h2 M2 F2 e0 => ?_))))
  have I2 := CI_mo I1 F2
  have o2 := out_mo F2
  refine And.intro (sk_87 I2.1) (hC _ _ _ _ (q_thrown (by omega) M2 ?_))
  refine And.intro (fun _ => ?_) (fun z => absurd e0 z)
  have fin := fun a b c e => hK _ _ _ _ (C.fin F1 F2 I2 M2 a b c e)
  refine And.intro (fun _ => fin _ _ _ _) (fun z => ?_)
  have c0 := (nI_eq (Nat.lt_of_le_of_lt cd (by decide)) (by decide)).mp (show nI (sCutCost st.1 (sx xs i 1)).1 = nI 0 from Classical.not_not.mp z)
  refine And.intro (ck_out I2.1) ?_
  have e9 : lg_cmp (am_l h2 104 0) (sCutCost st.1 (sx xs i 1)).2.toInt64 = 0 := by rw [o2, o1 c0]; exact lg_same _
  exact And.intro (fun _ => fin _ _ _ _) (fun y => absurd e9 y)
theorem cd_sIsoV (g : gD) (v : Int32) : (sIsoV g v).1 ≤ 3 := by
  unfold sIsoV
  repeat' split
  all_goals exact Nat.le_of_ble_eq_true rfl
set_option maxHeartbeats 4000000 in
theorem l_isolatingValue (C : Lc xs d Q i h st) (v5 v6 v7 v8 : Value) : LW xs d Q 640 (lL i v5 v6 v7 v8) [] h := by
  obtain ⟨⟨hd, hb, h3⟩, ⟨I, M, T, hN⟩, nx⟩ := id C
  have cd := cd_sIsoV st.1 (sx xs i 1)
  refine am_go (fun p => p == 1936) (fun K cal Q' hK hC hQ => ?_)
  refine And.intro (C.ar (j := 1) (by decide)) (And.intro trivial (hC _ _ _ _ (h_isolatingValue (by omega) I (Nat.lt_trans hN (by decide)) (sx xs i 1) (fun h1 I1 F1 o1 => ?_))))
  have M1 := MI_cl M I1.1 F1
  refine And.intro (C.ar (j := 1) (by decide)) (And.intro (sk_87 I1.1) (hC _ _ _ _ (q_isoV (by omega) M1 (sx xs i 1) (fun h2 M2 F2 e0 => ?_))))
  have I2 := CI_mo I1 F2
  have o2 := out_mo F2
  refine And.intro (sk_87 I2.1) (hC _ _ _ _ (q_thrown (by omega) M2 ?_))
  refine And.intro (fun _ => ?_) (fun z => absurd e0 z)
  have fin := fun a b c e => hK _ _ _ _ (C.fin F1 F2 I2 M2 a b c e)
  refine And.intro (fun _ => fin _ _ _ _) (fun z => ?_)
  have c0 := (nI_eq (Nat.lt_of_le_of_lt cd (by decide)) (by decide)).mp (show nI (sIsoV st.1 (sx xs i 1)).1 = nI 0 from Classical.not_not.mp z)
  refine And.intro (ck_out I2.1) ?_
  have e9 : lg_cmp (am_l h2 104 0) (sIsoV st.1 (sx xs i 1)).2.toInt64 = 0 := by rw [o2, o1 c0]; exact lg_same _
  exact And.intro (fun _ => fin _ _ _ _) (fun y => absurd e9 y)
theorem cd_sIsoS (g : gD) (v : Int32) : (sIsoS g v).1 ≤ 3 := by
  unfold sIsoS
  repeat' split
  all_goals exact Nat.le_of_ble_eq_true rfl
set_option maxHeartbeats 4000000 in
theorem l_isolatingSet (C : Lc xs d Q i h st) (v5 v6 v7 v8 : Value) : LW xs d Q 696 (lL i v5 v6 v7 v8) [] h := by
  obtain ⟨⟨hd, hb, h3⟩, ⟨I, M, T, hN⟩, nx⟩ := id C
  have cd := cd_sIsoS st.1 (sx xs i 1)
  refine am_go (fun p => p == 1936) (fun K cal Q' hK hC hQ => ?_)
  refine And.intro (C.ar (j := 1) (by decide)) (And.intro trivial (hC _ _ _ _ (h_isolatingSet (by omega) I (Nat.lt_trans hN (by decide)) (sx xs i 1) (fun h1 I1 F1 o1 => ?_))))
  have M1 := MI_cl M I1.1 F1
  refine And.intro (C.ar (j := 1) (by decide)) (And.intro (sk_87 I1.1) (hC _ _ _ _ (q_isoS (by omega) M1 (sx xs i 1) (fun h2 M2 F2 e0 => ?_))))
  have I2 := CI_mo I1 F2
  have o2 := out_mo F2
  refine And.intro (sk_87 I2.1) (hC _ _ _ _ (q_thrown (by omega) M2 ?_))
  refine And.intro (fun _ => ?_) (fun z => absurd e0 z)
  have fin := fun a b c e => hK _ _ _ _ (C.fin F1 F2 I2 M2 a b c e)
  refine And.intro (fun _ => fin _ _ _ _) (fun z => ?_)
  have c0 := (nI_eq (Nat.lt_of_le_of_lt cd (by decide)) (by decide)).mp (show nI (sIsoS st.1 (sx xs i 1)).1 = nI 0 from Classical.not_not.mp z)
  refine And.intro (ck_out I2.1) ?_
  have e9 : lg_cmp (am_l h2 104 0) (sIsoS st.1 (sx xs i 1)).2.toInt64 = 0 := by rw [o2, o1 c0]; exact lg_same _
  exact And.intro (fun _ => fin _ _ _ _) (fun y => absurd e9 y)
theorem cd_sFixed (g : gD) (v : Int32) : (sFixed g v).1 ≤ 3 := by
  unfold sFixed
  repeat' split
  all_goals exact Nat.le_of_ble_eq_true rfl
set_option maxHeartbeats 4000000 in
theorem l_fixed (C : Lc xs d Q i h st) (v5 v6 v7 v8 : Value) : LW xs d Q 910 (lL i v5 v6 v7 v8) [] h := by
  obtain ⟨⟨hd, hb, h3⟩, ⟨I, M, T, hN⟩, nx⟩ := id C
  have cd := cd_sFixed st.1 (sx xs i 1)
  refine am_go (fun p => p == 1936) (fun K cal Q' hK hC hQ => ?_)
  refine And.intro (C.ar (j := 1) (by decide)) (And.intro trivial (hC _ _ _ _ (h_fixed (by omega) I (Nat.lt_trans hN (by decide)) (sx xs i 1) (fun h1 I1 F1 o1 => ?_))))
  have M1 := MI_cl M I1.1 F1
  refine And.intro (C.ar (j := 1) (by decide)) (And.intro (sk_87 I1.1) (hC _ _ _ _ (q_fixed (by omega) M1 (sx xs i 1) (fun h2 M2 F2 e0 => ?_))))
  have I2 := CI_mo I1 F2
  have o2 := out_mo F2
  refine And.intro (sk_87 I2.1) (hC _ _ _ _ (q_thrown (by omega) M2 ?_))
  refine And.intro (fun _ => ?_) (fun z => absurd e0 z)
  have fin := fun a b c e => hK _ _ _ _ (C.fin F1 F2 I2 M2 a b c e)
  refine And.intro (fun _ => fin _ _ _ _) (fun z => ?_)
  have c0 := (nI_eq (Nat.lt_of_le_of_lt cd (by decide)) (by decide)).mp (show nI (sFixed st.1 (sx xs i 1)).1 = nI 0 from Classical.not_not.mp z)
  refine And.intro (ck_out I2.1) ?_
  have e9 : lg_cmp (am_l h2 104 0) (sFixed st.1 (sx xs i 1)).2.toInt64 = 0 := by rw [o2, o1 c0]; exact lg_same _
  exact And.intro (fun _ => fin _ _ _ _) (fun y => absurd e9 y)
theorem cd_sEx (g : gD) (v : Int32) : (sEx g v).1 ≤ 3 := by
  unfold sEx
  repeat' split
  all_goals exact Nat.le_of_ble_eq_true rfl
set_option maxHeartbeats 4000000 in
theorem l_exact (C : Lc xs d Q i h st) (v5 v6 v7 v8 : Value) : LW xs d Q 979 (lL i v5 v6 v7 v8) [] h := by
  obtain ⟨⟨hd, hb, h3⟩, ⟨I, M, T, hN⟩, nx⟩ := id C
  have cd := cd_sEx st.1 (sx xs i 1)
  refine am_go (fun p => p == 1936) (fun K cal Q' hK hC hQ => ?_)
  refine And.intro (C.ar (j := 1) (by decide)) (And.intro trivial (hC _ _ _ _ (h_exact (by omega) I (Nat.lt_trans hN (by decide)) (sx xs i 1) (fun h1 I1 F1 o1 => ?_))))
  have M1 := MI_cl M I1.1 F1
  refine And.intro (C.ar (j := 1) (by decide)) (And.intro (sk_87 I1.1) (hC _ _ _ _ (q_exact (by omega) M1 (sx xs i 1) (fun h2 M2 F2 e0 => ?_))))
  have I2 := CI_mo I1 F2
  have o2 := out_mo F2
  refine And.intro (sk_87 I2.1) (hC _ _ _ _ (q_thrown (by omega) M2 ?_))
  refine And.intro (fun _ => ?_) (fun z => absurd e0 z)
  have fin := fun a b c e => hK _ _ _ _ (C.fin F1 F2 I2 M2 a b c e)
  refine And.intro (fun _ => fin _ _ _ _) (fun z => ?_)
  have c0 := (nI_eq (Nat.lt_of_le_of_lt cd (by decide)) (by decide)).mp (show nI (sEx st.1 (sx xs i 1)).1 = nI 0 from Classical.not_not.mp z)
  refine And.intro (ck_out I2.1) ?_
  have e9 : lg_cmp (am_l h2 104 0) (sEx st.1 (sx xs i 1)).2.toInt64 = 0 := by rw [o2, o1 c0]; exact lg_same _
  exact And.intro (fun _ => fin _ _ _ _) (fun y => absurd e9 y)
theorem cd_sPrice (g : gD) (v : Int32) : (sPrice g v).1 ≤ 3 := by
  unfold sPrice
  repeat' split
  all_goals exact Nat.le_of_ble_eq_true rfl
set_option maxHeartbeats 4000000 in
theorem l_price (C : Lc xs d Q i h st) (v5 v6 v7 v8 : Value) : LW xs d Q 1035 (lL i v5 v6 v7 v8) [] h := by
  obtain ⟨⟨hd, hb, h3⟩, ⟨I, M, T, hN⟩, nx⟩ := id C
  have cd := cd_sPrice st.1 (sx xs i 1)
  refine am_go (fun p => p == 1936) (fun K cal Q' hK hC hQ => ?_)
  refine And.intro (C.ar (j := 1) (by decide)) (And.intro trivial (hC _ _ _ _ (h_price (by omega) I (Nat.lt_trans hN (by decide)) (sx xs i 1) (fun h1 I1 F1 o1 => ?_))))
  have M1 := MI_cl M I1.1 F1
  refine And.intro (C.ar (j := 1) (by decide)) (And.intro (sk_87 I1.1) (hC _ _ _ _ (q_price (by omega) M1 (sx xs i 1) (fun h2 M2 F2 e0 => ?_))))
  have I2 := CI_mo I1 F2
  have o2 := out_mo F2
  refine And.intro (sk_87 I2.1) (hC _ _ _ _ (q_thrown (by omega) M2 ?_))
  refine And.intro (fun _ => ?_) (fun z => absurd e0 z)
  have fin := fun a b c e => hK _ _ _ _ (C.fin F1 F2 I2 M2 a b c e)
  refine And.intro (fun _ => fin _ _ _ _) (fun z => ?_)
  have c0 := (nI_eq (Nat.lt_of_le_of_lt cd (by decide)) (by decide)).mp (show nI (sPrice st.1 (sx xs i 1)).1 = nI 0 from Classical.not_not.mp z)
  refine And.intro (ck_out I2.1) ?_
  have e9 : lg_cmp (am_l h2 104 0) (sPrice st.1 (sx xs i 1)).2.toInt64 = 0 := by rw [o2, o1 c0]; exact lg_same _
  exact And.intro (fun _ => fin _ _ _ _) (fun y => absurd e9 y)
theorem cd_sNear (g : gD) (v : Int32) : (sNear g v).1 ≤ 3 := by
  unfold sNear
  repeat' split
  all_goals exact Nat.le_of_ble_eq_true rfl
set_option maxHeartbeats 4000000 in
theorem l_nearest (C : Lc xs d Q i h st) (v5 v6 v7 v8 : Value) : LW xs d Q 1091 (lL i v5 v6 v7 v8) [] h := by
  obtain ⟨⟨hd, hb, h3⟩, ⟨I, M, T, hN⟩, nx⟩ := id C
  have cd := cd_sNear st.1 (sx xs i 1)
  refine am_go (fun p => p == 1936) (fun K cal Q' hK hC hQ => ?_)
  refine And.intro (C.ar (j := 1) (by decide)) (And.intro trivial (hC _ _ _ _ (h_nearest (by omega) I (Nat.lt_trans hN (by decide)) (sx xs i 1) (fun h1 I1 F1 o1 => ?_))))
  have M1 := MI_cl M I1.1 F1
  refine And.intro (C.ar (j := 1) (by decide)) (And.intro (sk_87 I1.1) (hC _ _ _ _ (q_nearest (by omega) M1 (sx xs i 1) (fun h2 M2 F2 e0 => ?_))))
  have I2 := CI_mo I1 F2
  have o2 := out_mo F2
  refine And.intro (sk_87 I2.1) (hC _ _ _ _ (q_thrown (by omega) M2 ?_))
  refine And.intro (fun _ => ?_) (fun z => absurd e0 z)
  have fin := fun a b c e => hK _ _ _ _ (C.fin F1 F2 I2 M2 a b c e)
  refine And.intro (fun _ => fin _ _ _ _) (fun z => ?_)
  have c0 := (nI_eq (Nat.lt_of_le_of_lt cd (by decide)) (by decide)).mp (show nI (sNear st.1 (sx xs i 1)).1 = nI 0 from Classical.not_not.mp z)
  refine And.intro (ck_out I2.1) ?_
  have e9 : lg_cmp (am_l h2 104 0) (sNear st.1 (sx xs i 1)).2.toInt64 = 0 := by rw [o2, o1 c0]; exact lg_same _
  exact And.intro (fun _ => fin _ _ _ _) (fun y => absurd e9 y)
theorem cd_sDist (g : gD) (v : Int32) : (sDist g v).1 ≤ 3 := by
  unfold sDist
  repeat' split
  all_goals exact Nat.le_of_ble_eq_true rfl
set_option maxHeartbeats 4000000 in
theorem l_distance (C : Lc xs d Q i h st) (v5 v6 v7 v8 : Value) : LW xs d Q 1147 (lL i v5 v6 v7 v8) [] h := by
  obtain ⟨⟨hd, hb, h3⟩, ⟨I, M, T, hN⟩, nx⟩ := id C
  have cd := cd_sDist st.1 (sx xs i 1)
  refine am_go (fun p => p == 1936) (fun K cal Q' hK hC hQ => ?_)
  refine And.intro (C.ar (j := 1) (by decide)) (And.intro trivial (hC _ _ _ _ (h_distance (by omega) I (Nat.lt_trans hN (by decide)) (sx xs i 1) (fun h1 I1 F1 o1 => ?_))))
  have M1 := MI_cl M I1.1 F1
  refine And.intro (C.ar (j := 1) (by decide)) (And.intro (sk_87 I1.1) (hC _ _ _ _ (q_distance (by omega) M1 (sx xs i 1) (fun h2 M2 F2 e0 => ?_))))
  have I2 := CI_mo I1 F2
  have o2 := out_mo F2
  refine And.intro (sk_87 I2.1) (hC _ _ _ _ (q_thrown (by omega) M2 ?_))
  refine And.intro (fun _ => ?_) (fun z => absurd e0 z)
  have fin := fun a b c e => hK _ _ _ _ (C.fin F1 F2 I2 M2 a b c e)
  refine And.intro (fun _ => fin _ _ _ _) (fun z => ?_)
  have c0 := (nI_eq (Nat.lt_of_le_of_lt cd (by decide)) (by decide)).mp (show nI (sDist st.1 (sx xs i 1)).1 = nI 0 from Classical.not_not.mp z)
  refine And.intro (ck_out I2.1) ?_
  have e9 : lg_cmp (am_l h2 104 0) (sDist st.1 (sx xs i 1)).2.toInt64 = 0 := by rw [o2, o1 c0]; exact lg_same _
  exact And.intro (fun _ => fin _ _ _ _) (fun y => absurd e9 y)
theorem cd_sLabel (g : gD) (v : Int32) : (sLabel g v).1 ≤ 3 := by
  unfold sLabel
  repeat' split
  all_goals exact Nat.le_of_ble_eq_true rfl
set_option maxHeartbeats 4000000 in
theorem l_label (C : Lc xs d Q i h st) (v5 v6 v7 v8 : Value) : LW xs d Q 1203 (lL i v5 v6 v7 v8) [] h := by
  obtain ⟨⟨hd, hb, h3⟩, ⟨I, M, T, hN⟩, nx⟩ := id C
  have cd := cd_sLabel st.1 (sx xs i 1)
  refine am_go (fun p => p == 1936) (fun K cal Q' hK hC hQ => ?_)
  refine And.intro (C.ar (j := 1) (by decide)) (And.intro trivial (hC _ _ _ _ (h_label (by omega) I (Nat.lt_trans hN (by decide)) (sx xs i 1) (fun h1 I1 F1 o1 => ?_))))
  have M1 := MI_cl M I1.1 F1
  refine And.intro (C.ar (j := 1) (by decide)) (And.intro (sk_87 I1.1) (hC _ _ _ _ (q_label (by omega) M1 (sx xs i 1) (fun h2 M2 F2 e0 => ?_))))
  have I2 := CI_mo I1 F2
  have o2 := out_mo F2
  refine And.intro (sk_87 I2.1) (hC _ _ _ _ (q_thrown (by omega) M2 ?_))
  refine And.intro (fun _ => ?_) (fun z => absurd e0 z)
  have fin := fun a b c e => hK _ _ _ _ (C.fin F1 F2 I2 M2 a b c e)
  refine And.intro (fun _ => fin _ _ _ _) (fun z => ?_)
  have c0 := (nI_eq (Nat.lt_of_le_of_lt cd (by decide)) (by decide)).mp (show nI (sLabel st.1 (sx xs i 1)).1 = nI 0 from Classical.not_not.mp z)
  refine And.intro (ck_out I2.1) ?_
  have e9 : lg_cmp (am_l h2 104 0) (sLabel st.1 (sx xs i 1)).2.toInt64 = 0 := by rw [o2, o1 c0]; exact lg_same _
  exact And.intro (fun _ => fin _ _ _ _) (fun y => absurd e9 y)
theorem cd_sMove (g : gD) (v : Int32) : (sMove g v).1 ≤ 3 := by
  unfold sMove
  repeat' split
  all_goals exact Nat.le_of_ble_eq_true rfl
set_option maxHeartbeats 4000000 in
theorem l_bestMove (C : Lc xs d Q i h st) (v5 v6 v7 v8 : Value) : LW xs d Q 1371 (lL i v5 v6 v7 v8) [] h := by
  obtain ⟨⟨hd, hb, h3⟩, ⟨I, M, T, hN⟩, nx⟩ := id C
  have cd := cd_sMove st.1 (sx xs i 1)
  refine am_go (fun p => p == 1936) (fun K cal Q' hK hC hQ => ?_)
  refine And.intro (C.ar (j := 1) (by decide)) (And.intro trivial (hC _ _ _ _ (h_bestMove (by omega) I (Nat.lt_trans hN (by decide)) (sx xs i 1) (fun h1 I1 F1 o1 => ?_))))
  have M1 := MI_cl M I1.1 F1
  refine And.intro (C.ar (j := 1) (by decide)) (And.intro (sk_87 I1.1) (hC _ _ _ _ (q_bestMove (by omega) M1 (sx xs i 1) (fun h2 M2 F2 e0 => ?_))))
  have I2 := CI_mo I1 F2
  have o2 := out_mo F2
  refine And.intro (sk_87 I2.1) (hC _ _ _ _ (q_thrown (by omega) M2 ?_))
  refine And.intro (fun _ => ?_) (fun z => absurd e0 z)
  have fin := fun a b c e => hK _ _ _ _ (C.fin F1 F2 I2 M2 a b c e)
  refine And.intro (fun _ => fin _ _ _ _) (fun z => ?_)
  have c0 := (nI_eq (Nat.lt_of_le_of_lt cd (by decide)) (by decide)).mp (show nI (sMove st.1 (sx xs i 1)).1 = nI 0 from Classical.not_not.mp z)
  refine And.intro (ck_out I2.1) ?_
  have e9 : lg_cmp (am_l h2 104 0) (sMove st.1 (sx xs i 1)).2.toInt64 = 0 := by rw [o2, o1 c0]; exact lg_same _
  exact And.intro (fun _ => fin _ _ _ _) (fun y => absurd e9 y)
theorem cd_sDear (g : gD) : (sDear g).1 ≤ 3 := by
  unfold sDear
  repeat' split
  all_goals exact Nat.le_of_ble_eq_true rfl
set_option maxHeartbeats 4000000 in
theorem l_dearest (C : Lc xs d Q i h st) (v5 v6 v7 v8 : Value) : LW xs d Q 765 (lL i v5 v6 v7 v8) [] h := by
  obtain ⟨⟨hd, hb, h3⟩, ⟨I, M, T, hN⟩, nx⟩ := id C
  have cd := cd_sDear st.1
  refine am_go (fun p => p == 1936) (fun K cal Q' hK hC hQ => ?_)
  refine And.intro trivial (hC _ _ _ _ (h_dearest (by omega) I (Nat.lt_trans hN (by decide)) (fun h1 I1 F1 o1 => ?_)))
  have M1 := MI_cl M I1.1 F1
  refine And.intro (sk_87 I1.1) (hC _ _ _ _ (q_dearest (by omega) M1 (fun h2 M2 F2 e0 => ?_)))
  have I2 := CI_mo I1 F2
  have o2 := out_mo F2
  refine And.intro (sk_87 I2.1) (hC _ _ _ _ (q_thrown (by omega) M2 ?_))
  refine And.intro (fun _ => ?_) (fun z => absurd e0 z)
  have fin := fun a b c e => hK _ _ _ _ (C.fin F1 F2 I2 M2 a b c e)
  refine And.intro (fun _ => fin _ _ _ _) (fun z => ?_)
  have c0 := (nI_eq (Nat.lt_of_le_of_lt cd (by decide)) (by decide)).mp (show nI (sDear st.1).1 = nI 0 from Classical.not_not.mp z)
  refine And.intro (ck_out I2.1) ?_
  have e9 : lg_cmp (am_l h2 104 0) (sDear st.1).2.toInt64 = 0 := by rw [o2, o1 c0]; exact lg_same _
  exact And.intro (fun _ => fin _ _ _ _) (fun y => absurd e9 y)
theorem cd_sUni (g : gD) : (sUni g).1 ≤ 3 := by
  unfold sUni
  repeat' split
  all_goals exact Nat.le_of_ble_eq_true rfl
set_option maxHeartbeats 4000000 in
theorem l_unionCut (C : Lc xs d Q i h st) (v5 v6 v7 v8 : Value) : LW xs d Q 809 (lL i v5 v6 v7 v8) [] h := by
  obtain ⟨⟨hd, hb, h3⟩, ⟨I, M, T, hN⟩, nx⟩ := id C
  have cd := cd_sUni st.1
  refine am_go (fun p => p == 1936) (fun K cal Q' hK hC hQ => ?_)
  refine And.intro trivial (hC _ _ _ _ (h_unionCut (by omega) I (Nat.lt_trans hN (by decide)) (fun h1 I1 F1 o1 => ?_)))
  have M1 := MI_cl M I1.1 F1
  refine And.intro (sk_87 I1.1) (hC _ _ _ _ (q_unionCut (by omega) M1 (fun h2 M2 F2 e0 => ?_)))
  have I2 := CI_mo I1 F2
  have o2 := out_mo F2
  refine And.intro (sk_87 I2.1) (hC _ _ _ _ (q_thrown (by omega) M2 ?_))
  refine And.intro (fun _ => ?_) (fun z => absurd e0 z)
  have fin := fun a b c e => hK _ _ _ _ (C.fin F1 F2 I2 M2 a b c e)
  refine And.intro (fun _ => fin _ _ _ _) (fun z => ?_)
  have c0 := (nI_eq (Nat.lt_of_le_of_lt cd (by decide)) (by decide)).mp (show nI (sUni st.1).1 = nI 0 from Classical.not_not.mp z)
  refine And.intro (ck_out I2.1) ?_
  have e9 : lg_cmp (am_l h2 104 0) (sUni st.1).2.toInt64 = 0 := by rw [o2, o1 c0]; exact lg_same _
  exact And.intro (fun _ => fin _ _ _ _) (fun y => absurd e9 y)
theorem cd_sUniC (g : gD) : (sUniC g).1 ≤ 3 := by
  unfold sUniC
  repeat' split
  all_goals exact Nat.le_of_ble_eq_true rfl
set_option maxHeartbeats 4000000 in
theorem l_unionCost (C : Lc xs d Q i h st) (v5 v6 v7 v8 : Value) : LW xs d Q 853 (lL i v5 v6 v7 v8) [] h := by
  obtain ⟨⟨hd, hb, h3⟩, ⟨I, M, T, hN⟩, nx⟩ := id C
  have cd := cd_sUniC st.1
  refine am_go (fun p => p == 1936) (fun K cal Q' hK hC hQ => ?_)
  refine And.intro trivial (hC _ _ _ _ (h_unionCost (by omega) I (Nat.lt_trans hN (by decide)) (fun h1 I1 F1 o1 => ?_)))
  have M1 := MI_cl M I1.1 F1
  refine And.intro (sk_87 I1.1) (hC _ _ _ _ (q_unionCost (by omega) M1 (fun h2 M2 F2 e0 => ?_)))
  have I2 := CI_mo I1 F2
  have o2 := out_mo F2
  refine And.intro (sk_87 I2.1) (hC _ _ _ _ (q_thrown (by omega) M2 ?_))
  refine And.intro (fun _ => ?_) (fun z => absurd e0 z)
  have fin := fun a b c e => hK _ _ _ _ (C.fin F1 F2 I2 M2 a b c e)
  refine And.intro (fun _ => fin _ _ _ _) (fun z => ?_)
  have c0 := (nI_eq (Nat.lt_of_le_of_lt cd (by decide)) (by decide)).mp (show nI (sUniC st.1).1 = nI 0 from Classical.not_not.mp z)
  refine And.intro (ck_out I2.1) ?_
  have e9 : lg_cmp (am_l h2 104 0) (sUniC st.1).2.toInt64 = 0 := by rw [o2, o1 c0]; exact lg_same _
  exact And.intro (fun _ => fin _ _ _ _) (fun y => absurd e9 y)
theorem cd_sEdge (g : gD) (e v : Int32) : (sEdge g e v).1 ≤ 3 := by
  unfold sEdge
  repeat' split
  all_goals exact Nat.le_of_ble_eq_true rfl
set_option maxHeartbeats 4000000 in
theorem l_edge (C : Lc xs d Q i h st) (v5 v6 v7 v8 : Value) : LW xs d Q 453 (lL i v5 v6 v7 v8) [] h := by
  obtain ⟨⟨hd, hb, h3⟩, ⟨I, M, T, hN⟩, nx⟩ := id C
  have cd := cd_sEdge st.1 (sx xs i 1) (sx xs i 2)
  refine am_go (fun p => p == 1936) (fun K cal Q' hK hC hQ => ?_)
  refine And.intro (C.ar (j := 1) (by decide)) (And.intro (C.ar (j := 2) (by decide)) (And.intro trivial (hC _ _ _ _ (h_edge (by omega) I (Nat.lt_trans hN (by decide)) (sx xs i 1) (sx xs i 2) (fun h1 I1 F1 o1 => ?_)))))
  have M1 := MI_cl M I1.1 F1
  refine And.intro (C.ar (j := 1) (by decide)) (And.intro (C.ar (j := 2) (by decide)) (And.intro (sk_87 I1.1) (hC _ _ _ _ (q_edge (by omega) M1 (sx xs i 1) (sx xs i 2) (fun h2 M2 F2 e0 => ?_)))))
  have I2 := CI_mo I1 F2
  have o2 := out_mo F2
  refine And.intro (sk_87 I2.1) (hC _ _ _ _ (q_thrown (by omega) M2 ?_))
  refine And.intro (fun _ => ?_) (fun z => absurd e0 z)
  have fin := fun a b c e => hK _ _ _ _ (C.fin F1 F2 I2 M2 a b c e)
  refine And.intro (fun _ => fin _ _ _ _) (fun z => ?_)
  have c0 := (nI_eq (Nat.lt_of_le_of_lt cd (by decide)) (by decide)).mp (show nI (sEdge st.1 (sx xs i 1) (sx xs i 2)).1 = nI 0 from Classical.not_not.mp z)
  refine And.intro (ck_out I2.1) ?_
  have e9 : lg_cmp (am_l h2 104 0) (sEdge st.1 (sx xs i 1) (sx xs i 2)).2.toInt64 = 0 := by rw [o2, o1 c0]; exact lg_same _
  exact And.intro (fun _ => fin _ _ _ _) (fun y => absurd e9 y)
theorem cd_sSep (g : gD) (v : Int32) : (sSep g v).1 ≤ 3 := by
  unfold sSep
  repeat' split
  all_goals exact Nat.le_of_ble_eq_true rfl
set_option maxHeartbeats 4000000 in
theorem l_separates (C : Lc xs d Q i h st) (v5 v6 v7 v8 : Value) : LW xs d Q 577 (lL i v5 v6 v7 v8) [] h := by
  obtain ⟨⟨hd, hb, h3⟩, ⟨I, M, T, hN⟩, nx⟩ := id C
  have cd := cd_sSep st.1 (sx xs i 1)
  refine am_go (fun p => p == 1936) (fun K cal Q' hK hC hQ => ?_)
  refine And.intro (C.ar (j := 1) (by decide)) (And.intro trivial (hC _ _ _ _ (h_separates (by omega) I (Nat.lt_trans hN (by decide)) (sx xs i 1) (fun h1 I1 F1 o1 => ?_))))
  have M1 := MI_cl M I1.1 F1
  refine And.intro (C.ar (j := 1) (by decide)) (And.intro (sk_87 I1.1) (hC _ _ _ _ (q_separates (by omega) M1 (sx xs i 1) (fun h2 M2 F2 e0 => ?_))))
  have I2 := CI_mo I1 F2
  have o2 := out_mo F2
  refine And.intro (sk_87 I2.1) (hC _ _ _ _ (q_thrown (by omega) M2 ?_))
  refine And.intro (fun _ => ?_) (fun z => absurd e0 z)
  have fin := fun a b c e => hK _ _ _ _ (C.fin F1 F2 I2 M2 a b c e)
  refine And.intro (fun _ => fin _ _ _ _) (fun z => ?_)
  have c0 := (nI_eq (Nat.lt_of_le_of_lt cd (by decide)) (by decide)).mp (show nI (sSep st.1 (sx xs i 1)).1 = nI 0 from Classical.not_not.mp z)
  refine And.intro (ck_out I2.1) ?_
  refine And.intro (fun y => ?_) (fun y => ?_)
  · have y : (sSep st.1 (sx xs i 1)).2 = 0 := y
    have e9 : lg_cmp (am_l h2 104 0) (lN 0) = 0 := by rw [o2, o1 c0, if_pos y]; exact lg_same _
    exact And.intro (fun _ => fin _ _ _ _) (fun u => absurd e9 u)
  · have y : ¬ (sSep st.1 (sx xs i 1)).2 = 0 := y
    have e9 : lg_cmp (am_l h2 104 0) (lN 1) = 0 := by rw [o2, o1 c0, if_neg y]; exact lg_same _
    exact And.intro (fun _ => fin _ _ _ _) (fun u => absurd e9 u)
end

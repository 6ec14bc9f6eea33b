/-! THE LAW: calls that change -/
section
variable {xs : am_X} {d i : Nat} {h : am_H} {st : stD} {Q : am_Q}
theorem nI_0k {k : Nat} (h : k = 0 ∨ k = 1 ∨ k = 2 ∨ k = 3) (h0 : k ≠ 0) : ¬ nI k = 0 := nI_ne0 (by omega) (by omega)
theorem s3 {k : Nat} (h : k = 0 ∨ k = 1 ∨ k = 2) : k = 0 ∨ k = 1 ∨ k = 2 ∨ k = 3 := by omega
set_option maxHeartbeats 4000000 in
theorem l_setLabel (C : Lc xs d Q i h st) (v5 v6 v7 v8 : Value) : LW xs d Q 1427 (lL i v5 v6 v7 v8) [] h := by
  obtain ⟨⟨hd, hb, h3⟩, ⟨I, M, T, hN⟩, nx⟩ := id C
  have sc := sSetLab_c st.1 (sx xs i 1) (sx xs i 2)
  refine am_go (fun p => p == 1936) (fun K cal Q' hK hC hQ => ?_)
  refine And.intro (C.ar (j := 1) (by decide)) (And.intro (C.ar (j := 2) (by decide)) (And.intro trivial (hC _ _ _ _ (h_setLabel (by omega) I (Nat.lt_trans hN (by decide)) (sx xs i 1) (sx xs i 2) (fun k h1 e z I1 F1 => ?_) (fun h1 e I1 F1 o1 => ?_)))))
  · have M1 := MI_cl M I1.1 F1
    rw [e] at sc
    refine And.intro (C.ar (j := 1) (by decide)) (And.intro (C.ar (j := 2) (by decide)) (And.intro (sk_87 I1.1) (hC _ _ _ _ (q_setLabel (by omega) M1 (sx xs i 1) (sx xs i 2) (fun k2 h2 e2 z2 M2 F2 e0 => ?_) (fun h2 e2 _ _ _ => absurd (e.symm.trans e2) z)))))
    rw [← e2, e] at e0
    have I2 := CI_mo I1 F2
    refine And.intro (sk_87 I2.1) (hC _ _ _ _ (q_thrown (by omega) M2 ?_))
    refine And.intro (fun _ => And.intro (fun _ => hK _ _ _ _ (C.fin F1 F2 I2 M2 _ _ _ _)) (fun y => absurd (Classical.not_not.mp y) (nI_0k sc z))) (fun y => absurd e0 y)
  · have M1 := MI_cl M I1.1 F1
    refine And.intro (C.ar (j := 1) (by decide)) (And.intro (C.ar (j := 2) (by decide)) (And.intro (sk_87 I1.1) (hC _ _ _ _ (q_setLabel (by omega) M1 (sx xs i 1) (sx xs i 2) (fun k2 h2 e2 z2 _ _ _ => absurd (e2.symm.trans e) z2) (fun h2 e2 M2 F2 e0 => ?_)))))
    have I2 := CI_mo I1 F2
    refine And.intro (sk_87 I2.1) (hC _ _ _ _ (q_thrown (by omega) M2 ?_))
    have fin := fun a b c e => hK _ _ _ _ (C.fin F1 F2 I2 M2 a b c e)
    refine And.intro (fun _ => And.intro (fun _ => fin _ _ _ _) (fun _ => And.intro (ck_out I2.1) ?_)) (fun y => absurd e0 y)
    have e9 : lg_cmp (am_l h2 104 0) (nI (gCost (labV st.1 (sx xs i 1).toNatClampNeg (sx xs i 2)))).toInt64 = 0 := by rw [out_mo F2, o1]; exact lg_same _
    exact And.intro (fun _ => fin _ _ _ _) (fun y => absurd e9 y)
set_option maxHeartbeats 4000000 in
theorem l_useUnion (C : Lc xs d Q i h st) (v5 v6 v7 v8 : Value) : LW xs d Q 1508 (lL i v5 v6 v7 v8) [] h := by
  obtain ⟨⟨hd, hb, h3⟩, ⟨I, M, T, hN⟩, nx⟩ := id C
  refine am_go (fun p => p == 1936) (fun K cal Q' hK hC hQ => ?_)
  refine And.intro trivial (hC _ _ _ _ (h_useUnion (by omega) I (Nat.lt_trans hN (by decide)) (fun h1 e I1 F1 => ?_) (fun h1 e I1 F1 o1 => ?_)))
  · have M1 := MI_cl M I1.1 F1
    refine And.intro (sk_87 I1.1) (hC _ _ _ _ (q_useUnion (by omega) M1 (fun h2 e2 M2 F2 e0 => ?_) (fun h2 e2 _ _ _ => absurd e e2)))
    have I2 := CI_mo I1 F2
    refine And.intro (sk_87 I2.1) (hC _ _ _ _ (q_thrown (by omega) M2 ?_))
    exact And.intro (fun _ => And.intro (fun _ => hK _ _ _ _ (C.fin F1 F2 I2 M2 _ _ _ _)) (fun y => absurd (Classical.not_not.mp y) (show ¬ nI 1 = 0 by decide))) (fun y => absurd e0 y)
  · have M1 := MI_cl M I1.1 F1
    refine And.intro (sk_87 I1.1) (hC _ _ _ _ (q_useUnion (by omega) M1 (fun h2 e2 _ _ _ => absurd e2 e) (fun h2 e2 M2 F2 e0 => ?_)))
    have I2 := CI_mo I1 F2
    refine And.intro (sk_87 I2.1) (hC _ _ _ _ (q_thrown (by omega) M2 ?_))
    have fin := fun a b c e => hK _ _ _ _ (C.fin F1 F2 I2 M2 a b c e)
    refine And.intro (fun _ => And.intro (fun _ => fin _ _ _ _) (fun _ => And.intro (ck_out I2.1) ?_)) (fun y => absurd e0 y)
    have e9 : lg_cmp (am_l h2 104 0) (nI (gCost (gUseU st.1))).toInt64 = 0 := by rw [out_mo F2, o1]; exact lg_same _
    exact And.intro (fun _ => fin _ _ _ _) (fun y => absurd e9 y)
set_option maxHeartbeats 4000000 in
theorem l_improve (C : Lc xs d Q i h st) (v5 v6 v7 v8 : Value) : LW xs d Q 1565 (lL i v5 v6 v7 v8) [] h := by
  obtain ⟨⟨hd, hb, h3⟩, ⟨I, M, T, hN⟩, nx⟩ := id C
  have no : ∀ k, k ≤ 20 → 1 ≤ k → decide (nI 1 ≤ nI k ∧ nI k ≤ nI 20) = true := by decide
  refine am_go (fun p => p == 1936) (fun K cal Q' hK hC hQ => ?_)
  refine And.intro (C.ar (j := 1) (by decide)) (And.intro trivial (hC _ _ _ _ (h_improve (by omega) I (Nat.lt_trans hN (by decide)) (sx xs i 1) (fun h1 e I1 F1 => ?_) (fun h1 k k20 ek k1 I1 F1 o1 => ?_))))
  · have M1 := MI_cl M I1.1 F1
    refine And.intro (C.ar (j := 1) (by decide)) (And.intro (sk_87 I1.1) (hC _ _ _ _ (q_improve (by omega) M1 (sx xs i 1) (fun h2 e2 M2 F2 e0 => ?_) (fun h2 k a b c _ _ _ => by rw [b, no k a c] at e; cases e))))
    have I2 := CI_mo I1 F2
    refine And.intro (sk_87 I2.1) (hC _ _ _ _ (q_thrown (by omega) M2 ?_))
    exact And.intro (fun _ => And.intro (fun _ => hK _ _ _ _ (C.fin F1 F2 I2 M2 _ _ _ _)) (fun y => absurd (Classical.not_not.mp y) (show ¬ nI 1 = 0 by decide))) (fun y => absurd e0 y)
  · have M1 := MI_cl M I1.1 F1
    refine And.intro (C.ar (j := 1) (by decide)) (And.intro (sk_87 I1.1) (hC _ _ _ _ (q_improve (by omega) M1 (sx xs i 1) (fun h2 e2 _ _ _ => by rw [ek, no k k20 k1] at e2; cases e2) (fun h2 k2 a b c M2 F2 e0 => ?_))))
    have ekk : k2 = k := (nI_eq (by omega) (by omega)).mp (b.symm.trans ek)
    subst ekk
    have I2 := CI_mo I1 F2
    refine And.intro (sk_87 I2.1) (hC _ _ _ _ (q_thrown (by omega) M2 ?_))
    have fin := fun a b c e => hK _ _ _ _ (C.fin F1 F2 I2 M2 a b c e)
    refine And.intro (fun _ => And.intro (fun _ => fin _ _ _ _) (fun _ => And.intro (ck_out I2.1) ?_)) (fun y => absurd e0 y)
    have e9 : lg_cmp (am_l h2 104 0) (nI (gImps k2 st.1).2).toInt64 = 0 := by rw [out_mo F2, o1]; exact lg_same _
    exact And.intro (fun _ => fin _ _ _ _) (fun y => absurd e9 y)
theorem gW_j {g : gD} {k j : Nat} (w : gwf (gW g k j)) (hk : k < gM g) : 1 ≤ j ∧ j ≤ 99 := by
  have := w.2.2.1 k hk
  have e : gWt (gW g k j) k = j := by
    show setN (gWt g) k j k = j
    unfold setN
    rw [if_pos rfl]
  rw [e] at this
  exact this
theorem gAdd_j {g : gD} {u v j : Nat} (w : gwf (gAdd g u v j)) : 1 ≤ j ∧ j ≤ 99 := by
  have := w.2.2.1 (gM g) (Nat.lt_succ_self _)
  have e : gWt (gAdd g u v j) (gM g) = j := by
    show setN (gWt g) (gM g) j (gM g) = j
    unfold setN
    rw [if_pos rfl]
  rw [e] at this
  exact this
theorem CI_wf {h : am_H} {st : stD} (I : CI h st) : gwf st.1 := I.2.1.2.2.2.2.2.2
theorem MI_wf {h : am_H} {st : stD} (M : MI h st) : gwf st.1 := by
  obtain ⟨w, m, -⟩ := M
  exact mg_wf m
set_option maxHeartbeats 4000000 in
theorem l_setWeight (C : Lc xs d Q i h st) (v5 v6 v7 v8 : Value) : LW xs d Q 1621 (lL i v5 v6 v7 v8) [] h := by
  obtain ⟨⟨hd, hb, h3⟩, ⟨I, M, T, hN⟩, nx⟩ := id C
  have sc := s3 (sSetW_c st.1 (sx xs i 1) (sx xs i 2))
  have hm := (CI_wf I).1.2.1
  refine am_go (fun p => p == 1936) (fun K cal Q' hK hC hQ => ?_)
  refine And.intro (C.ar (j := 1) (by decide)) (And.intro (C.ar (j := 2) (by decide)) (And.intro trivial (hC _ _ _ _ (h_setWeight (by omega) I (Nat.lt_trans hN (by decide)) (sx xs i 1) (sx xs i 2) (fun k h1 e z I1 F1 => ?_) (fun h1 k j ek hk ej e I1 F1 o1 => ?_)))))
  · have M1 := MI_cl M I1.1 F1
    rw [e] at sc
    refine And.intro (C.ar (j := 1) (by decide)) (And.intro (C.ar (j := 2) (by decide)) (And.intro (sk_87 I1.1) (hC _ _ _ _ (q_setWeight (by omega) M1 (sx xs i 1) (sx xs i 2) (fun k2 h2 e2 z2 M2 F2 e0 => ?_) (fun h2 _ _ _ _ _ e2 _ _ _ => absurd (e.symm.trans e2) z)))))
    rw [← e2, e] at e0
    have I2 := CI_mo I1 F2
    refine And.intro (sk_87 I2.1) (hC _ _ _ _ (q_thrown (by omega) M2 ?_))
    refine And.intro (fun _ => And.intro (fun _ => hK _ _ _ _ (C.fin F1 F2 I2 M2 _ _ _ _)) (fun y => absurd (Classical.not_not.mp y) (nI_0k sc z))) (fun y => absurd e0 y)
  · have M1 := MI_cl M I1.1 F1
    refine And.intro (C.ar (j := 1) (by decide)) (And.intro (C.ar (j := 2) (by decide)) (And.intro (sk_87 I1.1) (hC _ _ _ _ (q_setWeight (by omega) M1 (sx xs i 1) (sx xs i 2) (fun k2 h2 e2 z2 _ _ _ => absurd (e2.symm.trans e) z2) (fun h2 k2 j2 ek2 hk2 ej2 e2 M2 F2 e0 => ?_)))))
    have ekk : k2 = k := (nI_eq (by omega) (by omega)).mp (ek2.symm.trans ek)
    subst ekk
    have w1 := gW_j (CI_wf I1) hk
    have w2 := gW_j (MI_wf M2) hk
    have ejj : j2 = j := (nI_eq (by omega) (by omega)).mp (ej2.symm.trans ej)
    subst ejj
    have I2 := CI_mo I1 F2
    refine And.intro (sk_87 I2.1) (hC _ _ _ _ (q_thrown (by omega) M2 ?_))
    have fin := fun a b c e => hK _ _ _ _ (C.fin F1 F2 I2 M2 a b c e)
    refine And.intro (fun _ => And.intro (fun _ => fin _ _ _ _) (fun _ => And.intro (ck_out I2.1) ?_)) (fun y => absurd e0 y)
    have e9 : lg_cmp (am_l h2 104 0) (nI (gWt st.1 k2)).toInt64 = 0 := by rw [out_mo F2, o1]; exact lg_same _
    exact And.intro (fun _ => fin _ _ _ _) (fun y => absurd e9 y)
set_option maxHeartbeats 4000000 in
theorem l_addEdge (C : Lc xs d Q i h st) (v5 v6 v7 v8 : Value) : LW xs d Q 1689 (lL i v5 v6 v7 v8) [] h := by
  obtain ⟨⟨hd, hb, h3⟩, ⟨I, M, T, hN⟩, nx⟩ := id C
  have sc := sAdd_c st.1 (sx xs i 1) (sx xs i 2) (sx xs i 3)
  have hn := (CI_wf I).1.1
  refine am_go (fun p => p == 1936) (fun K cal Q' hK hC hQ => ?_)
  refine And.intro (C.ar (j := 1) (by decide)) (And.intro (C.ar (j := 2) (by decide)) (And.intro (C.ar (j := 3) (by decide)) (And.intro trivial (hC _ _ _ _ (h_addEdge (by omega) I (Nat.lt_trans hN (by decide)) (sx xs i 1) (sx xs i 2) (sx xs i 3) (fun k h1 e z I1 F1 => ?_) (fun h1 u v j eu ev hu hv ej e I1 F1 o1 => ?_))))))
  · have M1 := MI_cl M I1.1 F1
    rw [e] at sc
    refine And.intro (C.ar (j := 1) (by decide)) (And.intro (C.ar (j := 2) (by decide)) (And.intro (C.ar (j := 3) (by decide)) (And.intro (sk_87 I1.1) (hC _ _ _ _ (q_addEdge (by omega) M1 (sx xs i 1) (sx xs i 2) (sx xs i 3) (fun k2 h2 e2 z2 M2 F2 e0 => ?_) (fun h2 _ _ _ _ _ _ _ _ e2 _ _ _ => absurd (e.symm.trans e2) z))))))
    rw [← e2, e] at e0
    have I2 := CI_mo I1 F2
    refine And.intro (sk_87 I2.1) (hC _ _ _ _ (q_thrown (by omega) M2 ?_))
    refine And.intro (fun _ => And.intro (fun _ => hK _ _ _ _ (C.fin F1 F2 I2 M2 _ _ _ _)) (fun y => absurd (Classical.not_not.mp y) (nI_0k sc z))) (fun y => absurd e0 y)
  · have M1 := MI_cl M I1.1 F1
    refine And.intro (C.ar (j := 1) (by decide)) (And.intro (C.ar (j := 2) (by decide)) (And.intro (C.ar (j := 3) (by decide)) (And.intro (sk_87 I1.1) (hC _ _ _ _ (q_addEdge (by omega) M1 (sx xs i 1) (sx xs i 2) (sx xs i 3) (fun k2 h2 e2 z2 _ _ _ => absurd (e2.symm.trans e) z2) (fun h2 u2 v2 j2 eu2 ev2 hu2 hv2 ej2 e2 M2 F2 e0 => ?_))))))
    have euu : u2 = u := (nI_eq (by omega) (by omega)).mp (eu2.symm.trans eu)
    have evv : v2 = v := (nI_eq (by omega) (by omega)).mp (ev2.symm.trans ev)
    subst euu evv
    have w1 := gAdd_j (CI_wf I1)
    have w2 := gAdd_j (MI_wf M2)
    have ejj : j2 = j := (nI_eq (by omega) (by omega)).mp (ej2.symm.trans ej)
    subst ejj
    have I2 := CI_mo I1 F2
    refine And.intro (sk_87 I2.1) (hC _ _ _ _ (q_thrown (by omega) M2 ?_))
    have fin := fun a b c e => hK _ _ _ _ (C.fin F1 F2 I2 M2 a b c e)
    refine And.intro (fun _ => And.intro (fun _ => fin _ _ _ _) (fun _ => And.intro (ck_out I2.1) ?_)) (fun y => absurd e0 y)
    have e9 : lg_cmp (am_l h2 104 0) (nI (gM st.1)).toInt64 = 0 := by rw [out_mo F2, o1]; exact lg_same _
    exact And.intro (fun _ => fin _ _ _ _) (fun y => absurd e9 y)
set_option maxHeartbeats 4000000 in
theorem l_removeEdge (C : Lc xs d Q i h st) (v5 v6 v7 v8 : Value) : LW xs d Q 1769 (lL i v5 v6 v7 v8) [] h := by
  obtain ⟨⟨hd, hb, h3⟩, ⟨I, M, T, hN⟩, nx⟩ := id C
  have hm := (CI_wf I).1.2.1
  refine am_go (fun p => p == 1936) (fun K cal Q' hK hC hQ => ?_)
  refine And.intro (C.ar (j := 1) (by decide)) (And.intro trivial (hC _ _ _ _ (h_removeEdge (by omega) I (Nat.lt_trans hN (by decide)) (sx xs i 1) (fun h1 e I1 F1 => ?_) (fun h1 k ek hk I1 F1 o1 => ?_))))
  · have M1 := MI_cl M I1.1 F1
    refine And.intro (C.ar (j := 1) (by decide)) (And.intro (sk_87 I1.1) (hC _ _ _ _ (q_removeEdge (by omega) M1 (sx xs i 1) (fun h2 e2 M2 F2 e0 => ?_) (fun h2 k a b _ _ _ => by rw [a, vin_nI b (by omega)] at e; cases e))))
    have I2 := CI_mo I1 F2
    refine And.intro (sk_87 I2.1) (hC _ _ _ _ (q_thrown (by omega) M2 ?_))
    exact And.intro (fun _ => And.intro (fun _ => hK _ _ _ _ (C.fin F1 F2 I2 M2 _ _ _ _)) (fun y => absurd (Classical.not_not.mp y) (show ¬ nI 1 = 0 by decide))) (fun y => absurd e0 y)
  · have M1 := MI_cl M I1.1 F1
    refine And.intro (C.ar (j := 1) (by decide)) (And.intro (sk_87 I1.1) (hC _ _ _ _ (q_removeEdge (by omega) M1 (sx xs i 1) (fun h2 e2 _ _ _ => by rw [ek, vin_nI hk (by omega)] at e2; cases e2) (fun h2 k2 a b M2 F2 e0 => ?_))))
    have ekk : k2 = k := (nI_eq (by omega) (by omega)).mp (a.symm.trans ek)
    subst ekk
    have I2 := CI_mo I1 F2
    refine And.intro (sk_87 I2.1) (hC _ _ _ _ (q_thrown (by omega) M2 ?_))
    have fin := fun a b c e => hK _ _ _ _ (C.fin F1 F2 I2 M2 a b c e)
    refine And.intro (fun _ => And.intro (fun _ => fin _ _ _ _) (fun _ => And.intro (ck_out I2.1) ?_)) (fun y => absurd e0 y)
    have e9 : lg_cmp (am_l h2 104 0) (nI (gM st.1 - 1)).toInt64 = 0 := by rw [out_mo F2, o1]; exact lg_same _
    exact And.intro (fun _ => fin _ _ _ _) (fun y => absurd e9 y)
set_option maxHeartbeats 4000000 in
theorem l_setTerminal (C : Lc xs d Q i h st) (v5 v6 v7 v8 : Value) : LW xs d Q 1825 (lL i v5 v6 v7 v8) [] h := by
  obtain ⟨⟨hd, hb, h3⟩, ⟨I, M, T, hN⟩, nx⟩ := id C
  have hn := (CI_wf I).1.1
  have main : ∀ b : Bool, (b = false ↔ sx xs i 2 = 0) → LW xs d Q 1846 (lL i v5 v6 v7 v8) [.int (bI b), .int (sx xs i 1), .ref 1] h := by
    intro b hb2
    have sc := s3 (sTer_c st.1 (sx xs i 1) b)
    refine am_go (fun p => p == 1873) (fun K cal Q' hK hC hQ => ?_)
    refine And.intro trivial (hC _ _ _ _ (h_setTerminal (by omega) I (Nat.lt_trans hN (by decide)) (sx xs i 1) b (fun k h1 e z I1 F1 => ?_) (fun h1 k ek hk e I1 F1 o1 => ?_)))
    · have M1 := MI_cl M I1.1 F1
      rw [e] at sc
      have tail : LW xs d Q 1873 (lL i (.int (nI k)) v6 v7 v8) [.int (bI b), .int (sx xs i 1), .ref 87] h1 := by
        refine am_go (fun p => p == 1936) (fun K cal Q' hK hC hQ => ?_)
        refine And.intro (sk_87 I1.1) (hC _ _ _ _ (q_setTerminal (by omega) M1 (sx xs i 1) b (fun k2 h2 e2 z2 M2 F2 e0 => ?_) (fun h2 _ _ _ e2 _ _ _ => absurd (e.symm.trans e2) z)))
        rw [← e2, e] at e0
        have I2 := CI_mo I1 F2
        refine And.intro (sk_87 I2.1) (hC _ _ _ _ (q_thrown (by omega) M2 ?_))
        exact And.intro (fun _ => And.intro (fun _ => hK _ _ _ _ (C.fin F1 F2 I2 M2 _ _ _ _)) (fun y => absurd (Classical.not_not.mp y) (nI_0k sc z))) (fun y => absurd e0 y)
      refine And.intro (C.ar (j := 1) (by decide)) (And.intro (C.ar (j := 2) (by decide)) (And.intro (fun y => hK _ _ _ _ ?_) (fun y => hK _ _ _ _ ?_)))
      · have : b = false := hb2.mpr y
        subst this
        exact tail
      · have : b = true := by
          cases b with
          | true => rfl
          | false => exact absurd (hb2.mp rfl) y
        subst this
        exact tail
    · have M1 := MI_cl M I1.1 F1
      have tail : LW xs d Q 1873 (lL i (.int (nI 0)) v6 v7 v8) [.int (bI b), .int (sx xs i 1), .ref 87] h1 := by
        refine am_go (fun p => p == 1936) (fun K cal Q' hK hC hQ => ?_)
        refine And.intro (sk_87 I1.1) (hC _ _ _ _ (q_setTerminal (by omega) M1 (sx xs i 1) b (fun k2 h2 e2 z2 _ _ _ => absurd (e2.symm.trans e) z2) (fun h2 k2 ek2 hk2 e2 M2 F2 e0 => ?_)))
        have ekk : k2 = k := (nI_eq (by omega) (by omega)).mp (ek2.symm.trans ek)
        subst ekk
        have I2 := CI_mo I1 F2
        refine And.intro (sk_87 I2.1) (hC _ _ _ _ (q_thrown (by omega) M2 ?_))
        have fin := fun a b c e => hK _ _ _ _ (C.fin F1 F2 I2 M2 a b c e)
        refine And.intro (fun _ => And.intro (fun _ => fin _ _ _ _) (fun _ => And.intro (ck_out I2.1) ?_)) (fun y => absurd e0 y)
        have e9 : lg_cmp (am_l h2 104 0) (nI (pcn (gT (gTer st.1 k2 b)))).toInt64 = 0 := by rw [out_mo F2, o1]; exact lg_same _
        exact And.intro (fun _ => fin _ _ _ _) (fun y => absurd e9 y)
      refine And.intro (C.ar (j := 1) (by decide)) (And.intro (C.ar (j := 2) (by decide)) (And.intro (fun y => hK _ _ _ _ ?_) (fun y => hK _ _ _ _ ?_)))
      · have : b = false := hb2.mpr y
        subst this
        exact tail
      · have : b = true := by
          cases b with
          | true => rfl
          | false => exact absurd (hb2.mp rfl) y
        subst this
        exact tail
  refine am_go (fun p => p == 1846) (fun K cal Q' hK hC hQ => ?_)
  refine And.intro (C.ar (j := 1) (by decide)) (And.intro (C.ar (j := 2) (by decide)) (And.intro (fun y => hK _ _ _ _ ?_) (fun y => hK _ _ _ _ ?_)))
  · exact main false ⟨fun _ => y, fun _ => rfl⟩
  · exact main true ⟨(fun z => by cases z), fun z => absurd z y⟩
set_option maxHeartbeats 8000000 in
theorem l_load (C : Lc xs d Q i h st) (v5 v6 v7 v8 : Value) : LW xs d Q 289 (lL i v5 v6 v7 v8) [] h := by
  obtain ⟨⟨hd, hb, h3⟩, ⟨I, M, T, hN⟩, nx⟩ := id C
  have hL := I.2.2.2.1.1
  refine am_go (fun p => p == 1936) (fun K cal Q' hK hC hQ => ?_)
  refine And.intro (C.ar (j := 1) (by decide)) (And.intro trivial (hC _ _ _ _ (h_load (by omega) I T (Nat.lt_trans hN (by decide)) (sx xs i 1) (fun h1 e I1 F1 => ?_) (fun k e h1 hk ek hR I1 F1 o1 => ?_) (fun k s h1 hk ek hR I1 F1 o1 => ?_))))
  · have M1 := MI_cl M I1.1 F1
    have no : ∀ k, k ≤ st.2.2.1.1 → sx xs i 1 = nI k → False := fun k a b => by rw [b, vin_nI (show k < st.2.2.1.1 + 1 by omega) (by omega)] at e; cases e
    refine And.intro (C.ar (j := 1) (by decide)) (And.intro (sk_87 I1.1) (hC _ _ _ _ (q_load (by omega) M1 (sx xs i 1) (fun h2 e2 M2 F2 e0 => ?_) (fun k _ _ a b _ _ _ _ => (no k a b).elim) (fun k _ _ a b _ _ _ _ => (no k a b).elim))))
    have I2 := CI_mo I1 F2
    refine And.intro (sk_87 I2.1) (hC _ _ _ _ (q_thrown (by omega) M2 ?_))
    exact And.intro (fun _ => And.intro (fun _ => hK _ _ _ _ (C.fin F1 F2 I2 M2 _ _ _ _)) (fun y => absurd (Classical.not_not.mp y) (show ¬ nI 1 = 0 by decide))) (fun y => absurd e0 y)
  · have M1 := MI_cl M I1.1 F1
    have one : ∀ k2, k2 ≤ st.2.2.1.1 → sx xs i 1 = nI k2 → k2 = k := fun k2 a b => (nI_eq (by omega) (by omega)).mp (b.symm.trans ek)
    refine And.intro (C.ar (j := 1) (by decide)) (And.intro (sk_87 I1.1) (hC _ _ _ _ (q_load (by omega) M1 (sx xs i 1) (fun h2 e2 _ _ _ => by rw [ek, vin_nI (show k < st.2.2.1.1 + 1 by omega) (by omega)] at e2; cases e2) (fun k2 e2 h2 a b hR2 M2 F2 e0 => ?_) (fun k2 s2 h2 a b hR2 _ _ _ => by rw [one k2 a b, hR] at hR2; cases hR2))))
    rw [one k2 a b, hR] at hR2
    cases hR2
    have I2 := CI_mo I1 F2
    refine And.intro (sk_87 I2.1) (hC _ _ _ _ (q_thrown (by omega) M2 ?_))
    have fin := fun a b c e => hK _ _ _ _ (C.fin F1 F2 I2 M2 a b c e)
    refine And.intro (fun _ => And.intro (fun _ => fin _ _ _ _) (fun _ => And.intro (ck_out I2.1) ?_)) (fun y => absurd e0 y)
    have e9 : lg_cmp (am_l h2 104 0) (-nI e.1).toInt64 = 0 := by rw [out_mo F2, o1]; exact lg_same _
    exact And.intro (fun _ => fin _ _ _ _) (fun y => absurd e9 y)
  · have M1 := MI_cl M I1.1 F1
    have one : ∀ k2, k2 ≤ st.2.2.1.1 → sx xs i 1 = nI k2 → k2 = k := fun k2 a b => (nI_eq (by omega) (by omega)).mp (b.symm.trans ek)
    refine And.intro (C.ar (j := 1) (by decide)) (And.intro (sk_87 I1.1) (hC _ _ _ _ (q_load (by omega) M1 (sx xs i 1) (fun h2 e2 _ _ _ => by rw [ek, vin_nI (show k < st.2.2.1.1 + 1 by omega) (by omega)] at e2; cases e2) (fun k2 e2 h2 a b hR2 _ _ _ => by rw [one k2 a b, hR] at hR2; cases hR2) (fun k2 s2 h2 a b hR2 M2 F2 e0 => ?_))))
    rw [one k2 a b, hR] at hR2
    cases hR2
    have I2 := CI_mo I1 F2
    refine And.intro (sk_87 I2.1) (hC _ _ _ _ (q_thrown (by omega) M2 ?_))
    have fin := fun a b c e => hK _ _ _ _ (C.fin F1 F2 I2 M2 a b c e)
    refine And.intro (fun _ => And.intro (fun _ => fin _ _ _ _) (fun _ => And.intro (ck_out I2.1) ?_)) (fun y => absurd e0 y)
    have e9 : lg_cmp (am_l h2 104 0) (nI (gM s.2.1)).toInt64 = 0 := by rw [out_mo F2, o1]; exact lg_same _
    exact And.intro (fun _ => fin _ _ _ _) (fun y => absurd e9 y)
end

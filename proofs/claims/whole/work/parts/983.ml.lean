/-! THE MODEL: load -/
theorem sI_end {t : tX} {q : Nat} (hb : q < t.1 → t.2 q < 256) : sI t q = -nI 1 ↔ t.1 ≤ q := by
  unfold sI
  by_cases c : q < t.1
  · rw [if_pos c]
    exact ⟨fun y => absurd y (nI_neg1 (by have := hb c; omega)), fun y => by omega⟩
  · rw [if_neg c]
    exact ⟨fun _ => by omega, fun _ => rfl⟩
/-- the rest of the model stays -/
theorem MIw_y {h h' : am_H} {w : Nat} {st : stD} {X K : List Nat} (I : MIw h w st) (s : sf X K h h') (hX : (X.all fun x => !Nat.beq x 87 && !Nat.beq x 88 && !Nat.beq x 90) = true) (hK : (K.all fun x => !Nat.beq x 3 && !Nat.beq x 4 && !Nat.beq x 7 && !Nat.beq x 8) = true) : MIw h' w st := by
  obtain ⟨m, ⟨i1, i2, i3⟩, ⟨j1, j2, j3⟩, i4⟩ := I
  have nX : ∀ x, x = 88 ∨ x = 90 → x ∉ (87 :: X) := fun x hx z => by
    rcases List.mem_cons.mp z with e | e
    · omega
    · have := List.all_eq_true.mp hX x e
      rcases hx with rfl | rfl
      · exact absurd this (by decide)
      · exact absurd this (by decide)
  have nK : ∀ k, k = 3 ∨ k = 4 ∨ k = 7 ∨ k = 8 → k ∉ K := fun k hk z => by
    have := List.all_eq_true.mp hK k z
    rcases hk with rfl | rfl | rfl | rfl <;> exact absurd this (by decide)
  have e88 : ∀ k, am_i h' 88 k = am_i h 88 k := fun k => s.1.i (nX 88 (Or.inl rfl)) k
  exact ⟨⟨⟨s.1.sh m.1.1, m.1.2.1, (s.2 3 (nK 3 (by decide))).trans m.1.2.2⟩, mrow_mv m.2 e88⟩, ⟨(s.2 4 (nK 4 (by decide))).trans i1, i2, fun j g z => mrow_mv (i3 j g z) e88⟩, ⟨j1, (s.2 7 (nK 7 (by decide))).trans j2, fun k hk => ⟨(s.1.i (nX 90 (Or.inr rfl)) k).trans (j3 k hk).1, (j3 k hk).2⟩⟩, (s.2 8 (nK 8 (by decide))).trans i4⟩
section
variable {xs : am_X} {d : Nat} {h : am_H} {t : tX} {p : Nat} {g : gD} {L : Nat} {Q : am_Q}
set_option maxHeartbeats 8000000 in
theorem y_statement (hd : 19 ≤ d) (Z : mZ h t p g L) (w : pw5 p g L) (HQ : eL' h t (pStS t p g L) Q) : am_C xs am_P0 d m_Mo_statement [.ref 87] h Q := by
  unfold pStS eL' at HQ
  refine am_C_le hd (am_enter (d := 18) ap_Mo_statement rfl ?_) (fun _ _ k => k)
  have bad : ∀ (h' : am_H) (e : pE) (v1 : Value), pStm t p g L = .inl e → sfy h h' → mE h' e → am_W xs (am_code at_Mo_statement) (am_hd ah_Mo_statement) (am_C xs am_P0 18) Q 109 [.ref 87, v1] [] h' := by
    intro h' e v1 hR s E
    rw [hR] at HQ
    refine am_go (fun _ => false) (fun K cal Q' hK hC hQ => ?_)
    exact And.intro (sk_87 E.1) (hC _ _ _ _ (y_wants_err (by decide) E (And.intro trivial (hQ _ _ (HQ.1 e h' rfl s E)))))
  have good : ∀ (h' : am_H) (s : pS) (v1 : Value), pStm t p g L = .inr s → sfy h h' → mZ h' t s.1 s.2.1 s.2.2 → am_W xs (am_code at_Mo_statement) (am_hd ah_Mo_statement) (am_C xs am_P0 18) Q 109 [.ref 87, v1] [] h' := by
    intro h' s v1 hR s9 Z'
    rw [hR] at HQ
    dsimp only at HQ
    refine am_go (fun _ => false) (fun K cal Q' hK hC hQ => ?_)
    refine And.intro (sk_87 Z'.1.1) (hC _ _ _ _ (y_wants (s := 59) (by decide) Z'.1 (by decide) (fun e h2 hR2 s2 E2 => ?_) (fun q h2 hR2 s2 O2 => ?_)))
    · rw [hR2] at HQ
      exact And.intro trivial (hQ _ _ (HQ.1 e h2 rfl (sf_tr s9 (sf_mo s2 (subl_x rfl) (subl_x rfl))) E2))
    · rw [hR2] at HQ
      exact And.intro trivial (hQ _ _ (HQ.2 _ h2 rfl (sf_tr s9 (sf_mo s2 (subl_x rfl) (subl_x rfl))) (mZ_tk Z' s2 rfl O2)))
  clear HQ
  unfold pStm at bad good
  refine am_go (fun p => p == 27 || p == 109) (fun K cal Q' hK hC hQ => ?_)
  refine And.intro (sk_87 Z.1.1) (hC _ _ _ _ (y_sees (by decide) Z.1 (fun h1 s1 O1 e1 => ?_)))
  have Z1 := mZ_tk Z s1 rfl O1
  have s01 : sfy h h1 := sf_mo s1 (subl_x rfl) (subl_x rfl)
  refine And.intro (sk_87 O1.1) ?_
  show am_k h1 87 = _ ∧ _
  -- words
  refine And.intro (sk_87 O1.1) (hC _ _ _ _ (y_takes (s := 1) (by decide) O1 (by decide) (fun h2 w1 s2 O2 e2 => ?_) (fun h2 w1 s2 O2 => ?_)))
  rotate_left
  · rw [if_pos w1] at bad good
    refine And.intro (fun y => absurd y i1_0) (fun _ => ?_)
    have Z2 := mZ_tk Z1 s2 rfl O2
    have s02 : sfy h h2 := sf_tr s01 (sf_mo s2 (subl_x rfl) (subl_x rfl))
    refine And.intro (sk_87 O2.1) ?_
    show cal m_Mo_terminalLine [.ref 87, .int (am_i h1 87 10)] h2 _
    rw [e1]
    have wl : wLen 1 = 8 := by decide
    have wt := wIs_te (by decide) w1
    have g1 := sk_ge t p
    refine hC _ _ _ _ (y_terminalLine (by decide) Z2 ⟨⟨w.1.1, w.1.2.1, w.1.2.2.1, w.1.2.2.2.1, by have := w.1.2.2.2.2.1; omega, fun cs hc => by have := w.1.2.2.2.2.2 cs hc; omega⟩, w.2⟩ ⟨fun e h3 hR3 s3 E3 => hK _ _ _ _ (bad h3 e _ hR3 (sf_tr s02 s3) E3), fun s h3 hR3 s3 Z3 => hK _ _ _ _ (good h3 s _ hR3 (sf_tr s02 s3) Z3)⟩)
  rw [if_neg (by rw [w1]; decide)] at bad good
  refine And.intro (fun _ => hK _ _ _ _ ?_) (fun y => absurd rfl y)
  have Z2 := mZ_tk Z1 s2 rfl O2
  have s02 : sfy h h2 := sf_tr s01 (sf_mo s2 (subl_x rfl) (subl_x rfl))
  show am_W _ _ _ _ _ 27 [.ref 87, .int (am_i h1 87 10)] [] h2
  rw [e1]
  have g1 := sk_ge t p
  refine am_go (fun p => p == 44 || p == 109) (fun K cal Q' hK hC hQ => ?_)
  refine And.intro (sk_87 O2.1) (hC _ _ _ _ (y_takes (s := 2) (by decide) O2 (by decide) (fun h3 w2 s3 O3 e3 => ?_) (fun h3 w2 s3 O3 => ?_)))
  rotate_left
  · rw [if_pos w2] at bad good
    refine And.intro (fun y => absurd y i1_0) (fun _ => ?_)
    have Z3 := mZ_tk Z2 s3 rfl O3
    have s03 : sfy h h3 := sf_tr s02 (sf_mo s3 (subl_x rfl) (subl_x rfl))
    have wl : wLen 2 = 4 := by decide
    have wt := wIs_te (by decide) w2
    refine And.intro (sk_87 O3.1) (hC _ _ _ _ (y_edgeLine (by decide) Z3 ⟨⟨w.1.1, w.1.2.1, w.1.2.2.1, w.1.2.2.2.1, by have := w.1.2.2.2.2.1; omega, fun cs hc => by have := w.1.2.2.2.2.2 cs hc; omega⟩, w.2⟩ ⟨fun e h4 hR4 s4 E4 => hK _ _ _ _ (bad h4 e _ hR4 (sf_tr s03 s4) E4), fun s h4 hR4 s4 Z4 => hK _ _ _ _ (good h4 s _ hR4 (sf_tr s03 s4) Z4)⟩))
  rw [if_neg (by rw [w2]; decide)] at bad good
  refine And.intro (fun _ => hK _ _ _ _ ?_) (fun y => absurd rfl y)
  have Z3 := mZ_tk Z2 s3 rfl O3
  have s03 : sfy h h3 := sf_tr s02 (sf_mo s3 (subl_x rfl) (subl_x rfl))
  refine am_go (fun p => p == 60 || p == 109) (fun K cal Q' hK hC hQ => ?_)
  refine And.intro (sk_87 O3.1) (hC _ _ _ _ (y_takes (s := 3) (by decide) O3 (by decide) (fun h4 w3 s4 O4 e4 => ?_) (fun h4 w3 s4 O4 => ?_)))
  rotate_left
  · rw [if_pos w3] at bad good
    refine And.intro (fun y => absurd y i1_0) (fun _ => ?_)
    have Z4 := mZ_tk Z3 s4 rfl O4
    have s04 : sfy h h4 := sf_tr s03 (sf_mo s4 (subl_x rfl) (subl_x rfl))
    have wl : wLen 3 = 4 := by decide
    have wt := wIs_te (by decide) w3
    refine And.intro (sk_87 O4.1) (hC _ _ _ _ (y_loadLine (by decide) Z4 ⟨⟨w.1.1, w.1.2.1, w.1.2.2.1, w.1.2.2.2.1, by have := w.1.2.2.2.2.1; omega, fun cs hc => by have := w.1.2.2.2.2.2 cs hc; omega⟩, w.2⟩ ⟨fun e h5 hR5 s5 E5 => hK _ _ _ _ (bad h5 e _ hR5 (sf_tr s04 s5) E5), fun s h5 hR5 s5 Z5 => hK _ _ _ _ (good h5 s _ hR5 (sf_tr s04 s5) Z5)⟩))
  rw [if_neg (by rw [w3]; decide)] at bad good
  refine And.intro (fun _ => hK _ _ _ _ ?_) (fun y => absurd rfl y)
  have Z4 := mZ_tk Z3 s4 rfl O4
  have s04 : sfy h h4 := sf_tr s03 (sf_mo s4 (subl_x rfl) (subl_x rfl))
  refine am_go (fun p => p == 83 || p == 102 || p == 109) (fun K cal Q' hK hC hQ => ?_)
  refine And.intro (sk_87 O4.1) (hC _ _ _ _ (y_takes (s := 4) (by decide) O4 (by decide) (fun h5 w4 s5 O5 e5 => ?_) (fun h5 w4 s5 O5 => ?_)))
  · -- no word
    rw [if_neg (by rw [w4]; decide)] at bad
    refine And.intro (fun _ => hK _ _ _ _ ?_) (fun y => absurd rfl y)
    refine am_go (fun p => p == 109) (fun K cal Q' hK hC hQ => ?_)
    refine And.intro (sk_87 O5.1) (hC _ _ _ _ (y_fails (by decide) (sk_87 O5.1) O5.2.2.2.1 (by decide) O5.1 (fun h6 s6 E6 => hK _ _ _ _ (bad h6 _ _ rfl (sf_tr (sf_tr s04 (sf_mo s5 (subl_x rfl) (subl_x rfl))) (sf_mo s6 (subl_x rfl) (subl_x rfl))) E6))))
  · rw [if_pos w4] at bad good
    unfold pCoS at bad good
    refine And.intro (fun y => absurd y i1_0) (fun _ => ?_)
    have Z5 := mZ_tk Z4 s5 rfl O5
    have s05 : sfy h h5 := sf_tr s04 (sf_mo s5 (subl_x rfl) (subl_x rfl))
    have wl : wLen 4 = 4 := by decide
    have wt := wIs_te (by decide) w4
    have e15 : am_i h5 87 15 = bI (gCs g).isSome := Z5.2.2.2.1
    cases e9 : (gCs g).isSome with
    | true =>
      rw [if_pos e9] at bad
      rw [e9] at e15
      refine And.intro (sk_87 O5.1) (And.intro (fun y => absurd (e15.symm.trans y) q_t1) (fun _ => ?_))
      refine And.intro (sk_87 O5.1) (hC _ _ _ _ (y_fails (by decide) (sk_87 O5.1) O5.2.2.2.1 (by decide) O5.1 (fun h6 s6 E6 => hK _ _ _ _ ?_)))
      refine am_go (fun p => p == 109) (fun K cal Q' hK hC hQ => ?_)
      refine And.intro ⟨sk_87 E6.1, Or.inr rfl⟩ ?_
      have s7 : sf [] [15] h6 (am_pi h6 87 15 (nI 1)) := sf_pf sf_rf (by decide)
      have E7 : mE (am_pi h6 87 15 (nI 1)) (2, sk t p) := ⟨s7.1.sh E6.1, E6.2.1, (s7.2 11 (by decide)).trans E6.2.2.1, (s7.2 12 (by decide)).trans E6.2.2.2⟩
      exact And.intro (sk_87 E7.1) (And.intro (fun _ => hK _ _ _ _ (bad _ _ _ rfl (sf_tr (sf_tr s05 (sf_mo s6 (subl_x rfl) (subl_x rfl))) (sf_mo s7 (subl_x rfl) (subl_x rfl))) E7)) (fun y => absurd (Classical.not_not.mp y) E7.ne))
    | false =>
      rw [if_neg (by rw [e9]; decide)] at bad good
      rw [e9] at e15
      have eN : gCs g = none := by
        cases e6 : gCs g with
        | none => rfl
        | some cs => rw [e6] at e9; cases e9
      refine And.intro (sk_87 O5.1) (And.intro (fun _ => hK _ _ _ _ ?_) (fun y => absurd e15 y))
      refine am_go (fun p => p == 109) (fun K cal Q' hK hC hQ => ?_)
      refine And.intro ⟨sk_87 O5.1, Or.inr rfl⟩ ?_
      show am_k (am_pi h5 87 15 (nI 1)) 87 = _ ∧ _
      have s7 : sf [] [15] h5 (am_pi h5 87 15 (nI 1)) := sf_pf sf_rf (by decide)
      have e157 : am_i (am_pi h5 87 15 (nI 1)) 87 15 = nI 1 := by rw [i_pi_same, if_pos rfl]
      generalize am_pi h5 87 15 (nI 1) = h7 at s7 e157 ⊢
      obtain ⟨⟨o1, o2, o3, o4, qq, q1, q2, q3⟩, R5, zl, z15, z14⟩ := Z5
      rw [eN] at R5
      have O7 : mO h7 t (te t (sk t p)) := ⟨s7.1.sh o1, o2.mv s7 (by decide) (by decide), o3, (s7.2 11 (by decide)).trans o4, qq, (s7.2 10 (by decide)).trans q1, q2, q3⟩
      have X7 : mQx h7 t (te t (sk t p)) [] g 0 := ⟨O7, R5.mv (sf_89 s7 (by decide)), (s7.2 14 (by decide)).trans z14, by have := w.1.2.2.2.2.1; show 0 + 11 ≤ te t (sk t p); omega, w.1.1.1.2.1⟩
      have s07 : sfy h h7 := sf_tr s05 (sf_mo s7 (subl_x rfl) (subl_x rfl))
      refine And.intro (sk_87 O7.1) (And.intro (fun y => absurd O7.2.2.2.1 y) (fun _ => ?_))
      refine And.intro (sk_87 O7.1) (hC _ _ _ _ (y_sum_k 4 0 rfl 18 h7 _ _ g _ (Nat.le_refl _) X7 ⟨fun e h8 hR8 s8 E8 => hK _ _ _ _ (bad h8 e _ (by rw [hR8]) (sf_tr s07 (sf_mo s8 (subl_x rfl) (subl_x rfl))) E8), fun p8 cs8 h8 hR8 s8 X8 => hK _ _ _ _ (good h8 (p8, gCsS g cs8, L) _ (by rw [hR8]) (sf_tr s07 (sf_mo s8 (subl_x rfl) (subl_x rfl))) ⟨X8.1, X8.2.1, fun v hv => (s8.1.i (by decide) v).trans ((s7.1.i (by decide) v).trans (zl v hv)), (s8.2 15 (by decide)).trans e157, X8.2.2.1⟩)⟩))
set_option maxHeartbeats 8000000 in
theorem y_texts (hd : 20 ≤ d) (hs : sh h) (x : mTx h t) (HQ0 : ∀ e h', pText t = .inl e → sfy h h' → mE h' e → Q (.inl none) h') (HQ1 : ∀ s h', pText t = .inr s → sfy h h' → mZ h' t s.1 s.2.1 s.2.2 → Q (.inl none) h') : am_C xs am_P0 d m_Mo_texts [.ref 87] h Q := by
  have t7 := x.1
  refine am_C_le hd (am_enter (d := 19) ap_Mo_texts rfl ?_) (fun _ _ k => k)
  -- errors
  have bad101 : ∀ (h' : am_H) (e : pE) (v1 : Value), pText t = .inl e → sfy h h' → mE h' e → am_W xs (am_code at_Mo_texts) (am_hd ah_Mo_texts) (am_C xs am_P0 19) Q 101 [.ref 87, v1] [] h' := by
    intro h' e v1 hR s E
    refine am_go (fun _ => false) (fun K cal Q' hK hC hQ => ?_)
    exact And.intro (sk_87 E.1) (And.intro (fun _ => And.intro trivial (hQ _ _ (HQ0 e h' hR s E))) (fun y => absurd (Classical.not_not.mp y) E.ne))
  have bad94 : ∀ (h' : am_H) (e : pE) (v1 : Value) (z : Int32), pText t = .inl e → sfy h h' → mE h' e → am_W xs (am_code at_Mo_texts) (am_hd ah_Mo_texts) (am_C xs am_P0 19) Q 94 [.ref 87, v1] [.int z, .int (nI 0), .ref 89] h' := by
    intro h' e v1 z hR s E
    refine am_go (fun p => p == 101) (fun K cal Q' hK hC hQ => ?_)
    refine And.intro (ck_arr (sk_89 E.1) (e := 0) rfl (by decide) (by decide)) ?_
    have s2 : sf [89] [] h' (am_pi h' 89 (nI 0).toNatClampNeg z) := sf_pi sf_rf (by decide) (by decide)
    have E2 : mE (am_pi h' 89 (nI 0).toNatClampNeg z) e := ⟨s2.1.sh E.1, E.2.1, (s2.2 11 (by decide)).trans E.2.2.1, (s2.2 12 (by decide)).trans E.2.2.2⟩
    exact And.intro (sk_87 E2.1) (hC _ _ _ _ (y_wants_err (by decide) E2 (hK _ _ _ _ (bad101 _ e v1 hR (sf_tr s (sf_mo s2 (subl_x rfl) (subl_x rfl))) E2))))
  -- behind the clearing
  have main : ∀ h1 (v1 : Value), sf [89, 91] [] h h1 → (∀ k, k < 1472 → am_i h1 89 k = 0) → (∀ k, k < 9 → am_i h1 91 k = 0) → am_W xs (am_code at_Mo_texts) (am_hd ah_Mo_texts) (am_C xs am_P0 19) Q 43 [.ref 87, v1] [] h1 := by
    intro h1 v1 s1 z89 z91
    have hs1 := s1.1.sh hs
    refine am_go (fun p => p == 82) (fun K cal Q' hK hC hQ => ?_)
    refine And.intro (sk_87 hs1) (And.intro (sk_87 hs1) (And.intro (sk_87 hs1) (And.intro ⟨sk_87 hs1, Or.inl rfl⟩ ?_)))
    show am_k (am_pi (am_pi (am_pi (am_pi h1 87 10 (nI 0)) 87 11 (nI 0)) 87 14 (nI 0)) 87 15 (nI 0)) 87 = _ ∧ _
    have s2 : sf [] [10, 11, 14, 15] h1 (am_pi (am_pi (am_pi (am_pi h1 87 10 (nI 0)) 87 11 (nI 0)) 87 14 (nI 0)) 87 15 (nI 0)) := sf_pf (sf_pf (sf_pf (sf_pf sf_rf (by decide)) (by decide)) (by decide)) (by decide)
    have f2 : ∀ k, am_i (am_pi (am_pi (am_pi (am_pi h1 87 10 (nI 0)) 87 11 (nI 0)) 87 14 (nI 0)) 87 15 (nI 0)) 87 k = if k = 15 then nI 0 else if k = 14 then nI 0 else if k = 11 then nI 0 else if k = 10 then nI 0 else am_i h1 87 k := fun k => by rw [i_pi_same, i_pi_same, i_pi_same, i_pi_same]
    generalize am_pi (am_pi (am_pi (am_pi h1 87 10 (nI 0)) 87 11 (nI 0)) 87 14 (nI 0)) 87 15 (nI 0) = h2 at s2 f2 ⊢
    have hs2 := s2.1.sh hs1
    have x2 : mTx h2 t := (x.mv s1 (by decide) (by decide)).mv s2 (by decide) (by decide)
    have O2 : mO h2 t 0 := ⟨hs2, x2, Nat.zero_le _, f2 11, 0, f2 10, Nat.zero_le _, rfl⟩
    have Z2 : mZ h2 t 0 (g0 0) 0 := ⟨O2, ⟨⟨(sf_89 s2 (by decide) 0).trans (z89 0 (by decide)), (sf_89 s2 (by decide) 1).trans (z89 1 (by decide)), (sf_89 s2 (by decide) 2).trans (z89 2 (by decide)), (sf_89 s2 (by decide) 3).trans (z89 3 (by decide))⟩, fun v hv => (sf_89 s2 (by decide) _).trans (z89 _ (by omega)), fun e he => absurd he (Nat.not_lt_zero _), fun k hk => absurd hk (Nat.not_lt_zero _)⟩, fun v hv => by rw [Nat.zero_testBit]; exact (s2.1.i (by decide) v).trans (z91 v hv), f2 15, f2 14⟩
    have s02 : sfy h h2 := sf_tr (sf_mo s1 (subl_x rfl) (subl_x rfl)) (sf_mo s2 (subl_x rfl) (subl_x rfl))
    refine And.intro (sk_87 hs2) (hC _ _ _ _ (y_takes (s := 0) (by decide) O2 (by decide) (fun h3 w0 s3 O3 e3 => ?_) (fun h3 w0 s3 O3 => ?_)))
    · -- no graph
      have hR : pText t = .inl (2, sk t 0) := by unfold pText pHead; rw [if_neg (by rw [w0]; decide)]
      refine And.intro (fun y => absurd rfl y) (fun _ => ?_)
      refine And.intro (sk_87 O3.1) (And.intro (sk_87 O3.1) ?_)
      show cal m_Mo_fails [.ref 87, .int (-nI 2), .int (am_i h3 87 10)] h3 _
      rw [e3]
      refine hC _ _ _ _ (y_fails (by decide) (sk_87 O3.1) O3.2.2.2.1 (by decide) O3.1 (fun h4 s4 E4 => hK _ _ _ _ ?_))
      have s04 : sfy h h4 := sf_tr (sf_tr s02 (sf_mo s3 (subl_x rfl) (subl_x rfl))) (sf_mo s4 (subl_x rfl) (subl_x rfl))
      refine am_go (fun p => p == 94) (fun K cal Q' hK hC hQ => ?_)
      refine And.intro (sk_87 E4.1) (And.intro (sk_87 E4.1) (hC _ _ _ _ (y_reads_err (by decide) E4 (hK _ _ _ _ ?_))))
      show am_W _ _ _ _ _ 94 [.ref 87, v1] [.int 0, .int (nI 0), .ref (am_r h4 87 2)] h4
      rw [sr_87_2 E4.1]
      exact bad94 h4 _ v1 0 hR s04 E4
    · refine And.intro (fun _ => hK _ _ _ _ ?_) (fun y => absurd (Classical.not_not.mp y) i1_0)
      have Z3 := mZ_tk Z2 s3 rfl O3
      have s03 : sfy h h3 := sf_tr s02 (sf_mo s3 (subl_x rfl) (subl_x rfl))
      refine am_go (fun p => p == 94) (fun K cal Q' hK hC hQ => ?_)
      refine And.intro (sk_87 O3.1) (And.intro (sk_87 O3.1) (hC _ _ _ _ (y_reads (lo := 2) (hi := 9) (by decide) O3 (by decide) (by decide) (fun e h4 hR4 s4 E4 => hK _ _ _ _ ?_) (fun a h4 hR4 s4 O4 e13 => hK _ _ _ _ ?_))))
      · have hR : pText t = .inl e := by unfold pText pHead; rw [if_pos w0, hR4]
        show am_W _ _ _ _ _ 94 [.ref 87, v1] [.int 0, .int (nI 0), .ref (am_r h3 87 2)] h4
        rw [sr_87_2 O3.1]
        exact bad94 h4 e v1 0 hR (sf_tr s03 (sf_mo s4 (subl_x rfl) (subl_x rfl))) E4
      obtain ⟨b1, b2, b3, b4, b5, b6, b7⟩ := pNum_r O3.2.2.1 hR4
      have Z4 := mZ_tk Z3 s4 rfl O4
      have s04 : sfy h h4 := sf_tr s03 (sf_mo s4 (subl_x rfl) (subl_x rfl))
      show am_W _ _ _ _ _ 94 [.ref 87, v1] [.int (nI a.1), .int (nI 0), .ref (am_r h3 87 2)] h4
      rw [sr_87_2 O3.1]
      refine am_go (fun p => p == 101) (fun K cal Q' hK hC hQ => ?_)
      refine And.intro (ck_arr (sk_89 O4.1) (e := 0) rfl (by decide) (by decide)) ?_
      show am_k (am_pi h4 89 (nI 0).toNatClampNeg (nI a.1)) 87 = _ ∧ _
      have c0 : (nI 0).toNatClampNeg = 0 := rfl
      rw [c0]
      have s5 : sf [89] [] h4 (am_pi h4 89 0 (nI a.1)) := sf_pi sf_rf (by decide) (by decide)
      have f5 : ∀ k, am_i (am_pi h4 89 0 (nI a.1)) 89 k = if k = 0 then nI a.1 else am_i h4 89 k := fun k => i_pi_same _ _ _ _ _
      generalize am_pi h4 89 0 (nI a.1) = h5 at s5 f5 ⊢
      have Z5 : mZ h5 t (te t a.2) (g0 a.1) 0 := by
        obtain ⟨⟨o1, o2, o3, o4, qq, q1, q2, q3⟩, ⟨⟨r0, r1, r2, r3⟩, rl, re, rc⟩, zl, z15, z14⟩ := Z4
        exact ⟨⟨s5.1.sh o1, o2.mv s5 (by decide) (by decide), o3, (s5.2 11 (by decide)).trans o4, qq, (s5.2 10 (by decide)).trans q1, q2, q3⟩, ⟨⟨f5 0, (f5 1).trans r1, (f5 2).trans r2, (f5 3).trans r3⟩, fun v hv => by rw [f5, if_neg (by omega)]; exact rl v hv, fun e he => absurd he (Nat.not_lt_zero _), fun k hk => absurd hk (Nat.not_lt_zero _)⟩, fun v hv => (s5.1.i (by decide) v).trans (zl v hv), (s5.2 15 (by decide)).trans z15, (s5.2 14 (by decide)).trans z14⟩
      have s05 : sfy h h5 := sf_tr s04 (sf_mo s5 (subl_x rfl) (subl_x rfl))
      refine And.intro (sk_87 Z5.1.1) (hC _ _ _ _ (y_wants (s := 59) (by decide) Z5.1 (by decide) (fun e h6 hR6 s6 E6 => hK _ _ _ _ ?_) (fun q h6 hR6 s6 O6 => hK _ _ _ _ ?_)))
      · exact bad101 h6 e v1 (by unfold pText pHead; rw [if_pos w0, hR4]; dsimp only; rw [hR6]) (sf_tr s05 (sf_mo s6 (subl_x rfl) (subl_x rfl))) E6
      have hH : pHead t = .inr (a.1, q) := by unfold pHead; rw [if_pos w0, hR4]; dsimp only; rw [hR6]
      have hT : pText t = pStms t t.1 q (g0 a.1) 0 := by unfold pText; rw [hH]
      have w6 := pHead_wf hH
      have Z6 : mZ h6 t q (g0 a.1) 0 := mZ_tk Z5 s6 rfl O6
      have s06 : sfy h h6 := sf_tr s05 (sf_mo s6 (subl_x rfl) (subl_x rfl))
      refine am_while (fun n L' h' => ∃ p g L, L' = [.ref 87, v1] ∧ sfy h h' ∧ mZ h' t p g L ∧ pw5 p g L ∧ p ≤ t.1 ∧ t.1 ≤ p + n ∧ pStms t n p g L = pText t) ?_ t.1 _ _ ⟨q, g0 a.1, 0, rfl, s06, Z6, ⟨w6.1, show pcn 0 ≤ 5 by decide⟩, w6.2, by omega, hT.symm⟩
      rintro n L' h' ⟨p, g, L, rfl, s, Z, w, hp, hn, hR⟩ next
      have ke := sI_end (t := t) (q := sk t p) (Z.1.b _)
      refine am_go (fun p => p == 101) (fun K cal Q' hK hC hQ => ?_)
      refine And.intro (sk_87 Z.1.1) (And.intro (fun y => absurd Z.1.2.2.2.1 y) (fun _ => ?_))
      refine And.intro (sk_87 Z.1.1) (hC _ _ _ _ (y_sees (by decide) Z.1 (fun h7 s7 O7 e7 => ?_)))
      have Z7 := mZ_tk Z s7 rfl O7
      have s07 : sfy h h7 := sf_tr s (sf_mo s7 (subl_x rfl) (subl_x rfl))
      refine And.intro (fun y => ?_) (fun y => ?_)
      · have y := ke.mp y
        refine And.intro trivial (hQ _ _ (HQ1 (p, g, L) h7 ?_ s07 Z7))
        cases n with
        | zero => exact hR.symm
        | succ n => rw [pStms, if_pos y] at hR; exact hR.symm
      · have y : ¬ t.1 ≤ sk t p := fun u => y (ke.mpr u)
        have hn1 : ∃ m, n = m + 1 := ⟨n - 1, by have := sk_ge t p; have := sk_len hp; omega⟩
        obtain ⟨m, rfl⟩ := hn1
        rw [pStms, if_neg y] at hR
        refine And.intro (sk_87 O7.1) (hC _ _ _ _ (y_statement (by decide) Z7 w ⟨fun e h8 hR8 s8 E8 => hK _ _ _ _ ?_, fun s9 h8 hR8 s8 Z8 => hK _ _ _ _ ?_⟩))
        · rw [hR8] at hR
          exact bad101 h8 e v1 hR.symm (sf_tr s07 s8) E8
        · rw [hR8] at hR
          obtain ⟨w8, lt8, le8⟩ := pStS_w5 hp t7 w hR8
          exact next m _ _ (Nat.lt_succ_self m) ⟨s9.1, s9.2.1, s9.2.2, rfl, sf_tr s07 s8, Z8, w8, le8, by omega, hR⟩
  -- the clearing
  refine am_go (fun p => p == 2) (fun K cal Q' hK hC hQ => hK _ _ _ _ ?_)
  refine am_for 1472 (fun i L' h' => L' = [.ref 87, .int (nI i)] ∧ sf [89] [] h h' ∧ ∀ k, k < i → am_i h' 89 k = 0) ?_ ?_ 0 (Nat.zero_le _) _ _ ⟨rfl, sf_rf, fun k z => absurd z (Nat.not_lt_zero _)⟩
  · rintro i hi9 L' h' ⟨rfl, s, hv⟩ next
    have eI : am_inc (nI i) (Int.ofNat 1) = nI (i + 1) := nI_1 i
    rw [← eI] at next
    have hs' := s.1.sh hs
    have R2 : am_r h' 87 2 = 89 := sr_87_2 hs'
    refine am_go (fun p => p == 2) (fun K cal Q' hK hC hQ => ?_)
    refine And.intro (fun c => absurd c (nI_ge hi9 (by omega))) (fun _ => ?_)
    refine And.intro (sk_87 hs') (And.intro (ck_row R2 (sk_89 hs') rfl hi9 (by decide)) (hK _ _ _ _ (next _ _ ⟨rfl, ?_, fun k hk => ?_⟩)))
    · show sf [89] [] h (am_pi h' (am_r h' 87 2) (nI i).toNatClampNeg (nI 0))
      rw [R2]
      exact sf_pi s (by decide) (by decide)
    · show am_i (am_pi h' (am_r h' 87 2) (nI i).toNatClampNeg (nI 0)) 89 k = 0
      rw [R2, q_cl (by omega), i_pi_same]
      by_cases e : k = i
      · rw [if_pos e]; rfl
      · rw [if_neg e]; exact hv k (by omega)
  · rintro L' h1 ⟨rfl, s1, hv1⟩
    have hs1 := s1.1.sh hs
    refine am_go (fun p => p == 24) (fun K cal Q' hK hC hQ => ?_)
    refine And.intro (fun _ => hK _ _ _ _ ?_) (fun c => absurd (nI_le (Nat.le_refl _) (by omega)) c)
    refine am_for 9 (fun i L' h' => L' = [.ref 87, .int (nI i)] ∧ sf [91] [] h1 h' ∧ ∀ k, k < i → am_i h' 91 k = 0) ?_ ?_ 0 (Nat.zero_le _) _ _ ⟨rfl, sf_rf, fun k z => absurd z (Nat.not_lt_zero _)⟩
    · rintro i hi9 L' h' ⟨rfl, s, hv⟩ next
      have eI : am_inc (nI i) (Int.ofNat 1) = nI (i + 1) := nI_1 i
      rw [← eI] at next
      have hs' := s.1.sh hs1
      have R6 : am_r h' 87 6 = 91 := sr_87_6 hs'
      have en : vp_nar .boolean (nI 0) = 0 := by decide
      refine am_go (fun p => p == 24) (fun K cal Q' hK hC hQ => ?_)
      refine And.intro (fun c => absurd c (nI_ge hi9 (by omega))) (fun _ => ?_)
      refine And.intro (sk_87 hs') (And.intro (ck_row R6 (sk_91 hs') rfl hi9 (by decide)) (hK _ _ _ _ (next _ _ ⟨rfl, ?_, fun k hk => ?_⟩)))
      · show sf [91] [] h1 (am_pi h' (am_r h' 87 6) (nI i).toNatClampNeg (vp_nar .boolean (nI 0)))
        rw [R6]
        exact sf_pi s (by decide) (by decide)
      · show am_i (am_pi h' (am_r h' 87 6) (nI i).toNatClampNeg (vp_nar .boolean (nI 0))) 91 k = 0
        rw [R6, q_cl (by omega), en, i_pi_same]
        by_cases e : k = i
        · rw [if_pos e]
        · rw [if_neg e]; exact hv k (by omega)
    · rintro L' h2 ⟨rfl, s2, hv2⟩
      refine am_go (fun p => p == 43) (fun K cal Q' hK hC hQ => ?_)
      refine And.intro (fun _ => hK _ _ _ _ (main h2 _ (sf_tr (sf_mo s1 (subl_x rfl) (subl_x rfl)) (sf_mo s2 (subl_x rfl) (subl_x rfl))) (fun k hk => (sf_89 s2 (by decide) k).trans (hv1 k hk)) hv2)) (fun c => absurd (nI_le (Nat.le_refl _) (by omega)) c)
end
section
variable {xs : am_X} {d : Nat} {h : am_H} {st : stD} {Q : am_Q}
/-- the row behind a good reading, its labels being any -/
theorem mrow_read {h : am_H} {b : Nat} {g : gD} (wf : gwf g) (h690 : ncs g ≤ 690) (e : ∀ k, k < 1472 → ¬ (75 ≤ k ∧ k < 84) → am_i h 88 (b + k) = am_i h 89 k) (R : mRd h g ((gCs g).getD [])) (lab : Nat → Int32) (hl : ∀ v, v < gN g → am_i h 88 (b + (75 + v)) = lab v) : mrow h b (gL g lab) := by
  obtain ⟨⟨r0, r1, r2, r3⟩, rl, re, rc⟩ := R
  have hn := wf.1.1
  have hm := wf.1.2.1
  have ec : ncs g = ((gCs g).getD []).length := by
    unfold ncs
    cases gCs g <;> rfl
  have ed : ∀ k, gcd g k = ((gCs g).getD []).getD k 0 := fun k => by
    unfold gcd
    cases gCs g <;> simp
  refine ⟨⟨(e 0 (by decide) (by decide)).trans r0, (e 1 (by decide) (by decide)).trans r1, (e 2 (by decide) (by decide)).trans r2, (e 3 (by decide) (by decide)).trans ?_⟩, fun v hv => ?_, fun k hk => ?_, fun v hv => hl v hv, fun k hk => ?_, wf, h690⟩
  · show _ = nI (ncs g)
    rw [ec]; exact r3
  · have hv : v < gN g := hv
    exact (e _ (by omega) (by omega)).trans (rl v (by omega))
  · have hk : k < gM g := hk
    have q := re k hk
    exact ⟨(e (15 + 3 * k) (by omega) (by omega)).trans q.1, (e (15 + 3 * k + 1) (by omega) (by omega)).trans q.2.1, (e (15 + 3 * k + 2) (by omega) (by omega)).trans q.2.2⟩
  · have hk : k < ncs g := hk
    have q := rc k (by omega)
    show (am_i h 88 (b + (84 + 2 * k))).toInt = cW (gcd g k) ∧ (am_i h 88 (b + (84 + 2 * k + 1))).toInt = cV (gcd g k)
    rw [ed, e _ (by omega) (by omega), e _ (by omega) (by omega)]
    exact q
end

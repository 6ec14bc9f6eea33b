/-! THE MODEL'S READER: statements -/
def mZ (h : am_H) (t : tX) (p : Nat) (g : gD) (L : Nat) : Prop := mO h t p ∧ mRd h g ((gCs g).getD []) ∧ (∀ v, v < 9 → am_i h 91 v = bI (L.testBit v)) ∧ am_i h 87 15 = bI (gCs g).isSome ∧ am_i h 87 14 = nI 0
abbrev sfy (h h' : am_H) : Prop := sf [89, 91] [10, 11, 12, 13, 14, 15] h h'
/-- what is asked besides of a graph read so far -/
def pw5 (p : Nat) (g : gD) (L : Nat) : Prop := pwf p g L ∧ pcn (gT g) ≤ 5
theorem pcn_or {T v : Nat} (hv : v < 9) : pcn (T ||| 2 ^ v) ≤ pcn T + 1 := by
  have e : pcn (T ||| 2 ^ v) = fb_ct (fun k => if k = v then true else T.testBit k) 9 := fb_ct_cong fun k hk => by
    rw [fb_bit_set]
    by_cases z : k = v
    · rw [if_pos z, decide_eq_true z, Bool.or_true]
    · rw [if_neg z, decide_eq_false z, Bool.or_false]
  have e2 : fb_ct (fun k => if k = v then true else T.testBit k) 9 + (if T.testBit v then 1 else 0) = fb_ct T.testBit 9 + (if true then 1 else 0) := fb_ct_upd T.testBit true hv
  have e3 : fb_ct T.testBit 9 = pcn T := rfl
  rw [if_pos rfl] at e2
  omega
theorem pStS_w5 {t : tX} {p : Nat} {g : gD} {L : Nat} {s : pS} (hp : p ≤ t.1) (h7 : t.1 ≤ 700) (w : pw5 p g L) (h : pStS t p g L = .inr s) : pw5 s.1 s.2.1 s.2.2 ∧ p < s.1 ∧ s.1 ≤ t.1 := by
  obtain ⟨a, b, c⟩ := pStS_wf hp h7 w.1 h
  refine ⟨⟨a, ?_⟩, b, c⟩
  have n9 := w.1.1.1.1
  have w5 := w.2
  unfold pStS at h
  split at h
  · cases h
  · rename_i s1 h1
    split at h
    · cases h
    · cases h
      show pcn (gT s1.2.1) ≤ 5
      unfold pStm at h1
      split at h1
      · unfold pTerS at h1
        split at h1
        · cases h1
        · split at h1
          · cases h1
          · rename_i aa ha
            split at h1
            · cases h1
            · cases h1
              obtain ⟨r1, r2, r3, r4, r5, r6, r7⟩ := pNum_r (te_len (sk_len hp)) ha
              have n2 := w.1.2.1
              have := pcn_or (T := gT g) (v := aa.1) (by omega)
              show pcn (gT g ||| 2 ^ aa.1) ≤ 5
              omega
      · split at h1
        · unfold pEdS at h1
          split at h1
          · cases h1
          · split at h1
            · cases h1
            · split at h1
              · cases h1
              · split at h1
                · cases h1
                · split at h1
                  · cases h1
                  · cases h1; exact w5
        · split at h1
          · unfold pLdS at h1
            split at h1
            · cases h1
            · split at h1
              · cases h1
              · split at h1
                · cases h1
                · cases h1; exact w5
          · split at h1
            · unfold pCoS at h1
              split at h1
              · cases h1
              · split at h1
                · cases h1
                · cases h1; exact w5
            · cases h1
abbrev eL' (h : am_H) (t : tX) (r : pY) (Q : am_Q) : Prop := (∀ e h', r = .inl e → sfy h h' → mE h' e → Q (.inl none) h') ∧ (∀ s h', r = .inr s → sfy h h' → mZ h' t s.1 s.2.1 s.2.2 → Q (.inl none) h')
section
variable {xs : am_X} {d : Nat} {h : am_H} {t : tX} {p : Nat} {g : gD} {L : Nat} {Q : am_Q}
/-- a walk over tokens leaves the rest alone -/
theorem mZ_tk (Z : mZ h t p g L) {h' : am_H} {q : Nat} {K : List Nat} (s : sf [] K h h') (hK : subl K [10, 11, 12, 13] = true) (O : mO h' t q) : mZ h' t q g L := by
  have nk : ∀ k, k = 14 ∨ k = 15 → k ∉ K := fun k hk z => by
    have := subl_x hK k z
    simp at this
    omega
  exact ⟨O, Z.2.1.mv (sf_89 s (by decide)), fun v hv => (s.1.i (by decide) v).trans (Z.2.2.1 v hv), (s.2 15 (nk 15 (Or.inr rfl))).trans Z.2.2.2.1, (s.2 14 (nk 14 (Or.inl rfl))).trans Z.2.2.2.2⟩
set_option maxHeartbeats 4000000 in
theorem y_rv_err (hd : 2 ≤ d) {e : pE} (E : mE h e) (HQ : Q (.inl (some (.int 0))) h) : am_C xs am_P0 d m_Mo_readsVertex [.ref 87] h Q := by
  refine am_C_le hd (am_enter (d := 1) ap_Mo_readsVertex rfl ?_) (fun _ _ k => k)
  refine am_go (fun _ => false) (fun K cal Q' hK hC hQ => ?_)
  exact And.intro (sk_87 E.1) (And.intro (ck_row (sr_87_2 E.1) (sk_89 E.1) (e := 0) rfl (by decide) (by decide)) (And.intro (sk_87 E.1) (hC _ _ _ _ (y_reads_err (by decide) E (And.intro trivial (hQ _ _ HQ))))))
set_option maxHeartbeats 4000000 in
theorem y_readsVertex (hd : 4 ≤ d) (Z : mZ h t p g L) (w1 : 1 ≤ gN g) (w9 : gN g ≤ 9)
    (H0 : ∀ e h', pNum t p 0 (gN g - 1) = .inl e → sfy h h' → mE h' e → Q (.inl (some (.int 0))) h') (H1 : ∀ a h', pNum t p 0 (gN g - 1) = .inr a → sfy h h' → mZ h' t (te t a.2) g L → am_i h' 87 13 = nI a.2 → Q (.inl (some (.int (nI a.1)))) h') : am_C xs am_P0 d m_Mo_readsVertex [.ref 87] h Q := by
  have hs := Z.1.1
  have e0 : am_i h (am_r h 87 2) (nI 0).toNatClampNeg - nI 1 = nI (gN g - 1) := by
    rw [sr_87_2 hs, q_cl (by decide), Z.2.1.1.1]
    have := nI_pred (gN g - 1)
    rw [show gN g - 1 + 1 = gN g by omega] at this
    exact this
  refine am_C_le hd (am_enter (d := 3) ap_Mo_readsVertex rfl ?_) (fun _ _ k => k)
  refine am_go (fun _ => false) (fun K cal Q' hK hC hQ => ?_)
  refine And.intro (sk_87 hs) (And.intro (ck_row (sr_87_2 hs) (sk_89 hs) (e := 0) rfl (by decide) (by decide)) (And.intro (sk_87 hs) ?_))
  show cal m_Mo_reads [.ref 87, .int (nI 0), .int (am_i h (am_r h 87 2) (nI 0).toNatClampNeg - nI 1)] h _
  rw [e0]
  exact hC _ _ _ _ (y_reads (by decide) Z.1 (by omega) (by decide) (fun e h' r s E => And.intro trivial (hQ _ _ (H0 e h' r (sf_mo s (subl_x rfl) (subl_x rfl)) E))) (fun a h' r s O e13 => And.intro trivial (hQ _ _ (H1 a h' r (sf_mo s (subl_x rfl) (subl_x rfl)) (mZ_tk Z s rfl O) e13))))
set_option maxHeartbeats 8000000 in
theorem y_terminalLine (hd : 5 ≤ d) (Z : mZ h t p g L) (w : pw5 p g L) {q : Nat} (HQ : eL' h t (pTerS t q p g L) Q) : am_C xs am_P0 d m_Mo_terminalLine [.ref 87, .int (nI q)] h Q := by
  have hs := Z.1.1
  have wf := w.1.1
  have hn := wf.1.1
  have w5 := w.2
  have hT9 : gT g < 2 ^ 9 := Nat.lt_of_lt_of_le wf.1.2.2 (Nat.pow_le_pow_right (by decide) hn)
  unfold pTerS eL' at HQ
  have e2 : am_i h (am_r h 87 2) (nI 2).toNatClampNeg = nI (gT g) := by rw [sr_87_2 hs, q_cl (by decide)]; exact Z.2.1.1.2.2.1
  refine am_C_le hd (am_enter (d := 4) ap_Mo_terminalLine rfl ?_) (fun _ _ k => k)
  -- behind an error
  have bad25 : ∀ (h' : am_H) (e : pE) (v : Int32), mE h' e → Q (.inl none) h' → am_W xs (am_code at_Mo_terminalLine) (am_hd ah_Mo_terminalLine) (am_C xs am_P0 4) Q 56 [.ref 87, .int (nI q), .int v] [] h' := by
    intro h' e v E hq
    refine am_go (fun _ => false) (fun K cal Q' hK hC hQ => ?_)
    exact And.intro (sk_87 E.1) (And.intro (fun _ => And.intro trivial (hQ _ _ hq)) (fun z => absurd (Classical.not_not.mp z) E.ne))
  refine am_go (fun p => p == 20) (fun K cal Q' hK hC hQ => ?_)
  refine And.intro (sk_87 hs) (And.intro (ck_row (sr_87_2 hs) (sk_89 hs) (e := 2) rfl (by decide) (by decide)) (And.intro trivial ?_))
  show cal m_Mo_bitsOf [.int (am_i h (am_r h 87 2) (nI 2).toNatClampNeg)] h _
  rw [e2]
  refine hC _ _ _ _ (w_bitsOf (by decide) hT9 ?_)
  refine And.intro (fun z => hK _ _ _ _ ?_) (fun z => ?_)
  rotate_left
  · have z : nI (pcn (gT g)) = nI 5 := Classical.not_not.mp z
    have z := (nI_eq (by omega) (by decide)).mp z
    rw [if_pos (by omega)] at HQ
    refine And.intro (sk_87 hs) (hC _ _ _ _ (y_fails (by decide) (sk_87 hs) Z.1.2.2.2.1 (by decide) hs (fun h1 s1 E1 => hK _ _ _ _ ?_)))
    refine am_go (fun p => p == 56) (fun K cal Q' hK hC hQ => ?_)
    refine And.intro (sk_87 E1.1) (hC _ _ _ _ (y_rv_err (by decide) E1 ?_))
    refine And.intro (sk_87 E1.1) (And.intro (fun _ => hK _ _ _ _ (bad25 h1 _ 0 E1 (HQ.1 _ h1 rfl (sf_mo s1 (subl_x rfl) (subl_x rfl)) E1))) (fun z => absurd (Classical.not_not.mp z) E1.ne))
  have z : ¬ nI (pcn (gT g)) = nI 5 := z
  have z : pcn (gT g) ≠ 5 := fun y => z (by rw [y])
  rw [if_neg (by omega)] at HQ
  refine am_go (fun p => p == 56) (fun K cal Q' hK hC hQ => ?_)
  refine And.intro (sk_87 hs) (hC _ _ _ _ (y_readsVertex (by decide) Z (by have := w.1.2.1; omega) hn (fun e h1 hr s1 E1 => ?_) (fun a h1 hr s1 Z1 e13 => ?_)))
  · rw [hr] at HQ
    exact And.intro (sk_87 E1.1) (And.intro (fun _ => hK _ _ _ _ (bad25 h1 _ 0 E1 (HQ.1 _ h1 rfl s1 E1))) (fun z => absurd (Classical.not_not.mp z) E1.ne))
  obtain ⟨b1, b2, b3, b4, b5, b6, b7⟩ := pNum_r Z.1.2.2.1 hr
  rw [hr] at HQ
  dsimp only at HQ
  have av : a.1 < gN g := by have := w.1.2.1; omega
  have hs1 := Z1.1.1
  have R1 : am_r h1 87 2 = 89 := sr_87_2 hs1
  have e21 : am_i h1 (am_r h1 87 2) (nI 2).toNatClampNeg = nI (gT g) := by rw [R1, q_cl (by decide)]; exact Z1.2.1.1.2.2.1
  have eB : (am_i h1 (am_r h1 87 2) (nI 2).toNatClampNeg >>> (nI a.1 &&& 31)) &&& nI 1 = bI ((gT g).testBit a.1) := by rw [e21]; exact q_bit (Nat.lt_of_lt_of_le hT9 (by decide)) (by omega)
  refine And.intro (sk_87 hs1) (And.intro (fun z => absurd Z1.1.2.2.2.1 z) (fun _ => ?_))
  refine And.intro (sk_87 hs1) (And.intro (ck_row R1 (sk_89 hs1) (e := 2) rfl (by decide) (by decide)) ?_)
  cases e : (gT g).testBit a.1 with
  | true =>
    rw [if_pos e] at HQ
    rw [e] at eB
    refine And.intro (fun y => absurd eB y) (fun _ => ?_)
    refine And.intro (sk_87 hs1) (And.intro (sk_87 hs1) ?_)
    show cal m_Mo_fails [.ref 87, .int (-nI 4), .int (am_i h1 87 13)] h1 _
    rw [e13]
    refine hC _ _ _ _ (y_fails (by decide) (sk_87 hs1) Z1.1.2.2.2.1 (by decide) hs1 (fun h2 s2 E2 => hK _ _ _ _ (bad25 h2 _ _ E2 (HQ.1 _ h2 rfl (sf_tr s1 (sf_mo s2 (subl_x rfl) (subl_x rfl))) E2))))
  | false =>
    rw [if_neg (by rw [e]; decide)] at HQ
    rw [e] at eB
    refine And.intro (fun _ => hK _ _ _ _ ?_) (fun y => absurd (eB.symm.trans (Classical.not_not.mp y)) (by decide))
    refine am_go (fun _ => false) (fun K cal Q' hK hC hQ => ?_)
    refine And.intro (sk_87 hs1) (And.intro (fun z => absurd Z1.1.2.2.2.1 z) (fun _ => ?_))
    refine And.intro (sk_87 hs1) (And.intro (ck_row R1 (sk_89 hs1) (e := 2) rfl (by decide) (by decide)) (And.intro (ck_row R1 (sk_89 hs1) (e := 2) rfl (by decide) (by decide)) (And.intro trivial (hQ _ _ ?_))))
    show Q (.inl none) (am_pi h1 (am_r h1 87 2) (nI 2).toNatClampNeg (am_i h1 (am_r h1 87 2) (nI 2).toNatClampNeg ||| (nI 1 <<< (nI a.1 &&& 31))))
    rw [e21, q_orb (by omega), R1, q_cl (by decide)]
    have s2 : sf [89] [] h1 (am_pi h1 89 2 (nI (gT g ||| 2 ^ a.1))) := sf_pi sf_rf (by decide) (by decide)
    have f2 : ∀ k, am_i (am_pi h1 89 2 (nI (gT g ||| 2 ^ a.1))) 89 k = if k = 2 then nI (gT g ||| 2 ^ a.1) else am_i h1 89 k := fun k => i_pi_same _ _ _ _ _
    generalize am_pi h1 89 2 (nI (gT g ||| 2 ^ a.1)) = h2 at s2 f2 ⊢
    obtain ⟨⟨o1, o2, o3, o4, qq, q1, q2, q3⟩, ⟨⟨r0, r1, r2, r3⟩, rl, re, rc⟩, zl, z15, z14⟩ := Z1
    refine HQ.2 _ h2 rfl (sf_tr s1 (sf_mo s2 (subl_x rfl) (subl_x rfl))) ⟨⟨s2.1.sh o1, o2.mv s2 (by decide) (by decide), o3, (s2.2 11 (by decide)).trans o4, qq, (s2.2 10 (by decide)).trans q1, q2, q3⟩, ⟨⟨(f2 0).trans r0, (f2 1).trans r1, f2 2, (f2 3).trans r3⟩, fun v hv => ?_, fun e he => ?_, fun k hk => ?_⟩, fun v hv => (s2.1.i (by decide) v).trans (zl v hv), (s2.2 15 (by decide)).trans z15, (s2.2 14 (by decide)).trans z14⟩
    · rw [f2, if_neg (by omega)]; exact rl v hv
    · rw [f2, if_neg (by omega), f2, if_neg (by omega), f2, if_neg (by omega)]; exact re e he
    · rw [f2, if_neg (by omega), f2, if_neg (by omega)]; exact rc k hk
set_option maxHeartbeats 8000000 in
theorem y_loadLine (hd : 5 ≤ d) (Z : mZ h t p g L) (w : pw5 p g L) (HQ : eL' h t (pLdS t p g L) Q) : am_C xs am_P0 d m_Mo_loadLine [.ref 87] h Q := by
  have hs := Z.1.1
  have wf := w.1.1
  have hn := wf.1.1
  unfold pLdS eL' at HQ
  refine am_C_le hd (am_enter (d := 4) ap_Mo_loadLine rfl ?_) (fun _ _ k => k)
  have bad31 : ∀ (h' : am_H) (e : pE) (v : Int32), mE h' e → Q (.inl none) h' → am_W xs (am_code at_Mo_loadLine) (am_hd ah_Mo_loadLine) (am_C xs am_P0 4) Q 31 [.ref 87, .int v, am_J] [] h' := by
    intro h' e v E hq
    refine am_go (fun _ => false) (fun K cal Q' hK hC hQ => ?_)
    refine And.intro (sk_87 E.1) (hC _ _ _ _ (y_reads_err (by decide) E ?_))
    exact And.intro (sk_87 E.1) (And.intro (fun z => absurd z E.ne) (fun _ => And.intro trivial (hQ _ _ hq)))
  refine am_go (fun p => p == 31) (fun K cal Q' hK hC hQ => ?_)
  refine And.intro (sk_87 hs) (hC _ _ _ _ (y_readsVertex (by decide) Z (by have := w.1.2.1; omega) hn (fun e h1 hr s1 E1 => ?_) (fun a h1 hr s1 Z1 e13 => ?_)))
  · rw [hr] at HQ
    exact And.intro (sk_87 E1.1) (And.intro (fun _ => hK _ _ _ _ (bad31 h1 _ 0 E1 (HQ.1 _ h1 rfl s1 E1))) (fun z => absurd (Classical.not_not.mp z) E1.ne))
  obtain ⟨b1, b2, b3, b4, b5, b6, b7⟩ := pNum_r Z.1.2.2.1 hr
  rw [hr] at HQ
  dsimp only at HQ
  have av : a.1 < gN g := by have := w.1.2.1; omega
  have hs1 := Z1.1.1
  have R1 : am_r h1 87 6 = 91 := sr_87_6 hs1
  have eB : am_i h1 (am_r h1 87 6) (nI a.1).toNatClampNeg = bI (L.testBit a.1) := by rw [R1, q_cl (by omega)]; exact Z1.2.2.1 a.1 (by omega)
  refine And.intro (sk_87 hs1) (And.intro (fun z => absurd Z1.1.2.2.2.1 z) (fun _ => ?_))
  refine And.intro (sk_87 hs1) (And.intro (ck_row R1 (sk_91 hs1) rfl (by omega) (by decide)) ?_)
  cases e : L.testBit a.1 with
  | true =>
    rw [if_pos e] at HQ
    rw [e] at eB
    refine And.intro (fun y => absurd (eB.symm.trans y) q_t1) (fun _ => ?_)
    refine And.intro (sk_87 hs1) (And.intro (sk_87 hs1) ?_)
    show cal m_Mo_fails [.ref 87, .int (-nI 4), .int (am_i h1 87 13)] h1 _
    rw [e13]
    refine hC _ _ _ _ (y_fails (by decide) (sk_87 hs1) Z1.1.2.2.2.1 (by decide) hs1 (fun h2 s2 E2 => hK _ _ _ _ (bad31 h2 _ _ E2 (HQ.1 _ h2 rfl (sf_tr s1 (sf_mo s2 (subl_x rfl) (subl_x rfl))) E2))))
  | false =>
    rw [if_neg (by rw [e]; decide)] at HQ
    rw [e] at eB
    refine And.intro (fun _ => hK _ _ _ _ ?_) (fun y => absurd eB y)
    refine am_go (fun p => p == 47) (fun K cal Q' hK hC hQ => ?_)
    refine And.intro (sk_87 hs1) (hC _ _ _ _ (y_reads (lo := 0) (hi := 99) (by decide) Z1.1 (by decide) (by decide) (fun e h2 hr2 s2 E2 => ?_) (fun b h2 hr2 s2 O2 e132 => ?_)))
    · rw [hr2] at HQ
      exact And.intro (sk_87 E2.1) (And.intro (fun z => absurd z E2.ne) (fun _ => And.intro trivial (hQ _ _ (HQ.1 _ h2 rfl (sf_tr s1 (sf_mo s2 (subl_x rfl) (subl_x rfl))) E2))))
    obtain ⟨c1, c2, c3, c4, c5, c6, c7⟩ := pNum_r b7 hr2
    rw [hr2] at HQ
    dsimp only at HQ
    have Z2 := mZ_tk Z1 s2 rfl O2
    have hs2 := Z2.1.1
    refine And.intro (sk_87 hs2) (And.intro (fun _ => hK _ _ _ _ ?_) (fun z => absurd Z2.1.2.2.2.1 z))
    show am_W _ _ _ _ _ 47 [.ref 87, .int (nI a.1), .int (nI b.1)] [] h2
    refine am_go (fun _ => false) (fun K cal Q' hK hC hQ => ?_)
    have R6 : am_r h2 87 6 = 91 := sr_87_6 hs2
    refine And.intro (sk_87 hs2) (And.intro (ck_row R6 (sk_91 hs2) rfl (by omega) (by decide)) ?_)
    show am_k (am_pi h2 (am_r h2 87 6) (nI a.1).toNatClampNeg (vp_nar .boolean (nI 1))) 87 = _ ∧ _
    have en : vp_nar .boolean (nI 1) = 1 := by decide
    rw [en, R6, q_cl (by omega)]
    have hs3 : sh (am_pi h2 91 a.1 1) := (sm.rf.pi (X := [91]) (by decide)).sh hs2
    have R2 : am_r (am_pi h2 91 a.1 1) 87 2 = 89 := sr_87_2 hs3
    have eX : nI 6 + nI a.1 = nI (6 + a.1) := nI_add _ _
    refine And.intro (sk_87 hs3) (And.intro (ck_row R2 (sk_89 hs3) eX (by omega) (by decide)) (And.intro trivial (hQ _ _ ?_)))
    show Q (.inl none) (am_pi (am_pi h2 91 a.1 1) (am_r (am_pi h2 91 a.1 1) 87 2) (nI 6 + nI a.1).toNatClampNeg (nI b.1))
    rw [R2, eX, q_cl (by omega)]
    have s4 : sf [89, 91] [] h2 (am_pi (am_pi h2 91 a.1 1) 89 (6 + a.1) (nI b.1)) := sf_pi (sf_pi sf_rf (by decide) (by decide)) (by decide) (by decide)
    have f4 : ∀ k, am_i (am_pi (am_pi h2 91 a.1 1) 89 (6 + a.1) (nI b.1)) 89 k = if k = 6 + a.1 then nI b.1 else am_i h2 89 k := fun k => by rw [i_pi_same, i_pi_ne (by decide)]
    have g4 : ∀ k, am_i (am_pi (am_pi h2 91 a.1 1) 89 (6 + a.1) (nI b.1)) 91 k = if k = a.1 then 1 else am_i h2 91 k := fun k => by rw [i_pi_ne (by decide), i_pi_same]
    generalize am_pi (am_pi h2 91 a.1 1) 89 (6 + a.1) (nI b.1) = h4 at s4 f4 g4 ⊢
    obtain ⟨⟨o1, o2, o3, o4, qq, q1, q2, q3⟩, ⟨⟨r0, r1, r2, r3⟩, rl, re, rc⟩, zl, z15, z14⟩ := Z2
    refine HQ.2 _ h4 rfl (sf_tr (sf_tr s1 (sf_mo s2 (subl_x rfl) (subl_x rfl))) (sf_mo s4 (subl_x rfl) (subl_x rfl))) ⟨⟨s4.1.sh o1, o2.mv s4 (by decide) (by decide), o3, (s4.2 11 (by decide)).trans o4, qq, (s4.2 10 (by decide)).trans q1, q2, q3⟩, ⟨⟨?_, ?_, ?_, ?_⟩, fun v hv => ?_, fun e he => ?_, fun k hk => ?_⟩, fun v hv => ?_, (s4.2 15 (by decide)).trans z15, (s4.2 14 (by decide)).trans z14⟩
    · rw [f4, if_neg (by omega)]; exact r0
    · rw [f4, if_neg (by omega)]; exact r1
    · rw [f4, if_neg (by omega)]; exact r2
    · rw [f4, if_neg (by omega)]; exact r3
    · rw [f4]
      show _ = nI (setN (gLd g) a.1 b.1 v)
      unfold setN
      by_cases z : v = a.1
      · rw [if_pos (by omega), if_pos z]
      · rw [if_neg (by omega), if_neg z]; exact rl v hv
    · have he : e < gM g := he
      rw [f4, if_neg (by omega), f4, if_neg (by omega), f4, if_neg (by omega)]; exact re e he
    · rw [f4, if_neg (by omega), f4, if_neg (by omega)]; exact rc k hk
    · rw [g4, fb_bit_set]
      by_cases z : v = a.1
      · rw [if_pos z, decide_eq_true z, Bool.or_true]; rfl
      · rw [if_neg z, decide_eq_false z, Bool.or_false]; exact zl v hv
set_option maxHeartbeats 8000000 in
theorem y_isJoined (hd : 1 ≤ d) (hs : sh h) (R : mRd h g ((gCs g).getD [])) (wf : gwf g) {u v : Nat} (hu : u < 9) (hv : v < 9) (HQ : Q (.inl (some (.int (bI (joins (gM g) (gLo g) (gHi g) u v))))) h) : am_C xs am_P0 d m_Mo_isJoined [.ref 87, .int (nI u), .int (nI v)] h Q := by
  have hm := wf.1.2.1
  have hn := wf.1.1
  have R2 : am_r h 87 2 = 89 := sr_87_2 hs
  have emn := q_mn (u := u) (v := v) (by omega) (by omega)
  have emx := q_mx (u := u) (v := v) (by omega) (by omega)
  have bmn : Nat.min u v < 9 := by show min u v < 9; omega
  have bmx : Nat.max u v < 9 := by show max u v < 9; omega
  have e1 : am_i h (am_r h 87 2) (nI 1).toNatClampNeg = nI (gM g) := by rw [R2, q_cl (by decide)]; exact R.1.2.1
  refine am_C_le hd (am_enter (d := 0) ap_Mo_isJoined rfl ?_) (fun _ _ k => k)
  refine am_go (fun p => p == 2) (fun K cal Q' hK hC hQ => hK _ _ _ _ ?_)
  refine am_for (gM g) (fun i L h' => h' = h ∧ L = [.ref 87, .int (nI u), .int (nI v), .int (nI i)] ∧ ∀ e, e < i → ¬ (gLo g e = Nat.min u v ∧ gHi g e = Nat.max u v)) ?_ ?_ 0 (Nat.zero_le _) _ _ ⟨rfl, rfl, fun e he => absurd he (Nat.not_lt_zero e)⟩
  · rintro i hi9 L h' ⟨rfl, rfl, hno⟩ next
    obtain ⟨w1, w2⟩ := wf.2.1 i hi9
    obtain ⟨f1, f2, f3⟩ := R.2.2.1 i hi9
    have eI : am_inc (nI i) (Int.ofNat 1) = nI (i + 1) := nI_1 i
    rw [← eI] at next
    have skip : ¬ (gLo g i = Nat.min u v ∧ gHi g i = Nat.max u v) → ∀ e, e < i + 1 → ¬ (gLo g e = Nat.min u v ∧ gHi g e = Nat.max u v) := fun q e he => by
      by_cases r : e = i
      · rw [r]; exact q
      · exact hno e (by omega)
    have eX : nI 15 + nI 3 * nI i = nI (15 + 3 * i) := by rw [pk_mul, nI_add]
    have eY9 : nI 15 + nI 3 * nI i + nI 1 = nI (15 + 3 * i + 1) := by rw [eX, nI_add]
    have vX : am_i h' (am_r h' 87 2) (nI 15 + nI 3 * nI i).toNatClampNeg = nI (gLo g i) := by rw [R2, eX, q_cl (by omega)]; exact f1
    have vY : am_i h' (am_r h' 87 2) (nI 15 + nI 3 * nI i + nI 1).toNatClampNeg = nI (gHi g i) := by rw [R2, eY9, q_cl (by omega)]; exact f2
    refine am_go (fun p => p == 2) (fun K cal Q' hK hC hQ => ?_)
    refine And.intro (sk_87 hs) (And.intro (ck_row R2 (sk_89 hs) (e := 1) rfl (by decide) (by decide)) ?_)
    refine And.intro (fun c => absurd (show am_i h' (am_r h' 87 2) (nI 1).toNatClampNeg ≤ nI i from c) (by rw [e1]; exact nI_ge hi9 (by omega))) (fun _ => ?_)
    refine And.intro (sk_87 hs) (And.intro (ck_row R2 (sk_89 hs) eX (by omega) (by decide)) ?_)
    refine And.intro (fun c => ?_) (fun c => ?_)
    · have c : ¬ am_i h' (am_r h' 87 2) (nI 15 + nI 3 * nI i).toNatClampNeg = if nI v < nI u then nI v else nI u := c
      rw [emn, vX] at c
      exact hK _ _ _ _ (next _ _ ⟨rfl, rfl, skip fun q => c (by rw [q.1])⟩)
    · have c : am_i h' (am_r h' 87 2) (nI 15 + nI 3 * nI i).toNatClampNeg = if nI v < nI u then nI v else nI u := Classical.not_not.mp c
      rw [emn, vX] at c
      have c := (nI_eq (by omega) (by omega)).mp c
      refine And.intro (sk_87 hs) (And.intro (ck_row R2 (sk_89 hs) eY9 (by omega) (by decide)) ?_)
      refine And.intro (fun c2 => ?_) (fun c2 => ?_)
      · have c2 : ¬ am_i h' (am_r h' 87 2) (nI 15 + nI 3 * nI i + nI 1).toNatClampNeg = if nI u < nI v then nI v else nI u := c2
        rw [emx, vY] at c2
        exact hK _ _ _ _ (next _ _ ⟨rfl, rfl, skip fun q => c2 (by rw [q.2])⟩)
      · have c2 : am_i h' (am_r h' 87 2) (nI 15 + nI 3 * nI i + nI 1).toNatClampNeg = if nI u < nI v then nI v else nI u := Classical.not_not.mp c2
        rw [emx, vY] at c2
        have c2 := (nI_eq (by omega) (by omega)).mp c2
        refine And.intro (Or.inr rfl) (hQ _ _ ?_)
        rw [show joins (gM g) (gLo g) (gHi g) u v = true from decide_eq_true ⟨i, hi9, c, c2⟩] at HQ
        exact HQ
  · rintro L h' ⟨rfl, rfl, hno⟩
    refine am_go (fun p => p == 2) (fun K cal Q' hK hC hQ => ?_)
    refine And.intro (sk_87 hs) (And.intro (ck_row R2 (sk_89 hs) (e := 1) rfl (by decide) (by decide)) ?_)
    refine And.intro (fun _ => And.intro (Or.inl rfl) (hQ _ _ ?_)) (fun c => absurd (show am_i h' (am_r h' 87 2) (nI 1).toNatClampNeg ≤ nI (gM g) by rw [e1]; exact nI_le (Nat.le_refl _) (by omega)) c)
    rw [show joins (gM g) (gLo g) (gHi g) u v = false from decide_eq_false fun ⟨e, z1, z2⟩ => hno e z1 z2] at HQ
    exact HQ
set_option maxHeartbeats 8000000 in
theorem y_edgeLine (hd : 5 ≤ d) (Z : mZ h t p g L) (w : pw5 p g L) {q : Nat} (HQ : eL' h t (pEdS t q p g L) Q) : am_C xs am_P0 d m_Mo_edgeLine [.ref 87, .int (nI q)] h Q := by
  have hs := Z.1.1
  have wf := w.1.1
  have hn := wf.1.1
  have hm := wf.1.2.1
  unfold pEdS eL' at HQ
  refine am_C_le hd (am_enter (d := 4) ap_Mo_edgeLine rfl ?_) (fun _ _ k => k)
  have bad59 : ∀ (h' : am_H) (e : pE) (a b : Int32), mE h' e → Q (.inl none) h' → am_W xs (am_code at_Mo_edgeLine) (am_hd ah_Mo_edgeLine) (am_C xs am_P0 4) Q 59 [.ref 87, .int (nI q), .int a, .int b, am_J, am_J] [] h' := by
    intro h' e a b E hq
    refine am_go (fun _ => false) (fun K cal Q' hK hC hQ => ?_)
    refine And.intro (sk_87 E.1) (hC _ _ _ _ (y_reads_err (by decide) E ?_))
    exact And.intro (sk_87 E.1) (And.intro (fun z => absurd z E.ne) (fun _ => And.intro trivial (hQ _ _ hq)))
  have bad28 : ∀ (h' : am_H) (e : pE) (a b : Int32), mE h' e → Q (.inl none) h' → am_W xs (am_code at_Mo_edgeLine) (am_hd ah_Mo_edgeLine) (am_C xs am_P0 4) Q 28 [.ref 87, .int (nI q), .int a, .int b, am_J, am_J] [] h' := by
    intro h' e a b E hq
    refine am_go (fun p => p == 59) (fun K cal Q' hK hC hQ => ?_)
    exact And.intro (sk_87 E.1) (And.intro (fun _ => hK _ _ _ _ (bad59 h' e a b E hq)) (fun z => absurd (Classical.not_not.mp z) E.ne))
  have bad23 : ∀ (h' : am_H) (e : pE) (a : Int32), mE h' e → Q (.inl none) h' → am_W xs (am_code at_Mo_edgeLine) (am_hd ah_Mo_edgeLine) (am_C xs am_P0 4) Q 23 [.ref 87, .int (nI q), .int a, am_J, am_J, am_J] [] h' := by
    intro h' e a E hq
    refine am_go (fun p => p == 28) (fun K cal Q' hK hC hQ => ?_)
    exact And.intro (sk_87 E.1) (hC _ _ _ _ (y_rv_err (by decide) E (hK _ _ _ _ (bad28 h' e a 0 E hq))))
  have bad18 : ∀ (h' : am_H) (e : pE), mE h' e → Q (.inl none) h' → am_W xs (am_code at_Mo_edgeLine) (am_hd ah_Mo_edgeLine) (am_C xs am_P0 4) Q 18 [.ref 87, .int (nI q), am_J, am_J, am_J, am_J] [] h' := by
    intro h' e E hq
    refine am_go (fun p => p == 23) (fun K cal Q' hK hC hQ => ?_)
    exact And.intro (sk_87 E.1) (hC _ _ _ _ (y_rv_err (by decide) E (hK _ _ _ _ (bad23 h' e 0 E hq))))
  have R0 : am_r h 87 2 = 89 := sr_87_2 hs
  have e1 : am_i h (am_r h 87 2) (nI 1).toNatClampNeg = nI (gM g) := by rw [R0, q_cl (by decide)]; exact Z.2.1.1.2.1
  refine am_go (fun p => p == 18) (fun K cal Q' hK hC hQ => ?_)
  refine And.intro (sk_87 hs) (And.intro (ck_row R0 (sk_89 hs) (e := 1) rfl (by decide) (by decide)) (And.intro (fun z => hK _ _ _ _ ?_) (fun z => ?_)))
  rotate_left
  · have z : am_i h (am_r h 87 2) (nI 1).toNatClampNeg = nI 20 := Classical.not_not.mp z
    rw [e1] at z
    have z := (nI_eq (by omega) (by decide)).mp z
    rw [if_pos (by omega)] at HQ
    exact And.intro (sk_87 hs) (hC _ _ _ _ (y_fails (by decide) (sk_87 hs) Z.1.2.2.2.1 (by decide) hs (fun h1 s1 E1 => hK _ _ _ _ (bad18 h1 _ E1 (HQ.1 _ h1 rfl (sf_mo s1 (subl_x rfl) (subl_x rfl)) E1)))))
  have z : ¬ am_i h (am_r h 87 2) (nI 1).toNatClampNeg = nI 20 := z
  rw [e1] at z
  have hm20 : gM g < 20 := by
    have : gM g ≠ 20 := fun y => z (by rw [y])
    omega
  rw [if_neg (by omega)] at HQ
  refine am_go (fun p => p == 23) (fun K cal Q' hK hC hQ => ?_)
  refine And.intro (sk_87 hs) (hC _ _ _ _ (y_readsVertex (by decide) Z (by have := w.1.2.1; omega) hn (fun e h1 hr s1 E1 => ?_) (fun a h1 hr s1 Z1 e13 => ?_)))
  · rw [hr] at HQ
    exact hK _ _ _ _ (bad23 h1 _ 0 E1 (HQ.1 _ h1 rfl s1 E1))
  obtain ⟨b1, b2, b3, b4, b5, b6, b7⟩ := pNum_r Z.1.2.2.1 hr
  rw [hr] at HQ
  dsimp only at HQ
  have av : a.1 < gN g := by have := w.1.2.1; omega
  refine hK _ _ _ _ ?_
  show am_W _ _ _ _ _ 23 [.ref 87, .int (nI q), .int (nI a.1), am_J, am_J, am_J] [] h1
  refine am_go (fun p => p == 28) (fun K cal Q' hK hC hQ => ?_)
  refine And.intro (sk_87 Z1.1.1) (hC _ _ _ _ (y_readsVertex (by decide) Z1 (by have := w.1.2.1; omega) hn (fun e h2 hr2 s2 E2 => ?_) (fun b h2 hr2 s2 Z2 e132 => ?_)))
  · rw [hr2] at HQ
    exact hK _ _ _ _ (bad28 h2 _ _ 0 E2 (HQ.1 _ h2 rfl (sf_tr s1 s2) E2))
  obtain ⟨c1, c2, c3, c4, c5, c6, c7⟩ := pNum_r b7 hr2
  rw [hr2] at HQ
  dsimp only at HQ
  have bv : b.1 < gN g := by have := w.1.2.1; omega
  have hs2 := Z2.1.1
  have s02 : sfy h h2 := sf_tr s1 s2
  refine hK _ _ _ _ ?_
  show am_W _ _ _ _ _ 28 [.ref 87, .int (nI q), .int (nI a.1), .int (nI b.1), am_J, am_J] [] h2
  have again : (a.1 = b.1 ∨ joins (gM g) (gLo g) (gHi g) a.1 b.1 = true) → am_W xs (am_code at_Mo_edgeLine) (am_hd ah_Mo_edgeLine) (am_C xs am_P0 4) Q 49 [.ref 87, .int (nI q), .int (nI a.1), .int (nI b.1), am_J, am_J] [] h2 := by
    intro yes
    rw [if_pos yes] at HQ
    refine am_go (fun p => p == 59) (fun K cal Q' hK hC hQ => ?_)
    refine And.intro (sk_87 hs2) (And.intro (sk_87 hs2) ?_)
    show cal m_Mo_fails [.ref 87, .int (-nI 4), .int (am_i h2 87 13)] h2 _
    rw [e132]
    exact hC _ _ _ _ (y_fails (by decide) (sk_87 hs2) Z2.1.2.2.2.1 (by decide) hs2 (fun h3 s3 E3 => hK _ _ _ _ (bad59 h3 _ _ _ E3 (HQ.1 _ h3 rfl (sf_tr s02 (sf_mo s3 (subl_x rfl) (subl_x rfl))) E3))))
  have go : ¬ (a.1 = b.1 ∨ joins (gM g) (gLo g) (gHi g) a.1 b.1 = true) → am_W xs (am_code at_Mo_edgeLine) (am_hd ah_Mo_edgeLine) (am_C xs am_P0 4) Q 59 [.ref 87, .int (nI q), .int (nI a.1), .int (nI b.1), am_J, am_J] [] h2 := by
    intro no
    rw [if_neg no] at HQ
    refine am_go (fun p => p == 76) (fun K cal Q' hK hC hQ => ?_)
    refine And.intro (sk_87 hs2) (hC _ _ _ _ (y_reads (lo := 1) (hi := 99) (by decide) Z2.1 (by decide) (by decide) (fun e h3 hr3 s3 E3 => ?_) (fun c h3 hr3 s3 O3 e133 => ?_)))
    · rw [hr3] at HQ
      exact And.intro (sk_87 E3.1) (And.intro (fun z => absurd z E3.ne) (fun _ => And.intro trivial (hQ _ _ (HQ.1 _ h3 rfl (sf_tr s02 (sf_mo s3 (subl_x rfl) (subl_x rfl))) E3))))
    obtain ⟨d1, d2, d3, d4, d5, d6, d7⟩ := pNum_r c7 hr3
    rw [hr3] at HQ
    dsimp only at HQ
    have Z3 := mZ_tk Z2 s3 rfl O3
    have hs3 := Z3.1.1
    have s03 : sfy h h3 := sf_tr s02 (sf_mo s3 (subl_x rfl) (subl_x rfl))
    refine And.intro (sk_87 hs3) (And.intro (fun _ => hK _ _ _ _ ?_) (fun z => absurd Z3.1.2.2.2.1 z))
    show am_W _ _ _ _ _ 76 [.ref 87, .int (nI q), .int (nI a.1), .int (nI b.1), .int (nI c.1), am_J] [] h3
    refine am_go (fun p => p == 89) (fun K cal Q' hK hC hQ => ?_)
    have R3 : am_r h3 87 2 = 89 := sr_87_2 hs3
    have e13' : am_i h3 (am_r h3 87 2) (nI 1).toNatClampNeg = nI (gM g) := by rw [R3, q_cl (by decide)]; exact Z3.2.1.1.2.1
    refine And.intro (sk_87 hs3) (And.intro (ck_row R3 (sk_89 hs3) (e := 1) rfl (by decide) (by decide)) (hK _ _ _ _ ?_))
    have eX : nI 15 + nI 3 * am_i h3 (am_r h3 87 2) (nI 1).toNatClampNeg = nI (15 + 3 * gM g) := by rw [e13', pk_mul, nI_add]
    show am_W _ _ _ _ _ 89 [.ref 87, .int (nI q), .int (nI a.1), .int (nI b.1), .int (nI c.1), .int (nI 15 + nI 3 * am_i h3 (am_r h3 87 2) (nI 1).toNatClampNeg)] [] h3
    rw [eX]
    have emn := q_mn (u := a.1) (v := b.1) (by omega) (by omega)
    have emx := q_mx (u := a.1) (v := b.1) (by omega) (by omega)
    refine am_go (fun _ => false) (fun K cal Q' hK hC hQ => ?_)
    have cl0 : (nI (15 + 3 * gM g)).toNatClampNeg = 15 + 3 * gM g := q_cl (by omega)
    have eX1 : nI (15 + 3 * gM g) + nI 1 = nI (15 + 3 * gM g + 1) := nI_add _ _
    have eX2 : nI (15 + 3 * gM g) + nI 2 = nI (15 + 3 * gM g + 2) := nI_add _ _
    refine And.intro (sk_87 hs3) (And.intro (ck_row R3 (sk_89 hs3) rfl (by omega) (by decide)) ?_)
    show am_k (am_pi h3 (am_r h3 87 2) (nI (15 + 3 * gM g)).toNatClampNeg (if nI b.1 < nI a.1 then nI b.1 else nI a.1)) 87 = _ ∧ _
    rw [emn, R3, cl0]
    have s4 : sf [89] [] h3 (am_pi h3 89 (15 + 3 * gM g) (nI (Nat.min a.1 b.1))) := sf_pi sf_rf (by decide) (by decide)
    have f4 : ∀ k, am_i (am_pi h3 89 (15 + 3 * gM g) (nI (Nat.min a.1 b.1))) 89 k = if k = 15 + 3 * gM g then nI (Nat.min a.1 b.1) else am_i h3 89 k := fun k => i_pi_same _ _ _ _ _
    generalize am_pi h3 89 (15 + 3 * gM g) (nI (Nat.min a.1 b.1)) = h4 at s4 f4 ⊢
    have hs4 := s4.1.sh hs3
    have R4 : am_r h4 87 2 = 89 := sr_87_2 hs4
    refine And.intro (sk_87 hs4) (And.intro (ck_row R4 (sk_89 hs4) eX1 (by omega) (by decide)) ?_)
    show am_k (am_pi h4 (am_r h4 87 2) (nI (15 + 3 * gM g) + nI 1).toNatClampNeg (if nI a.1 < nI b.1 then nI b.1 else nI a.1)) 87 = _ ∧ _
    rw [emx, R4, eX1, q_cl (by omega)]
    have s5 : sf [89] [] h3 (am_pi h4 89 (15 + 3 * gM g + 1) (nI (Nat.max a.1 b.1))) := sf_pi s4 (by decide) (by decide)
    have f5 : ∀ k, am_i (am_pi h4 89 (15 + 3 * gM g + 1) (nI (Nat.max a.1 b.1))) 89 k = if k = 15 + 3 * gM g + 1 then nI (Nat.max a.1 b.1) else am_i h4 89 k := fun k => i_pi_same _ _ _ _ _
    generalize am_pi h4 89 (15 + 3 * gM g + 1) (nI (Nat.max a.1 b.1)) = h5 at s5 f5 ⊢
    have hs5 := s5.1.sh hs3
    have R5 : am_r h5 87 2 = 89 := sr_87_2 hs5
    refine And.intro (sk_87 hs5) (And.intro (ck_row R5 (sk_89 hs5) eX2 (by omega) (by decide)) ?_)
    show am_k (am_pi h5 (am_r h5 87 2) (nI (15 + 3 * gM g) + nI 2).toNatClampNeg (nI c.1)) 87 = _ ∧ _
    rw [R5, eX2, q_cl (by omega)]
    have s6 : sf [89] [] h3 (am_pi h5 89 (15 + 3 * gM g + 2) (nI c.1)) := sf_pi s5 (by decide) (by decide)
    have f6 : ∀ k, am_i (am_pi h5 89 (15 + 3 * gM g + 2) (nI c.1)) 89 k = if k = 15 + 3 * gM g + 2 then nI c.1 else am_i h5 89 k := fun k => i_pi_same _ _ _ _ _
    generalize am_pi h5 89 (15 + 3 * gM g + 2) (nI c.1) = h6 at s6 f6 ⊢
    have hs6 := s6.1.sh hs3
    have R6 : am_r h6 87 2 = 89 := sr_87_2 hs6
    have e16 : am_i h6 (am_r h6 87 2) (nI 1).toNatClampNeg = nI (gM g) := by
      rw [R6, q_cl (by decide), f6, if_neg (by omega), f5, if_neg (by omega), f4, if_neg (by omega)]
      exact Z3.2.1.1.2.1
    refine And.intro (sk_87 hs6) (And.intro (ck_row R6 (sk_89 hs6) (e := 1) rfl (by decide) (by decide)) (And.intro (ck_row R6 (sk_89 hs6) (e := 1) rfl (by decide) (by decide)) (And.intro trivial (hQ _ _ ?_))))
    show Q (.inl none) (am_pi h6 (am_r h6 87 2) (nI 1).toNatClampNeg (am_i h6 (am_r h6 87 2) (nI 1).toNatClampNeg + nI 1))
    rw [e16, nI_add, R6, q_cl (by decide)]
    have s7 : sf [89] [] h3 (am_pi h6 89 1 (nI (gM g + 1))) := sf_pi s6 (by decide) (by decide)
    have f7 : ∀ k, am_i (am_pi h6 89 1 (nI (gM g + 1))) 89 k = if k = 1 then nI (gM g + 1) else if k = 15 + 3 * gM g + 2 then nI c.1 else if k = 15 + 3 * gM g + 1 then nI (Nat.max a.1 b.1) else if k = 15 + 3 * gM g then nI (Nat.min a.1 b.1) else am_i h3 89 k := fun k => by rw [i_pi_same, f6, f5, f4]
    generalize am_pi h6 89 1 (nI (gM g + 1)) = h7 at s7 f7 ⊢
    obtain ⟨⟨o1, o2, o3, o4, qq, q1, q2, q3⟩, ⟨⟨r0, r1, r2, r3⟩, rl, re, rc⟩, zl, z15, z14⟩ := Z3
    refine HQ.2 _ h7 rfl (sf_tr s03 (sf_mo s7 (subl_x rfl) (subl_x rfl))) ⟨⟨s7.1.sh o1, o2.mv s7 (by decide) (by decide), o3, (s7.2 11 (by decide)).trans o4, qq, (s7.2 10 (by decide)).trans q1, q2, q3⟩, ⟨⟨?_, ?_, ?_, ?_⟩, fun v hv => ?_, fun e he => ?_, fun k hk => ?_⟩, fun v hv => (s7.1.i (by decide) v).trans (zl v hv), (s7.2 15 (by decide)).trans z15, (s7.2 14 (by decide)).trans z14⟩
    · rw [f7, if_neg (by decide), if_neg (by omega), if_neg (by omega), if_neg (by omega)]; exact r0
    · rw [f7, if_pos rfl]; rfl
    · rw [f7, if_neg (by decide), if_neg (by omega), if_neg (by omega), if_neg (by omega)]; exact r2
    · rw [f7, if_neg (by decide), if_neg (by omega), if_neg (by omega), if_neg (by omega)]; exact r3
    · rw [f7, if_neg (by omega), if_neg (by omega), if_neg (by omega), if_neg (by omega)]; exact rl v hv
    · have he : e < gM g + 1 := he
      refine ⟨(f7 _).trans ?_, (f7 _).trans ?_, (f7 _).trans ?_⟩
      · show _ = nI (setN (gLo g) (gM g) (Nat.min a.1 b.1) e)
        unfold setN
        rw [if_neg (by omega), if_neg (by omega), if_neg (by omega)]
        by_cases y : e = gM g
        · rw [if_pos (by omega), if_pos y]
        · rw [if_neg (by omega), if_neg y]; exact (re e (by omega)).1
      · show _ = nI (setN (gHi g) (gM g) (Nat.max a.1 b.1) e)
        unfold setN
        rw [if_neg (by omega), if_neg (by omega)]
        by_cases y : e = gM g
        · rw [if_pos (by omega), if_pos y]
        · rw [if_neg (by omega), if_neg (by omega), if_neg y]; exact (re e (by omega)).2.1
      · show _ = nI (setN (gWt g) (gM g) c.1 e)
        unfold setN
        rw [if_neg (by omega)]
        by_cases y : e = gM g
        · rw [if_pos (by omega), if_pos y]
        · rw [if_neg (by omega), if_neg (by omega), if_neg (by omega), if_neg y]; exact (re e (by omega)).2.2
    · rw [f7, f7, if_neg (by omega), if_neg (by omega), if_neg (by omega), if_neg (by omega), if_neg (by omega), if_neg (by omega), if_neg (by omega), if_neg (by omega)]; exact rc k hk
  refine am_go (fun p => p == 49 || p == 59) (fun K cal Q' hK hC hQ => ?_)
  refine And.intro (sk_87 hs2) (And.intro (fun y => absurd Z2.1.2.2.2.1 y) (fun _ => ?_))
  refine And.intro (fun y => hK _ _ _ _ (again (Or.inl ((nI_eq (by omega) (by omega)).mp y)))) (fun y => ?_)
  have y : ¬ a.1 = b.1 := fun u => y (by rw [u]; rfl)
  refine And.intro (sk_87 hs2) (hC _ _ _ _ (y_isJoined (by decide) hs2 Z2.2.1 wf (by omega) (by omega) ?_))
  cases e : joins (gM g) (gLo g) (gHi g) a.1 b.1 with
  | true => exact And.intro (fun y => absurd y q_t1) (fun _ => hK _ _ _ _ (again (Or.inr e)))
  | false => exact And.intro (fun _ => hK _ _ _ _ (go (by rw [e]; rintro (u | u); exact y u; cases u))) (fun y => absurd rfl y)
end

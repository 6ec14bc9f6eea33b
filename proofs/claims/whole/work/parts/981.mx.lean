/-! THE MODEL'S READER: the cost expression -/
/-- what has been read so far -/
def mRd (h : am_H) (g : gD) (cs : List Int) : Prop := (am_i h 89 0 = nI (gN g) ∧ am_i h 89 1 = nI (gM g) ∧ am_i h 89 2 = nI (gT g) ∧ am_i h 89 3 = nI cs.length) ∧ (∀ v, v < 9 → am_i h 89 (6 + v) = nI (gLd g v)) ∧ (∀ e, e < gM g → am_i h 89 (15 + 3 * e) = nI (gLo g e) ∧ am_i h 89 (15 + 3 * e + 1) = nI (gHi g e) ∧ am_i h 89 (15 + 3 * e + 2) = nI (gWt g e)) ∧ ∀ k, k < cs.length → (am_i h 89 (84 + 2 * k)).toInt = cW (cs.getD k 0) ∧ (am_i h 89 (84 + 2 * k + 1)).toInt = cV (cs.getD k 0)
/-- what the reading of a cost may change -/
abbrev sfx (h h' : am_H) : Prop := sf [89] [10, 11, 12, 13, 14] h h'
def mQx (h : am_H) (t : tX) (p : Nat) (cs : List Int) (g : gD) (dp : Nat) : Prop := mO h t p ∧ mRd h g cs ∧ am_i h 87 14 = nI dp ∧ cs.length + 11 ≤ p ∧ gM g ≤ 20
theorem mRd.mv {h h' : am_H} {g : gD} {cs : List Int} (r : mRd h g cs) (e : ∀ k, am_i h' 89 k = am_i h 89 k) : mRd h' g cs := by
  unfold mRd at *
  simp only [e]
  exact r
theorem sf_89 {h h' : am_H} {X K : List Nat} (s : sf X K h h') (hX : (89 : Nat) ∉ X) : ∀ k, am_i h' 89 k = am_i h 89 k := fun k => s.1.i (fun z => by
  rcases List.mem_cons.mp z with q | q
  · exact absurd q (by decide)
  · exact hX q) k
abbrev eM (h : am_H) (t : tX) (g : gD) (dp : Nat) (r : pX) (Q : am_Q) : Prop := (∀ e h', r = .inl e → sfx h h' → mE h' e → Q (.inl none) h') ∧ (∀ p' cs' h', r = .inr (p', cs') → sfx h h' → mQx h' t p' cs' g dp → Q (.inl none) h')
/-- a method of the model reads as F says -/
def mdC (xs : am_X) (t : tX) (m K dp : Nat) (F : Nat → List Int → pX) : Prop := ∀ d h p cs g (Q : am_Q), K ≤ d → mQx h t p cs g dp → eM h t g dp (F p cs) Q → am_C xs am_P0 d m [.ref 87] h Q
section
variable {xs : am_X} {d : Nat} {h : am_H} {t : tX} {p : Nat} {g : gD} {cs : List Int} {dp : Nat} {Q : am_Q}
theorem y_codes_err (hd : 1 ≤ d) {e : pE} (E : mE h e) {a b : Int32} (HQ : Q (.inl none) h) : am_C xs am_P0 d m_Mo_codes [.ref 87, .int a, .int b] h Q := by
  refine am_C_le hd (am_enter (d := 0) ap_Mo_codes rfl ?_) (fun _ _ k => k)
  refine am_go (fun _ => false) (fun K cal Q' hK hC hQ => ?_)
  exact And.intro (sk_87 E.1) (And.intro (fun z => absurd z E.ne) (fun _ => And.intro trivial (hQ _ _ HQ)))
set_option maxHeartbeats 4000000 in
theorem y_codes (hd : 1 ≤ d) (O : mO h t p) (R : mRd h g cs) (hl : cs.length ≤ 690) (hm : gM g ≤ 20) {a b : Int32} {c : Int} (ha : a.toInt = cW c) (hb : b.toInt = cV c) (HQ : ∀ h', sf [89] [] h h' → mO h' t p → mRd h' g (cs ++ [c]) → Q (.inl none) h') : am_C xs am_P0 d m_Mo_codes [.ref 87, .int a, .int b] h Q := by
  have hs := O.1
  have e3 : am_i h 89 3 = nI cs.length := R.1.2.2.2
  have R2 : am_r h 87 2 = 89 := sr_87_2 hs
  refine am_C_le hd (am_enter (d := 0) ap_Mo_codes rfl ?_) (fun _ _ k => k)
  refine am_go (fun _ => false) (fun K cal Q' hK hC hQ => ?_)
  refine And.intro (sk_87 hs) (And.intro (fun _ => ?_) (fun z => absurd O.2.2.2.1 z))
  refine And.intro (sk_87 hs) (And.intro (ck_row R2 (sk_89 hs) (e := 3) rfl (by decide) (by decide)) ?_)
  have eA : nI 84 + nI 2 * am_i h (am_r h 87 2) (nI 3).toNatClampNeg = nI (84 + 2 * cs.length) := by rw [R2, q_cl (by decide), e3, pk_mul, nI_add]
  refine And.intro (sk_87 hs) (And.intro (ck_row R2 (sk_89 hs) eA (by omega) (by decide)) ?_)
  have h1e : am_pi h (am_r h 87 2) (nI 84 + nI 2 * am_i h (am_r h 87 2) (nI 3).toNatClampNeg).toNatClampNeg a = am_pi h 89 (84 + 2 * cs.length) a := by rw [eA, R2, q_cl (by omega)]
  show am_k (am_pi h (am_r h 87 2) (nI 84 + nI 2 * am_i h (am_r h 87 2) (nI 3).toNatClampNeg).toNatClampNeg a) 87 = _ ∧ _
  rw [h1e]
  have eB : nI 84 + nI 2 * am_i h (am_r h 87 2) (nI 3).toNatClampNeg + nI 1 = nI (84 + 2 * cs.length + 1) := by rw [eA, nI_add]
  have R2' : am_r (am_pi h 89 (84 + 2 * cs.length) a) 87 2 = 89 := R2
  refine And.intro (sk_87 hs) (And.intro (ck_row R2' (sk_89 (h := am_pi h 89 (84 + 2 * cs.length) a) hs) eB (by omega) (by decide)) ?_)
  have h2e : am_pi (am_pi h 89 (84 + 2 * cs.length) a) (am_r (am_pi h 89 (84 + 2 * cs.length) a) 87 2) (nI 84 + nI 2 * am_i h (am_r h 87 2) (nI 3).toNatClampNeg + nI 1).toNatClampNeg b = am_pi (am_pi h 89 (84 + 2 * cs.length) a) 89 (84 + 2 * cs.length + 1) b := by rw [eB, R2', q_cl (by omega)]
  show am_k (am_pi (am_pi h 89 (84 + 2 * cs.length) a) (am_r (am_pi h 89 (84 + 2 * cs.length) a) 87 2) (nI 84 + nI 2 * am_i h (am_r h 87 2) (nI 3).toNatClampNeg + nI 1).toNatClampNeg b) 87 = _ ∧ _
  rw [h2e]
  have f2 : ∀ k, am_i (am_pi (am_pi h 89 (84 + 2 * cs.length) a) 89 (84 + 2 * cs.length + 1) b) 89 k = if k = 84 + 2 * cs.length + 1 then b else if k = 84 + 2 * cs.length then a else am_i h 89 k := fun k => by rw [i_pi_same, i_pi_same]
  have s2 : sf [89] [] h (am_pi (am_pi h 89 (84 + 2 * cs.length) a) 89 (84 + 2 * cs.length + 1) b) := sf_pi (sf_pi sf_rf (by decide) (by decide)) (by decide) (by decide)
  generalize am_pi (am_pi h 89 (84 + 2 * cs.length) a) 89 (84 + 2 * cs.length + 1) b = h2 at f2 s2 ⊢
  have hs2 := s2.1.sh hs
  have R22 : am_r h2 87 2 = 89 := sr_87_2 hs2
  have e32 : am_i h2 (am_r h2 87 2) (nI 3).toNatClampNeg = nI cs.length := by rw [R22, q_cl (by decide), f2, if_neg (by omega), if_neg (by omega), e3]
  refine And.intro (sk_87 hs2) (And.intro (ck_row R22 (sk_89 hs2) (e := 3) rfl (by decide) (by decide)) (And.intro (ck_row R22 (sk_89 hs2) (e := 3) rfl (by decide) (by decide)) (And.intro trivial (hQ _ _ ?_))))
  show Q (.inl none) (am_pi h2 (am_r h2 87 2) (nI 3).toNatClampNeg (am_i h2 (am_r h2 87 2) (nI 3).toNatClampNeg + nI 1))
  rw [e32, nI_add, R22, q_cl (by decide)]
  have s3 : sf [89] [] h (am_pi h2 89 3 (nI (cs.length + 1))) := sf_pi s2 (by decide) (by decide)
  have f3 : ∀ k, am_i (am_pi h2 89 3 (nI (cs.length + 1))) 89 k = if k = 3 then nI (cs.length + 1) else am_i h2 89 k := fun k => i_pi_same _ _ _ _ _
  generalize am_pi h2 89 3 (nI (cs.length + 1)) = h3 at f3 s3 ⊢
  obtain ⟨o1, o2, o3, o4, q, q1, q2, q3⟩ := O
  obtain ⟨⟨r0, r1, r2, r3⟩, rl, re, rc⟩ := R
  refine HQ h3 s3 ⟨s3.1.sh o1, o2.mv s3 (by decide) (by decide), o3, (s3.2 11 (by decide)).trans o4, q, (s3.2 10 (by decide)).trans q1, q2, q3⟩ ⟨⟨?_, ?_, ?_, ?_⟩, fun v hv => ?_, fun e he => ⟨?_, ?_, ?_⟩, fun k hk => ?_⟩
  · rw [f3, if_neg (by decide), f2, if_neg (by omega), if_neg (by omega)]; exact r0
  · rw [f3, if_neg (by decide), f2, if_neg (by omega), if_neg (by omega)]; exact r1
  · rw [f3, if_neg (by decide), f2, if_neg (by omega), if_neg (by omega)]; exact r2
  · rw [f3, if_pos rfl, List.length_append]; rfl
  · rw [f3, if_neg (by omega), f2, if_neg (by omega), if_neg (by omega)]; exact rl v hv
  · rw [f3, if_neg (by omega), f2, if_neg (by omega), if_neg (by omega)]; exact (re e he).1
  · rw [f3, if_neg (by omega), f2, if_neg (by omega), if_neg (by omega)]; exact (re e he).2.1
  · rw [f3, if_neg (by omega), f2, if_neg (by omega), if_neg (by omega)]; exact (re e he).2.2
  · rw [List.length_append, List.length_singleton] at hk
    rw [f3, if_neg (by omega), f3, if_neg (by omega), f2, f2]
    by_cases z : k = cs.length
    · rw [z, if_neg (by omega), if_pos rfl, if_pos rfl]
      have : (cs ++ [c]).getD cs.length 0 = c := by simp
      rw [this]
      exact ⟨ha, hb⟩
    · rw [if_neg (by omega), if_neg (by omega), if_neg (by omega), if_neg (by omega), List.getD_eq_getElem?_getD, List.getElem?_append_left (by omega), ← List.getD_eq_getElem?_getD]
      exact rc k (by omega)
/-- an operation's codes -/
theorem cW_ops : (nI 1).toInt = cW (-4) ∧ (nI 2).toInt = cW (-5) ∧ (nI 3).toInt = cW (-6) ∧ (nI 4).toInt = cW (-7) ∧ (nI 0).toInt = cV (-4) ∧ (nI 0).toInt = cV (-5) ∧ (nI 0).toInt = cV (-6) ∧ (nI 0).toInt = cV (-7) := by decide
theorem mQx_at (X : mQx h t p cs g dp) {h' : am_H} {q : Nat} (s : sf [] [10] h h') (e : am_i h' 87 10 = nI q) (hq : q ≤ t.1) (hp : p ≤ q) : mQx h' t q cs g dp := ⟨mO_at X.1 s e hq, X.2.1.mv (sf_89 s (by decide)), (s.2 14 (by decide)).trans X.2.2.1, Nat.le_trans X.2.2.2.1 hp, X.2.2.2.2⟩
theorem mQx_mv (X : mQx h t p cs g dp) {h' : am_H} (s : sf [] [10] h h') (O : mO h' t p) : mQx h' t p cs g dp := ⟨O, X.2.1.mv (sf_89 s (by decide)), (s.2 14 (by decide)).trans X.2.2.1, X.2.2.2.1, X.2.2.2.2⟩
end
section
variable {xs : am_X} {t : tX}
set_option maxHeartbeats 8000000 in
theorem y_term {dp H K : Nat} {F : Nat → List Int → pX} (hK1 : 1 ≤ K) (hG : pGood t H F) (hF : mdC xs t m_Mo_factor K dp F) : mdC xs t m_Mo_term (K + 1) dp (pItem F t 42 47 (-6) (-7)) := by
  intro d h p cs g Q hd X HQ
  have t7 := X.1.2.1.1
  unfold eM at HQ
  have pe := fun e => pItem_e (F := F) (t := t) (o1 := 42) (o2 := 47) (c1 := -6) (c2 := -7) (p := p) (cs := cs) (e := e)
  have pr := fun z => pItem_r (F := F) (t := t) (o1 := 42) (o2 := 47) (c1 := -6) (c2 := -7) (p := p) (cs := cs) (z := z)
  generalize pItem F t 42 47 (-6) (-7) p cs = R at HQ pe pr
  refine am_C_le hd (am_enter (d := K) ap_Mo_term rfl ?_) (fun _ _ k => k)
  have bad : ∀ (h' : am_H) (e : pE) (v1 : Value), R = .inl e → sfx h h' → mE h' e → am_W xs (am_code at_Mo_term) (am_hd ah_Mo_term) (am_C xs am_P0 K) Q 4 [.ref 87, v1] [] h' := by
    intro h' e v1 hR s E
    refine am_go (fun _ => false) (fun K cal Q' hK hC hQ => ?_)
    exact And.intro (sk_87 E.1) (And.intro (fun _ => And.intro trivial (hQ _ _ (HQ.1 e h' hR s E))) (fun z => absurd (Classical.not_not.mp z) E.ne))
  refine am_go (fun p => p == 4) (fun K' cal Q' hK hC hQ => ?_)
  refine And.intro (sk_87 X.1.1) (hC _ _ _ _ (hF K h p cs g _ (Nat.le_refl _) X ⟨fun e h1 hR s1 E1 => hK _ _ _ _ ?_, fun p1 cs1 h1 hR s1 X1 => hK _ _ _ _ ?_⟩))
  · exact bad h1 e am_J (pe e hR) s1 E1
  have hRR := pr _ hR
  dsimp only at hRR
  refine am_while (fun n L h' => ∃ v1 p' cs', L = [.ref 87, v1] ∧ sfx h h' ∧ mQx h' t p' cs' g dp ∧ t.1 ≤ p' + n ∧ pLoop F t 42 47 (-6) (-7) n p' cs' = R) ?_ t.1 _ _ ⟨am_J, p1, cs1, rfl, s1, X1, by omega, hRR.symm⟩
  rintro n L h' ⟨v1, p', cs', rfl, s, X', hn, hR'⟩ next
  have k1 := fun q => sI_c (t := t) (q := q) (s := 42) (X'.1.b _) (by decide)
  have k2 := fun q => sI_c (t := t) (q := q) (s := 47) (X'.1.b _) (by decide)
  have g1 := sk_ge t p'
  have g2 := sk_len X'.1.2.2.1
  -- no operation
  have out : ∀ h2, sf [] [10] h' h2 → mO h2 t p' → ¬ (isC t (sk t p') 42 = true ∨ isC t (sk t p') 47 = true) → Q (.inl none) h2 := by
    intro h2 s2 O2 no
    have eR : R = .inr (p', cs') := by
      cases n with
      | zero => exact hR'.symm
      | succ n => rw [pLoop_s, if_neg no] at hR'; exact hR'.symm
    exact HQ.2 p' cs' h2 eR (sf_tr s (sf_mo s2 (subl_x rfl) (subl_x rfl))) (mQx_mv X' s2 O2)
  -- an operation
  have body : ∀ h2, sf [] [10] h' h2 → mO h2 t p' → (isC t (sk t p') 42 = true ∨ isC t (sk t p') 47 = true) → am_W xs (am_code at_Mo_term) (am_hd ah_Mo_term) (am_C xs am_P0 K) Q 29 [.ref 87, v1] [] h2 := by
    intro h2 s2 O2 yes
    have ql : sk t p' < t.1 := yes.elim (fun z => (isC_lt z).1) (fun z => (isC_lt z).1)
    have tail : ∀ (b : Bool) h3, b = isC t (sk t p') 42 → sf [] [10] h' h3 → mO h3 t p' → am_i h3 87 10 = nI (sk t p') → am_W xs (am_code at_Mo_term) (am_hd ah_Mo_term) (am_C xs am_P0 K) Q 43 [.ref 87, v1] [.int (bI b)] h3 := by
      intro b h3 hb s3 O3 e3
      refine am_go (fun p => p == 4) (fun K' cal Q' hK hC hQ => ?_)
      refine And.intro (sk_87 O3.1) (And.intro (sk_87 O3.1) ?_)
      show am_k (am_pi h3 87 10 (am_i h3 87 10 + nI 1)) 87 = _ ∧ _
      rw [e3, nI_add]
      have s4 : sf [] [10] h' (am_pi h3 87 10 (nI (sk t p' + 1))) := sf_pf s3 (by decide)
      have e4 : am_i (am_pi h3 87 10 (nI (sk t p' + 1))) 87 10 = nI (sk t p' + 1) := by rw [i_pi_same, if_pos rfl]
      show am_k (am_pi h3 87 10 (nI (sk t p' + 1))) 87 = _ ∧ cal m_Mo_factor [.ref 87] (am_pi h3 87 10 (nI (sk t p' + 1))) _
      generalize am_pi h3 87 10 (nI (sk t p' + 1)) = h4 at s4 e4 ⊢
      have X4 := mQx_at X' s4 e4 ql (by omega)
      have s04 : sfx h h4 := sf_tr s (sf_mo s4 (subl_x rfl) (subl_x rfl))
      -- the fuel
      have hn1 : ∃ m, n = m + 1 := ⟨n - 1, by omega⟩
      obtain ⟨m, rfl⟩ := hn1
      rw [pLoop_s, if_pos yes] at hR'
      refine And.intro (sk_87 X4.1.1) (hC _ _ _ _ (hF K h4 _ cs' g _ (Nat.le_refl _) X4 ⟨fun e h5 hR5 s5 E5 => ?_, fun p5 cs5 h5 hR5 s5 X5 => ?_⟩))
      · rw [hR5] at hR'
        have fin : am_C xs am_P0 K m_Mo_codes [.ref 87, .int (if b then nI 3 else nI 4), .int (nI 0)] h5 (fun r h9 => match r with
          | .inl none => am_W xs (am_code at_Mo_term) (am_hd ah_Mo_term) (am_C xs am_P0 K) Q 4 [.ref 87, .int (bI b)] [] h9
          | _ => False) := y_codes_err hK1 E5 (bad h5 e _ hR'.symm (sf_tr s04 s5) E5)
        cases b with
        | true => exact And.intro (fun z => absurd z i1_0) (fun _ => And.intro (sk_87 E5.1) (hC _ _ _ _ (am_C_mono _ _ _ _ _ _ (fun r h9 q => match r, q with | .inl none, q => hK _ _ _ _ q) fin)))
        | false => exact And.intro (fun _ => And.intro (sk_87 E5.1) (hC _ _ _ _ (am_C_mono _ _ _ _ _ _ (fun r h9 q => match r, q with | .inl none, q => hK _ _ _ _ q) fin))) (fun z => absurd rfl z)
      · rw [hR5] at hR'
        dsimp only at hR'
        obtain ⟨l1, l2, ds, l3, l4, l5⟩ := hG _ _ _ _ (by omega) hR5
        have lcs : cs5.length + 12 ≤ p5 := by
          rw [l3, List.length_append]
          have := X'.2.2.2.1
          omega
        have fin : am_C xs am_P0 K m_Mo_codes [.ref 87, .int (if b then nI 3 else nI 4), .int (nI 0)] h5 (fun r h9 => match r with
          | .inl none => am_W xs (am_code at_Mo_term) (am_hd ah_Mo_term) (am_C xs am_P0 K) Q 4 [.ref 87, .int (bI b)] [] h9
          | _ => False) := by
          refine y_codes hK1 X5.1 X5.2.1 (by omega) X5.2.2.2.2 (c := if isC t (sk t p') 42 = true then -6 else -7) ?_ ?_ (fun h6 s6 O6 R6 => ?_)
          · rw [← hb]
            cases b
            · exact cW_ops.2.2.2.1
            · exact cW_ops.2.2.1
          · rw [← hb]
            cases b
            · exact cW_ops.2.2.2.2.2.2.2
            · exact cW_ops.2.2.2.2.2.2.1
          · exact next m _ _ (Nat.lt_succ_self m) ⟨_, p5, _, rfl, sf_tr (sf_tr s04 s5) (sf_mo s6 (subl_x rfl) (subl_x rfl)), ⟨O6, R6, (s6.2 14 (by decide)).trans X5.2.2.1, by rw [List.length_append, List.length_singleton]; omega, X5.2.2.2.2⟩, by omega, hR'⟩
        cases b with
        | true => exact And.intro (fun z => absurd z i1_0) (fun _ => And.intro (sk_87 X5.1.1) (hC _ _ _ _ (am_C_mono _ _ _ _ _ _ (fun r h9 q => match r, q with | .inl none, q => hK _ _ _ _ q) fin)))
        | false => exact And.intro (fun _ => And.intro (sk_87 X5.1.1) (hC _ _ _ _ (am_C_mono _ _ _ _ _ _ (fun r h9 q => match r, q with | .inl none, q => hK _ _ _ _ q) fin))) (fun z => absurd rfl z)
    refine am_go (fun p => p == 43) (fun K' cal Q' hK hC hQ => ?_)
    refine And.intro (sk_87 O2.1) (hC _ _ _ _ (y_sees hK1 O2 (fun h3 s3 O3 e3 => ?_)))
    refine And.intro (fun z => hK _ _ _ _ (tail false h3 ?_ (sf_tr s2 s3) O3 e3)) (fun z => hK _ _ _ _ (tail true h3 ?_ (sf_tr s2 s3) O3 e3))
    · cases e : isC t (sk t p') 42 with
      | false => rfl
      | true => exact absurd ((k1 _).mpr e) z
    · exact ((k1 _).mp (Classical.not_not.mp z)).symm
  refine am_go (fun p => p == 29) (fun K' cal Q' hK hC hQ => ?_)
  refine And.intro (sk_87 X'.1.1) (And.intro (fun z => absurd X'.1.2.2.2.1 z) (fun _ => ?_))
  refine And.intro (sk_87 X'.1.1) (hC _ _ _ _ (y_sees hK1 X'.1 (fun h2 s2 O2 e2 => ?_)))
  refine And.intro (fun z => hK _ _ _ _ (body h2 s2 O2 (Or.inl ((k1 _).mp z)))) (fun z1 => ?_)
  refine And.intro (sk_87 O2.1) (hC _ _ _ _ (y_sees hK1 O2 (fun h3 s3 O3 e3 => ?_)))
  refine And.intro (fun z2 => And.intro trivial (hQ _ _ (out h3 (sf_tr s2 s3) O3 ?_))) (fun z2 => hK _ _ _ _ (body h3 (sf_tr s2 s3) O3 (Or.inr ((k2 _).mp (Classical.not_not.mp z2)))))
  rintro (w | w)
  · exact z1 ((k1 _).mpr w)
  · exact z2 ((k2 _).mpr w)
set_option maxHeartbeats 8000000 in
theorem y_sum {dp H K : Nat} {F : Nat → List Int → pX} (hK1 : 1 ≤ K) (hG : pGood t H F) (hF : mdC xs t m_Mo_term K dp F) : mdC xs t m_Mo_sum (K + 1) dp (pItem F t 43 45 (-4) (-5)) := by
  intro d h p cs g Q hd X HQ
  have t7 := X.1.2.1.1
  unfold eM at HQ
  have pe := fun e => pItem_e (F := F) (t := t) (o1 := 43) (o2 := 45) (c1 := -4) (c2 := -5) (p := p) (cs := cs) (e := e)
  have pr := fun z => pItem_r (F := F) (t := t) (o1 := 43) (o2 := 45) (c1 := -4) (c2 := -5) (p := p) (cs := cs) (z := z)
  generalize pItem F t 43 45 (-4) (-5) p cs = R at HQ pe pr
  refine am_C_le hd (am_enter (d := K) ap_Mo_sum rfl ?_) (fun _ _ k => k)
  have bad : ∀ (h' : am_H) (e : pE) (v1 : Value), R = .inl e → sfx h h' → mE h' e → am_W xs (am_code at_Mo_sum) (am_hd ah_Mo_sum) (am_C xs am_P0 K) Q 4 [.ref 87, v1] [] h' := by
    intro h' e v1 hR s E
    refine am_go (fun _ => false) (fun K cal Q' hK hC hQ => ?_)
    exact And.intro (sk_87 E.1) (And.intro (fun _ => And.intro trivial (hQ _ _ (HQ.1 e h' hR s E))) (fun z => absurd (Classical.not_not.mp z) E.ne))
  refine am_go (fun p => p == 4) (fun K' cal Q' hK hC hQ => ?_)
  refine And.intro (sk_87 X.1.1) (hC _ _ _ _ (hF K h p cs g _ (Nat.le_refl _) X ⟨fun e h1 hR s1 E1 => hK _ _ _ _ ?_, fun p1 cs1 h1 hR s1 X1 => hK _ _ _ _ ?_⟩))
  · exact bad h1 e am_J (pe e hR) s1 E1
  have hRR := pr _ hR
  dsimp only at hRR
  refine am_while (fun n L h' => ∃ v1 p' cs', L = [.ref 87, v1] ∧ sfx h h' ∧ mQx h' t p' cs' g dp ∧ t.1 ≤ p' + n ∧ pLoop F t 43 45 (-4) (-5) n p' cs' = R) ?_ t.1 _ _ ⟨am_J, p1, cs1, rfl, s1, X1, by omega, hRR.symm⟩
  rintro n L h' ⟨v1, p', cs', rfl, s, X', hn, hR'⟩ next
  have k1 := fun q => sI_c (t := t) (q := q) (s := 43) (X'.1.b _) (by decide)
  have k2 := fun q => sI_c (t := t) (q := q) (s := 45) (X'.1.b _) (by decide)
  have g1 := sk_ge t p'
  have g2 := sk_len X'.1.2.2.1
  -- no operation
  have out : ∀ h2, sf [] [10] h' h2 → mO h2 t p' → ¬ (isC t (sk t p') 43 = true ∨ isC t (sk t p') 45 = true) → Q (.inl none) h2 := by
    intro h2 s2 O2 no
    have eR : R = .inr (p', cs') := by
      cases n with
      | zero => exact hR'.symm
      | succ n => rw [pLoop_s, if_neg no] at hR'; exact hR'.symm
    exact HQ.2 p' cs' h2 eR (sf_tr s (sf_mo s2 (subl_x rfl) (subl_x rfl))) (mQx_mv X' s2 O2)
  -- an operation
  have body : ∀ h2, sf [] [10] h' h2 → mO h2 t p' → (isC t (sk t p') 43 = true ∨ isC t (sk t p') 45 = true) → am_W xs (am_code at_Mo_sum) (am_hd ah_Mo_sum) (am_C xs am_P0 K) Q 29 [.ref 87, v1] [] h2 := by
    intro h2 s2 O2 yes
    have ql : sk t p' < t.1 := yes.elim (fun z => (isC_lt z).1) (fun z => (isC_lt z).1)
    have tail : ∀ (b : Bool) h3, b = isC t (sk t p') 43 → sf [] [10] h' h3 → mO h3 t p' → am_i h3 87 10 = nI (sk t p') → am_W xs (am_code at_Mo_sum) (am_hd ah_Mo_sum) (am_C xs am_P0 K) Q 43 [.ref 87, v1] [.int (bI b)] h3 := by
      intro b h3 hb s3 O3 e3
      refine am_go (fun p => p == 4) (fun K' cal Q' hK hC hQ => ?_)
      refine And.intro (sk_87 O3.1) (And.intro (sk_87 O3.1) ?_)
      show am_k (am_pi h3 87 10 (am_i h3 87 10 + nI 1)) 87 = _ ∧ _
      rw [e3, nI_add]
      have s4 : sf [] [10] h' (am_pi h3 87 10 (nI (sk t p' + 1))) := sf_pf s3 (by decide)
      have e4 : am_i (am_pi h3 87 10 (nI (sk t p' + 1))) 87 10 = nI (sk t p' + 1) := by rw [i_pi_same, if_pos rfl]
      show am_k (am_pi h3 87 10 (nI (sk t p' + 1))) 87 = _ ∧ cal m_Mo_term [.ref 87] (am_pi h3 87 10 (nI (sk t p' + 1))) _
      generalize am_pi h3 87 10 (nI (sk t p' + 1)) = h4 at s4 e4 ⊢
      have X4 := mQx_at X' s4 e4 ql (by omega)
      have s04 : sfx h h4 := sf_tr s (sf_mo s4 (subl_x rfl) (subl_x rfl))
      -- the fuel
      have hn1 : ∃ m, n = m + 1 := ⟨n - 1, by omega⟩
      obtain ⟨m, rfl⟩ := hn1
      rw [pLoop_s, if_pos yes] at hR'
      refine And.intro (sk_87 X4.1.1) (hC _ _ _ _ (hF K h4 _ cs' g _ (Nat.le_refl _) X4 ⟨fun e h5 hR5 s5 E5 => ?_, fun p5 cs5 h5 hR5 s5 X5 => ?_⟩))
      · rw [hR5] at hR'
        have fin : am_C xs am_P0 K m_Mo_codes [.ref 87, .int (if b then nI 1 else nI 2), .int (nI 0)] h5 (fun r h9 => match r with
          | .inl none => am_W xs (am_code at_Mo_sum) (am_hd ah_Mo_sum) (am_C xs am_P0 K) Q 4 [.ref 87, .int (bI b)] [] h9
          | _ => False) := y_codes_err hK1 E5 (bad h5 e _ hR'.symm (sf_tr s04 s5) E5)
        cases b with
        | true => exact And.intro (fun z => absurd z i1_0) (fun _ => And.intro (sk_87 E5.1) (hC _ _ _ _ (am_C_mono _ _ _ _ _ _ (fun r h9 q => match r, q with | .inl none, q => hK _ _ _ _ q) fin)))
        | false => exact And.intro (fun _ => And.intro (sk_87 E5.1) (hC _ _ _ _ (am_C_mono _ _ _ _ _ _ (fun r h9 q => match r, q with | .inl none, q => hK _ _ _ _ q) fin))) (fun z => absurd rfl z)
      · rw [hR5] at hR'
        dsimp only at hR'
        obtain ⟨l1, l2, ds, l3, l4, l5⟩ := hG _ _ _ _ (by omega) hR5
        have lcs : cs5.length + 12 ≤ p5 := by
          rw [l3, List.length_append]
          have := X'.2.2.2.1
          omega
        have fin : am_C xs am_P0 K m_Mo_codes [.ref 87, .int (if b then nI 1 else nI 2), .int (nI 0)] h5 (fun r h9 => match r with
          | .inl none => am_W xs (am_code at_Mo_sum) (am_hd ah_Mo_sum) (am_C xs am_P0 K) Q 4 [.ref 87, .int (bI b)] [] h9
          | _ => False) := by
          refine y_codes hK1 X5.1 X5.2.1 (by omega) X5.2.2.2.2 (c := if isC t (sk t p') 43 = true then -4 else -5) ?_ ?_ (fun h6 s6 O6 R6 => ?_)
          · rw [← hb]
            cases b
            · exact cW_ops.2.1
            · exact cW_ops.1
          · rw [← hb]
            cases b
            · exact cW_ops.2.2.2.2.2.1
            · exact cW_ops.2.2.2.2.1
          · exact next m _ _ (Nat.lt_succ_self m) ⟨_, p5, _, rfl, sf_tr (sf_tr s04 s5) (sf_mo s6 (subl_x rfl) (subl_x rfl)), ⟨O6, R6, (s6.2 14 (by decide)).trans X5.2.2.1, by rw [List.length_append, List.length_singleton]; omega, X5.2.2.2.2⟩, by omega, hR'⟩
        cases b with
        | true => exact And.intro (fun z => absurd z i1_0) (fun _ => And.intro (sk_87 X5.1.1) (hC _ _ _ _ (am_C_mono _ _ _ _ _ _ (fun r h9 q => match r, q with | .inl none, q => hK _ _ _ _ q) fin)))
        | false => exact And.intro (fun _ => And.intro (sk_87 X5.1.1) (hC _ _ _ _ (am_C_mono _ _ _ _ _ _ (fun r h9 q => match r, q with | .inl none, q => hK _ _ _ _ q) fin))) (fun z => absurd rfl z)
    refine am_go (fun p => p == 43) (fun K' cal Q' hK hC hQ => ?_)
    refine And.intro (sk_87 O2.1) (hC _ _ _ _ (y_sees hK1 O2 (fun h3 s3 O3 e3 => ?_)))
    refine And.intro (fun z => hK _ _ _ _ (tail false h3 ?_ (sf_tr s2 s3) O3 e3)) (fun z => hK _ _ _ _ (tail true h3 ?_ (sf_tr s2 s3) O3 e3))
    · cases e : isC t (sk t p') 43 with
      | false => rfl
      | true => exact absurd ((k1 _).mpr e) z
    · exact ((k1 _).mp (Classical.not_not.mp z)).symm
  refine am_go (fun p => p == 29) (fun K' cal Q' hK hC hQ => ?_)
  refine And.intro (sk_87 X'.1.1) (And.intro (fun z => absurd X'.1.2.2.2.1 z) (fun _ => ?_))
  refine And.intro (sk_87 X'.1.1) (hC _ _ _ _ (y_sees hK1 X'.1 (fun h2 s2 O2 e2 => ?_)))
  refine And.intro (fun z => hK _ _ _ _ (body h2 s2 O2 (Or.inl ((k1 _).mp z)))) (fun z1 => ?_)
  refine And.intro (sk_87 O2.1) (hC _ _ _ _ (y_sees hK1 O2 (fun h3 s3 O3 e3 => ?_)))
  refine And.intro (fun z2 => And.intro trivial (hQ _ _ (out h3 (sf_tr s2 s3) O3 ?_))) (fun z2 => hK _ _ _ _ (body h3 (sf_tr s2 s3) O3 (Or.inr ((k2 _).mp (Classical.not_not.mp z2)))))
  rintro (w | w)
  · exact z1 ((k1 _).mpr w)
  · exact z2 ((k2 _).mpr w)
set_option maxHeartbeats 8000000 in
theorem y_factor {k dp K : Nat} (hdp : dp + k = 4) (hK3 : 3 ≤ K) (hS : ∀ f, pSub t k = some f → mdC xs t m_Mo_sum K (dp + 1) f) : mdC xs t m_Mo_factor (K + 1) dp (pFac (pSub t k) t) := by
  intro d h p cs g Q hd X HQ
  have t7 := X.1.2.1.1
  have hp := X.1.2.2.1
  have g1 := sk_ge t p
  have g2 := sk_len hp
  have lc := X.2.2.2.1
  have k1 := sI_c (t := t) (q := sk t p) (s := 40) (X.1.b _) (by decide)
  unfold eM pFac pFacQ at HQ
  refine am_C_le hd (am_enter (d := K) ap_Mo_factor rfl ?_) (fun _ _ k => k)
  refine am_go (fun p => p == 77) (fun K' cal Q' hK hC hQ => ?_)
  refine And.intro (sk_87 X.1.1) (And.intro (fun _ => ?_) (fun z => absurd X.1.2.2.2.1 z))
  refine And.intro (sk_87 X.1.1) (hC _ _ _ _ (y_sees (by omega) X.1 (fun h1 s1 O1 e1 => ?_)))
  have X1 := mQx_mv X s1 O1
  have s01 : sfx h h1 := sf_mo s1 (subl_x rfl) (subl_x rfl)
  refine And.intro (fun z => hK _ _ _ _ ?_) (fun z => ?_)
  rotate_left
  · -- a bracket
    have z := k1.mp (Classical.not_not.mp z)
    rw [if_pos z] at HQ
    cases k with
    | zero =>
      have hdp : dp = 4 := hdp
      subst hdp
      refine And.intro (sk_87 O1.1) (And.intro (fun w => absurd X1.2.2.1 w) (fun _ => ?_))
      refine And.intro (sk_87 O1.1) (And.intro (sk_87 O1.1) ?_)
      show cal m_Mo_fails [.ref 87, .int (-nI 6), .int (am_i h1 87 10)] h1 _
      rw [e1]
      exact hC _ _ _ _ (y_fails (by omega) (sk_87 O1.1) O1.2.2.2.1 (by decide) O1.1 (fun h2 s2 E2 => And.intro trivial (hQ _ _ (HQ.1 _ h2 rfl (sf_tr s01 (sf_mo s2 (subl_x rfl) (subl_x rfl))) E2))))
    | succ k =>
      have ql := isC_lt z
      refine And.intro (sk_87 O1.1) (And.intro (fun _ => ?_) (fun w => ?_))
      rotate_left
      · have w : am_i h1 87 14 = nI 4 := Classical.not_not.mp w
        rw [X1.2.2.1] at w
        have := (nI_eq (by omega) (by decide)).mp w
        omega
      refine And.intro (sk_87 O1.1) (And.intro (sk_87 O1.1) (And.intro (sk_87 O1.1) (And.intro (sk_87 O1.1) ?_)))
      show am_k (am_pi (am_pi h1 87 14 (am_i h1 87 14 + nI 1)) 87 10 (am_i (am_pi h1 87 14 (am_i h1 87 14 + nI 1)) 87 10 + nI 1)) 87 = _ ∧ cal m_Mo_sum [.ref 87] (am_pi (am_pi h1 87 14 (am_i h1 87 14 + nI 1)) 87 10 (am_i (am_pi h1 87 14 (am_i h1 87 14 + nI 1)) 87 10 + nI 1)) _
      rw [i_pi_k (by decide), e1, nI_add, X1.2.2.1, nI_add]
      have s2 : sf [] [10, 14] h1 (am_pi (am_pi h1 87 14 (nI (dp + 1))) 87 10 (nI (sk t p + 1))) := sf_pf (sf_pf sf_rf (by decide)) (by decide)
      have f2 : ∀ j, am_i (am_pi (am_pi h1 87 14 (nI (dp + 1))) 87 10 (nI (sk t p + 1))) 87 j = if j = 10 then nI (sk t p + 1) else if j = 14 then nI (dp + 1) else am_i h1 87 j := fun j => by rw [i_pi_same, i_pi_same]
      generalize am_pi (am_pi h1 87 14 (nI (dp + 1))) 87 10 (nI (sk t p + 1)) = h2 at s2 f2 ⊢
      have O2 : mO h2 t (sk t p + 1) := ⟨s2.1.sh O1.1, O1.2.1.mv s2 (by decide) (by decide), ql.1, (f2 11).trans O1.2.2.2.1, _, f2 10, ql.1, rfl⟩
      have X2 : mQx h2 t (sk t p + 1) cs g (dp + 1) := ⟨O2, X1.2.1.mv (sf_89 s2 (by decide)), f2 14, by omega, X1.2.2.2.2⟩
      have s02 : sfx h h2 := sf_tr s01 (sf_mo s2 (subl_x rfl) (subl_x rfl))
      unfold pSub at HQ hS
      dsimp only at HQ
      -- the depth goes back
      refine And.intro (sk_87 O2.1) (hC _ _ _ _ (hS _ rfl K h2 (sk t p + 1) cs g _ (Nat.le_refl _) X2 ⟨fun e h3 hR3 s3 E3 => ?_, fun p3 cs3 h3 hR3 s3 X3 => ?_⟩))
      · rw [hR3] at HQ
        refine And.intro (sk_87 E3.1) (hC _ _ _ _ (y_wants_err (by omega) E3 ?_))
        refine And.intro (sk_87 E3.1) (And.intro (sk_87 E3.1) (And.intro trivial (hQ _ _ (HQ.1 e _ rfl (sf_pf (sf_tr s02 s3) (by decide)) ?_))))
        obtain ⟨a1, a2, a3, a4⟩ := E3
        exact ⟨a1, a2, (i_pi_k (by decide)).trans a3, (i_pi_k (by decide)).trans a4⟩
      · rw [hR3] at HQ
        dsimp only at HQ
        refine And.intro (sk_87 X3.1.1) (hC _ _ _ _ (y_wants (s := 41) (by omega) X3.1 (by decide) (fun e h4 hR4 s4 E4 => ?_) (fun q h4 hR4 s4 O4 => ?_)))
        · rw [hR4] at HQ
          refine And.intro (sk_87 E4.1) (And.intro (sk_87 E4.1) (And.intro trivial (hQ _ _ (HQ.1 e _ rfl (sf_pf (sf_tr (sf_tr s02 s3) (sf_mo s4 (subl_x rfl) (subl_x rfl))) (by decide)) ?_))))
          obtain ⟨a1, a2, a3, a4⟩ := E4
          exact ⟨a1, a2, (i_pi_k (by decide)).trans a3, (i_pi_k (by decide)).trans a4⟩
        · rw [hR4] at HQ
          obtain ⟨q1, q2, q3, q4⟩ := pSym_r hR4
          have e14 : am_i h4 87 14 = nI (dp + 1) := (s4.2 14 (by decide)).trans X3.2.2.1
          refine And.intro (sk_87 O4.1) (And.intro (sk_87 O4.1) (And.intro trivial (hQ _ _ ?_)))
          show Q (.inl none) (am_pi h4 87 14 (am_i h4 87 14 - nI 1))
          rw [e14, show nI (dp + 1) - nI 1 = nI dp from nI_pred dp]
          obtain ⟨o1, o2, o3, o4, qq, w1, w2, w3⟩ := O4
          have s5 : sf [] [14] h4 (am_pi h4 87 14 (nI dp)) := sf_pf sf_rf (by decide)
          have O5 : mO (am_pi h4 87 14 (nI dp)) t q := ⟨s5.1.sh o1, o2.mv s5 (by decide) (by decide), o3, (s5.2 11 (by decide)).trans o4, qq, (s5.2 10 (by decide)).trans w1, w2, w3⟩
          refine HQ.2 q cs3 _ rfl (sf_tr (sf_tr (sf_tr s02 s3) (sf_mo s4 (subl_x rfl) (subl_x rfl))) (sf_mo s5 (subl_x rfl) (subl_x rfl))) ⟨O5, (X3.2.1.mv (sf_89 s4 (by decide))).mv (sf_89 s5 (by decide)), ?_, by have := X3.2.2.2.1; omega, X3.2.2.2.2⟩
          rw [i_pi_same, if_pos rfl]
  -- no bracket
  have z : ¬ isC t (sk t p) 40 = true := fun w => z (k1.mpr w)
  rw [if_neg z] at HQ
  refine am_go (fun p => p == 98) (fun K' cal Q' hK hC hQ => ?_)
  refine And.intro (sk_87 O1.1) (hC _ _ _ _ (y_isDigit (by omega) O1 (fun h2 s2 O2 e2 => ?_)))
  have X2 := mQx_mv X1 s2 O2
  have s02 : sfx h h2 := sf_tr s01 (sf_mo s2 (subl_x rfl) (subl_x rfl))
  cases dga : dgAt t (sk t p) with
  | true =>
    rw [if_pos dga] at HQ
    have hlt := te_dg_gt dga
    refine And.intro (fun y => absurd y q_t1) (fun _ => ?_)
    refine And.intro (sk_87 O2.1) (hC _ _ _ _ (y_reads (lo := 0) (hi := 9999) (by omega) O2 (by decide) (by decide) (fun e h3 hR3 s3 E3 => ?_) (fun a h3 hR3 s3 O3 e3 => ?_)))
    · unfold pNum at hR3
      rw [if_pos dga] at hR3
      split at hR3
      · cases hR3
      · rename_i w
        cases hR3
        rw [if_neg (by omega)] at HQ
        exact And.intro (sk_87 E3.1) (hC _ _ _ _ (y_codes_err (by omega) E3 (And.intro trivial (hQ _ _ (HQ.1 _ h3 rfl (sf_tr s02 (sf_mo s3 (subl_x rfl) (subl_x rfl))) E3)))))
    · unfold pNum at hR3
      rw [if_pos dga] at hR3
      split at hR3
      · rename_i w
        cases hR3
        rw [if_pos w.2] at HQ
        have R3 : mRd h3 g cs := X2.2.1.mv (sf_89 s3 (by decide))
        refine And.intro (sk_87 O3.1) (hC _ _ _ _ (y_codes (by omega) O3 R3 (by omega) X.2.2.2.2 (c := (num t (sk t p) : Int)) ?_ ?_ (fun h4 s4 O4 R4 => And.intro trivial (hQ _ _ (HQ.2 _ _ h4 rfl (sf_tr (sf_tr s02 (sf_mo s3 (subl_x rfl) (subl_x rfl))) (sf_mo s4 (subl_x rfl) (subl_x rfl))) ⟨O4, R4, ?_, ?_, X.2.2.2.2⟩)))))
        · unfold cW
          rw [if_pos (by omega)]
          decide
        · unfold cV
          rw [if_pos (by omega)]
          exact nI_toInt (by omega)
        · exact (s4.2 14 (by decide)).trans ((s3.2 14 (by decide)).trans X2.2.2.1)
        · rw [List.length_append, List.length_singleton]
          show cs.length + 1 + 11 ≤ te t (sk t p)
          omega
      · cases hR3
  | false =>
  rw [if_neg (by rw [dga]; decide)] at HQ
  refine And.intro (fun _ => hK _ _ _ _ ?_) (fun y => absurd rfl y)
  -- behind the words
  have wrd : ∀ (s : Nat) (c : Int) (v : Nat) (h3 : am_H), s < 8 → wIs t (sk t p) s = true → sfx h h3 → mO h3 t (te t (sk t p)) → mRd h3 g cs → am_i h3 87 14 = nI dp → (nI 5).toInt = cW c → (nI v).toInt = cV c → ¬ nI v = -nI 1 → (∀ h', sfx h h' → mQx h' t (te t (sk t p)) (cs ++ [c]) g dp → Q (.inl none) h') → am_W xs (am_code at_Mo_factor) (am_hd ah_Mo_factor) (am_C xs am_P0 K) Q 138 [.ref 87, am_J] [.int (nI v)] h3 := by
    intro s c v h3 hs8 hw s3 O3 R3 e14 c1 c2 c3 hq
    have hlt : sk t p < te t (sk t p) := by rw [wIs_te hs8 hw]; exact Nat.lt_add_of_pos_right (wLen_pos s hs8).1
    refine am_go (fun _ => false) (fun K' cal Q' hK hC hQ => ?_)
    refine And.intro (fun _ => ?_) (fun y => absurd (Classical.not_not.mp y) c3)
    refine And.intro (sk_87 O3.1) (hC _ _ _ _ (y_codes (by omega) O3 R3 (by omega) X.2.2.2.2 c1 c2 (fun h4 s4 O4 R4 => And.intro trivial (hQ _ _ (hq h4 (sf_tr s3 (sf_mo s4 (subl_x rfl) (subl_x rfl))) ⟨O4, R4, (s4.2 14 (by decide)).trans e14, ?_, X.2.2.2.2⟩)))))
    rw [List.length_append, List.length_singleton]
    omega
  refine am_go (fun p => p == 111 || p == 138) (fun K' cal Q' hK hC hQ => ?_)
  refine And.intro (sk_87 O2.1) (hC _ _ _ _ (y_takes (s := 5) (by omega) O2 (by decide) (fun h3 w5 s3 O3 e3 => ?_) (fun h3 w5 s3 O3 => ?_)))
  rotate_left
  · rw [if_pos w5] at HQ
    exact And.intro (fun y => absurd y i1_0) (fun _ => hK _ _ _ _ (wrd 5 (-1) 0 h3 (by decide) w5 (sf_tr s02 (sf_mo s3 (subl_x rfl) (subl_x rfl))) O3 (X2.2.1.mv (sf_89 s3 (by decide))) ((s3.2 14 (by decide)).trans X2.2.2.1) (by decide) (by decide) (by decide) (fun h' s' X' => HQ.2 _ _ h' rfl s' X')))
  rw [if_neg (by rw [w5]; decide)] at HQ
  refine And.intro (fun _ => hK _ _ _ _ ?_) (fun y => absurd rfl y)
  have X3 := mQx_mv X2 s3 O3
  have s03 : sfx h h3 := sf_tr s02 (sf_mo s3 (subl_x rfl) (subl_x rfl))
  refine am_go (fun p => p == 124 || p == 138) (fun K' cal Q' hK hC hQ => ?_)
  refine And.intro (sk_87 O3.1) (hC _ _ _ _ (y_takes (s := 6) (by omega) O3 (by decide) (fun h4 w6 s4 O4 e4 => ?_) (fun h4 w6 s4 O4 => ?_)))
  rotate_left
  · rw [if_pos w6] at HQ
    exact And.intro (fun y => absurd y i1_0) (fun _ => hK _ _ _ _ (wrd 6 (-2) 1 h4 (by decide) w6 (sf_tr s03 (sf_mo s4 (subl_x rfl) (subl_x rfl))) O4 (X3.2.1.mv (sf_89 s4 (by decide))) ((s4.2 14 (by decide)).trans X3.2.2.1) (by decide) (by decide) (by decide) (fun h' s' X' => HQ.2 _ _ h' rfl s' X')))
  rw [if_neg (by rw [w6]; decide)] at HQ
  refine And.intro (fun _ => hK _ _ _ _ ?_) (fun y => absurd rfl y)
  have X4 := mQx_mv X3 s4 O4
  have s04 : sfx h h4 := sf_tr s03 (sf_mo s4 (subl_x rfl) (subl_x rfl))
  refine am_go (fun p => p == 138) (fun K' cal Q' hK hC hQ => ?_)
  refine And.intro (sk_87 O4.1) (hC _ _ _ _ (y_takes (s := 7) (by omega) O4 (by decide) (fun h5 w7 s5 O5 e5 => ?_) (fun h5 w7 s5 O5 => ?_)))
  rotate_left
  · rw [if_pos w7] at HQ
    exact And.intro (fun y => absurd y i1_0) (fun _ => hK _ _ _ _ (wrd 7 (-3) 2 h5 (by decide) w7 (sf_tr s04 (sf_mo s5 (subl_x rfl) (subl_x rfl))) O5 (X4.2.1.mv (sf_89 s5 (by decide))) ((s5.2 14 (by decide)).trans X4.2.2.1) (by decide) (by decide) (by decide) (fun h' s' X' => HQ.2 _ _ h' rfl s' X')))
  rw [if_neg (by rw [w7]; decide)] at HQ
  refine And.intro (fun _ => hK _ _ _ _ ?_) (fun y => absurd rfl y)
  refine am_go (fun _ => false) (fun K' cal Q' hK hC hQ => ?_)
  refine And.intro (fun y => absurd rfl y) (fun _ => ?_)
  refine And.intro (sk_87 O5.1) (And.intro (sk_87 O5.1) ?_)
  show cal m_Mo_fails [.ref 87, .int (-nI 2), .int (am_i h5 87 10)] h5 _
  rw [e5]
  exact hC _ _ _ _ (y_fails (by omega) (sk_87 O5.1) O5.2.2.2.1 (by decide) O5.1 (fun h6 s6 E6 => And.intro trivial (hQ _ _ (HQ.1 _ h6 rfl (sf_tr (sf_tr s04 (sf_mo s5 (subl_x rfl) (subl_x rfl))) (sf_mo s6 (subl_x rfl) (subl_x rfl))) E6))))
/-- a sum within which k brackets may be opened -/
theorem y_sum_k : ∀ k dp, dp + k = 4 → mdC xs t m_Mo_sum (6 + 3 * k) dp (pSum t k)
  | 0, dp, hdp => by
    have hf := y_factor (xs := xs) (t := t) (k := 0) (K := 3) hdp (Nat.le_refl _) (fun f z => by cases z)
    have gf : pGood t 10 (pFac (pSub t 0) t) := pGood_fac (fun f z => by cases z) (by decide)
    have ht := y_term (by decide) gf hf
    have gt : pGood t 9 (pTerm (pSub t 0) t) := pGood_item gf (by decide) (by decide)
    exact y_sum (by decide) gt ht
  | k + 1, dp, hdp => by
    have ih := y_sum_k k (dp + 1) (by omega)
    have gs := pGood_sum t k (by omega)
    have hf := y_factor (xs := xs) (t := t) (k := k + 1) (K := 6 + 3 * k) hdp (by omega) (fun f z => by cases z; exact ih)
    have gf : pGood t (8 - 2 * k) (pFac (pSub t (k + 1)) t) := pGood_fac (fun f z => by cases z; exact gs) (by omega)
    have ht := y_term (by omega) gf hf
    have gt : pGood t (8 - 2 * k - 1) (pTerm (pSub t (k + 1)) t) := by
      have : pGood t (8 - 2 * k - 1 + 1) (pFac (pSub t (k + 1)) t) := by rw [show 8 - 2 * k - 1 + 1 = 8 - 2 * k by omega]; exact gf
      exact pGood_item this (by decide) (by decide)
    exact y_sum (K := 6 + 3 * k + 2) (by omega) gt ht
end

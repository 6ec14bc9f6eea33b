/-! THE CLASS'S READER: the cost expression -/
def rCd (h : am_H) (cs : List Int) : Prop := am_i h 68 12 = nI cs.length ∧ ∀ k, k < cs.length → (am_i h 77 k).toInt = cs.getD k 0
def rX (h : am_H) (t : tX) (p : Nat) (cs : List Int) : Prop := rSt h t p ∧ rCd h cs ∧ cs.length ≤ p
abbrev eP (h : am_H) (t : tX) (r : pX) (Q : am_Q) : Prop := (∀ e h', r = .inl e → rF h h' → rE h' e → Q (.inl (some (.int 0))) h') ∧ (∀ p' cs' h', r = .inr (p', cs') → rF h h' → rX h' t p' cs' → Q (.inl (some (.int 1))) h')
/-- a method reads as F says -/
def rdC (xs : am_X) (t : tX) (m K dp : Nat) (F : Nat → List Int → pX) : Prop := ∀ d h p cs (Q : am_Q), K ≤ d → rX h t p cs → eP h t (F p cs) Q → am_C xs am_P0 d m [.ref 68, .int (nI dp)] h Q
theorem rX.c {h : am_H} {t : tX} {p : Nat} {cs : List Int} (X : rX h t p cs) : cs.length ≤ 700 := Nat.le_trans X.2.2 (Nat.le_trans X.1.2.2.1 X.1.2.1.1)
theorem rCd.mv {h h' : am_H} {cs : List Int} (c : rCd h cs) (s : sm [68] h h') (e : am_i h' 68 12 = am_i h 68 12) : rCd h' cs := ⟨e.trans c.1, fun k hk => by rw [s.i (by decide)]; exact c.2 k hk⟩
theorem rTk.mv {h h' : am_H} {t : tX} {q : Nat} (k : rTk h t q) (f : ∀ j, 5 ≤ j → j ≤ 8 → am_i h' 68 j = am_i h 68 j) : rTk h' t q := ⟨k.1, (f 5 (by decide) (by decide)).trans k.2.1, (f 6 (by decide) (by decide)).trans k.2.2.1, (f 7 (by decide) (by decide)).trans k.2.2.2.1, fun z => (f 8 (by decide) (by decide)).trans (k.2.2.2.2 z)⟩
theorem rSt.mv {h h' : am_H} {t : tX} {p : Nat} (S : rSt h t p) (s : sm [68, 77] h h') (f : ∀ j, 4 ≤ j → j ≤ 8 → am_i h' 68 j = am_i h 68 j) : rSt h' t p := ⟨s.sh S.1, S.2.1.mv s (f 4 (by decide) (by decide)) (by decide), S.2.2.1, S.2.2.2.mv fun j a b => f j (by omega) b⟩
/-- a code more -/
theorem rX_put {h h' : am_H} {t : tX} {p : Nat} {cs : List Int} (X : rX h t p cs) {v : Int32} {c : Int} (hv : v.toInt = c) (hlt : cs.length < 700) (s : sm [68, 77] h h') (f : ∀ k, k ≠ 12 → am_i h' 68 k = am_i h 68 k) (g : ∀ k, k ≠ cs.length → am_i h' 77 k = am_i h 77 k) (e : cs.length < 700 → am_i h' 68 12 = nI (cs.length + 1) ∧ am_i h' 77 cs.length = v) : rSt h' t p ∧ rCd h' (cs ++ [c]) ∧ rF h h' := by
  obtain ⟨e1, e2⟩ := e hlt
  refine ⟨X.1.mv s (fun j a b => f j (by omega)), ⟨by rw [List.length_append]; exact e1, fun k hk => ?_⟩, s, fun k hk => f k (by omega)⟩
  rw [List.length_append, List.length_singleton] at hk
  by_cases z : k = cs.length
  · rw [z, e2, hv]
    simp
  · rw [g k z, X.2.1.2 k (by omega)]
    rw [List.getD_eq_getElem?_getD, List.getD_eq_getElem?_getD, List.getElem?_append_left (by omega)]
theorem rE_put {h h' : am_H} {e : pE} (E : rE h e) {c : Nat} (hc : c ≤ 700) (s : sm [68, 77] h h') (f : ∀ k, k ≠ 12 → am_i h' 68 k = am_i h 68 k) (z : c = 700 → am_i h' 68 12 = nI c) (y : c < 700 → am_i h' 68 12 = nI (c + 1)) : rE h' e ∧ rF h h' := by
  refine ⟨⟨(f 1 (by decide)).trans E.1, (f 2 (by decide)).trans E.2.1, ?_⟩, s, fun k hk => f k (by omega)⟩
  by_cases w : c = 700
  · exact ⟨c, hc, z w⟩
  · exact ⟨c + 1, by omega, y (by omega)⟩
theorem pItem_e {F : Nat → List Int → pX} {t : tX} {o1 o2 : Nat} {c1 c2 : Int} {p : Nat} {cs : List Int} {e : pE} (h : F p cs = .inl e) : pItem F t o1 o2 c1 c2 p cs = .inl e := by unfold pItem; rw [h]
theorem pItem_r {F : Nat → List Int → pX} {t : tX} {o1 o2 : Nat} {c1 c2 : Int} {p : Nat} {cs : List Int} {z : Nat × List Int} (h : F p cs = .inr z) : pItem F t o1 o2 c1 c2 p cs = pLoop F t o1 o2 c1 c2 t.1 z.1 z.2 := by unfold pItem; rw [h]
theorem pLoop_s (F : Nat → List Int → pX) (t : tX) (o1 o2 : Nat) (c1 c2 : Int) (k p : Nat) (cs : List Int) : pLoop F t o1 o2 c1 c2 (k + 1) p cs = if isC t (sk t p) o1 = true ∨ isC t (sk t p) o2 = true then (match F (sk t p + 1) cs with
      | .inl e => .inl e
      | .inr z => pLoop F t o1 o2 c1 c2 k z.1 (z.2 ++ [if isC t (sk t p) o1 = true then c1 else c2])) else .inr (p, cs) := rfl
theorem i1_0 : ¬ (1 : Int32) = 0 := by decide
section
variable {xs : am_X} {t : tX}
set_option maxHeartbeats 8000000 in
theorem c_readTerm {dp H K : Nat} {F : Nat → List Int → pX} (hK1 : 1 ≤ K) (hG : pGood t H F) (hF : rdC xs t m_Rd_readFactor K dp F) : rdC xs t m_Rd_readTerm (K + 1) dp (pItem F t 42 47 (-6) (-7)) := by
  intro d h p cs Q hd X HQ
  have e6 : (-nI 6 : Int32).toInt = -6 := by decide
  have e7 : (-nI 7 : Int32).toInt = -7 := by decide
  have t7 := X.1.2.1.1
  unfold eP at HQ
  have pe := fun e => pItem_e (F := F) (t := t) (o1 := 42) (o2 := 47) (c1 := -6) (c2 := -7) (p := p) (cs := cs) (e := e)
  have pr := fun z => pItem_r (F := F) (t := t) (o1 := 42) (o2 := 47) (c1 := -6) (c2 := -7) (p := p) (cs := cs) (z := z)
  generalize pItem F t 42 47 (-6) (-7) p cs = R at HQ pe pr
  refine am_C_le hd (am_enter (d := K) ap_Rd_readTerm rfl ?_) (fun _ _ k => k)
  have bad : ∀ (h' : am_H) (e : pE) (i : Int32) (v4 : Value), R = .inl e → rF h h' → rE h' e → am_W xs (am_code at_Rd_readTerm) (am_hd ah_Rd_readTerm) (am_C xs am_P0 K) Q 8 [.ref 68, .int (nI dp), .int 0, .int i, v4] [] h' := by
    intro h' e i v4 hR s E
    refine am_go (fun _ => false) (fun K cal Q' hK hC hQ => ?_)
    exact And.intro (fun _ => And.intro (Or.inl rfl) (hQ _ _ (HQ.1 e h' hR s E))) (fun z => absurd rfl z)
  refine am_go (fun p => p == 8) (fun K' cal Q' hK hC hQ => ?_)
  refine And.intro (sk_68 X.1.1) (hC _ _ _ _ (hF K h p cs _ (Nat.le_refl _) X ⟨fun e h1 hR s1 E1 => hK _ _ _ _ ?_, fun p1 cs1 h1 hR s1 X1 => hK _ _ _ _ ?_⟩))
  · exact bad h1 e 0 am_J (pe e hR) s1 E1
  have hRR := pr _ hR
  dsimp only at hRR
  have hG1 := hG p cs p1 cs1 X.1.2.2.1 hR
  refine am_for t.1 (fun i L h' => ∃ v4 p' cs', L = [.ref 68, .int (nI dp), .int 1, .int (nI i), v4] ∧ rF h h' ∧ rX h' t p' cs' ∧ pLoop F t 42 47 (-6) (-7) (t.1 - i) p' cs' = R) ?_ ?_ 0 (Nat.zero_le _) _ _ ⟨am_J, p1, cs1, rfl, s1, X1, by rw [Nat.sub_zero, hRR]⟩
  · rintro i hi9 L h' ⟨v4, p', cs', rfl, s, X', hR'⟩ next
    have eI : am_inc (nI i) (Int.ofNat 1) = nI (i + 1) := nI_1 i
    rw [← eI] at next
    have hs := X'.1.1
    have x := X'.1.2.1
    have e5 : am_i h' 68 5 = kdI t (sk t p') := X'.1.2.2.2.2.1
    have k1 := kd_sym (q := sk t p') (s := 42) (X'.1.b _) (by decide) (by decide) (by decide)
    have k2 := kd_sym (q := sk t p') (s := 47) (X'.1.b _) (by decide) (by decide) (by decide)
    have g1 := sk_ge t p'
    rw [show t.1 - i = (t.1 - (i + 1)) + 1 by omega] at hR'
    rw [pLoop_s] at hR'
    have out : ¬ (isC t (sk t p') 42 = true ∨ isC t (sk t p') 47 = true) → am_W xs (am_code at_Rd_readTerm) (am_hd ah_Rd_readTerm) (am_C xs am_P0 K) Q 78 [.ref 68, .int (nI dp), .int 1, .int (nI i), v4] [] h' := by
      intro no
      rw [if_neg no] at hR'
      refine am_go (fun _ => false) (fun K cal Q' hK hC hQ => ?_)
      exact And.intro (Or.inr rfl) (hQ _ _ (HQ.2 p' cs' h' hR'.symm s X'))
    have body : (isC t (sk t p') 42 = true ∨ isC t (sk t p') 47 = true) → ∀ code : Int32, code.toInt = (if isC t (sk t p') 42 = true then -6 else -7) → am_W xs (am_code at_Rd_readTerm) (am_hd ah_Rd_readTerm) (am_C xs am_P0 K) Q 54 [.ref 68, .int (nI dp), .int 1, .int (nI i), v4] [.int code] h' := by
      intro yes code hcode
      rw [if_pos yes] at hR'
      have ql : sk t p' < t.1 := yes.elim (fun z => (isC_lt z).1) (fun z => (isC_lt z).1)
      have eT : te t (sk t p') = sk t p' + 1 := by
        unfold te
        rw [if_pos ql]
        rcases yes with z | z
        · rw [(isC_lt z).2]; rfl
        · rw [(isC_lt z).2]; rfl
      refine am_go (fun p => p == 8) (fun K' cal Q' hK hC hQ => ?_)
      refine And.intro (sk_68 hs) (hC _ _ _ _ (c_next hK1 X'.1 eT (fun h2 s2 S2 m2 c2 => ?_)))
      have X2 : rX h2 t (sk t p' + 1) cs' := ⟨S2, X'.2.1.mv m2 c2, by have := X'.2.2; omega⟩
      refine And.intro (sk_68 S2.1) (hC _ _ _ _ (hF K h2 (sk t p' + 1) cs' _ (Nat.le_refl _) X2 ⟨fun e h3 hR3 s3 E3 => ?_, fun p3 cs3 h3 hR3 s3 X3 => ?_⟩))
      · rw [hR3] at hR'
        obtain ⟨c, c1, c2⟩ := id E3.2.2
        have hs3 : sh h3 := s3.1.sh S2.1
        refine And.intro (sk_68 hs3) (hC _ _ _ _ (c_putCode hK1 hs3 c1 c2 (fun h4 s4 f4 g4 z4 y4 => hK _ _ _ _ ?_)))
        obtain ⟨E4, r4⟩ := rE_put E3 c1 s4 f4 z4 (fun w => (y4 w).1)
        exact bad h4 e _ _ hR'.symm ((s.tr (s2.tr s3)).tr r4) E4
      · rw [hR3] at hR'
        dsimp only at hR'
        obtain ⟨l1, l2, ds, l3, l4, l5⟩ := hG _ _ _ _ (by omega) hR3
        have lcs : cs3.length + 1 ≤ p3 := by
          rw [l3, List.length_append]
          have := X'.2.2
          omega
        have lp : p3 ≤ t.1 := X3.1.2.2.1
        refine And.intro (sk_68 X3.1.1) (hC _ _ _ _ (c_putCode hK1 X3.1.1 X3.c X3.2.1.1 (fun h4 s4 f4 g4 z4 y4 => hK _ _ _ _ ?_)))
        obtain ⟨S4, c4, r4⟩ := rX_put X3 hcode (by omega) s4 f4 g4 y4
        exact next _ _ ⟨_, p3, _, rfl, (s.tr (s2.tr s3)).tr r4, ⟨S4, c4, by rw [List.length_append]; exact lcs⟩, hR'⟩
    have mid : (isC t (sk t p') 42 = true ∨ isC t (sk t p') 47 = true) → am_W xs (am_code at_Rd_readTerm) (am_hd ah_Rd_readTerm) (am_C xs am_P0 K) Q 30 [.ref 68, .int (nI dp), .int 1, .int (nI i), v4] [] h' := by
      intro yes
      refine am_go (fun p => p == 54) (fun K' cal Q' hK hC hQ => ?_)
      refine And.intro (sk_68 hs) (And.intro (fun z => absurd z (q_ge x.2.1 hi9 (by omega))) (fun _ => ?_))
      refine And.intro (sk_68 hs) (And.intro (fun z => hK _ _ _ _ (body yes _ ?_)) (fun z => hK _ _ _ _ (body yes _ ?_)))
      · rw [if_neg (fun w => z (e5.trans (k1.mpr w))), e7]
      · have z : am_i h' 68 5 = nI 42 := Classical.not_not.mp z
        rw [e5] at z
        rw [if_pos (k1.mp z), e6]
    refine am_go (fun p => p == 30 || p == 78) (fun K' cal Q' hK hC hQ => ?_)
    refine And.intro (fun z => absurd z i1_0) (fun _ => ?_)
    refine And.intro (sk_68 hs) (And.intro (fun z => hK _ _ _ _ (mid (Or.inl (k1.mp (e5.symm.trans z))))) (fun z1 => ?_))
    refine And.intro (sk_68 hs) (And.intro (fun z2 => hK _ _ _ _ (out ?_)) (fun z2 => hK _ _ _ _ (mid (Or.inr ?_))))
    · rintro (w | w)
      · exact z1 (e5.trans (k1.mpr w))
      · exact z2 (e5.trans (k2.mpr w))
    · have z2 : am_i h' 68 5 = nI 47 := Classical.not_not.mp z2
      exact k2.mp (e5.symm.trans z2)
  · rintro L h' ⟨v4, p', cs', rfl, s, X', hR'⟩
    rw [Nat.sub_self] at hR'
    have hs := X'.1.1
    have x := X'.1.2.1
    have fin : (0 = (1 : Int32) ∨ (1 : Int32) = 1) ∧ Q (.inl (some (.int 1))) h' := ⟨Or.inr rfl, HQ.2 p' cs' h' hR'.symm s X'⟩
    refine am_go (fun p => p == 30) (fun K' cal Q' hK hC hQ => ?_)
    have mid : am_W xs (am_code at_Rd_readTerm) (am_hd ah_Rd_readTerm) (am_C xs am_P0 K) Q 30 [.ref 68, .int (nI dp), .int 1, .int (nI t.1), v4] [] h' := by
      refine am_go (fun _ => false) (fun K' cal Q' hK hC hQ => ?_)
      exact And.intro (sk_68 hs) (And.intro (fun _ => And.intro (Or.inr rfl) (hQ _ _ fin.2)) (fun z => absurd (q_le x.2.1 (by omega)) z))
    refine And.intro (fun z => absurd z i1_0) (fun _ => ?_)
    refine And.intro (sk_68 hs) (And.intro (fun _ => hK _ _ _ _ mid) (fun _ => ?_))
    exact And.intro (sk_68 hs) (And.intro (fun _ => And.intro (Or.inr rfl) (hQ _ _ fin.2)) (fun _ => hK _ _ _ _ mid))
set_option maxHeartbeats 8000000 in
theorem c_readSum {dp H K : Nat} {F : Nat → List Int → pX} (hK1 : 1 ≤ K) (hG : pGood t H F) (hF : rdC xs t m_Rd_readTerm K dp F) : rdC xs t m_Rd_readSum (K + 1) dp (pItem F t 43 45 (-4) (-5)) := by
  intro d h p cs Q hd X HQ
  have e6 : (-nI 4 : Int32).toInt = -4 := by decide
  have e7 : (-nI 5 : Int32).toInt = -5 := by decide
  have t7 := X.1.2.1.1
  unfold eP at HQ
  have pe := fun e => pItem_e (F := F) (t := t) (o1 := 43) (o2 := 45) (c1 := -4) (c2 := -5) (p := p) (cs := cs) (e := e)
  have pr := fun z => pItem_r (F := F) (t := t) (o1 := 43) (o2 := 45) (c1 := -4) (c2 := -5) (p := p) (cs := cs) (z := z)
  generalize pItem F t 43 45 (-4) (-5) p cs = R at HQ pe pr
  refine am_C_le hd (am_enter (d := K) ap_Rd_readSum rfl ?_) (fun _ _ k => k)
  have bad : ∀ (h' : am_H) (e : pE) (i : Int32) (v4 : Value), R = .inl e → rF h h' → rE h' e → am_W xs (am_code at_Rd_readSum) (am_hd ah_Rd_readSum) (am_C xs am_P0 K) Q 8 [.ref 68, .int (nI dp), .int 0, .int i, v4] [] h' := by
    intro h' e i v4 hR s E
    refine am_go (fun _ => false) (fun K cal Q' hK hC hQ => ?_)
    exact And.intro (fun _ => And.intro (Or.inl rfl) (hQ _ _ (HQ.1 e h' hR s E))) (fun z => absurd rfl z)
  refine am_go (fun p => p == 8) (fun K' cal Q' hK hC hQ => ?_)
  refine And.intro (sk_68 X.1.1) (hC _ _ _ _ (hF K h p cs _ (Nat.le_refl _) X ⟨fun e h1 hR s1 E1 => hK _ _ _ _ ?_, fun p1 cs1 h1 hR s1 X1 => hK _ _ _ _ ?_⟩))
  · exact bad h1 e 0 am_J (pe e hR) s1 E1
  have hRR := pr _ hR
  dsimp only at hRR
  have hG1 := hG p cs p1 cs1 X.1.2.2.1 hR
  refine am_for t.1 (fun i L h' => ∃ v4 p' cs', L = [.ref 68, .int (nI dp), .int 1, .int (nI i), v4] ∧ rF h h' ∧ rX h' t p' cs' ∧ pLoop F t 43 45 (-4) (-5) (t.1 - i) p' cs' = R) ?_ ?_ 0 (Nat.zero_le _) _ _ ⟨am_J, p1, cs1, rfl, s1, X1, by rw [Nat.sub_zero, hRR]⟩
  · rintro i hi9 L h' ⟨v4, p', cs', rfl, s, X', hR'⟩ next
    have eI : am_inc (nI i) (Int.ofNat 1) = nI (i + 1) := nI_1 i
    rw [← eI] at next
    have hs := X'.1.1
    have x := X'.1.2.1
    have e5 : am_i h' 68 5 = kdI t (sk t p') := X'.1.2.2.2.2.1
    have k1 := kd_sym (q := sk t p') (s := 43) (X'.1.b _) (by decide) (by decide) (by decide)
    have k2 := kd_sym (q := sk t p') (s := 45) (X'.1.b _) (by decide) (by decide) (by decide)
    have g1 := sk_ge t p'
    rw [show t.1 - i = (t.1 - (i + 1)) + 1 by omega] at hR'
    rw [pLoop_s] at hR'
    have out : ¬ (isC t (sk t p') 43 = true ∨ isC t (sk t p') 45 = true) → am_W xs (am_code at_Rd_readSum) (am_hd ah_Rd_readSum) (am_C xs am_P0 K) Q 78 [.ref 68, .int (nI dp), .int 1, .int (nI i), v4] [] h' := by
      intro no
      rw [if_neg no] at hR'
      refine am_go (fun _ => false) (fun K cal Q' hK hC hQ => ?_)
      exact And.intro (Or.inr rfl) (hQ _ _ (HQ.2 p' cs' h' hR'.symm s X'))
    have body : (isC t (sk t p') 43 = true ∨ isC t (sk t p') 45 = true) → ∀ code : Int32, code.toInt = (if isC t (sk t p') 43 = true then -4 else -5) → am_W xs (am_code at_Rd_readSum) (am_hd ah_Rd_readSum) (am_C xs am_P0 K) Q 54 [.ref 68, .int (nI dp), .int 1, .int (nI i), v4] [.int code] h' := by
      intro yes code hcode
      rw [if_pos yes] at hR'
      have ql : sk t p' < t.1 := yes.elim (fun z => (isC_lt z).1) (fun z => (isC_lt z).1)
      have eT : te t (sk t p') = sk t p' + 1 := by
        unfold te
        rw [if_pos ql]
        rcases yes with z | z
        · rw [(isC_lt z).2]; rfl
        · rw [(isC_lt z).2]; rfl
      refine am_go (fun p => p == 8) (fun K' cal Q' hK hC hQ => ?_)
      refine And.intro (sk_68 hs) (hC _ _ _ _ (c_next hK1 X'.1 eT (fun h2 s2 S2 m2 c2 => ?_)))
      have X2 : rX h2 t (sk t p' + 1) cs' := ⟨S2, X'.2.1.mv m2 c2, by have := X'.2.2; omega⟩
      refine And.intro (sk_68 S2.1) (hC _ _ _ _ (hF K h2 (sk t p' + 1) cs' _ (Nat.le_refl _) X2 ⟨fun e h3 hR3 s3 E3 => ?_, fun p3 cs3 h3 hR3 s3 X3 => ?_⟩))
      · rw [hR3] at hR'
        obtain ⟨c, c1, c2⟩ := id E3.2.2
        have hs3 : sh h3 := s3.1.sh S2.1
        refine And.intro (sk_68 hs3) (hC _ _ _ _ (c_putCode hK1 hs3 c1 c2 (fun h4 s4 f4 g4 z4 y4 => hK _ _ _ _ ?_)))
        obtain ⟨E4, r4⟩ := rE_put E3 c1 s4 f4 z4 (fun w => (y4 w).1)
        exact bad h4 e _ _ hR'.symm ((s.tr (s2.tr s3)).tr r4) E4
      · rw [hR3] at hR'
        dsimp only at hR'
        obtain ⟨l1, l2, ds, l3, l4, l5⟩ := hG _ _ _ _ (by omega) hR3
        have lcs : cs3.length + 1 ≤ p3 := by
          rw [l3, List.length_append]
          have := X'.2.2
          omega
        have lp : p3 ≤ t.1 := X3.1.2.2.1
        refine And.intro (sk_68 X3.1.1) (hC _ _ _ _ (c_putCode hK1 X3.1.1 X3.c X3.2.1.1 (fun h4 s4 f4 g4 z4 y4 => hK _ _ _ _ ?_)))
        obtain ⟨S4, c4, r4⟩ := rX_put X3 hcode (by omega) s4 f4 g4 y4
        exact next _ _ ⟨_, p3, _, rfl, (s.tr (s2.tr s3)).tr r4, ⟨S4, c4, by rw [List.length_append]; exact lcs⟩, hR'⟩
    have mid : (isC t (sk t p') 43 = true ∨ isC t (sk t p') 45 = true) → am_W xs (am_code at_Rd_readSum) (am_hd ah_Rd_readSum) (am_C xs am_P0 K) Q 30 [.ref 68, .int (nI dp), .int 1, .int (nI i), v4] [] h' := by
      intro yes
      refine am_go (fun p => p == 54) (fun K' cal Q' hK hC hQ => ?_)
      refine And.intro (sk_68 hs) (And.intro (fun z => absurd z (q_ge x.2.1 hi9 (by omega))) (fun _ => ?_))
      refine And.intro (sk_68 hs) (And.intro (fun z => hK _ _ _ _ (body yes _ ?_)) (fun z => hK _ _ _ _ (body yes _ ?_)))
      · rw [if_neg (fun w => z (e5.trans (k1.mpr w))), e7]
      · have z : am_i h' 68 5 = nI 43 := Classical.not_not.mp z
        rw [e5] at z
        rw [if_pos (k1.mp z), e6]
    refine am_go (fun p => p == 30 || p == 78) (fun K' cal Q' hK hC hQ => ?_)
    refine And.intro (fun z => absurd z i1_0) (fun _ => ?_)
    refine And.intro (sk_68 hs) (And.intro (fun z => hK _ _ _ _ (mid (Or.inl (k1.mp (e5.symm.trans z))))) (fun z1 => ?_))
    refine And.intro (sk_68 hs) (And.intro (fun z2 => hK _ _ _ _ (out ?_)) (fun z2 => hK _ _ _ _ (mid (Or.inr ?_))))
    · rintro (w | w)
      · exact z1 (e5.trans (k1.mpr w))
      · exact z2 (e5.trans (k2.mpr w))
    · have z2 : am_i h' 68 5 = nI 45 := Classical.not_not.mp z2
      exact k2.mp (e5.symm.trans z2)
  · rintro L h' ⟨v4, p', cs', rfl, s, X', hR'⟩
    rw [Nat.sub_self] at hR'
    have hs := X'.1.1
    have x := X'.1.2.1
    have fin : (0 = (1 : Int32) ∨ (1 : Int32) = 1) ∧ Q (.inl (some (.int 1))) h' := ⟨Or.inr rfl, HQ.2 p' cs' h' hR'.symm s X'⟩
    refine am_go (fun p => p == 30) (fun K' cal Q' hK hC hQ => ?_)
    have mid : am_W xs (am_code at_Rd_readSum) (am_hd ah_Rd_readSum) (am_C xs am_P0 K) Q 30 [.ref 68, .int (nI dp), .int 1, .int (nI t.1), v4] [] h' := by
      refine am_go (fun _ => false) (fun K' cal Q' hK hC hQ => ?_)
      exact And.intro (sk_68 hs) (And.intro (fun _ => And.intro (Or.inr rfl) (hQ _ _ fin.2)) (fun z => absurd (q_le x.2.1 (by omega)) z))
    refine And.intro (fun z => absurd z i1_0) (fun _ => ?_)
    refine And.intro (sk_68 hs) (And.intro (fun _ => hK _ _ _ _ mid) (fun _ => ?_))
    exact And.intro (sk_68 hs) (And.intro (fun _ => And.intro (Or.inr rfl) (hQ _ _ fin.2)) (fun _ => hK _ _ _ _ mid))
set_option maxHeartbeats 8000000 in
theorem c_readFactor {k dp K : Nat} (hdp : dp + k = 4) (hK2 : 2 ≤ K) (hS : ∀ f, pSub t k = some f → rdC xs t m_Rd_readSum K (dp + 1) f) : rdC xs t m_Rd_readFactor (K + 1) dp (pFac (pSub t k) t) := by
  intro d h p cs Q hd X HQ
  have t7 := X.1.2.1.1
  have hs := X.1.1
  have hp := X.1.2.2.1
  have g1 := sk_ge t p
  have g2 := sk_len hp
  have lc := X.2.2
  have e5 : am_i h 68 5 = kdI t (sk t p) := X.1.2.2.2.2.1
  have k1 := kd_sym (q := sk t p) (s := 40) (X.1.b _) (by decide) (by decide) (by decide)
  have k2 := kd_num (q := sk t p) (X.1.b _)
  unfold eP pFac pFacQ at HQ
  refine am_C_le hd (am_enter (d := K) ap_Rd_readFactor rfl ?_) (fun _ _ k => k)
  -- the end behind a code
  have fin : ∀ (v : Int32) (c : Int) (l2 : Value) (h4 : am_H), v.toInt = c → sk t p < te t (sk t p) → rF h h4 → rSt h4 t p → rCd h4 (cs ++ [c]) → (∀ h', rF h h' → rX h' t (te t (sk t p)) (cs ++ [c]) → Q (.inl (some (.int 1))) h') → am_W xs (am_code at_Rd_readFactor) (am_hd ah_Rd_readFactor) (am_C xs am_P0 K) Q 143 [.ref 68, .int (nI dp), l2] [] h4 := by
    intro v c l2 h4 hv hlt r4 S4 C4 hq
    refine am_go (fun _ => false) (fun K' cal Q' hK hC hQ => ?_)
    refine And.intro (sk_68 S4.1) (hC _ _ _ _ (c_next (by omega) S4 rfl (fun h5 s5 S5 m5 c5 => And.intro (Or.inr rfl) (hQ _ _ (hq h5 (r4.tr s5) ⟨S5, C4.mv m5 c5, ?_⟩)))))
    rw [List.length_append, List.length_singleton]
    omega
  have put : ∀ (v : Int32) (c : Int) (l2 : Value) {d' : Nat}, 1 ≤ d' → v.toInt = c → sk t p < te t (sk t p) → (∀ h', rF h h' → rX h' t (te t (sk t p)) (cs ++ [c]) → Q (.inl (some (.int 1))) h') → am_C xs am_P0 d' m_Rd_putCode [.ref 68, .int v] h (fun r h' => match r with
    | .inl none => am_W xs (am_code at_Rd_readFactor) (am_hd ah_Rd_readFactor) (am_C xs am_P0 K) Q 143 [.ref 68, .int (nI dp), l2] [] h'
    | _ => False) := by
    intro v c l2 d' hd' hv hlt hq
    have hb : te t (sk t p) ≤ t.1 := te_len g2
    refine c_putCode hd' hs X.c X.2.1.1 (fun h4 s4 f4 g4 z4 y4 => ?_)
    obtain ⟨S4, c4, r4⟩ := rX_put X hv (by omega) s4 f4 g4 y4
    exact fin v c l2 h4 hv hlt r4 S4 c4 hq
  refine am_go (fun p => p == 50 || p == 143) (fun K' cal Q' hK hC hQ => ?_)
  refine And.intro (sk_68 hs) (And.intro (fun z => hK _ _ _ _ ?_) (fun z => ?_))
  rotate_left
  · -- a bracket
    have z : am_i h 68 5 = nI 40 := Classical.not_not.mp z
    rw [e5] at z
    have z := k1.mp z
    rw [if_pos z] at HQ
    cases k with
    | zero =>
      have hdp : dp = 4 := hdp
      subst hdp
      refine And.intro (fun w => absurd w (show ¬ nI 4 < nI 4 by decide)) (fun _ => And.intro (sk_68 hs) (hC _ _ _ _ (c_fail (by omega) X.1 X.c X.2.1.1 6 (fun h' s' E' => And.intro (Or.inl rfl) (hQ _ _ (HQ.1 _ h' rfl s' E'))))))
    | succ k =>
      have ql := isC_lt z
      have eT : te t (sk t p) = sk t p + 1 := by
        unfold te
        rw [if_pos ql.1, ql.2]
        rfl
      refine And.intro (fun _ => ?_) (fun w => absurd (nI_lt (show dp < 4 by omega) (by decide)) w)
      refine And.intro (sk_68 hs) (hC _ _ _ _ (c_next (by omega) X.1 eT (fun h2 s2 S2 m2 c2 => ?_)))
      have X2 : rX h2 t (sk t p + 1) cs := ⟨S2, X.2.1.mv m2 c2, by omega⟩
      refine And.intro (sk_68 S2.1) ?_
      show cal m_Rd_readSum [.ref 68, .int (nI dp + nI 1)] h2 _
      rw [nI_add]
      unfold pSub at HQ hS
      dsimp only at HQ
      refine hC _ _ _ _ (hS _ rfl K h2 (sk t p + 1) cs _ (Nat.le_refl _) X2 ⟨fun e h3 hR3 s3 E3 => ?_, fun p3 cs3 h3 hR3 s3 X3 => ?_⟩)
      · rw [hR3] at HQ
        exact And.intro (fun _ => And.intro (Or.inl rfl) (hQ _ _ (HQ.1 e h3 rfl (s2.tr s3) E3))) (fun w => absurd rfl w)
      · rw [hR3] at HQ
        dsimp only at HQ
        refine And.intro (fun w => absurd w i1_0) (fun _ => ?_)
        refine And.intro (sk_68 X3.1.1) (hC _ _ _ _ (c_readSymbol (s := 41) hK2 X3.1 X3.c X3.2.1.1 (by decide) (by decide) (by decide) (fun e h4 hR4 s4 E4 => ?_) (fun q h4 hR4 s4 S4 m4 c4 => ?_)))
        · rw [hR4] at HQ
          exact And.intro (fun _ => And.intro (Or.inl rfl) (hQ _ _ (HQ.1 e h4 rfl ((s2.tr s3).tr s4) E4))) (fun w => absurd rfl w)
        · rw [hR4] at HQ
          refine And.intro (fun w => absurd w i1_0) (fun _ => And.intro (Or.inr rfl) (hQ _ _ (HQ.2 q cs3 h4 rfl ((s2.tr s3).tr s4) ⟨S4, X3.2.1.mv m4 c4, ?_⟩)))
          have := X3.2.2
          unfold pSym at hR4
          have g3 := sk_ge t p3
          split at hR4
          · cases hR4; omega
          · cases hR4
  -- no bracket
  have z : ¬ isC t (sk t p) 40 = true := fun w => z (e5.trans (k1.mpr w))
  rw [if_neg z] at HQ
  refine am_go (fun p => p == 83 || p == 143) (fun K' cal Q' hK hC hQ => ?_)
  refine And.intro (sk_68 hs) (And.intro (fun z2 => hK _ _ _ _ ?_) (fun z2 => ?_))
  rotate_left
  · -- a number
    have z2 : am_i h 68 5 = nI 1001 := Classical.not_not.mp z2
    rw [e5] at z2
    have z2 := k2.mp z2
    rw [if_pos z2] at HQ
    have hlt := te_dg_gt z2
    refine And.intro (sk_68 hs) (hC _ _ _ _ (c_numberHere (lo := 0) (hi := 9999) hK2 X.1 X.c X.2.1.1 (by decide) (by decide) (fun e h4 hR4 s4 E4 => ?_) (fun hR4 w1 w2 w3 => ?_)))
    · unfold pNum at hR4
      rw [if_pos z2] at hR4
      split at hR4
      · cases hR4
      · rename_i w
        cases hR4
        rw [if_neg (by omega)] at HQ
        refine And.intro (fun y => absurd y (show ¬ (0 : Int32) ≤ -nI 1 by decide)) (fun _ => And.intro (Or.inl rfl) (hQ _ _ (HQ.1 _ h4 rfl s4 E4)))
    · rw [if_pos w3] at HQ
      refine And.intro (fun _ => ?_) (fun y => absurd (show (0 : Int32) ≤ nI (num t (sk t p)) from nI_pos' (by omega)) y)
      refine And.intro (sk_68 hs) (hC _ _ _ _ (am_C_mono _ _ _ _ _ _ (fun r h' q => ?_) (put (nI (num t (sk t p))) (num t (sk t p) : Int) (.int (nI (num t (sk t p)))) (by omega : 1 ≤ K) (nI_toInt (by omega)) hlt (fun h' s' X' => HQ.2 _ _ h' rfl s' X'))))
      match r, q with
      | .inl none, q => exact hK _ _ _ _ q
  -- no number
  have z2 : ¬ dgAt t (sk t p) = true := fun w => z2 (e5.trans (k2.mpr w))
  rw [if_neg z2] at HQ
  refine am_go (fun p => p == 100 || p == 143) (fun K' cal Q' hK hC hQ => ?_)
  refine And.intro (sk_68 hs) (hC _ _ _ _ (c_isWord (s := 5) (by omega) X.1 (by decide) ?_))
  refine And.intro (fun z3 => hK _ _ _ _ ?_) (fun z3 => ?_)
  rotate_left
  · have z3 : wIs t (sk t p) 5 = true := by
      cases e : wIs t (sk t p) 5 with
      | true => rfl
      | false => rw [e] at z3; exact absurd rfl z3
    rw [if_pos z3] at HQ
    have hlt : sk t p < te t (sk t p) := by rw [wIs_te (by decide) z3]; exact Nat.lt_add_of_pos_right (by decide)
    refine And.intro (sk_68 hs) (hC _ _ _ _ (am_C_mono _ _ _ _ _ _ (fun r h' q => ?_) (put (-nI 1) (-1) am_J (by omega : 1 ≤ K) (by decide) hlt (fun h' s' X' => HQ.2 _ _ h' rfl s' X'))))
    match r, q with
    | .inl none, q => exact hK _ _ _ _ q
  have z3 := (bI_0 _).mp z3
  rw [if_neg (by rw [z3]; decide)] at HQ
  refine am_go (fun p => p == 118 || p == 143) (fun K' cal Q' hK hC hQ => ?_)
  refine And.intro (sk_68 hs) (hC _ _ _ _ (c_isWord (s := 6) (by omega) X.1 (by decide) ?_))
  refine And.intro (fun z4 => hK _ _ _ _ ?_) (fun z4 => ?_)
  rotate_left
  · have z4 : wIs t (sk t p) 6 = true := by
      cases e : wIs t (sk t p) 6 with
      | true => rfl
      | false => rw [e] at z4; exact absurd rfl z4
    rw [if_pos z4] at HQ
    have hlt : sk t p < te t (sk t p) := by rw [wIs_te (by decide) z4]; exact Nat.lt_add_of_pos_right (by decide)
    refine And.intro (sk_68 hs) (hC _ _ _ _ (am_C_mono _ _ _ _ _ _ (fun r h' q => ?_) (put (-nI 2) (-2) am_J (by omega : 1 ≤ K) (by decide) hlt (fun h' s' X' => HQ.2 _ _ h' rfl s' X'))))
    match r, q with
    | .inl none, q => exact hK _ _ _ _ q
  have z4 := (bI_0 _).mp z4
  rw [if_neg (by rw [z4]; decide)] at HQ
  refine am_go (fun p => p == 143) (fun K' cal Q' hK hC hQ => ?_)
  refine And.intro (sk_68 hs) (hC _ _ _ _ (c_isWord (s := 7) (by omega) X.1 (by decide) ?_))
  refine And.intro (fun z5 => ?_) (fun z5 => ?_)
  · have z5 := (bI_0 _).mp z5
    rw [if_neg (by rw [z5]; decide)] at HQ
    exact And.intro (sk_68 hs) (hC _ _ _ _ (c_fail (by omega) X.1 X.c X.2.1.1 2 (fun h' s' E' => And.intro (Or.inl rfl) (hQ _ _ (HQ.1 _ h' rfl s' E')))))
  · have z5 : wIs t (sk t p) 7 = true := by
      cases e : wIs t (sk t p) 7 with
      | true => rfl
      | false => rw [e] at z5; exact absurd rfl z5
    rw [if_pos z5] at HQ
    have hlt : sk t p < te t (sk t p) := by rw [wIs_te (by decide) z5]; exact Nat.lt_add_of_pos_right (by decide)
    refine And.intro (sk_68 hs) (hC _ _ _ _ (am_C_mono _ _ _ _ _ _ (fun r h' q => ?_) (put (-nI 3) (-3) am_J (by omega : 1 ≤ K) (by decide) hlt (fun h' s' X' => HQ.2 _ _ h' rfl s' X'))))
    match r, q with
    | .inl none, q => exact hK _ _ _ _ q
/-- a sum within which k brackets may be opened -/
theorem c_readSum_k : ∀ k dp, dp + k = 4 → rdC xs t m_Rd_readSum (5 + 3 * k) dp (pSum t k)
  | 0, dp, hdp => by
    have hf := c_readFactor (xs := xs) (t := t) (k := 0) (K := 2) hdp (Nat.le_refl _) (fun f z => by cases z)
    have gf : pGood t 10 (pFac (pSub t 0) t) := pGood_fac (fun f z => by cases z) (by decide)
    have ht := c_readTerm (by decide) gf hf
    have gt : pGood t 9 (pTerm (pSub t 0) t) := pGood_item gf (by decide) (by decide)
    exact c_readSum (by decide) gt ht
  | k + 1, dp, hdp => by
    have ih := c_readSum_k k (dp + 1) (by omega)
    have gs := pGood_sum t k (by omega)
    have hf := c_readFactor (xs := xs) (t := t) (k := k + 1) (K := 5 + 3 * k) hdp (by omega) (fun f z => by cases z; exact ih)
    have gf : pGood t (8 - 2 * k) (pFac (pSub t (k + 1)) t) := pGood_fac (fun f z => by cases z; exact gs) (by omega)
    have ht := c_readTerm (by omega) gf hf
    have gt : pGood t (8 - 2 * k - 1) (pTerm (pSub t (k + 1)) t) := by
      have : pGood t (8 - 2 * k - 1 + 1) (pFac (pSub t (k + 1)) t) := by rw [show 8 - 2 * k - 1 + 1 = 8 - 2 * k by omega]; exact gf
      exact pGood_item this (by decide) (by decide)
    exact c_readSum (K := 5 + 3 * k + 2) (by omega) gt ht
end

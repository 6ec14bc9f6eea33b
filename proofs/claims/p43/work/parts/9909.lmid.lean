/-! THE LAW, 6: read, isolating cuts, distances, the exact assignment -/
/-- what the checks need of the graph -/
def gok (g : gD) (n T : Nat) (C : Nat → Nat → Nat) : Prop := gN g = n ∧ gT g = T ∧ mrl n (gM g) (gLo g) (gHi g) (gCo g) C ∧ ∀ e, e < gM g → 1 ≤ gCo g e ∧ gCo g e ≤ 9999
theorem gok_fin {g : gD} {n m T : Nat} {ld : Nat → Nat} {C : Nat → Nat → Nat} (E : eI g n m T ld C) (h8 : ∀ v, ld v < 8) : gok (gFin (gCsS g lCs)) n T C := by
  obtain ⟨⟨g1, g2, g3, g4, g5⟩, R, hW⟩ := E
  have e : ∀ e, e < m → gCo (gFin (gCsS g lCs)) e = cwt g ld e := fun e he => by
    show coF (some lCs) (gWt g e) (gLd g (gLo g e)) (gLd g (gHi g e)) = _
    have h1 := h8 (gLo g e)
    have h2 := h8 (gHi g e)
    rw [g4, coF_cst (by have := (hW e he).2; omega) (by omega) (by omega)]
    rfl
  have em : gM (gFin (gCsS g lCs)) = m := g2
  refine ⟨g1, g3, ?_, fun e' he => ?_⟩
  · rw [em]
    exact mrl_co R e
  · rw [em] at he
    rw [e e' he]
    have a := cst_1 (gWt g e') (ld (gLo g e')) (ld (gHi g e'))
    have b := cst_le (g := ld (gHi g e')) (hW e' he).2 (h8 (gLo g e'))
    show 1 ≤ cst _ _ _ ∧ cst _ _ _ ≤ 9999
    omega
theorem ex_eq {g : gD} {n T : Nat} {C : Nat → Nat → Nat} (G : gok g n T C) {TS : Nat} (h0 : TS ≠ 0) (hT : TS < 2 ^ n) (hn : n ≤ 6) {A : Nat → Nat} (Y : isy n TS (cfo n C) A) : eC g TS = cfo n C A ∧ ∀ v, v < n → eL g TS v = nI (A v) := by
  obtain ⟨g1, g2, R, hc⟩ := G
  have bd1 : ∀ B, avalid n TS B → ∀ v, v < n → B v < 1000 := fun B hB v hv => by
    have := q_T_lt hT (hB v hv).1
    omega
  have ac : ∀ B, avalid n TS B → acost (gM g) (gLo g) (gHi g) (gCo g) B n = cfo n C B := fun B hB => mrl_acost R (bd1 B hB)
  obtain ⟨y1, y2, y3⟩ := Y
  have X : isx (gN g) (gM g) TS (gLo g) (gHi g) (gCo g) A := by
    rw [g1]
    refine ⟨y1, fun B hB => ?_, fun B hB hl => ?_⟩
    · rw [ac A y1, ac B hB]; exact y2 B hB
    · rw [ac A y1, ac B hB]; exact y3 B hB hl
  have e := exA_eq X
  rw [g1] at e
  refine ⟨?_, fun v hv => ?_⟩
  · unfold eC
    rw [if_neg h0, g1, ← acost_ag (co := gCo g) R.2.2.1 e]
    exact ac A y1
  · unfold eL
    rw [if_neg h0, ← e v hv]
def lwM (h : am_H) (b1 b2 : Nat) (st : stD) (n T : Nat) (C : Nat → Nat → Nat) (F : Nat) (A : Nat → Nat) : Prop := CI h st ∧ TN h ∧ mlO h n T C ∧ (am_n h ≤ b1 ∧ am_cs h ≤ b2) ∧ (95 ≤ F ∧ F < am_n h) ∧ am_k h F = (2, n) ∧ ∀ v, v < n → am_i h F v = nI (A v)
section
variable {xs : am_X} {d : Nat} {h h' : am_H} {Q : am_Q} {c n T a b cap f F b1 b2 : Nat} {C : Nat → Nat → Nat} {tx : List Nat} {ld : Nat → Nat} {g : gD} {L : Nat} {A : Nat → Nat} {st st' : stD}
theorem lwM.cff {k w : Nat} (M : lwM h b1 b2 st n T C F A) (s : cff k w h h') (I : CI h' st') : lwM h' (b1 + k) (b2 + w) st' n T C F A := by
  obtain ⟨m1, m2, m3, ⟨m4, m5⟩, ⟨m6, m7⟩, m8, m9⟩ := M
  have e1 := s.2.2
  exact ⟨I, cff_TN s m2, cff_ml s m1.1 m3, ⟨by omega, by omega⟩, ⟨m6, by omega⟩, (s.1 F (Or.inl m7)).trans m8, fun v hv => by rw [(s.2.1 F (by omega) m7).1]; exact m9 v hv⟩
theorem slf_ml87 {k w : Nat} (s : slf 87 k w h h') (hs : sh h) (m : mlO h n T C) : mlO h' n T C := by
  have n5 := hs.2.2
  exact ⟨⟨(s.2.2.2.1 0 (by decide)).trans m.1.1, (s.2.2.2.1 1 (by decide)).trans m.1.2⟩, m.2.1, fun a ha b hb => by rw [(s.2.2.1 (89 + a) (by omega) (by omega) (by omega)).1]; exact m.2.2 a ha b hb⟩
theorem lwM.slf {k w : Nat} (M : lwM h b1 b2 st n T C F A) (s : slf 87 k w h h') : lwM h' (b1 + k) (b2 + w) st n T C F A := by
  obtain ⟨m1, m2, m3, ⟨m4, m5⟩, ⟨m6, m7⟩, m8, m9⟩ := M
  have e1 := s.1
  exact ⟨slf_CI s m1 m2 (Or.inl rfl), slf_TN s m2, slf_ml87 s m1.1 m3, ⟨by omega, by omega⟩, ⟨m6, by omega⟩, (s.2.1 F (Or.inl m7)).trans m8, fun v hv => by rw [(s.2.2.1 F m7 (by omega) (by omega)).1]; exact m9 v hv⟩
theorem lwM.mo {c1 c2 : Nat} (M : lwM h b1 b2 st n T C F A) (h1 : b1 ≤ c1) (h2 : b2 ≤ c2) : lwM h c1 c2 st n T C F A := ⟨M.1, M.2.1, M.2.2.1, ⟨Nat.le_trans M.2.2.2.1.1 h1, Nat.le_trans M.2.2.2.1.2 h2⟩, M.2.2.2.2⟩
theorem rdOK_co (R : rdOK n tx g L) (hg : gCs g = none) : rdOK n (tx ++ am_strs.getD 14 []) (gCsS g lCs) L := R.step (c := 99) (w := (am_strs.getD 14 []).tail) (by decide) fun t h => pStS_co h hg
def fo7 (st : stD) : Prop := (gCs st.1 = none ∨ gCs st.1 = some lCs) ∧ ∀ g, g ∈ st.2.1 → gCs g = none ∨ gCs g = some lCs
set_option maxHeartbeats 8000000 in
theorem l_mid (hd : 22 ≤ d) (hn : 3 ≤ n ∧ n ≤ 6) (h8 : ∀ v, ld v < 8) {m : Nat} (hm : m ≤ 15) (hT0 : T ≠ 0) (E : eS h n T a f ld L n n m C b cap tx g) {v6 : Int32} {v8 v9 v10 v11 : Value}
    (K0 : ∀ h' st F A, lwM h' 48000 1400000 st n T C F A → gok st.1 n T C → fo7 st → (∀ v, v < n → gLab st.1 v = if T.testBit v then nI v else -nI 1) → cfo n C A < 100000 → eC st.1 T = cfo n C A → (∀ v, v < n → eL st.1 T v = nI (A v)) → LW xs d Q 570 (lL n a f (.int v6) (.int (nI m)) (.int (nI (cfo n C A))) (.ref F) v10 v11 am_J am_J) [] h') :
    LW xs d Q 493 (lL n a f (.int v6) (.int (nI m)) v8 v9 v10 v11 am_J am_J) [] h := by
  obtain ⟨W, R, I, hl, _⟩ := E
  have G := gok_fin I h8
  have R2 := rdOK_co R I.1.2.2.2.2
  have hT := W.2.2.1.2.1.2
  have hN := W.1.1
  have ltx : (tx ++ am_strs.getD 14 []).length ≤ 305 := by
    rw [List.length_append, show (am_strs.getD 14 []).length = 29 from rfl]
    omega
  refine am_go (fun p => p == 559) (fun K cal Q' hK hC hQ => ?_)
  refine And.intro W.ka (hC _ _ _ _ (l_appK (by omega) W (by omega) (j := 14) (by decide) (by omega) (fun h1 b1 cap1 W1 => ?_)))
  have hN1 := W1.1
  have w95 := W1.2.2.2.1.1
  have n95 := W1.2.1.1.2.2
  refine And.intro W1.ka (hC _ _ _ _ (c_Sb_toString (by omega) W1.2.2.2.2.1 (by omega) (by omega) (by omega) (by omega) (fun h2 S2 n2 k2 z2 => ?_)))
  have n2' := S2.1
  have E2 : ext 2 h1 h2 := ⟨⟨by omega, n2.1, by omega⟩, fun x hx => by
    rcases hx with hx | hx
    · exact (k2 x hx).1
    · exact z2 x hx, fun x hx => (k2 x hx).2⟩
  have W2 := W1.ext E2
  have hN2 := W2.1
  refine And.intro trivial (hC _ _ _ _ (c_La_read hd S2 ⟨by omega, by omega⟩ (CI_lS W2.2.1) W2.2.1.2.1 (by omega) rfl (by omega) R2 (fun h3 st I3 e1 e2 F3 => ?_)))
  have em : gM (gCsS g lCs) = m := I.1.2.1
  rw [em]
  refine And.intro (fun c => absurd rfl c) (fun _ => ?_)
  have m3 := cff_ml F3 W2.2.1.1 W2.2.2.1
  have T3 := cff_TN F3 W2.2.1.2.1
  have G3 : gok st.1 n T C := by rw [e1]; exact G
  have hs3 := I3.1
  have q3 := F3.2.2
  refine And.intro (sk_1 hs3) (hC _ _ _ _ (k_terminals (by omega) I3 (fun h4 I4 F4 => ?_)))
  have F4 := cff_of F4
  have m4 := cff_ml F4 hs3 m3
  have T4 := cff_TN F4 T3
  have q4 := F4.2.2
  refine And.intro (sk_87 I4.1) (And.intro (fun _ => ?_) (fun c => absurd (show nI (gT st.1) = am_i h4 87 1 by rw [G3.2.1]; exact m4.1.2.symm) c))
  refine And.intro (sk_87 I4.1) (hC _ _ _ _ (c_La_areIsolating (by omega) I4 T4 (by omega) m4 G3.1 G3.2.1 hT0 G3.2.2.1 (fun h5 I5 F5 => ?_)))
  refine And.intro (fun c => absurd c (show ¬ nI 1 = 0 by decide)) (fun _ => ?_)
  have m5 := cff_ml F5 I4.1 m4
  have T5 := cff_TN F5 T4
  have q5 := F5.2.2
  refine And.intro (sk_87 I5.1) (hC _ _ _ _ (c_La_areDistances (by omega) I5 T5 (by omega) m5 G3.1 G3.2.1 G3.2.2.1 G3.2.2.2 (fun h6 I6 F6 => ?_)))
  refine And.intro (fun _ => ?_) (fun c => absurd (show ¬ nI 1 = 0 by decide) c)
  have m6 := cff_ml F6 I5.1 m5
  have T6 := cff_TN F6 T5
  have q6 := F6.2.2
  refine And.intro (sk_87 I6.1) (And.intro (sk_87 I6.1) ?_)
  show cal m_La_exact [.ref 87, .int (am_i h6 87 1)] h6 _
  rw [m6.1.2]
  refine hC _ _ _ _ (c_La_exact (by omega) I6.1 m6 (by omega) hT (by omega) (fun z => absurd z hT0) (fun _ h7 A s7 Y7 Y => ?_))
  obtain ⟨x1, x2, F, x3, ⟨x4, x5, x6⟩, x7, x8⟩ := Y7
  have I7 := slf_CI s7 I6 T6 (Or.inl rfl)
  have q7 := s7.1
  have n6 := I6.1.2.2
  obtain ⟨ee1, ee2⟩ := ex_eq G3 hT0 hT hn.2 Y
  have M7 : lwM h7 47900 1390000 st n T C F A := ⟨I7, slf_TN s7 T6, slf_ml87 s7 I6.1 m6, ⟨by omega, by omega⟩, ⟨by omega, x5⟩, x7, x8⟩
  refine And.intro (sk_87 I7.1) (hK _ _ _ _ ?_)
  show LW xs d Q 559 (lL n a f (.int v6) (.int (nI m)) (.int (nI (cfo n C A))) (.ref (am_r h7 87 3)) v10 v11 am_J am_J) [] h7
  rw [x3]
  refine am_go (fun p => p == 570) (fun K cal Q' hK hC hQ => ?_)
  refine And.intro (sk_1 I7.1) (hC _ _ _ _ (k_exactCost (by omega) I7 (fun h8 I8 F8 => ?_)))
  rw [G3.2.1, ee1]
  refine And.intro (fun _ => hK _ _ _ _ ?_) (fun c => absurd rfl c)
  have M8 := (M7.cff (cff_of F8) I8).mo (show _ ≤ 48000 by omega) (show _ ≤ 1400000 by omega)
  refine K0 h8 st F A M8 G3 ⟨?_, fun g' hg => ?_⟩ (fun v hv => ?_) x2 ee1 ee2
  · rw [e1]; exact Or.inr rfl
  · rw [e2] at hg
    have : g' = st0.1 := List.mem_singleton.mp hg
    rw [this]; exact Or.inl rfl
  · rw [e1]
    show (if (gT (gFin (gCsS g lCs))).testBit v = true then nI v else -nI 1) = _
    rw [G.2.1]
end

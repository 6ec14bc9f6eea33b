/-! THE CLASS'S READER: statements -/
def rGr (h : am_H) (g : gD) : Prop := (am_i h 69 0 = nI (gN g) ∧ am_i h 69 1 = nI (gM g) ∧ am_i h 69 2 = nI (gT g)) ∧ (∀ e, e < gM g → am_i h 72 e = nI (gLo g e) ∧ am_i h 73 e = nI (gHi g e) ∧ am_i h 74 e = nI (gWt g e)) ∧ ∀ v, v < 9 → am_i h 70 v = nI (gLd g v)
def rZ0 (h : am_H) (g : gD) (L : Nat) : Prop := rGr h g ∧ am_i h 68 9 = nI L ∧ am_i h 68 10 = bI (gCs g).isSome
def rZ (h : am_H) (t : tX) (p : Nat) (g : gD) (L : Nat) : Prop := rSt h t p ∧ rZ0 h g L ∧ rCd h ((gCs g).getD []) ∧ ((gCs g).getD []).length ≤ 700
/-- what the reading of statements may change -/
abbrev rWX : List Nat := [68, 69, 70, 72, 73, 74, 77]
def rW (h h' : am_H) : Prop := sm rWX h h' ∧ am_i h' 68 4 = am_i h 68 4
theorem rW.rf {h : am_H} : rW h h := ⟨sm.rf, rfl⟩
theorem rW.tr {h h1 h2 : am_H} (s : rW h h1) (t : rW h1 h2) : rW h h2 := ⟨s.1.tr t.1, t.2.trans s.2⟩
theorem rF.w {h h' : am_H} (s : rF h h') : rW h h' := ⟨s.1.mo (fun x hx => by simp [rWX] at hx ⊢; omega), s.2 4 (Or.inl rfl)⟩
theorem rGr.mv {h h' : am_H} {g : gD} (r : rGr h g) (s : rF h h') : rGr h' g := by
  have I : ∀ a, 69 ≤ a → a ≤ 74 → ∀ k, am_i h' a k = am_i h a k := fun a h1 h2 k => s.1.i (fun z => by simp at z; omega) k
  exact ⟨⟨(I 69 (by decide) (by decide) _).trans r.1.1, (I 69 (by decide) (by decide) _).trans r.1.2.1, (I 69 (by decide) (by decide) _).trans r.1.2.2⟩, fun e he => ⟨(I 72 (by decide) (by decide) _).trans (r.2.1 e he).1, (I 73 (by decide) (by decide) _).trans (r.2.1 e he).2.1, (I 74 (by decide) (by decide) _).trans (r.2.1 e he).2.2⟩, fun v hv => (I 70 (by decide) (by decide) _).trans (r.2.2 v hv)⟩
theorem rZ0.mv {h h' : am_H} {g : gD} {L : Nat} (r : rZ0 h g L) (s : rF h h') : rZ0 h' g L := ⟨r.1.mv s, (s.2 9 (by decide)).trans r.2.1, (s.2 10 (by decide)).trans r.2.2⟩
theorem rGr.cg {h : am_H} {g : gD} (r : rGr h g) (hs : sh h) (w : gwf g) : cg h 69 (gN g) (gM g) (gT g) (gLo g) (gHi g) := ⟨gs_69 hs, r.1, fun e he => ⟨(r.2.1 e he).1, (r.2.1 e he).2.1⟩, w.1, w.2.1⟩
/-- a write to the graph read so far, the tokens being left alone -/
theorem rSt.mg {h h' : am_H} {t : tX} {p : Nat} {X : List Nat} (S : rSt h t p) (s : sm X h h') (h2 : 2 ∉ X) (f : ∀ j, 4 ≤ j → j ≤ 8 → am_i h' 68 j = am_i h 68 j) : rSt h' t p := ⟨s.sh S.1, S.2.1.mv s (f 4 (by decide) (by decide)) h2, S.2.2.1, S.2.2.2.mv fun j a b => f j (by omega) b⟩
theorem k69 {h : am_H} (hs : sh h) : am_k h (am_r h 68 0) = (1, 2) := by rw [sr_68_0 hs]; exact sk_69 hs
/-- an answer of a statement's reading -/
abbrev eY (h : am_H) (t : tX) (r : pY) (Q : am_Q) : Prop := (∀ e h', r = .inl e → rW h h' → rE h' e → Q (.inl (some (.int 0))) h') ∧ (∀ s h', r = .inr s → rW h h' → rZ h' t s.1 s.2.1 s.2.2 → Q (.inl (some (.int 1))) h')
section
variable {xs : am_X} {d : Nat} {h : am_H} {t : tX} {p : Nat} {g : gD} {L : Nat} {Q : am_Q}
theorem z_next (hd : 1 ≤ d) (Z : rZ h t p g L) {q : Nat} (hq : te t (sk t p) = q) (HQ : ∀ h', rW h h' → rZ h' t q g L → Q (.inl none) h') : am_C xs am_P0 d m_Rd_advance [.ref 68] h Q :=
  c_next hd Z.1 hq (fun h' a b m c => HQ h' a.w ⟨b, Z.2.1.mv a, Z.2.2.1.mv m c, Z.2.2.2⟩)
theorem z_fail (hd : 1 ≤ d) (Z : rZ h t p g L) (k : Nat) (HQ : ∀ h', rW h h' → rE h' (k, sk t p) → Q (.inl (some (.int 0))) h') : am_C xs am_P0 d m_Rd_fail [.ref 68, .int (-nI k)] h Q :=
  c_fail hd Z.1 Z.2.2.2 Z.2.2.1.1 k (fun h' a b => HQ h' a.w b)
theorem z_number (hd : 2 ≤ d) (Z : rZ h t p g L) {lo hi : Nat} (h9 : hi ≤ 9999) (hlo : lo ≤ 9999)
    (H0 : ∀ e h', pNum t p lo hi = .inl e → rW h h' → rE h' e → Q (.inl (some (.int (-nI 1)))) h') (H1 : ∀ a, pNum t p lo hi = .inr a → a.2 = sk t p → Q (.inl (some (.int (nI a.1)))) h) : am_C xs am_P0 d m_Rd_numberHere [.ref 68, .int (nI lo), .int (nI hi)] h Q :=
  c_numberHere hd Z.1 Z.2.2.2 Z.2.2.1.1 h9 hlo (fun e h' r a b => H0 e h' r a.w b) (fun r _ _ _ => H1 _ r rfl)
set_option maxHeartbeats 4000000 in
theorem z_vertex (hd : 3 ≤ d) (Z : rZ h t p g L) (w1 : 1 ≤ gN g) (w9 : gN g ≤ 9)
    (H0 : ∀ e h', pNum t p 0 (gN g - 1) = .inl e → rW h h' → rE h' e → Q (.inl (some (.int (-nI 1)))) h') (H1 : ∀ a, pNum t p 0 (gN g - 1) = .inr a → a.2 = sk t p → Q (.inl (some (.int (nI a.1)))) h) : am_C xs am_P0 d m_Rd_vertexHere [.ref 68] h Q := by
  have hs := Z.1.1
  have e0 : am_i h (am_r h 68 0) 0 - nI 1 = nI (gN g - 1) := by
    rw [sr_68_0 hs, Z.2.1.1.1.1]
    have := nI_pred (gN g - 1)
    rw [show gN g - 1 + 1 = gN g by omega] at this
    exact this
  refine am_C_le hd (am_enter (d := 2) ap_Rd_vertexHere rfl ?_) (fun _ _ k => k)
  refine am_go (fun _ => false) (fun K cal Q' hK hC hQ => ?_)
  refine And.intro (sk_68 hs) (And.intro (k69 hs) (And.intro (sk_68 hs) ?_))
  show cal m_Rd_numberHere [.ref 68, .int (nI 0), .int (am_i h (am_r h 68 0) 0 - nI 1)] h _
  rw [e0]
  exact hC _ _ _ _ (z_number (by decide) Z (by omega) (by decide) (fun e h' r a b => And.intro trivial (hQ _ _ (H0 e h' r a b))) (fun a r b => And.intro trivial (hQ _ _ (H1 a r b))))
theorem neg1_lt : ¬ (0 : Int32) ≤ -nI 1 := by decide
theorem nI_ge0 {k : Nat} (h : k < 100000) : (0 : Int32) ≤ nI k := nI_pos' (by omega)
set_option maxHeartbeats 8000000 in
theorem z_readTerminal (hd : 4 ≤ d) (Z : rZ h t p g L) (w : pwf p g L) (HQ : eY h t (pTerS t (sk t p) (te t (sk t p)) g L) Q) : am_C xs am_P0 d m_Rd_readTerminal [.ref 68] h Q := by
  have hs := Z.1.1
  have wf := w.1
  have hn := wf.1.1
  have hT9 : gT g < 512 := Nat.lt_of_lt_of_le wf.1.2.2 (Nat.pow_le_pow_right (by decide) hn : 2 ^ gN g ≤ 2 ^ 9)
  have p9 := pcn_le (gT g)
  unfold pTerS at HQ
  unfold eY at HQ
  have e2 : am_i h (am_r h 68 0) 2 = nI (gT g) := by rw [sr_68_0 hs]; exact Z.2.1.1.1.2.2
  refine am_C_le hd (am_enter (d := 3) ap_Rd_readTerminal rfl ?_) (fun _ _ k => k)
  refine am_go (fun p => p == 21) (fun K cal Q' hK hC hQ => ?_)
  refine And.intro (sk_68 hs) (And.intro (k69 hs) (And.intro trivial ?_))
  show cal m_JI_bitCount [.int (am_i h (am_r h 68 0) 2)] h _
  rw [e2]
  refine hC _ _ _ _ (c_bitCount (by decide) hT9 ?_)
  refine And.intro (fun z => hK _ _ _ _ ?_) (fun z => ?_)
  rotate_left
  · have z : ¬ nI (pcn (gT g)) < nI 5 := z
    rw [if_pos (Nat.not_lt.mp fun q => z (nI_lt q (by omega)))] at HQ
    exact And.intro (sk_68 hs) (hC _ _ _ _ (z_fail (by decide) Z 5 (fun h' a b => And.intro (Or.inl rfl) (hQ _ _ (HQ.1 _ h' rfl a b)))))
  have z : nI (pcn (gT g)) < nI 5 := z
  have z := (nI_ltI (by omega) (by decide)).mp z
  rw [if_neg (by omega)] at HQ
  refine am_go (fun _ => false) (fun K cal Q' hK hC hQ => ?_)
  refine And.intro (sk_68 hs) (hC _ _ _ _ (z_next (by decide) Z rfl (fun h1 r1 Z1 => ?_)))
  have hs1 := Z1.1.1
  refine And.intro (sk_68 hs1) (hC _ _ _ _ (z_vertex (by decide) Z1 (by have := w.2.1; omega) hn (fun e h2 hr r2 E2 => ?_) (fun a hr ha => ?_)))
  · rw [hr] at HQ
    exact And.intro (fun y => absurd y neg1_lt) (fun _ => And.intro (Or.inl rfl) (hQ _ _ (HQ.1 e h2 rfl (r1.tr r2) E2)))
  · obtain ⟨b1, b2, b3, b4, b5, b6, b7⟩ := pNum_r (te_len (sk_len Z.1.2.2.1)) hr
    rw [hr] at HQ
    dsimp only at HQ
    have av : a.1 < gN g := by have := w.2.1; omega
    refine And.intro (fun _ => ?_) (fun y => absurd (nI_ge0 (by omega)) y)
    refine And.intro (sk_68 hs1) (And.intro (k69 hs1) ?_)
    show cal m_Gr_isTerminal [.ref (am_r h1 68 0), .int (nI a.1)] h1 _
    rw [sr_68_0 hs1]
    refine hC _ _ _ _ (c_isTerminal (by decide) (Z1.2.1.1.cg hs1 wf) (nI a.1) ?_)
    rw [isT_nI av (by omega)]
    cases e : (gT g).testBit a.1 with
    | true =>
      rw [if_pos e] at HQ
      refine And.intro (fun y => absurd y q_t1) (fun _ => ?_)
      exact And.intro (sk_68 hs1) (hC _ _ _ _ (z_fail (by decide) Z1 4 (fun h' r' b => And.intro (Or.inl rfl) (hQ _ _ (HQ.1 _ h' (by rw [ha]) (r1.tr r') b)))))
    | false =>
      rw [if_neg (by rw [e]; decide)] at HQ
      refine And.intro (fun _ => ?_) (fun y => absurd rfl y)
      refine And.intro (sk_68 hs1) (And.intro (k69 hs1) (And.intro (k69 hs1) ?_))
      have e9 : am_pi h1 (am_r h1 68 0) (130 % 64) (am_i h1 (am_r h1 68 0) (130 % 64) ||| (nI 1 <<< (nI a.1 &&& 31))) = am_pi h1 69 2 (nI (gT g ||| 2 ^ a.1)) := by
        rw [sr_68_0 hs1, show am_i h1 69 (130 % 64) = nI (gT g) from Z1.2.1.1.1.2.2, q_orb (by omega)]
      rw [e9]
      have s2 : sm [69] h1 (am_pi h1 69 2 (nI (gT g ||| 2 ^ a.1))) := sm.rf.pi (by decide)
      have f2 : ∀ k, am_i (am_pi h1 69 2 (nI (gT g ||| 2 ^ a.1))) 69 k = if k = 2 then nI (gT g ||| 2 ^ a.1) else am_i h1 69 k := fun k => i_pi_same _ _ _ _ _
      generalize am_pi h1 69 2 (nI (gT g ||| 2 ^ a.1)) = h2 at s2 f2
      have N : ∀ x, x ≠ 69 → ∀ k, am_i h2 x k = am_i h1 x k := fun x hx k => s2.i (fun z => hx (List.mem_singleton.mp z)) k
      obtain ⟨y1, ⟨⟨⟨y2, y3, y4⟩, y5, y6⟩, y7, y8⟩, y9, y10⟩ := id Z1
      have Z2 : rZ h2 t (te t (sk t p)) (gOn g a.1) L := ⟨y1.mg s2 (by decide) (fun j _ _ => N 68 (by decide) j), ⟨⟨⟨(f2 0).trans y2, (f2 1).trans y3, f2 2⟩, fun e he => ⟨(N 72 (by decide) e).trans (y5 e he).1, (N 73 (by decide) e).trans (y5 e he).2.1, (N 74 (by decide) e).trans (y5 e he).2.2⟩, fun v hv => (N 70 (by decide) v).trans (y6 v hv)⟩, (N 68 (by decide) 9).trans y7, (N 68 (by decide) 10).trans y8⟩, ⟨(N 68 (by decide) 12).trans y9.1, fun k hk => by rw [N 77 (by decide)]; exact y9.2 k hk⟩, y10⟩
      have r2 : rW h1 h2 := ⟨s2.mo (by decide), N 68 (by decide) 4⟩
      refine And.intro (sk_68 Z2.1.1) (hC _ _ _ _ (z_next (by decide) Z2 rfl (fun h3 r3 Z3 => And.intro (Or.inr rfl) (hQ _ _ (HQ.2 _ h3 rfl ((r1.tr r2).tr r3) ?_)))))
      rw [ha]
      exact Z3
set_option maxHeartbeats 8000000 in
theorem z_readLoad (hd : 4 ≤ d) (Z : rZ h t p g L) (w : pwf p g L) (HQ : eY h t (pLdS t (te t (sk t p)) g L) Q) : am_C xs am_P0 d m_Rd_readLoad [.ref 68] h Q := by
  have hs := Z.1.1
  have wf := w.1
  have hn := wf.1.1
  have hL : L < 2 ^ 31 := Nat.lt_of_lt_of_le w.2.2.2.1 (Nat.pow_le_pow_right (by decide) (by omega))
  unfold pLdS at HQ
  unfold eY at HQ
  refine am_C_le hd (am_enter (d := 3) ap_Rd_readLoad rfl ?_) (fun _ _ k => k)
  refine am_go (fun _ => false) (fun K cal Q' hK hC hQ => ?_)
  refine And.intro (sk_68 hs) (hC _ _ _ _ (z_next (by decide) Z rfl (fun h1 r1 Z1 => ?_)))
  have hs1 := Z1.1.1
  refine And.intro (sk_68 hs1) (hC _ _ _ _ (z_vertex (by decide) Z1 (by have := w.2.1; omega) hn (fun e h2 hr r2 E2 => ?_) (fun a hr ha => ?_)))
  · rw [hr] at HQ
    exact And.intro (fun y => absurd y neg1_lt) (fun _ => And.intro (Or.inl rfl) (hQ _ _ (HQ.1 e h2 rfl (r1.tr r2) E2)))
  obtain ⟨b1, b2, b3, b4, b5, b6, b7⟩ := pNum_r (te_len (sk_len Z.1.2.2.1)) hr
  rw [hr] at HQ
  dsimp only at HQ
  have av : a.1 < gN g := by have := w.2.1; omega
  refine And.intro (fun _ => ?_) (fun y => absurd (nI_ge0 (by omega)) y)
  refine And.intro (sk_68 hs1) ?_
  have e9 : (am_i h1 68 9 >>> (nI a.1 &&& 31)) &&& 1 = bI (L.testBit a.1) := by rw [Z1.2.1.2.1]; exact q_bit hL (by omega)
  cases e : L.testBit a.1 with
  | true =>
    rw [if_pos e] at HQ
    rw [e] at e9
    refine And.intro (fun y => absurd (e9.symm.trans y) q_t1) (fun _ => ?_)
    exact And.intro (sk_68 hs1) (hC _ _ _ _ (z_fail (by decide) Z1 4 (fun h' r' b => And.intro (Or.inl rfl) (hQ _ _ (HQ.1 _ h' (by rw [ha]) (r1.tr r') b)))))
  | false =>
    rw [if_neg (by rw [e]; decide)] at HQ
    rw [e] at e9
    refine And.intro (fun _ => ?_) (fun y => absurd e9 y)
    refine And.intro (sk_68 hs1) (And.intro (sk_68 hs1) ?_)
    have e8 : am_pi h1 68 (457 % 64) (am_i h1 68 (457 % 64) ||| (nI 1 <<< (nI a.1 &&& 31))) = am_pi h1 68 9 (nI (L ||| 2 ^ a.1)) := by rw [show am_i h1 68 (457 % 64) = nI L from Z1.2.1.2.1, q_orb (by omega)]
    rw [e8]
    have s2 : sm [68] h1 (am_pi h1 68 9 (nI (L ||| 2 ^ a.1))) := sm.rf.pi (by decide)
    have f2 : ∀ k, am_i (am_pi h1 68 9 (nI (L ||| 2 ^ a.1))) 68 k = if k = 9 then nI (L ||| 2 ^ a.1) else am_i h1 68 k := fun k => i_pi_same _ _ _ _ _
    generalize am_pi h1 68 9 (nI (L ||| 2 ^ a.1)) = h2 at s2 f2
    have N : ∀ x, x ≠ 68 → ∀ k, am_i h2 x k = am_i h1 x k := fun x hx k => s2.i (fun z => hx (List.mem_singleton.mp z)) k
    have Z2 : rZ h2 t (te t (sk t p)) g (L ||| 2 ^ a.1) := by
      obtain ⟨y1, ⟨⟨⟨y2, y3, y4⟩, y5, y6⟩, y7, y8⟩, y9, y10⟩ := id Z1
      exact ⟨y1.mg s2 (by decide) (fun j _ _ => by rw [f2, if_neg (by omega)]), ⟨⟨⟨(N 69 (by decide) 0).trans y2, (N 69 (by decide) 1).trans y3, (N 69 (by decide) 2).trans y4⟩, fun e he => ⟨(N 72 (by decide) e).trans (y5 e he).1, (N 73 (by decide) e).trans (y5 e he).2.1, (N 74 (by decide) e).trans (y5 e he).2.2⟩, fun v hv => (N 70 (by decide) v).trans (y6 v hv)⟩, f2 9, (f2 10).trans y8⟩, ⟨(f2 12).trans y9.1, fun k hk => by rw [N 77 (by decide)]; exact y9.2 k hk⟩, y10⟩
    have r2 : rW h1 h2 := ⟨s2.mo (by decide), (f2 4)⟩
    refine And.intro (sk_68 Z2.1.1) (hC _ _ _ _ (z_next (by decide) Z2 rfl (fun h3 r3 Z3 => ?_)))
    rw [← ha] at Z3
    have hs3 := Z3.1.1
    have r03 := (r1.tr r2).tr r3
    refine And.intro (sk_68 hs3) (hC _ _ _ _ (z_number (lo := 0) (hi := 99) (by decide) Z3 (by decide) (by decide) (fun e h4 hr4 r4 E4 => ?_) (fun b hr4 hb => ?_)))
    · rw [hr4] at HQ
      exact And.intro (fun y => absurd y neg1_lt) (fun _ => And.intro (Or.inl rfl) (hQ _ _ (HQ.1 e h4 rfl (r03.tr r4) E4)))
    obtain ⟨c1, c2, c3, c4, c5, c6, c7⟩ := pNum_r b7 hr4
    rw [hr4] at HQ
    dsimp only at HQ
    refine And.intro (fun _ => ?_) (fun y => absurd (nI_ge0 (by omega)) y)
    have R3 : am_r h3 (am_r h3 68 0) 3 = 70 := by rw [sr_68_0 hs3]; exact sr_69_3 hs3
    refine And.intro (sk_68 hs3) (And.intro (k69 hs3) (And.intro (ck_row R3 (sk_70 hs3) rfl (by omega) (by decide)) ?_))
    have e7 : am_pi h3 (am_r h3 (am_r h3 68 0) (131 % 64)) (nI a.1).toNatClampNeg (nI b.1) = am_pi h3 70 a.1 (nI b.1) := by rw [show am_r h3 (am_r h3 68 0) (131 % 64) = 70 from R3, q_cl (by omega)]
    rw [e7]
    have s4 : sm [70] h3 (am_pi h3 70 a.1 (nI b.1)) := sm.rf.pi (by decide)
    have f4 : ∀ k, am_i (am_pi h3 70 a.1 (nI b.1)) 70 k = if k = a.1 then nI b.1 else am_i h3 70 k := fun k => i_pi_same _ _ _ _ _
    generalize am_pi h3 70 a.1 (nI b.1) = h4 at s4 f4
    have N : ∀ x, x ≠ 70 → ∀ k, am_i h4 x k = am_i h3 x k := fun x hx k => s4.i (fun z => hx (List.mem_singleton.mp z)) k
    have Z4 : rZ h4 t (te t a.2) (gLdS g a.1 b.1) (L ||| 2 ^ a.1) := by
      obtain ⟨y1, ⟨⟨⟨y2, y3, y4⟩, y5, y6⟩, y7, y8⟩, y9, y10⟩ := id Z3
      refine ⟨y1.mg s4 (by decide) (fun j _ _ => N 68 (by decide) j), ⟨⟨⟨(N 69 (by decide) 0).trans y2, (N 69 (by decide) 1).trans y3, (N 69 (by decide) 2).trans y4⟩, fun e he => ⟨(N 72 (by decide) e).trans (y5 e he).1, (N 73 (by decide) e).trans (y5 e he).2.1, (N 74 (by decide) e).trans (y5 e he).2.2⟩, fun v hv => ?_⟩, (N 68 (by decide) 9).trans y7, (N 68 (by decide) 10).trans y8⟩, ⟨(N 68 (by decide) 12).trans y9.1, fun k hk => by rw [N 77 (by decide)]; exact y9.2 k hk⟩, y10⟩
      rw [f4]
      show _ = nI (setN (gLd g) a.1 b.1 v)
      unfold setN
      by_cases z : v = a.1
      · rw [if_pos z, if_pos z]
      · rw [if_neg z, if_neg z]; exact y6 v hv
    have r4 : rW h3 h4 := ⟨s4.mo (by decide), N 68 (by decide) 4⟩
    refine And.intro (sk_68 Z4.1.1) (hC _ _ _ _ (z_next (by decide) Z4 rfl (fun h5 r5 Z5 => And.intro (Or.inr rfl) (hQ _ _ (HQ.2 _ h5 rfl ((r03.tr r4).tr r5) ?_)))))
    rw [hb]
    exact Z5
set_option maxHeartbeats 8000000 in
theorem z_readEdge (hd : 4 ≤ d) (Z : rZ h t p g L) (w : pwf p g L) (HQ : eY h t (pEdS t (sk t p) (te t (sk t p)) g L) Q) : am_C xs am_P0 d m_Rd_readEdge [.ref 68] h Q := by
  have hs := Z.1.1
  have wf := w.1
  have hn := wf.1.1
  have hm := wf.1.2.1
  unfold pEdS at HQ
  unfold eY at HQ
  have e1 : am_i h (am_r h 68 0) 1 = nI (gM g) := by rw [sr_68_0 hs]; exact Z.2.1.1.1.2.1
  refine am_C_le hd (am_enter (d := 3) ap_Rd_readEdge rfl ?_) (fun _ _ k => k)
  refine am_go (fun p => p == 19) (fun K cal Q' hK hC hQ => ?_)
  refine And.intro (sk_68 hs) (And.intro (k69 hs) (And.intro (fun z => hK _ _ _ _ ?_) (fun z => ?_)))
  rotate_left
  · have z : ¬ am_i h (am_r h 68 0) 1 < nI 20 := z
    rw [e1] at z
    rw [if_pos (Nat.not_lt.mp fun q => z (nI_lt q (by omega)))] at HQ
    exact And.intro (sk_68 hs) (hC _ _ _ _ (z_fail (by decide) Z 5 (fun h' a b => And.intro (Or.inl rfl) (hQ _ _ (HQ.1 _ h' rfl a b)))))
  have z : am_i h (am_r h 68 0) 1 < nI 20 := z
  rw [e1] at z
  have hm20 := (nI_ltI (by omega) (by decide)).mp z
  rw [if_neg (by omega)] at HQ
  refine am_go (fun p => p == 34) (fun K cal Q' hK hC hQ => ?_)
  refine And.intro (sk_68 hs) (hC _ _ _ _ (z_next (by decide) Z rfl (fun h1 r1 Z1 => ?_)))
  have hs1 := Z1.1.1
  refine And.intro (sk_68 hs1) (hC _ _ _ _ (z_vertex (by decide) Z1 (by have := w.2.1; omega) hn (fun e h2 hr r2 E2 => ?_) (fun a hr ha => ?_)))
  · rw [hr] at HQ
    exact And.intro (fun y => absurd y neg1_lt) (fun _ => And.intro (Or.inl rfl) (hQ _ _ (HQ.1 e h2 rfl (r1.tr r2) E2)))
  obtain ⟨b1, b2, b3, b4, b5, b6, b7⟩ := pNum_r (te_len (sk_len Z.1.2.2.1)) hr
  rw [hr] at HQ
  dsimp only at HQ
  have av : a.1 < gN g := by have := w.2.1; omega
  refine And.intro (fun _ => hK _ _ _ _ ?_) (fun y => absurd (nI_ge0 (by omega)) y)
  show am_W xs (am_code at_Rd_readEdge) (am_hd ah_Rd_readEdge) (am_C xs am_P0 3) Q 34 [.ref 68, .int (nI a.1), am_J, am_J] [] h1
  refine am_go (fun p => p == 49) (fun K cal Q' hK hC hQ => ?_)
  refine And.intro (sk_68 hs1) (hC _ _ _ _ (z_next (by decide) Z1 rfl (fun h2 r2 Z2 => ?_)))
  rw [← ha] at Z2
  have hs2 := Z2.1.1
  refine And.intro (sk_68 hs2) (hC _ _ _ _ (z_vertex (by decide) Z2 (by have := w.2.1; omega) hn (fun e h3 hr3 r3 E3 => ?_) (fun b hr3 hb => ?_)))
  · rw [hr3] at HQ
    exact And.intro (fun y => absurd y neg1_lt) (fun _ => And.intro (Or.inl rfl) (hQ _ _ (HQ.1 e h3 rfl ((r1.tr r2).tr r3) E3)))
  obtain ⟨c1, c2, c3, c4, c5, c6, c7⟩ := pNum_r b7 hr3
  rw [hr3] at HQ
  dsimp only at HQ
  have bv : b.1 < gN g := by have := w.2.1; omega
  refine And.intro (fun _ => hK _ _ _ _ ?_) (fun y => absurd (nI_ge0 (by omega)) y)
  show am_W xs (am_code at_Rd_readEdge) (am_hd ah_Rd_readEdge) (am_C xs am_P0 3) Q 49 [.ref 68, .int (nI a.1), .int (nI b.1), am_J] [] h2
  have r02 := r1.tr r2
  have again : (a.1 = b.1 ∨ joins (gM g) (gLo g) (gHi g) a.1 b.1 = true) → am_W xs (am_code at_Rd_readEdge) (am_hd ah_Rd_readEdge) (am_C xs am_P0 3) Q 66 [.ref 68, .int (nI a.1), .int (nI b.1), am_J] [] h2 := by
    intro yes
    rw [if_pos yes] at HQ
    refine am_go (fun _ => false) (fun K cal Q' hK hC hQ => ?_)
    exact And.intro (sk_68 hs2) (hC _ _ _ _ (z_fail (by decide) Z2 4 (fun h' r' E => And.intro (Or.inl rfl) (hQ _ _ (HQ.1 _ h' (by rw [hb]) (r02.tr r') E)))))
  have go : ¬ (a.1 = b.1 ∨ joins (gM g) (gLo g) (gHi g) a.1 b.1 = true) → am_W xs (am_code at_Rd_readEdge) (am_hd ah_Rd_readEdge) (am_C xs am_P0 3) Q 73 [.ref 68, .int (nI a.1), .int (nI b.1), am_J] [] h2 := by
    intro no
    rw [if_neg no] at HQ
    refine am_go (fun p => p == 91) (fun K cal Q' hK hC hQ => ?_)
    refine And.intro (sk_68 hs2) (hC _ _ _ _ (z_next (by decide) Z2 rfl (fun h3 r3 Z3 => ?_)))
    rw [← hb] at Z3
    have hs3 := Z3.1.1
    refine And.intro (sk_68 hs3) (hC _ _ _ _ (z_number (lo := 1) (hi := 99) (by decide) Z3 (by decide) (by decide) (fun e h4 hr4 r4 E4 => ?_) (fun c hr4 hc => ?_)))
    · rw [hr4] at HQ
      exact And.intro (fun y => absurd y neg1_lt) (fun _ => And.intro (Or.inl rfl) (hQ _ _ (HQ.1 e h4 rfl ((r02.tr r3).tr r4) E4)))
    obtain ⟨d1, d2, d3, d4, d5, d6, d7⟩ := pNum_r c7 hr4
    rw [hr4] at HQ
    dsimp only at HQ
    refine And.intro (fun _ => hK _ _ _ _ ?_) (fun y => absurd (nI_ge0 (by omega)) y)
    show am_W xs (am_code at_Rd_readEdge) (am_hd ah_Rd_readEdge) (am_C xs am_P0 3) Q 91 [.ref 68, .int (nI a.1), .int (nI b.1), .int (nI c.1)] [] h3
    refine am_go (fun _ => false) (fun K cal Q' hK hC hQ => ?_)
    refine And.intro (sk_68 hs3) (And.intro (k69 hs3) ?_)
    show cal m_Gr_putEdge [.ref (am_r h3 68 0), .int (nI a.1), .int (nI b.1), .int (nI c.1)] h3 _
    rw [sr_68_0 hs3]
    refine hC _ _ _ _ (c_putEdge (by decide) (gs_69 hs3) Z3.2.1.1.1.2.1 hm20 (by omega) (by omega) (fun h4 s4 f1 f3 f4 f5 => ?_))
    have N : ∀ x, (x ≠ 69 ∧ x ≠ 72 ∧ x ≠ 73 ∧ x ≠ 74) → ∀ k, am_i h4 x k = am_i h3 x k := fun x hx k => s4.i (fun z => by simp at z; omega) k
    have Z4 : rZ h4 t (te t b.2) (gAdd g a.1 b.1 c.1) L := by
      obtain ⟨y1, ⟨⟨⟨y2, y3, y4⟩, y5, y6⟩, y7, y8⟩, y9, y10⟩ := id Z3
      refine ⟨y1.mg s4 (by decide) (fun j _ _ => N 68 (by decide) j), ⟨⟨⟨(f1 0).trans y2, f1 1, (f1 2).trans y4⟩, fun e he => ?_, fun v hv => (N 70 (by decide) v).trans (y6 v hv)⟩, (N 68 (by decide) 9).trans y7, (N 68 (by decide) 10).trans y8⟩, ⟨(N 68 (by decide) 12).trans y9.1, fun k hk => by rw [N 77 (by decide)]; exact y9.2 k hk⟩, y10⟩
      have he : e < gM g + 1 := he
      refine ⟨(f3 e).trans ?_, (f4 e).trans ?_, (f5 e).trans ?_⟩
      · show _ = nI (setN (gLo g) (gM g) (Nat.min a.1 b.1) e)
        unfold setN
        by_cases z : e = gM g
        · rw [if_pos z, if_pos z]
        · rw [if_neg z, if_neg z]; exact (y5 e (by omega)).1
      · show _ = nI (setN (gHi g) (gM g) (Nat.max a.1 b.1) e)
        unfold setN
        by_cases z : e = gM g
        · rw [if_pos z, if_pos z]
        · rw [if_neg z, if_neg z]; exact (y5 e (by omega)).2.1
      · show _ = nI (setN (gWt g) (gM g) c.1 e)
        unfold setN
        by_cases z : e = gM g
        · rw [if_pos z, if_pos z]
        · rw [if_neg z, if_neg z]; exact (y5 e (by omega)).2.2
    have r4 : rW h3 h4 := ⟨s4.mo (fun x hx => by simp [rWX] at hx ⊢; omega), N 68 (by decide) 4⟩
    refine And.intro (sk_68 Z4.1.1) (hC _ _ _ _ (z_next (by decide) Z4 rfl (fun h5 r5 Z5 => And.intro (Or.inr rfl) (hQ _ _ (HQ.2 _ h5 rfl (((r02.tr r3).tr r4).tr r5) ?_)))))
    rw [hc]
    exact Z5
  refine am_go (fun p => p == 66 || p == 73) (fun K cal Q' hK hC hQ => ?_)
  refine And.intro (fun y => hK _ _ _ _ (again (Or.inl ((nI_eq (by omega) (by omega)).mp y)))) (fun y => ?_)
  have y : ¬ a.1 = b.1 := fun q => y (by rw [q]; rfl)
  refine And.intro (sk_68 hs2) (And.intro (k69 hs2) ?_)
  show cal m_Gr_hasEdgeBetween [.ref (am_r h2 68 0), .int (nI a.1), .int (nI b.1)] h2 _
  rw [sr_68_0 hs2]
  refine hC _ _ _ _ (c_hasEdgeBetween (by decide) (Z2.2.1.1.cg hs2 wf) (by omega) (by omega) y ?_)
  cases e : joins (gM g) (gLo g) (gHi g) a.1 b.1 with
  | true => exact And.intro (fun y => absurd y q_t1) (fun _ => hK _ _ _ _ (again (Or.inr e)))
  | false => exact And.intro (fun _ => hK _ _ _ _ (go (by rw [e]; rintro (q | q); exact y q; cases q))) (fun y => absurd rfl y)
set_option maxHeartbeats 8000000 in
theorem z_readStatement (hd : 18 ≤ d) (Z : rZ h t p g L) (w : pwf p g L) (HQ : eY h t (pStm t p g L) Q) : am_C xs am_P0 d m_Rd_readStatement [.ref 68] h Q := by
  have hs := Z.1.1
  unfold pStm at HQ
  refine am_C_le hd (am_enter (d := 17) ap_Rd_readStatement rfl ?_) (fun _ _ k => k)
  refine am_go (fun p => p == 14) (fun K cal Q' hK hC hQ => ?_)
  refine And.intro (sk_68 hs) (hC _ _ _ _ (c_isWord (s := 1) (by decide) Z.1 (by decide) ?_))
  cases e1 : wIs t (sk t p) 1 with
  | true =>
    rw [if_pos e1] at HQ
    refine And.intro (fun y => absurd y q_t1) (fun _ => ?_)
    exact And.intro (sk_68 hs) (hC _ _ _ _ (z_readTerminal (by decide) Z w ⟨fun e h' a b c => And.intro (Or.inl rfl) (hQ _ _ (HQ.1 e h' a b c)), fun s h' a b c => And.intro (Or.inr rfl) (hQ _ _ (HQ.2 s h' a b c))⟩))
  | false =>
  rw [if_neg (by rw [e1]; decide)] at HQ
  refine And.intro (fun _ => hK _ _ _ _ ?_) (fun y => absurd rfl y)
  refine am_go (fun p => p == 28) (fun K cal Q' hK hC hQ => ?_)
  refine And.intro (sk_68 hs) (hC _ _ _ _ (c_isWord (s := 2) (by decide) Z.1 (by decide) ?_))
  cases e2 : wIs t (sk t p) 2 with
  | true =>
    rw [if_pos e2] at HQ
    refine And.intro (fun y => absurd y q_t1) (fun _ => ?_)
    exact And.intro (sk_68 hs) (hC _ _ _ _ (z_readEdge (by decide) Z w ⟨fun e h' a b c => And.intro (Or.inl rfl) (hQ _ _ (HQ.1 e h' a b c)), fun s h' a b c => And.intro (Or.inr rfl) (hQ _ _ (HQ.2 s h' a b c))⟩))
  | false =>
  rw [if_neg (by rw [e2]; decide)] at HQ
  refine And.intro (fun _ => hK _ _ _ _ ?_) (fun y => absurd rfl y)
  refine am_go (fun p => p == 42) (fun K cal Q' hK hC hQ => ?_)
  refine And.intro (sk_68 hs) (hC _ _ _ _ (c_isWord (s := 3) (by decide) Z.1 (by decide) ?_))
  cases e3 : wIs t (sk t p) 3 with
  | true =>
    rw [if_pos e3] at HQ
    refine And.intro (fun y => absurd y q_t1) (fun _ => ?_)
    exact And.intro (sk_68 hs) (hC _ _ _ _ (z_readLoad (by decide) Z w ⟨fun e h' a b c => And.intro (Or.inl rfl) (hQ _ _ (HQ.1 e h' a b c)), fun s h' a b c => And.intro (Or.inr rfl) (hQ _ _ (HQ.2 s h' a b c))⟩))
  | false =>
  rw [if_neg (by rw [e3]; decide)] at HQ
  refine And.intro (fun _ => hK _ _ _ _ ?_) (fun y => absurd rfl y)
  refine am_go (fun p => p == 72) (fun K cal Q' hK hC hQ => ?_)
  refine And.intro (sk_68 hs) (hC _ _ _ _ (c_isWord (s := 4) (by decide) Z.1 (by decide) ?_))
  cases e4 : wIs t (sk t p) 4 with
  | false =>
    rw [if_neg (by rw [e4]; decide)] at HQ
    refine And.intro (fun _ => hK _ _ _ _ ?_) (fun y => absurd rfl y)
    refine am_go (fun _ => false) (fun K cal Q' hK hC hQ => ?_)
    exact And.intro (sk_68 hs) (hC _ _ _ _ (z_fail (by decide) Z 2 (fun h' a b => And.intro (Or.inl rfl) (hQ _ _ (HQ.1 _ h' rfl a b)))))
  | true =>
  rw [if_pos e4] at HQ
  refine And.intro (fun y => absurd y q_t1) (fun _ => ?_)
  unfold pCoS at HQ
  refine And.intro (sk_68 hs) (hC _ _ _ _ ?_)
  refine am_C_le (d := 2) (by decide) (am_enter (d := 1) ap_Rd_startCost rfl ?_) (fun _ _ k => k)
  refine am_go (fun _ => false) (fun K2 cal2 Q2 hK2 hC2 hQ2 => ?_)
  have e10 : am_i h 68 10 = bI (gCs g).isSome := Z.2.1.2.2
  cases e5 : (gCs g).isSome with
  | true =>
    rw [if_pos e5] at HQ
    rw [e5] at e10
    refine And.intro (sk_68 hs) (And.intro (fun y => absurd (e10.symm.trans y) q_t1) (fun _ => ?_))
    exact And.intro (sk_68 hs) (hC2 _ _ _ _ (z_fail (by decide) Z 2 (fun h' a b => And.intro (Or.inl rfl) (hQ2 _ _ (And.intro (fun _ => And.intro (Or.inl rfl) (hQ _ _ (HQ.1 _ h' rfl a b))) (fun y => absurd rfl y))))))
  | false =>
    rw [if_neg (by rw [e5]; decide)] at HQ
    rw [e5] at e10
    have eN : gCs g = none := by
      cases e6 : gCs g with
      | none => rfl
      | some cs => rw [e6] at e5; cases e5
    refine And.intro (sk_68 hs) (And.intro (fun _ => ?_) (fun y => absurd e10 y))
    refine And.intro ⟨sk_68 hs, Or.inr rfl⟩ ?_
    show am_k (am_pi h 68 10 (nI 1)) 68 = _ ∧ _
    have s2 : sm [68] h (am_pi h 68 10 (nI 1)) := sm.rf.pi (by decide)
    have f2 : ∀ k, am_i (am_pi h 68 10 (nI 1)) 68 k = if k = 10 then nI 1 else am_i h 68 k := fun k => i_pi_same _ _ _ _ _
    generalize am_pi h 68 10 (nI 1) = h2 at s2 f2 ⊢
    have N : ∀ x, x ≠ 68 → ∀ k, am_i h2 x k = am_i h x k := fun x hx k => s2.i (fun z => hx (List.mem_singleton.mp z)) k
    have r2 : rW h h2 := ⟨s2.mo (by decide), f2 4⟩
    obtain ⟨y1, ⟨⟨⟨y2, y3, y4⟩, y5, y6⟩, y7, y8⟩, y9, y10⟩ := id Z
    rw [eN] at y9
    have S2 : rSt h2 t p := y1.mg s2 (by decide) (fun j _ _ => by rw [f2, if_neg (by omega)])
    have G2 : rGr h2 g := ⟨⟨(N 69 (by decide) 0).trans y2, (N 69 (by decide) 1).trans y3, (N 69 (by decide) 2).trans y4⟩, fun e he => ⟨(N 72 (by decide) e).trans (y5 e he).1, (N 73 (by decide) e).trans (y5 e he).2.1, (N 74 (by decide) e).trans (y5 e he).2.2⟩, fun v hv => (N 70 (by decide) v).trans (y6 v hv)⟩
    refine And.intro (sk_68 S2.1) (hC2 _ _ _ _ (c_next (by decide) S2 rfl (fun h3 r3 S3 m3 c3 => And.intro (Or.inr rfl) (hQ2 _ _ ?_))))
    refine And.intro (fun y => absurd y i1_0) (fun _ => ?_)
    have X3 : rX h3 t (te t (sk t p)) [] := ⟨S3, ⟨(c3.trans (f2 12)).trans y9.1, fun k hk => absurd hk (Nat.not_lt_zero _)⟩, Nat.zero_le _⟩
    refine And.intro (sk_68 S3.1) (hC _ _ _ _ (c_readSum_k 4 0 rfl 17 h3 _ _ _ (Nat.le_refl _) X3 ⟨fun e h4 hr4 r4 E4 => ?_, fun p4 cs4 h4 hr4 r4 X4 => ?_⟩))
    · rw [hr4] at HQ
      exact And.intro (fun _ => And.intro (Or.inl rfl) (hQ _ _ (HQ.1 e h4 rfl ((r2.tr r3.w).tr r4.w) E4))) (fun y => absurd rfl y)
    · rw [hr4] at HQ
      refine And.intro (fun y => absurd y i1_0) (fun _ => And.intro (Or.inr rfl) (hQ _ _ (HQ.2 _ h4 rfl ((r2.tr r3.w).tr r4.w) ⟨X4.1, ⟨?_, ?_, ?_⟩, X4.2.1, X4.c⟩)))
      · exact (G2.mv r3).mv r4
      · exact (r4.2 9 (by decide)).trans ((r3.2 9 (by decide)).trans ((f2 9).trans y7))
      · exact (r4.2 10 (by decide)).trans ((r3.2 10 (by decide)).trans (f2 10))
end

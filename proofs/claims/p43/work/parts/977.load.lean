/-! THE CLASS: load -/
section
variable {xs : am_X} {d : Nat} {h : am_H} {t : tX} {p : Nat} {g : gD} {L : Nat} {Q : am_Q}
theorem z_symbol (hd : 2 ≤ d) (Z : rZ h t p g L) (H0 : ∀ e h', pSym t 59 p = .inl e → rW h h' → rE h' e → Q (.inl (some (.int 0))) h') (H1 : ∀ q h', pSym t 59 p = .inr q → rW h h' → rZ h' t q g L → Q (.inl (some (.int 1))) h') : am_C xs am_P0 d m_Rd_readSymbol [.ref 68, .int (nI 59)] h Q :=
  c_readSymbol (s := 59) hd Z.1 Z.2.2.2 Z.2.2.1.1 (by decide) (by decide) (by decide) (fun e h' a b c => H0 e h' a b.w c) (fun q h' a b c m f => H1 q h' a b.w ⟨c, Z.2.1.mv b, Z.2.2.1.mv m f, Z.2.2.2⟩)
set_option maxHeartbeats 4000000 in
theorem z_readGraph (hd : 3 ≤ d) (Z : rZ h t 0 (g0 0) 0) (HQ0 : ∀ e h', pHead t = .inl e → rW h h' → rE h' e → Q (.inl (some (.int 0))) h') (HQ1 : ∀ a h', pHead t = .inr a → rW h h' → rZ h' t a.2 (g0 a.1) 0 → Q (.inl (some (.int 1))) h') : am_C xs am_P0 d m_Rd_readGraph [.ref 68] h Q := by
  have hs := Z.1.1
  unfold pHead at HQ0 HQ1
  refine am_C_le hd (am_enter (d := 2) ap_Rd_readGraph rfl ?_) (fun _ _ k => k)
  refine am_go (fun p => p == 16) (fun K cal Q' hK hC hQ => ?_)
  refine And.intro (sk_68 hs) (hC _ _ _ _ (c_isWord (s := 0) (by decide) Z.1 (by decide) ?_))
  cases e0 : wIs t (sk t 0) 0 with
  | false =>
    rw [if_neg (by rw [e0]; decide)] at HQ0
    refine And.intro (fun y => absurd rfl y) (fun _ => ?_)
    exact And.intro (sk_68 hs) (hC _ _ _ _ (z_fail (by decide) Z 2 (fun h' a b => And.intro (Or.inl rfl) (hQ _ _ (HQ0 _ h' rfl a b)))))
  | true =>
  rw [if_pos e0] at HQ0 HQ1
  refine And.intro (fun _ => hK _ _ _ _ ?_) (fun y => absurd (Classical.not_not.mp y) q_t1)
  refine am_go (fun p => p == 34) (fun K cal Q' hK hC hQ => ?_)
  refine And.intro (sk_68 hs) (hC _ _ _ _ (z_next (by decide) Z rfl (fun h1 r1 Z1 => ?_)))
  have hs1 := Z1.1.1
  refine And.intro (sk_68 hs1) (hC _ _ _ _ (z_number (lo := 2) (hi := 9) (by decide) Z1 (by decide) (by decide) (fun e h2 hr r2 E2 => ?_) (fun a hr ha => ?_)))
  · rw [hr] at HQ0
    exact And.intro (fun y => absurd y neg1_lt) (fun _ => And.intro (Or.inl rfl) (hQ _ _ (HQ0 e h2 rfl (r1.tr r2) E2)))
  obtain ⟨b1, b2, b3, b4, b5, b6, b7⟩ := pNum_r (te_len (sk_len Z.1.2.2.1)) hr
  rw [hr] at HQ0 HQ1
  dsimp only at HQ0 HQ1
  refine And.intro (fun _ => hK _ _ _ _ ?_) (fun y => absurd (nI_ge0 (by omega)) y)
  show am_W xs (am_code at_Rd_readGraph) (am_hd ah_Rd_readGraph) (am_C xs am_P0 2) Q 34 [.ref 68, .int (nI a.1)] [] h1
  refine am_go (fun _ => false) (fun K cal Q' hK hC hQ => ?_)
  refine And.intro (sk_68 hs1) (And.intro (k69 hs1) ?_)
  show am_k (am_pi h1 (am_r h1 68 0) 0 (nI a.1)) 68 = _ ∧ _
  rw [sr_68_0 hs1]
  have s2 : sm [69] h1 (am_pi h1 69 0 (nI a.1)) := sm.rf.pi (by decide)
  have f2 : ∀ k, am_i (am_pi h1 69 0 (nI a.1)) 69 k = if k = 0 then nI a.1 else am_i h1 69 k := fun k => i_pi_same _ _ _ _ _
  show am_k (am_pi h1 69 0 (nI a.1)) 68 = _ ∧ cal m_Rd_advance [.ref 68] (am_pi h1 69 0 (nI a.1)) _
  generalize am_pi h1 69 0 (nI a.1) = h2 at s2 f2 ⊢
  have N : ∀ x, x ≠ 69 → ∀ k, am_i h2 x k = am_i h1 x k := fun x hx k => s2.i (fun z => hx (List.mem_singleton.mp z)) k
  have Z2 : rZ h2 t (te t (sk t 0)) (g0 a.1) 0 := by
    obtain ⟨y1, ⟨⟨⟨y2, y3, y4⟩, y5, y6⟩, y7, y8⟩, y9, y10⟩ := id Z1
    exact ⟨y1.mg s2 (by decide) (fun j _ _ => N 68 (by decide) j), ⟨⟨⟨f2 0, (f2 1).trans y3, (f2 2).trans y4⟩, fun e he => absurd he (Nat.not_lt_zero _), fun v hv => (N 70 (by decide) v).trans (y6 v hv)⟩, (N 68 (by decide) 9).trans y7, (N 68 (by decide) 10).trans y8⟩, ⟨(N 68 (by decide) 12).trans y9.1, fun k hk => absurd hk (Nat.not_lt_zero _)⟩, Nat.zero_le _⟩
  have r2 : rW h1 h2 := ⟨s2.mo (by decide), N 68 (by decide) 4⟩
  refine And.intro (sk_68 Z2.1.1) (hC _ _ _ _ (z_next (by decide) Z2 rfl (fun h3 r3 Z3 => ?_)))
  rw [← ha] at Z3
  refine And.intro (sk_68 Z3.1.1) (hC _ _ _ _ (z_symbol (by decide) Z3 (fun e h4 hr4 r4 E4 => ?_) (fun q h4 hr4 r4 Z4 => ?_)))
  · rw [hr4] at HQ0
    exact And.intro (Or.inl rfl) (hQ _ _ (HQ0 e h4 rfl (((r1.tr r2).tr r3).tr r4) E4))
  · rw [hr4] at HQ1
    exact And.intro (Or.inr rfl) (hQ _ _ (HQ1 _ h4 rfl (((r1.tr r2).tr r3).tr r4) Z4))
set_option maxHeartbeats 4000000 in
theorem c_clear (hd : 2 ≤ d) (hs : sh h) (HQ : ∀ h', rdG 0 0 h h' → am_r h' 69 9 = 0 → (∀ k, k < 3 → am_i h' 69 k = 0) → (∀ k, k < 9 → am_i h' 70 k = 0) → (∀ k, am_i h' 68 k = am_i h 68 k) → Q (.inl none) h') : am_C xs am_P0 d m_Gr_clear [.ref 69] h Q := by
  have n5 := hs.2.2
  refine am_C_le hd (am_enter (d := 1) ap_Gr_clear rfl ?_) (fun _ _ k => k)
  refine am_go (fun _ => false) (fun K cal Q' hK hC hQ => ?_)
  refine And.intro (sk_69 hs) (And.intro (sk_69 hs) (And.intro (sk_69 hs) (And.intro (sk_69 hs) ?_)))
  show am_k (am_pr (am_pi (am_pi (am_pi h 69 0 (nI 0)) 69 1 (nI 0)) 69 2 (nI 0)) 69 9 0) 69 = _ ∧ _
  have s1 : sm [69] h (am_pi (am_pi (am_pi h 69 0 (nI 0)) 69 1 (nI 0)) 69 2 (nI 0)) := ((sm.rf.pi (by decide)).pi (by decide)).pi (by decide)
  have f1 : ∀ k, k < 3 → am_i (am_pi (am_pi (am_pi h 69 0 (nI 0)) 69 1 (nI 0)) 69 2 (nI 0)) 69 k = 0 := fun k hk => by
    rw [i_pi_same, i_pi_same, i_pi_same]
    have : k = 0 ∨ k = 1 ∨ k = 2 := by omega
    rcases this with rfl | rfl | rfl <;> rfl
  generalize am_pi (am_pi (am_pi h 69 0 (nI 0)) 69 1 (nI 0)) 69 2 (nI 0) = h1 at s1 f1 ⊢
  have d1 : rdG 0 0 h (am_pr h1 69 9 0) := (rdG.sm s1 (fun x hx => by have := List.mem_singleton.mp hx; omega)).pr9
  have hs2 := d1.sh hs
  have r2 : am_r (am_pr h1 69 9 0) 69 9 = 0 := by rw [r_pr, if_pos rfl, if_pos rfl]
  have i2 : ∀ a k, am_i (am_pr h1 69 9 0) a k = am_i h1 a k := fun a k => i_pr _ _ _ _ _ _
  generalize am_pr h1 69 9 0 = h2 at d1 hs2 r2 i2 ⊢
  refine And.intro (sk_69 hs2) (And.intro trivial ?_)
  show cal m_JA_fill [.ref (am_r h2 69 3), .int (nI 0)] h2 _
  rw [sr_69_3 hs2]
  refine hC _ _ _ _ (c_fill (by decide) (sk_70 hs2) (by decide) (nI 0) (fun h3 s3 f3 => ?_))
  have hs3 := s3.sh hs2
  refine And.intro (sk_69 hs3) (And.intro trivial ?_)
  show cal m_JA_fill [.ref (am_r h3 69 4), .int (-nI 1)] h3 _
  rw [sr_69_4 hs3]
  refine hC _ _ _ _ (c_fill (by decide) (sk_71 hs3) (by decide) (-nI 1) (fun h4 s4 f4 => ?_))
  refine And.intro trivial (hQ _ _ (HQ h4 ?_ ?_ (fun k hk => ?_) (fun k hk => ?_) (fun k => ?_)))
  · exact (d1.tr (rdG.sm s3 (fun x hx => by have := List.mem_singleton.mp hx; omega))).tr (rdG.sm s4 (fun x hx => by have := List.mem_singleton.mp hx; omega))
  · rw [s4.r, s3.r]; exact r2
  · rw [s4.i (by decide), s3.i (by decide), i2]; exact f1 k hk
  · rw [s4.i (by decide)]; exact f3 k hk
  · rw [s4.i (by decide), s3.i (by decide), i2, s1.i (by decide)]
theorem rE.of {h' : am_H} {e : pE} (E : rE h' e) : am_i h' 68 1 = -nI e.1 ∧ am_i h' 68 2 = nI e.2 := ⟨E.1, E.2.1⟩
set_option maxHeartbeats 8000000 in
theorem c_read (hd : 20 ≤ d) (hs : sh h) (hT : TN h) (hN : am_n h < 899000) (t7 : t.1 ≤ 700) (htx : ∀ k, k < t.1 → am_i h 2 k = bS (t.2 k) ∧ t.2 k < 256)
    (H0 : ∀ e h', pText t = .inl e → rdG 0 0 h h' → am_i h' 68 1 = -nI e.1 → am_i h' 68 2 = nI e.2 → Q (.inl (some (.int 0))) h') (H1 : ∀ s h', pText t = .inr s → rdG 3 715 h h' → cgp h' 69 (gFin s.2.1) → Q (.inl (some (.int 1))) h') : am_C xs am_P0 d m_Rd_read [.ref 68, .ref 2, .int (nI t.1)] h Q := by
  have n5 := hs.2.2
  refine am_C_le hd (am_enter (d := 19) ap_Rd_read rfl ?_) (fun _ _ k => k)
  refine am_go (fun p => p == 54) (fun K cal Q' hK hC hQ => ?_)
  refine And.intro (sk_68 hs) (And.intro (k69 hs) ?_)
  show cal m_Gr_clear [.ref (am_r h 68 0)] h _
  rw [sr_68_0 hs]
  refine hC _ _ _ _ (c_clear (by decide) hs (fun h1 d1 r1 i1 l1 q1 => ?_))
  have hs1 := d1.sh hs
  refine And.intro (sk_68 hs1) ?_
  have d2 : rdG 0 0 h (am_pr h1 68 3 2) := d1.pr3
  have hs2 := d2.sh hs
  have r3 : am_r (am_pr h1 68 3 2) 68 3 = 2 := by rw [r_pr, if_pos rfl, if_pos rfl]
  have r9 : am_r (am_pr h1 68 3 2) 69 9 = 0 := by rw [r_pr, if_neg (by decide)]; exact r1
  have i2 : ∀ a k, am_i (am_pr h1 68 3 2) a k = am_i h1 a k := fun a k => i_pr _ _ _ _ _ _
  show am_ev _ _ _ _ _ _ _ 1995 12 _ [] (am_pr h1 68 3 2)
  generalize am_pr h1 68 3 2 = h2 at d2 hs2 r3 r9 i2 ⊢
  have kb : am_k h2 2 = (3, 700) := sk_2 hs2
  refine And.intro ⟨by rw [kb]; exact (by decide : 2 ≤ 3), by rw [kb]; exact (by decide : 3 ≤ 6)⟩ (And.intro (sk_68 hs2) (And.intro (sk_68 hs2) (And.intro (sk_68 hs2) (And.intro ⟨sk_68 hs2, Or.inl rfl⟩ (And.intro (sk_68 hs2) ?_)))))
  have eM : (if nI (am_k h2 2).2 < nI t.1 then nI (am_k h2 2).2 else nI t.1) = nI t.1 := by
    rw [kb, if_neg (nI_nlt t7 (by decide))]
  show am_k (am_pi (am_pi (am_pi (am_pi (am_pi h2 68 4 (if nI (am_k h2 2).2 < nI t.1 then nI (am_k h2 2).2 else nI t.1)) 68 7 (nI 0)) 68 9 (nI 0)) 68 10 (nI 0)) 68 12 (nI 0)) 68 = _ ∧ cal m_Rd_advance [.ref 68] (am_pi (am_pi (am_pi (am_pi (am_pi h2 68 4 (if nI (am_k h2 2).2 < nI t.1 then nI (am_k h2 2).2 else nI t.1)) 68 7 (nI 0)) 68 9 (nI 0)) 68 10 (nI 0)) 68 12 (nI 0)) _
  rw [eM]
  have s3 : sm [68] h2 (am_pi (am_pi (am_pi (am_pi (am_pi h2 68 4 (nI t.1)) 68 7 (nI 0)) 68 9 (nI 0)) 68 10 (nI 0)) 68 12 (nI 0)) := ((((sm.rf.pi (by decide)).pi (by decide)).pi (by decide)).pi (by decide)).pi (by decide)
  have f3 : ∀ k, am_i (am_pi (am_pi (am_pi (am_pi (am_pi h2 68 4 (nI t.1)) 68 7 (nI 0)) 68 9 (nI 0)) 68 10 (nI 0)) 68 12 (nI 0)) 68 k = if k = 12 then nI 0 else if k = 10 then nI 0 else if k = 9 then nI 0 else if k = 7 then nI 0 else if k = 4 then nI t.1 else am_i h2 68 k := fun k => by rw [i_pi_same, i_pi_same, i_pi_same, i_pi_same, i_pi_same]
  generalize am_pi (am_pi (am_pi (am_pi (am_pi h2 68 4 (nI t.1)) 68 7 (nI 0)) 68 9 (nI 0)) 68 10 (nI 0)) 68 12 (nI 0) = h3 at s3 f3 ⊢
  have d3 : rdG 0 0 h h3 := d2.tr (rdG.sm s3 (fun x hx => by have := List.mem_singleton.mp hx; omega))
  have hs3 := s3.sh hs2
  have x3 : rTx h3 t := ⟨t7, f3 4, (s3.r _ _).trans r3, fun k hk => ⟨by rw [(d3.2.2.1 2 (by omega) (by omega)).1]; exact (htx k hk).1, (htx k hk).2⟩⟩
  have N3 : ∀ x, x ≠ 68 → ∀ k, am_i h3 x k = am_i h1 x k := fun x hx k => (s3.i (fun z => hx (List.mem_singleton.mp z)) k).trans (i2 x k)
  refine And.intro (sk_68 hs3) (hC _ _ _ _ (c_advance (by decide) hs3 x3 (p := 0) (f3 7) (Nat.zero_le _) (fun h4 s4 f4 k4 => ?_)))
  have hs4 := s4.sh hs3
  have N4 : ∀ x, x ≠ 68 → ∀ k, am_i h4 x k = am_i h1 x k := fun x hx k => (s4.i (fun z => hx (List.mem_singleton.mp z)) k).trans (N3 x hx k)
  have Z4 : rZ h4 t 0 (g0 0) 0 := ⟨⟨hs4, x3.mv s4 (f4 4 (by decide)) (by decide), Nat.zero_le _, k4⟩, ⟨⟨⟨(N4 69 (by decide) 0).trans (i1 0 (by decide)), (N4 69 (by decide) 1).trans (i1 1 (by decide)), (N4 69 (by decide) 2).trans (i1 2 (by decide))⟩, fun e he => absurd he (Nat.not_lt_zero _), fun v hv => (N4 70 (by decide) v).trans (l1 v hv)⟩, (f4 9 (by decide)).trans (f3 9), (f4 10 (by decide)).trans (f3 10)⟩, ⟨(f4 12 (by decide)).trans (f3 12), fun k hk => absurd hk (Nat.not_lt_zero _)⟩, Nat.zero_le _⟩
  have d4 : rdG 0 0 h h4 := d3.tr (rdG.sm s4 (fun x hx => by have := List.mem_singleton.mp hx; omega))
  have r94 : am_r h4 69 9 = 0 := by rw [s4.r, s3.r]; exact r9
  -- exits
  have bad : ∀ (h' : am_H) (e : pE) (v4 : Int32), pText t = .inl e → rW h4 h' → rE h' e → am_W xs (am_code at_Rd_read) (am_hd ah_Rd_read) (am_C xs am_P0 19) Q 54 [.ref 68, .ref 2, .int (nI t.1), .int 0, .int v4] [] h' := by
    intro h' e v4 hR s E
    refine am_go (fun _ => false) (fun K cal Q' hK hC hQ => ?_)
    refine And.intro (fun _ => ?_) (fun z => absurd rfl z)
    exact And.intro (fun _ => And.intro (Or.inl rfl) (hQ _ _ (H0 e h' hR (d4.tr s.rd) E.1 E.2.1))) (fun z => absurd rfl z)
  have out : ∀ (h' : am_H) (p : Nat) (g : gD) (L : Nat) (v4 : Int32), pText t = .inr (p, g, L) → rW h4 h' → rZ h' t p g L → pwf p g L → am_W xs (am_code at_Rd_read) (am_hd ah_Rd_read) (am_C xs am_P0 19) Q 105 [.ref 68, .ref 2, .int (nI t.1), .int 1, .int v4] [] h' := by
    intro h' p g L v4 hR s Z w
    have dd := d4.tr s.rd
    refine am_go (fun _ => false) (fun K cal Q' hK hC hQ => ?_)
    refine And.intro (fun z => absurd z i1_0) (fun _ => ?_)
    refine And.intro (sk_68 Z.1.1) (hC _ _ _ _ (c_finish (by decide) Z w (dd.TN hT) (by have := dd.2.2.2.1.2; omega) ((s.1.r _ _).trans r94) (fun h5 d5 p5 => And.intro (Or.inr rfl) (hQ _ _ (H1 _ h5 hR ((dd.tr d5).mo (by decide) (by decide)) p5)))))
  refine And.intro (sk_68 hs4) (hC _ _ _ _ (z_readGraph (by decide) Z4 (fun e h5 hr5 r5 E5 => hK _ _ _ _ ?_) (fun a h5 hr5 r5 Z5 => hK _ _ _ _ ?_)))
  · exact bad h5 e 0 (by unfold pText; rw [hr5]) r5 E5
  have w5 := pHead_wf hr5
  have eT : pText t = pStms t t.1 a.2 (g0 a.1) 0 := by unfold pText; rw [hr5]
  refine am_for t.1 (fun i L' h' => ∃ p g L, L' = [.ref 68, .ref 2, .int (nI t.1), .int 1, .int (nI i)] ∧ rW h4 h' ∧ rZ h' t p g L ∧ pwf p g L ∧ pStms t (t.1 - i) p g L = pText t) ?_ ?_ 0 (Nat.zero_le _) _ _ ⟨a.2, g0 a.1, 0, rfl, r5, Z5, w5.1, by rw [Nat.sub_zero, eT]⟩
  · rintro i hi9 L' h' ⟨p, g, L, rfl, s, Z, w, hR⟩ next
    have eI : am_inc (nI i) (Int.ofNat 1) = nI (i + 1) := nI_1 i
    rw [← eI] at next
    have hs' := Z.1.1
    have e5 : am_i h' 68 5 = kdI t (sk t p) := Z.1.2.2.2.2.1
    have ke := kd_end (q := sk t p) (Z.1.b _)
    have e4 : am_i h' 68 4 = nI t.1 := Z.1.2.1.2.1
    rw [show t.1 - i = (t.1 - (i + 1)) + 1 by omega] at hR
    unfold pStms at hR
    refine am_go (fun p => p == 54 || p == 98 || p == 105) (fun K cal Q' hK hC hQ => ?_)
    refine And.intro (fun z => absurd z i1_0) (fun _ => ?_)
    refine And.intro (sk_68 hs') (And.intro (fun z => hK _ _ _ _ (out h' p g L _ ?_ s Z w)) (fun z => ?_))
    · have z : am_i h' 68 5 = nI 1000 := z
      rw [e5] at z
      rw [if_pos (ke.mp z)] at hR
      exact hR.symm
    have z : ¬ t.1 ≤ sk t p := fun y => z (e5.trans (ke.mpr y))
    rw [if_neg z] at hR
    unfold pStS at hR
    refine And.intro (sk_68 hs') (And.intro (fun y => absurd y (q_ge e4 hi9 (by omega))) (fun _ => ?_))
    have tail0 : ∀ (h2 : am_H) (e : pE), pText t = .inl e → rW h4 h2 → rE h2 e → am_W xs (am_code at_Rd_read) (am_hd ah_Rd_read) (am_C xs am_P0 19) Q 98 [.ref 68, .ref 2, .int (nI t.1), .int 1, .int (nI i)] [.int 0] h2 := by
      intro h2 e hR2 s2 E2
      refine am_go (fun p => p == 54) (fun K cal Q' hK hC hQ => hK _ _ _ _ ?_)
      exact bad h2 e _ hR2 s2 E2
    refine And.intro (sk_68 hs') (hC _ _ _ _ (z_readStatement (by decide) Z w ⟨fun e h6 hr6 r6 E6 => ?_, fun s6 h6 hr6 r6 Z6 => ?_⟩))
    · rw [hr6] at hR
      exact And.intro (fun _ => hK _ _ _ _ (tail0 h6 e hR.symm (s.tr r6) E6)) (fun y => absurd rfl y)
    · rw [hr6] at hR
      dsimp only at hR
      obtain ⟨w6, lt6, le6⟩ := pStm_wf Z.1.2.2.1 t7 w hr6
      refine And.intro (fun y => absurd y i1_0) (fun _ => ?_)
      refine And.intro (sk_68 Z6.1.1) (hC _ _ _ _ (z_symbol (by decide) Z6 (fun e h7 hr7 r7 E7 => ?_) (fun q h7 hr7 r7 Z7 => ?_)))
      · rw [hr7] at hR
        exact And.intro (fun _ => hK _ _ _ _ (tail0 h7 e hR.symm ((s.tr r6).tr r7) E7)) (fun y => absurd rfl y)
      · rw [hr7] at hR
        dsimp only at hR
        obtain ⟨q1, q2, q3, q4⟩ := pSym_r hr7
        refine And.intro (fun y => absurd y i1_0) (fun _ => hK _ _ _ _ ?_)
        refine am_go (fun p => p == 54) (fun K cal Q' hK hC hQ => hK _ _ _ _ ?_)
        refine next _ _ ⟨q, s6.2.1, s6.2.2, rfl, (s.tr r6).tr r7, Z7, ⟨w6.1, w6.2.1, w6.2.2.1, w6.2.2.2.1, by have := w6.2.2.2.2.1; omega, fun cs hc => by have := w6.2.2.2.2.2 cs hc; omega⟩, hR⟩
  · rintro L' h' ⟨p, g, L, rfl, s, Z, w, hR⟩
    rw [Nat.sub_self] at hR
    have hs' := Z.1.1
    have e4 : am_i h' 68 4 = nI t.1 := Z.1.2.1.2.1
    refine am_go (fun p => p == 105) (fun K cal Q' hK hC hQ => ?_)
    refine And.intro (fun z => absurd z i1_0) (fun _ => ?_)
    refine And.intro (sk_68 hs') (And.intro (fun _ => hK _ _ _ _ (out h' p g L _ hR.symm s Z w)) (fun _ => ?_))
    exact And.intro (sk_68 hs') (And.intro (fun _ => hK _ _ _ _ (out h' p g L _ hR.symm s Z w)) (fun z => absurd (q_le e4 (by omega)) z))
end

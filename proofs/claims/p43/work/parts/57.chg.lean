/-! THE CLASS'S CHANGES -/
def gL (g : gD) (f : Nat → Int32) : gD := (g.1, g.2.1, g.2.2.1, g.2.2.2.1, g.2.2.2.2.1, f, g.2.2.2.2.2.2)
theorem CI.ch {h h1 h2 : am_H} {X : List Nat} {st : stD} {hist' : List gD} {g' : gD} (I : CI h st) (c : clG h h1) (hh : chi h1 hist') (s : sm X h1 h2) (hX : ∀ x, x ∈ X → 3 ≤ x ∧ (x < 10 ∨ (68 ≤ x ∧ x ≤ 86))) (p : cgp h2 3 g') : CI h2 (g', hist', st.2.2) ∧ clF h h2 := by
  obtain ⟨i1, i2, i3, ⟨i4, i5, i6⟩, i7⟩ := I
  have n1 : (1 : Nat) ∉ X := fun z => by have := hX _ z; omega
  have n2 : (2 : Nat) ∉ X := fun z => by have := hX _ z; omega
  have J : ∀ a, a ≤ 2 → ∀ k, am_i h2 a k = am_i h a k := fun a ha k => (s.i (fun z => by have := hX _ z; omega) k).trans (by rw [(c.2.2.2.2 a (by omega)).1])
  refine ⟨⟨s.sh c.1, p, hh.mvs s (fun x hx => by have := hX x hx; omega), ⟨i4, (J 1 (by decide) _).trans i5, fun k hk => ⟨(J 2 (by decide) k).trans (i6 k hk).1, (i6 k hk).2⟩⟩, (J 1 (by decide) _).trans i7⟩, fun a _ => (s.k a).trans (by unfold am_k; rw [c.2.1]), fun a h1' h2' => ?_, ⟨by rw [s.n, c.2.2.1.1]; exact Nat.le_refl _, by rw [s.n, c.2.2.1.1]; omega⟩, by rw [s.cs, c.2.2.1.2]; omega⟩
  have a1 := s.2.2 a (fun z => by have := hX a z; omega)
  have a2 := c.2.2.2.2 a (by omega)
  exact ⟨a1.1.trans a2.1, a1.2.trans a2.2, funext fun k => (s.r a k).trans (c.2.2.2.1 a k (by omega))⟩
theorem cgp.lab {h h' : am_H} {X : List Nat} {g : gD} {f : Nat → Int32} (p : cgp h 3 g) (s : sm X h h') (hX : ∀ x, x ∈ X → x = 5 ∨ (10 ≤ x ∧ x < 95)) (h5 : ∀ v, v < gN g → am_i h' 5 v = f v) : cgp h' 3 (gL g f) := by
  obtain ⟨⟨p1, p2, p3, p4⟩, q1, q2, q3, q4, q5, q6⟩ := p
  have I : ∀ i k, i ≤ 6 → i ≠ 2 → am_i h' (3 + i) k = am_i h (3 + i) k := fun i k hi h2 => s.i (fun z => by have := hX _ z; omega) k
  refine ⟨⟨s.gx p1, ⟨(I 0 0 (by decide) (by decide)).trans p2.1, (I 0 1 (by decide) (by decide)).trans p2.2.1, (I 0 2 (by decide) (by decide)).trans p2.2.2⟩, fun e he => ⟨(I 3 e (by decide) (by decide)).trans (p3 e he).1, (I 4 e (by decide) (by decide)).trans (p3 e he).2⟩, p4⟩, fun e he => (I 5 e (by decide) (by decide)).trans (q1 e he), fun v hv => (I 1 v (by decide) (by decide)).trans (q2 v hv), h5, fun e he => (I 6 e (by decide) (by decide)).trans (q4 e he), ?_, q6⟩
  exact q5.mv (s.r _ _) fun F hF _ => ⟨⟨s.k _, s.k _, s.k _⟩, fun k _ => s.r _ k, fun _ k => s.i (fun z => by have := hX _ z; omega) k⟩
/-- the state behind a change of the graph -/
def stC (st : stD) (g : gD) : stD := (g, (st.1 :: st.2.1).take 8, st.2.2)
section
variable {xs : am_X} {d : Nat} {h : am_H} {st : stD} {Q : am_Q}
def labV (g : gD) (v : Nat) (t : Int32) : gD := gL g (fun w => if w = v then t else gLab g w)
/-- setLabel: its code, its graph -/
def sSetLab (g : gD) (v t : Int32) : Nat := if vin (gN g) v = true then (if t = -nI 1 ∨ isT (gN g) (gT g) t = true then (if (gT g).testBit v.toNatClampNeg = true then 3 else 0) else 2) else 1
set_option maxHeartbeats 8000000 in
theorem k_setLabel (hd : 4 ≤ d) (I : CI h st) (hN : topN h) (v t : Int32) (HX : ∀ k h', sSetLab st.1 v t = k → k ≠ 0 → CI h' st → clF h h' → Q (aR 2 1 3 (k, 0)) h')
    (HQ : ∀ h', sSetLab st.1 v t = 0 → CI h' (stC st (labV st.1 v.toNatClampNeg t)) → clF h h' → Q (.inl (some (.int (nI (gCost (labV st.1 v.toNatClampNeg t)))))) h') : am_C xs am_P0 d m_Mc_setLabel [.ref 1, .int v, .int t] h Q := by
  have hn := I.2.1.1.2.2.2.1.1
  refine am_C_le hd (am_enter (d := 3) ap_Mc_setLabel rfl ?_) (fun _ _ k => k)
  refine am_go (fun p => p == 15) (fun K cal Q' hK hC hQ => ?_)
  refine And.intro (sk_1 I.1) (hC _ _ _ _ (c_requireVertex (by decide) I hN v (fun k k1 k2 => ?_) (fun z => hQ _ _ (HX 1 _ (by unfold sSetLab; rw [if_neg (by rw [z]; decide)]) (by decide) I.thr.1 I.thr.2))))
  subst k2
  rw [q_cl (by omega)] at HQ
  have W : (t = -nI 1 ∨ isT (gN st.1) (gT st.1) t = true) → am_W xs (am_code at_Mc_setLabel) (am_hd ah_Mc_setLabel) (am_C xs am_P0 3) Q 15 [.ref 1, .int (nI k), .int t] [] h := by
    intro hor
    refine am_go (fun _ => false) (fun K cal Q' hK hC hQ => ?_)
    refine And.intro (sk_1 I.1) (And.intro (k13 I.1) ?_)
    show cal m_Gr_isTerminal [.ref (am_r h 1 3), .int (nI k)] h _
    rw [sr_1_3 I.1]
    refine hC _ _ _ _ (c_isTerminal (by decide) I.2.1.1 _ ?_)
    rw [isT_nI k1 (by omega)]
    cases hT : (gT st.1).testBit k with
    | true =>
      refine And.intro (fun z => absurd z q_t1) (fun _ => And.intro (top_lt hN) (hQ _ _ (HX 3 _ ?_ (by decide) I.thr.1 I.thr.2)))
      unfold sSetLab
      rw [if_pos (vin_nI k1 (by omega)), if_pos hor, q_cl (by omega), if_pos hT]
    | false =>
      refine And.intro (fun _ => ?_) (fun z => absurd rfl z)
      have code : sSetLab st.1 (nI k) t = 0 := by
        unfold sSetLab
        rw [if_pos (vin_nI k1 (by omega)), if_pos hor, q_cl (by omega), if_neg (by rw [hT]; decide)]
      refine And.intro (sk_1 I.1) (And.intro (sk_1 I.1) (And.intro (k14 I.1) ?_))
      show cal m_Hi_save [.ref (am_r h 1 4), .ref (am_r h 1 3)] h _
      rw [sr_1_3 I.1, sr_1_4 I.1]
      refine hC _ _ _ _ (c_save (by decide) I.1 I.2.1 I.2.2.1 (fun h1 c p hh => ?_))
      refine And.intro (sk_1 c.1) (And.intro (k13 c.1) (And.intro (ck_row (x := am_r h1 (am_r h1 1 3) 4) (by rw [sr_1_3 c.1]; exact sr_3_4 c.1) (sk_5 c.1) rfl (by omega) (by omega)) ?_))
      have e5 : am_r h1 (am_r h1 1 (515 % 64)) (132 % 64) = 5 := by rw [show am_r h1 1 (515 % 64) = 3 from sr_1_3 c.1]; exact sr_3_4 c.1
      rw [e5, q_cl (by omega)]
      have s : sm [5] h1 (am_pi h1 5 k t) := sm.rf.pi (by decide)
      have p2 : cgp (am_pi h1 5 k t) 3 (labV st.1 k t) := p.lab s (fun x hx => Or.inl (List.mem_singleton.mp hx)) (fun w hw => by
        rw [i_pi_same]
        by_cases e : w = k
        · rw [if_pos e, if_pos e]
        · rw [if_neg e, if_neg e]; exact p.2.2.2.1 w hw)
      obtain ⟨I', F⟩ := I.ch c hh s (fun x hx => by have := List.mem_singleton.mp hx; omega) p2
      refine And.intro (sk_1 I'.1) (And.intro (k13 I'.1) ?_)
      show cal m_Gr_presentCost [.ref (am_r (am_pi h1 5 k t) 1 3)] _ _
      rw [sr_1_3 I'.1]
      exact hC _ _ _ _ (c_presentCost (by decide) I'.2.1.1 I'.2.1.co I'.2.1.2.2.2.1 (And.intro trivial (hQ _ _ (HQ _ code I' F))))
  refine And.intro (fun z => hK _ _ _ _ (W (Or.inl z))) (fun z => ?_)
  have z : ¬ t = -nI 1 := z
  refine And.intro (sk_1 I.1) (hC _ _ _ _ (c_requireTerminal (by decide) I hN t (fun j j1 j2 j3 => hK _ _ _ _ (W (Or.inr (by rw [j2, isT_nI j1 (by omega)]; exact j3)))) (fun w => hQ _ _ (HX 2 _ ?_ (by decide) I.thr.1 I.thr.2))))
  unfold sSetLab
  rw [if_pos (vin_nI k1 (by omega)), if_neg (fun q => q.elim z (fun y => by rw [w] at y; cases y))]
noncomputable def gUseN (g : gD) : gD := gL g (fun v => oG (gNe g v))
noncomputable def gUseU (g : gD) : gD := gL g (fun v => lun (gT g) (gIS g) (gDe g) (gN g) v)
noncomputable def gUseE (g : gD) : gD := gL g (fun v => eL g (gT g) v)
set_option maxHeartbeats 4000000 in
theorem k_useExact (hd : 13 ≤ d) (I : CI h st) (HQ : ∀ h', CI h' (stC st (gUseE st.1)) → clF h h' → Q (.inl (some (.int (nI (gCost (gUseE st.1)))))) h') : am_C xs am_P0 d m_Mc_useExact [.ref 1] h Q := by
  have hn := I.2.1.1.2.2.2.1.1
  refine am_C_le hd (am_enter (d := 12) ap_Mc_useExact rfl ?_) (fun _ _ k => k)
  refine am_go (fun _ => false) (fun K cal Q' hK hC hQ => ?_)
  refine And.intro (sk_1 I.1) (And.intro (sk_1 I.1) (And.intro (k14 I.1) ?_))
  show cal m_Hi_save [.ref (am_r h 1 4), .ref (am_r h 1 3)] h _
  rw [sr_1_3 I.1, sr_1_4 I.1]
  refine hC _ _ _ _ (c_save (by decide) I.1 I.2.1 I.2.2.1 (fun h1 c p hh => ?_))
  have eT : am_i h1 (am_r h1 1 3) 2 = nI (gT st.1) := by rw [sr_1_3 c.1]; exact p.T
  refine And.intro (sk_1 c.1) (And.intro (sk_1 c.1) (And.intro (sk_1 c.1) (And.intro (k13 c.1) (And.intro (k17 c.1) ?_))))
  show cal m_Ex_run [.ref (am_r h1 1 7), .ref (am_r h1 1 3), .int (am_i h1 (am_r h1 1 3) 2)] h1 _
  rw [eT, sr_1_3 c.1, sr_1_7 c.1]
  refine hC _ _ _ _ (c_Ex_run (by decide) c.1 p.1 p.co p.1.2.2.2.1.2.2 (fun h2 s2 r2 => ?_))
  obtain ⟨e1, e2⟩ := exr_eq p.1.2.2.2.2 r2
  have hs2 := s2.sh c.1
  refine And.intro (sk_1 hs2) (And.intro (sk_1 hs2) (And.intro (k17 hs2) (And.intro (k13 hs2) ?_)))
  show cal m_Gr_takeLabels [.ref (am_r h2 1 3), .ref (am_r h2 (am_r h2 1 7) 0)] h2 _
  rw [sr_1_3 hs2, sr_1_7 hs2, sr_80_0 hs2]
  have g2 := p.1.mv s2 (by decide) (by decide) (by decide)
  refine hC _ _ _ _ (c_takeLabels (by decide) (gs_3 hs2) g2.2.1.1 hn (sk_81 hs2) (by decide) (fun h3 s3 r3 => ?_))
  have s23 : sm [5, 80, 81, 82] h1 h3 := (s2.mo (by decide)).tr (s3.mo (by decide))
  have p3 : cgp h3 3 (gUseE st.1) := p.lab s23 (fun x hx => by simp at hx; omega) (fun v hv => (r3 v hv).trans (e2 v hv))
  obtain ⟨I', F⟩ := I.ch c hh s23 (fun x hx => by simp at hx; omega) p3
  refine And.intro (sk_1 I'.1) (And.intro (k13 I'.1) ?_)
  show cal m_Gr_presentCost [.ref (am_r h3 1 3)] _ _
  rw [sr_1_3 I'.1]
  exact hC _ _ _ _ (c_presentCost (by decide) I'.2.1.1 I'.2.1.co I'.2.1.2.2.2.1 (And.intro trivial (hQ _ _ (HQ _ I' F))))
/-- one improvement; some of them, at most k -/
def gBet (g : gD) : Bool := mvi (gM g) (gLo g) (gHi g) (gCo g) (gLab g) (gMv g)
def gImp (g : gD) : gD := gL g (mvl (gLab g) (gMv g))
def gImps : Nat → gD → gD × Nat
  | 0, g => (g, 0)
  | k + 1, g => if gBet g = true then ((gImps k (gImp g)).1, (gImps k (gImp g)).2 + 1) else (g, 0)
end

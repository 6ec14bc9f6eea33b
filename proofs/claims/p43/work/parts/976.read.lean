/-! THE CLASS'S READER: the whole text -/
section
variable {xs : am_X} {d : Nat} {h : am_H} {t : tX} {p : Nat} {g : gD} {L : Nat} {Q : am_Q}
theorem gfX_none {h : am_H} {a : Nat} : gfX h a none = [a + 6] := rfl
/-- the costs, from the formula -/
theorem gCo_fin (g : gD) (e : Nat) : gCo (gFin g) e = gCo g e := rfl
set_option maxHeartbeats 8000000 in
theorem c_finish (hd : 4 ≤ d) (Z : rZ h t p g L) (w : pwf p g L) (hT : TN h) (hN : am_n h < 899000) (h9 : am_r h 69 9 = 0) (HQ : ∀ h', rdG 3 715 h h' → cgp h' 69 (gFin g) → Q (.inl none) h') : am_C xs am_P0 d m_Rd_finish [.ref 68] h Q := by
  have hs := Z.1.1
  have wf := w.1
  have hn := wf.1.1
  have hm := wf.1.2.1
  have hn5 : 95 ≤ am_n h := hs.2.2
  refine am_C_le hd (am_enter (d := 3) ap_Rd_finish rfl ?_) (fun _ _ k => k)
  -- behind the formula
  have rest : ∀ h2, rdG 3 715 h h2 → rGr h2 g → gfo h2 69 (gCs g) → (∀ cs, gCs g = some cs → am_n h ≤ am_r h2 69 9) → ∀ v1, am_W xs (am_code at_Rd_finish) (am_hd ah_Rd_finish) (am_C xs am_P0 3) Q 32 [.ref 68, v1] [] h2 := by
    intro h2 r2 G2 F2 new2 v1
    have hs2 := r2.sh hs
    have cg2 := G2.cg hs2 wf
    refine am_go (fun p => p == 34) (fun K cal Q' hK hC hQ => hK _ _ _ _ ?_)
    refine am_for (gN g) (fun i L' h' => L' = [.ref 68, .int (nI i)] ∧ sm [71] h2 h' ∧ ∀ v, v < i → am_i h' 71 v = gLab (gFin g) v) ?_ ?_ 0 (Nat.zero_le _) _ _ ⟨rfl, sm.rf, fun v hv => absurd hv (Nat.not_lt_zero _)⟩
    · rintro i hi9 L' h' ⟨rfl, s, hv⟩ next
      have eI : am_inc (nI i) (Int.ofNat 1) = nI (i + 1) := nI_1 i
      rw [← eI] at next
      have hs' := s.sh hs2
      have e0 : am_i h' (am_r h' 68 0) 0 = nI (gN g) := by rw [sr_68_0 hs', s.i (by decide)]; exact G2.1.1
      have R4 : am_r h' (am_r h' 68 0) 4 = 71 := by rw [sr_68_0 hs']; exact sr_69_4 hs'
      have cg' : cg h' 69 (gN g) (gM g) (gT g) (gLo g) (gHi g) := cg2.mv s (by decide) (by decide) (by decide)
      have fin : ∀ x : Int32, x = gLab (gFin g) i → am_W xs (am_code at_Rd_finish) (am_hd ah_Rd_finish) (am_C xs am_P0 3) Q 69 [.ref 68, .int (nI i)] [.int x, .int (nI i), .ref 71] h' := by
        intro x hx
        refine am_go (fun p => p == 34) (fun K cal Q' hK hC hQ => ?_)
        refine And.intro (ck_arr (sk_71 hs') rfl (by omega) (by decide)) ?_
        refine hK _ _ _ _ (next _ _ ⟨rfl, s.pi (by decide), fun v hv2 => ?_⟩)
        rw [q_cl (by omega), i_pi_same]
        by_cases e : v = i
        · rw [if_pos e, hx, e]
        · rw [if_neg e]; exact hv v (by omega)
      refine am_go (fun p => p == 34 || p == 69) (fun K cal Q' hK hC hQ => ?_)
      refine And.intro (sk_68 hs') (And.intro (k69 hs') (And.intro (fun z => absurd z (q_ge e0 hi9 (by omega))) (fun _ => ?_)))
      refine And.intro (sk_68 hs') (And.intro (k69 hs') (And.intro (sk_68 hs') (And.intro (k69 hs') ?_)))
      show cal m_Gr_isTerminal [.ref (am_r h' 68 0), .int (nI i)] h' _
      rw [show am_r h' (am_r h' 68 (448 % 64)) (132 % 64) = 71 from R4, sr_68_0 hs']
      refine hC _ _ _ _ (c_isTerminal (by decide) cg' (nI i) ?_)
      rw [isT_nI hi9 (by omega)]
      cases e : (gT g).testBit i with
      | true => exact And.intro (fun y => absurd y q_t1) (fun _ => hK _ _ _ _ (fin _ (by show _ = if (gT g).testBit i = true then nI i else -nI 1; rw [if_pos e])))
      | false => exact And.intro (fun _ => hK _ _ _ _ (fin _ (by show _ = if (gT g).testBit i = true then nI i else -nI 1; rw [if_neg (by rw [e]; decide)]))) (fun y => absurd rfl y)
    · rintro L' h3 ⟨rfl, s3, hlab⟩
      have hs3 := s3.sh hs2
      have e0 : am_i h3 (am_r h3 68 0) 0 = nI (gN g) := by rw [sr_68_0 hs3, s3.i (by decide)]; exact G2.1.1
      refine am_go (fun p => p == 34 || p == 78) (fun K cal Q' hK hC hQ => ?_)
      refine And.intro (sk_68 hs3) (And.intro (k69 hs3) (And.intro (fun _ => hK _ _ _ _ ?_) (fun z => absurd (q_le e0 (by omega)) z)))
      have N3 : ∀ x, x ≠ 71 → ∀ k, am_i h3 x k = am_i h2 x k := fun x hx k => s3.i (fun z => hx (List.mem_singleton.mp z)) k
      have r9 : am_r h3 69 9 = am_r h2 69 9 := s3.r _ _
      have T2 := r2.TN hT
      have F3 : gfo h3 69 (gCs g) := F2.rd (rdG.sm s3 (fun x hx => by have := List.mem_singleton.mp hx; omega)) T2 (Or.inr ⟨rfl, r9⟩) hs2.2.2
      have G3 : rGr h3 g := ⟨⟨(N3 69 (by decide) _).trans G2.1.1, (N3 69 (by decide) _).trans G2.1.2.1, (N3 69 (by decide) _).trans G2.1.2.2⟩, fun e he => ⟨(N3 72 (by decide) _).trans (G2.2.1 e he).1, (N3 73 (by decide) _).trans (G2.2.1 e he).2.1, (N3 74 (by decide) _).trans (G2.2.1 e he).2.2⟩, fun v hv => (N3 70 (by decide) _).trans (G2.2.2 v hv)⟩
      -- cells of the costs
      have hX : ∀ x, x ∈ gfX h3 69 (gCs g) → x = 75 ∨ (97 ≤ x ∧ x = am_r h3 69 9 + 2 ∧ ∃ cs, gCs g = some cs) := by
        intro x hx
        cases hcs : gCs g with
        | none => rw [hcs, gfX_none] at hx; exact Or.inl (List.mem_singleton.mp hx)
        | some cs =>
          rw [hcs] at hx F3
          have hx : x ∈ [75, am_r h3 69 9 + 2] := hx
          simp at hx
          rcases hx with hx | hx
          · exact Or.inl hx
          · exact Or.inr ⟨by have := F3.1; omega, hx, cs, rfl⟩
      have F1 : ∀ x, x ∈ gfX h3 69 (gCs g) → x ≠ am_r h3 69 9 + 1 ∨ gCs g = none := by
        intro x hx
        rcases hX x hx with e | ⟨a, b, _⟩
        · cases hcs : gCs g with
          | none => exact Or.inr rfl
          | some cs => rw [hcs] at F3; exact Or.inl (by have := F3.1; omega)
        · exact Or.inl (by omega)
      refine am_for (gM g) (fun i L' h' => L' = [.ref 68, .int (nI i)] ∧ sm (gfX h3 69 (gCs g)) h3 h' ∧ ∀ k, k < i → am_i h' 75 k = nI (gCo g k)) ?_ ?_ 0 (Nat.zero_le _) _ _ ⟨rfl, sm.rf, fun v hv => absurd hv (Nat.not_lt_zero _)⟩
      · rintro i hi9 L' h' ⟨rfl, s, hv⟩ next
        have eI : am_inc (nI i) (Int.ofNat 1) = nI (i + 1) := nI_1 i
        rw [← eI] at next
        have hs' := s.sh hs3
        have N : ∀ x, x < 95 → x ≠ 75 → ∀ k, am_i h' x k = am_i h3 x k := fun x h1 h2 k => s.i (fun z => by rcases hX x z with q | q <;> omega) k
        have e1 : am_i h' (am_r h' 68 0) 1 = nI (gM g) := by rw [sr_68_0 hs', N 69 (by decide) (by decide)]; exact G3.1.2.1
        obtain ⟨b1, b2⟩ := wf.2.1 i hi9
        have F' : gfo h' 69 (gCs g) := F3.mv (s.r _ _) (fun F hF hk => ⟨⟨s.k _, s.k _, s.k _⟩, fun k _ => s.r _ k, fun ⟨N, hN⟩ k => s.i (fun z => by
          rcases hX _ z with q | ⟨q1, q2, cs, q3⟩
          · omega
          · rw [q3] at F3
            have := F3.2.1.2.2.2.1
            have hk2 := F3.2.1.1
            rw [show F = am_r h3 69 9 + 1 by omega] at hk
            rw [hk] at this
            cases this) k⟩)
        refine am_go (fun p => p == 78) (fun K cal Q' hK hC hQ => ?_)
        refine And.intro (sk_68 hs') (And.intro (k69 hs') (And.intro (fun z => absurd z (q_ge e1 hi9 (by omega))) (fun _ => ?_)))
        refine And.intro (sk_68 hs') (And.intro (k69 hs') ?_)
        show cal m_Gr_updateCost [.ref (am_r h' 68 0), .int (nI i)] h' _
        rw [sr_68_0 hs']
        refine hC _ _ _ _ (c_updateCost (by decide) (by decide) (gs_69 hs') F' (by omega) (lo := gLo g i) (hi := gHi g i) (w := gWt g i) (l := gLd g (gLo g i)) (g := gLd g (gHi g i)) ((N 72 (by decide) (by decide) _).trans (G3.2.1 i hi9).1) ((N 73 (by decide) (by decide) _).trans (G3.2.1 i hi9).2.1) ((N 74 (by decide) (by decide) _).trans (G3.2.1 i hi9).2.2) ((N 70 (by decide) (by decide) _).trans (G3.2.2 _ (by omega))) ((N 70 (by decide) (by decide) _).trans (G3.2.2 _ (by omega))) (by omega) (by omega) (wf.2.2.1 i hi9) (w.2.2.1 _) (w.2.2.1 _) (fun h4 s4 f4 => ?_))
        have eX : gfX h' 69 (gCs g) = gfX h3 69 (gCs g) := by
          cases hcs : gCs g with
          | none => rfl
          | some cs => show [69 + 6, am_r h' 69 9 + 2] = [69 + 6, am_r h3 69 9 + 2]; rw [s.r]
        rw [eX] at s4
        refine hK _ _ _ _ (next _ _ ⟨rfl, s.tr s4, fun k hk => ?_⟩)
        rw [f4]
        by_cases e : k = i
        · rw [if_pos e, e]; rfl
        · rw [if_neg e]; exact hv k (by omega)
      · rintro L' h' ⟨rfl, s, hcost⟩
        have hs' := s.sh hs3
        have N : ∀ x, x < 95 → x ≠ 75 → ∀ k, am_i h' x k = am_i h3 x k := fun x h1 h2 k => s.i (fun z => by rcases hX x z with q | q <;> omega) k
        have e1 : am_i h' (am_r h' 68 0) 1 = nI (gM g) := by rw [sr_68_0 hs', N 69 (by decide) (by decide)]; exact G3.1.2.1
        refine am_go (fun p => p == 78) (fun K cal Q' hK hC hQ => ?_)
        refine And.intro (sk_68 hs') (And.intro (k69 hs') (And.intro (fun _ => And.intro trivial (hQ _ _ (HQ h' ?_ ?_))) (fun z => absurd (q_le e1 (by omega)) z)))
        · -- the frame: the waiting row is new
          have r3 : rdG 3 715 h h3 := (r2.tr (rdG.sm s3 (fun x hx => by have := List.mem_singleton.mp hx; omega))).mo (by decide) (by decide)
          refine ⟨fun a ha => (s.k a).trans (r3.1 a (by rw [← s.n]; exact ha)), fun x k hx h3' h9' => (s.r x k).trans (r3.2.1 x k hx h3' h9'), fun x hx hn' => ?_, by rw [s.n]; exact r3.2.2.2.1, by rw [s.cs]; exact r3.2.2.2.2⟩
          by_cases z : x ∈ gfX h3 69 (gCs g)
          · rcases hX x z with q | ⟨q1, q2, cs, q3⟩
            · omega
            · have := new2 cs q3
              omega
          · have q := s.2.2 x z
            have q3 := r3.2.2.1 x hx hn'
            exact ⟨q.1.trans q3.1, q.2.trans q3.2⟩
        · have F' : gfo h' 69 (gCs g) := F3.mv (s.r _ _) (fun F hF hk => ⟨⟨s.k _, s.k _, s.k _⟩, fun k _ => s.r _ k, fun ⟨N, hN⟩ k => s.i (fun z => by
            rcases hX _ z with q | ⟨q1, q2, cs, q3⟩
            · omega
            · rw [q3] at F3
              have := F3.2.1.2.2.2.1
              have hk2 := F3.2.1.1
              rw [show F = am_r h3 69 9 + 1 by omega] at hk
              rw [hk] at this
              cases this) k⟩)
          refine ⟨⟨gs_69 hs', ⟨(N 69 (by decide) (by decide) _).trans G3.1.1, (N 69 (by decide) (by decide) _).trans G3.1.2.1, (N 69 (by decide) (by decide) _).trans G3.1.2.2⟩, fun e he => ⟨(N 72 (by decide) (by decide) _).trans (G3.2.1 e he).1, (N 73 (by decide) (by decide) _).trans (G3.2.1 e he).2.1⟩, wf.1, wf.2.1⟩, fun e he => (N 74 (by decide) (by decide) _).trans (G3.2.1 e he).2.2, fun v hv => (N 70 (by decide) (by decide) _).trans (G3.2.2 v (Nat.lt_of_lt_of_le hv hn)), fun v hv => (N 71 (by decide) (by decide) _).trans (hlab v hv), fun e he => hcost e he, F', gwf_fin wf⟩
  refine am_go (fun p => p == 32) (fun K cal Q' hK hC hQ => ?_)
  have e10 : am_i h 68 10 = bI (gCs g).isSome := Z.2.1.2.2
  cases hcs : gCs g with
  | none =>
    rw [hcs] at e10
    refine And.intro (sk_68 hs) (And.intro (fun _ => hK _ _ _ _ (rest h (rdG.rf.mo (by decide) (by decide)) Z.2.1.1 (by rw [hcs]; exact h9) (fun cs q => by rw [hcs] at q; cases q) am_J)) (fun y => absurd e10 y))
  | some cs =>
    rw [hcs] at e10
    have Zc := Z.2.2.1
    rw [hcs] at Zc
    have Zc : rCd h cs := Zc
    have lcs : cs.length < 700 := (wf.2.2.2.2 cs hcs).2
    have fok : foOk cs 0 1 := (wf.2.2.2.2 cs hcs).1
    refine And.intro (sk_68 hs) (And.intro (fun y => absurd (e10.symm.trans y) q_t1) (fun _ => ?_))
    refine And.intro (sk_68 hs) (And.intro (by show am_n h < 1000000; omega) ?_)
    have e69 : am_r h 68 0 = 69 := sr_68_0 hs
    have ke : ∀ x, x < 95 → am_k (am_new h 1 1 2) x = am_k h x := fun x hx => by rw [k_new, if_neg (by omega)]
    have re : ∀ x k, x < 95 → am_r (am_new h 1 1 2) x k = am_r h x k := fun x k hx => by rw [r_new, if_neg (by omega)]
    have ie : ∀ x k, x < 95 → am_i (am_new h 1 1 2) x k = am_i h x k := fun x k hx => by rw [i_new, if_neg (by omega)]
    have k68 : am_k (am_new h 1 1 2) 68 = (1, 7) := (ke 68 (by decide)).trans (sk_68 hs)
    refine And.intro k68 (And.intro k68 (And.intro trivial ?_))
    show cal m_JA_copyOf [.ref (am_r (am_new h 1 1 2) 68 11), .int (am_i (am_new h 1 1 2) 68 12)] (am_new h 1 1 2) _
    rw [re 68 11 (by decide), sr_68_11 hs, ie 68 12 (by decide), Zc.1]
    refine hC _ _ _ _ (c_copyOf (by decide) ((ke 77 (by decide)).trans (sk_77 hs)) (by rw [n_new]; omega) (by rw [n_new]; omega) lcs (fun h2 eh2 => ?_))
    have n2 : am_n h2 = am_n h + 2 := by rw [eh2]; rfl
    have kF2 : am_k h2 (am_n h) = (1, 1) := by
      rw [eh2]
      show (if am_n h = am_n h + 1 then _ else if am_n h = am_n h then (1, 1) else _) = (1, 1)
      rw [if_neg (by omega), if_pos rfl]
    refine And.intro kF2 (hC _ _ _ _ (c_Fo_init (by decide) (by omega) kF2 (by omega) (by omega) (fun h3 eh3 => ?_)))
    rw [n2] at eh3
    have J : ∀ x k, x < 95 → am_i (am_pr h3 69 9 (am_n h)) x k = am_i h x k := fun x k hx => by
      rw [i_pr, eh3, i_pr, i_pr, i_new, if_neg (by omega), eh2, i_cp, if_neg (by rw [n_new]; omega), i_new, if_neg (by rw [n_new]; omega), ie x k hx]
    have KK : ∀ a, am_k (am_pr h3 69 9 (am_n h)) a = if a = am_n h + 2 then (2, 11) else if a = am_n h + 1 then (2, cs.length) else if a = am_n h then (1, 1) else am_k h a := fun a => by
      rw [k_pr, eh3, k_pr, k_pr, k_new, n2, eh2]
      rfl
    have k3 : am_k h3 (am_r h 68 0) = (1, 2) := by
      have := KK 69
      rw [k_pr, if_neg (by omega), if_neg (by omega), if_neg (by omega)] at this
      rw [e69, this]
      exact sk_69 hs
    refine And.intro k3 (hK _ _ _ _ ?_)
    show am_W _ _ _ _ _ 32 [.ref 68, am_J] [] (am_pr h3 (am_r h 68 0) 9 (am_n h))
    rw [e69]
    have rd : rdG 3 715 h (am_pr h3 69 9 (am_n h)) := by
      rw [eh3, eh2]
      exact ((((((((rdG.rf.new (t := 1) (n := 1) (m := 2)).new (t := 2) (n := cs.length) (m := cs.length)).pcp (by rw [n_new]; omega)).new (t := 2) (n := 11) (m := 11)).pin (by omega)).pin (by omega)).pr9).mo (by decide) (by omega))
    have r9 : am_r (am_pr h3 69 9 (am_n h)) 69 9 = am_n h := by rw [r_pr, if_pos rfl, if_pos rfl]
    refine rest _ rd ⟨⟨(J 69 _ (by decide)).trans Z.2.1.1.1.1, (J 69 _ (by decide)).trans Z.2.1.1.1.2.1, (J 69 _ (by decide)).trans Z.2.1.1.1.2.2⟩, fun e he => ⟨(J 72 _ (by decide)).trans (Z.2.1.1.2.1 e he).1, (J 73 _ (by decide)).trans (Z.2.1.1.2.1 e he).2.1, (J 74 _ (by decide)).trans (Z.2.1.1.2.1 e he).2.2⟩, fun v hv => (J 70 _ (by decide)).trans (Z.2.1.1.2.2 v hv)⟩ ?_ (fun _ _ => by rw [r9]; exact Nat.le_refl _) am_J
    rw [hcs]
    refine ⟨by rw [r9]; omega, ?_, fok⟩
    rw [r9]
    refine ⟨?_, ?_, ?_, ?_, ?_, fun k hk => ?_, lcs⟩
    · rw [KK, if_neg (by omega), if_neg (by omega), if_pos rfl]
    · rw [r_pr, if_neg (by omega), eh3, r_pr, if_pos rfl, if_pos rfl, n_new]
    · rw [r_pr, if_neg (by omega), eh3, r_pr, if_pos rfl, if_neg (by decide), r_pr, if_pos rfl, if_pos rfl]
    · rw [KK, if_neg (by omega), if_pos rfl]
    · rw [KK, if_pos rfl]
    · rw [i_pr, eh3, i_pr, i_pr, i_new, if_neg (by omega), eh2, i_cp, if_pos (by rw [n_new]; omega), Nat.sub_zero, Nat.zero_add, i_new, if_neg (by rw [n_new]; omega), ie 77 k (by decide)]
      exact Zc.2 k hk
end

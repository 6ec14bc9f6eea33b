/-! THE CLASS'S QUESTIONS, 3 -/
theorem cgp.T {h : am_H} {a : Nat} {g : gD} (p : cgp h a g) : am_i h a 2 = nI (gT g) := p.1.2.1.2.2
section
variable {xs : am_X} {d : Nat} {h : am_H} {st : stD} {Q : am_Q}
theorem eT3 (I : CI h st) : am_i h (am_r h 1 3) 2 = nI (gT st.1) := by rw [sr_1_3 I.1]; exact I.2.1.T
set_option maxHeartbeats 4000000 in
theorem k_exactCost (hd : 13 ≤ d) (I : CI h st) (HQ : ∀ h', CI h' st → clF h h' → Q (.inl (some (.int (nI (eC st.1 (gT st.1)))))) h') : am_C xs am_P0 d m_Mc_exactCost [.ref 1] h Q := by
  refine am_C_le hd (am_enter (d := 12) ap_Mc_exactCost rfl ?_) (fun _ _ k => k)
  refine am_go (fun _ => false) (fun K cal Q' hK hC hQ => ?_)
  refine And.intro (sk_1 I.1) (And.intro (sk_1 I.1) (And.intro (sk_1 I.1) (And.intro (k13 I.1) (And.intro (k17 I.1) ?_))))
  show cal 10 [.ref (am_r h 1 7), .ref (am_r h 1 3), .int (am_i h (am_r h 1 3) 2)] h _
  rw [eT3 I, sr_1_3 I.1, sr_1_7 I.1]
  refine hC _ _ _ _ (c_Ex_run (by decide) I.1 I.2.1.1 I.2.1.co I.2.1.1.2.2.2.1.2.2 (fun h' s r => ?_))
  obtain ⟨I', F⟩ := I.q s rfl
  obtain ⟨r1, r2⟩ := exr_eq I.2.1.1.2.2.2.2 r
  refine And.intro (sk_1 I'.1) (And.intro (k17 I'.1) (And.intro trivial (hQ _ _ ?_)))
  show Q (.inl (some (.int (am_i h' (am_r h' 1 7) 1)))) h'
  rw [sr_1_7 I'.1, r1]
  exact HQ _ I' F
set_option maxHeartbeats 4000000 in
theorem k_exact (hd : 13 ≤ d) (I : CI h st) (hN : topN h) (v : Int32) (HQ : ∀ h', CI h' st → clF h h' → Q (aR 2 0 0 (sEx st.1 v)) h') : am_C xs am_P0 d m_Mc_exact [.ref 1, .int v] h Q := by
  have hn := I.2.1.1.2.2.2.1.1
  refine am_C_le hd (am_enter (d := 12) ap_Mc_exact rfl ?_) (fun _ _ k => k)
  refine am_go (fun _ => false) (fun K cal Q' hK hC hQ => ?_)
  refine And.intro (sk_1 I.1) (hC _ _ _ _ (c_requireVertex (by decide) I hN v (fun k k1 k2 => ?_) (fun z => ?_)))
  · subst k2
    refine And.intro (sk_1 I.1) (And.intro (sk_1 I.1) (And.intro (sk_1 I.1) (And.intro (k13 I.1) (And.intro (k17 I.1) ?_))))
    show cal 10 [.ref (am_r h 1 7), .ref (am_r h 1 3), .int (am_i h (am_r h 1 3) 2)] h _
    rw [eT3 I, sr_1_3 I.1, sr_1_7 I.1]
    refine hC _ _ _ _ (c_Ex_run (by decide) I.1 I.2.1.1 I.2.1.co I.2.1.1.2.2.2.1.2.2 (fun h' s r => ?_))
    obtain ⟨I', F⟩ := I.q s rfl
    obtain ⟨r1, r2⟩ := exr_eq I.2.1.1.2.2.2.2 r
    refine And.intro (sk_1 I'.1) (And.intro (k17 I'.1) (And.intro (ck_row (x := am_r h' (am_r h' 1 7) 0) (by rw [sr_1_7 I'.1]; exact sr_80_0 I'.1) (sk_81 I'.1) rfl (by omega) (by omega)) (And.intro trivial (hQ _ _ ?_))))
    show Q (.inl (some (.int (am_i h' (am_r h' (am_r h' 1 7) 0) (nI k).toNatClampNeg)))) h'
    rw [sr_1_7 I'.1, sr_80_0 I'.1, q_cl (by omega), r2 k k1]
    have := HQ _ I' F
    unfold sEx at this
    rw [if_pos (vin_nI k1 (by omega)), q_cl (by omega)] at this
    exact this
  · have := HQ _ I.thr.1 I.thr.2
    unfold sEx at this
    rw [if_neg (by rw [z]; decide)] at this
    exact hQ _ _ this
set_option maxHeartbeats 4000000 in
theorem k_price (hd : 13 ≤ d) (I : CI h st) (hN : topN h) (t : Int32) (HQ : ∀ h', CI h' st → clF h h' → Q (aR 1 0 0 (sPrice st.1 t)) h') : am_C xs am_P0 d m_Mc_price [.ref 1, .int t] h Q := by
  have hn := I.2.1.1.2.2.2.1.1
  refine am_C_le hd (am_enter (d := 12) ap_Mc_price rfl ?_) (fun _ _ k => k)
  refine am_go (fun _ => false) (fun K cal Q' hK hC hQ => ?_)
  refine And.intro (sk_1 I.1) (hC _ _ _ _ (c_requireTerminal (by decide) I hN t (fun k k1 k2 k3 => ?_) (fun z => ?_)))
  · subst k2
    refine And.intro (sk_1 I.1) (And.intro (sk_1 I.1) (And.intro (sk_1 I.1) (And.intro (k13 I.1) (And.intro (k17 I.1) ?_))))
    show cal 10 [.ref (am_r h 1 7), .ref (am_r h 1 3), .int (am_i h (am_r h 1 3) 2)] h _
    rw [eT3 I, sr_1_3 I.1, sr_1_7 I.1]
    refine hC _ _ _ _ (c_Ex_run (by decide) I.1 I.2.1.1 I.2.1.co I.2.1.1.2.2.2.1.2.2 (fun h' s r => ?_))
    obtain ⟨I', F⟩ := I.q s rfl
    obtain ⟨r1, r2⟩ := exr_eq I.2.1.1.2.2.2.2 r
    refine And.intro (sk_1 I'.1) (And.intro (k17 I'.1) (And.intro (sk_1 I'.1) (And.intro (sk_1 I'.1) (And.intro (sk_1 I'.1) (And.intro (k13 I'.1) (And.intro (k17 I'.1) ?_))))))
    have e1 : am_i h' (am_r h' 1 3) 2 &&& ((nI 1 <<< (nI k &&& 31)) ^^^ -nI 1) = nI (andn (gT st.1) (2 ^ k)) := by rw [eT3 I', q_shl k (by omega)]; exact q_andn _ _
    show cal 10 [.ref (am_r h' 1 7), .ref (am_r h' 1 3), .int (am_i h' (am_r h' 1 3) 2 &&& ((nI 1 <<< (nI k &&& 31)) ^^^ -nI 1))] h' _
    rw [e1, sr_1_3 I'.1, sr_1_7 I'.1]
    refine hC _ _ _ _ (c_Ex_run (by decide) I'.1 I'.2.1.1 I'.2.1.co (andn_lt _ I.2.1.1.2.2.2.1.2.2) (fun h2 s2 r3 => ?_))
    obtain ⟨I2, F2⟩ := I.q (s.tr s2) rfl
    obtain ⟨r4, r5⟩ := exr_eq I.2.1.1.2.2.2.2 r3
    refine And.intro (sk_1 I2.1) (And.intro (k17 I2.1) (And.intro trivial (hQ _ _ ?_)))
    show Q (.inl (some (.int (am_i h' 80 1 - am_i h2 (am_r h2 1 7) 1)))) h2
    rw [sr_1_7 I2.1, r1, r4]
    have := HQ _ I2 F2
    unfold sPrice at this
    rw [if_pos (by rw [isT_nI k1 (by omega)]; exact k3), q_cl (by omega)] at this
    exact this
  · have := HQ _ I.thr.1 I.thr.2
    unfold sPrice at this
    rw [if_neg (by rw [z]; decide)] at this
    exact hQ _ _ this
set_option maxHeartbeats 4000000 in
theorem k_nearest (hd : 4 ≤ d) (I : CI h st) (hN : topN h) (v : Int32) (HQ : ∀ h', CI h' st → clF h h' → Q (aR 2 0 0 (sNear st.1 v)) h') : am_C xs am_P0 d m_Mc_nearest [.ref 1, .int v] h Q := by
  have hn := I.2.1.1.2.2.2.1.1
  refine am_C_le hd (am_enter (d := 3) ap_Mc_nearest rfl ?_) (fun _ _ k => k)
  refine am_go (fun _ => false) (fun K cal Q' hK hC hQ => ?_)
  refine And.intro (sk_1 I.1) (hC _ _ _ _ (c_requireVertex (by decide) I hN v (fun k k1 k2 => ?_) (fun z => ?_)))
  · subst k2
    refine And.intro (sk_1 I.1) (And.intro (sk_1 I.1) (And.intro (k18 I.1) ?_))
    show cal 50 [.ref (am_r h 1 8), .ref (am_r h 1 3)] h _
    rw [sr_1_3 I.1, sr_1_8 I.1]
    refine hC _ _ _ _ (c_Ne_run (by decide) I.1 I.2.1.1 I.2.1.co (fun h' s r => ?_))
    obtain ⟨I', F⟩ := I.q s rfl
    refine And.intro (sk_1 I'.1) (And.intro (k18 I'.1) (And.intro (ck_row (x := am_r h' (am_r h' 1 8) 0) (by rw [sr_1_8 I'.1]; exact sr_83_0 I'.1) (sk_84 I'.1) rfl (by omega) (by omega)) (And.intro trivial (hQ _ _ ?_))))
    show Q (.inl (some (.int (am_i h' (am_r h' (am_r h' 1 8) 0) (nI k).toNatClampNeg)))) h'
    rw [sr_1_8 I'.1, sr_83_0 I'.1, q_cl (by omega), (r k (by omega)).1]
    have := HQ _ I' F
    unfold sNear at this
    rw [if_pos (vin_nI k1 (by omega)), q_cl (by omega)] at this
    exact this
  · have := HQ _ I.thr.1 I.thr.2
    unfold sNear at this
    rw [if_neg (by rw [z]; decide)] at this
    exact hQ _ _ this
set_option maxHeartbeats 4000000 in
theorem k_distance (hd : 4 ≤ d) (I : CI h st) (hN : topN h) (v : Int32) (HQ : ∀ h', CI h' st → clF h h' → Q (aR 2 0 0 (sDist st.1 v)) h') : am_C xs am_P0 d m_Mc_distance [.ref 1, .int v] h Q := by
  have hn := I.2.1.1.2.2.2.1.1
  refine am_C_le hd (am_enter (d := 3) ap_Mc_distance rfl ?_) (fun _ _ k => k)
  refine am_go (fun _ => false) (fun K cal Q' hK hC hQ => ?_)
  refine And.intro (sk_1 I.1) (hC _ _ _ _ (c_requireVertex (by decide) I hN v (fun k k1 k2 => ?_) (fun z => ?_)))
  · subst k2
    refine And.intro (sk_1 I.1) (And.intro (sk_1 I.1) (And.intro (k18 I.1) ?_))
    show cal 50 [.ref (am_r h 1 8), .ref (am_r h 1 3)] h _
    rw [sr_1_3 I.1, sr_1_8 I.1]
    refine hC _ _ _ _ (c_Ne_run (by decide) I.1 I.2.1.1 I.2.1.co (fun h' s r => ?_))
    obtain ⟨I', F⟩ := I.q s rfl
    refine And.intro (sk_1 I'.1) (And.intro (k18 I'.1) (And.intro (ck_row (x := am_r h' (am_r h' 1 8) 1) (by rw [sr_1_8 I'.1]; exact sr_83_1 I'.1) (sk_85 I'.1) rfl (by omega) (by omega)) (And.intro trivial (hQ _ _ ?_))))
    show Q (.inl (some (.int (am_i h' (am_r h' (am_r h' 1 8) 1) (nI k).toNatClampNeg)))) h'
    rw [sr_1_8 I'.1, sr_83_1 I'.1, q_cl (by omega), (r k (by omega)).2]
    have := HQ _ I' F
    unfold sDist at this
    rw [if_pos (vin_nI k1 (by omega)), q_cl (by omega)] at this
    exact this
  · have := HQ _ I.thr.1 I.thr.2
    unfold sDist at this
    rw [if_neg (by rw [z]; decide)] at this
    exact hQ _ _ this
set_option maxHeartbeats 4000000 in
theorem k_cost (hd : 3 ≤ d) (I : CI h st) (HQ : ∀ h', CI h' st → clF h h' → Q (.inl (some (.int (nI (gCost st.1))))) h') : am_C xs am_P0 d m_Mc_cost [.ref 1] h Q := by
  refine am_C_le hd (am_enter (d := 2) ap_Mc_cost rfl ?_) (fun _ _ k => k)
  refine am_go (fun _ => false) (fun K cal Q' hK hC hQ => ?_)
  refine And.intro (sk_1 I.1) (And.intro (k13 I.1) ?_)
  show cal 36 [.ref (am_r h 1 3)] h _
  rw [sr_1_3 I.1]
  exact hC _ _ _ _ (c_presentCost (by decide) I.2.1.1 I.2.1.co I.2.1.2.2.2.1 (And.intro trivial (hQ _ _ (HQ _ I clF.rf))))
set_option maxHeartbeats 4000000 in
theorem k_cut (hd : 2 ≤ d) (I : CI h st) (HQ : ∀ h', CI h' st → clF h h' → Q (.inl (some (.int (sCut st.1)))) h') : am_C xs am_P0 d m_Mc_cut [.ref 1] h Q := by
  refine am_C_le hd (am_enter (d := 1) ap_Mc_cut rfl ?_) (fun _ _ k => k)
  refine am_go (fun _ => false) (fun K cal Q' hK hC hQ => ?_)
  refine And.intro (sk_1 I.1) (And.intro (k13 I.1) ?_)
  show cal 35 [.ref (am_r h 1 3)] h _
  rw [sr_1_3 I.1]
  exact hC _ _ _ _ (c_presentCut (by decide) I.2.1.1 I.2.1.2.2.2.1 (And.intro trivial (hQ _ _ (HQ _ I clF.rf))))
set_option maxHeartbeats 4000000 in
theorem k_bestMove (hd : 5 ≤ d) (I : CI h st) (hN : topN h) (w : Int32) (HQ : ∀ h', CI h' st → clF h h' → Q (aR 1 0 0 (sMove st.1 w)) h') : am_C xs am_P0 d m_Mc_bestMove [.ref 1, .int w] h Q := by
  have w0 : (nI 0).toInt = 0 := by decide
  have w1 : (nI 1).toInt = 1 := by decide
  have w2 : (nI 2).toInt = 2 := by decide
  have no : ¬ w = nI 0 → ¬ w = nI 1 → ¬ w = nI 2 → Q (.inr 1) (am_thr h) := fun a b c => by
    have := HQ _ I.thr.1 I.thr.2
    unfold sMove at this
    rw [if_neg a, if_neg b, if_neg c] at this
    exact this
  refine am_C_le hd (am_enter (d := 4) ap_Mc_bestMove rfl ?_) (fun _ _ k => k)
  refine am_go (fun _ => false) (fun K cal Q' hK hC hQ => ?_)
  refine And.intro (fun c => ?_) (fun c => ?_)
  · have c : w < nI 0 := c
    rw [fa_lt, w0] at c
    exact And.intro (top_lt hN) (hQ _ _ (no (fun e => by rw [e, w0] at c; omega) (fun e => by rw [e, w1] at c; omega) (fun e => by rw [e, w2] at c; omega)))
  · have c : ¬ w < nI 0 := c
    rw [fa_lt, w0] at c
    refine And.intro (fun c2 => ?_) (fun c2 => ?_)
    · have c2 : w ≤ nI 2 := c2
      rw [fa_le, w2] at c2
      refine And.intro (sk_1 I.1) (And.intro (sk_1 I.1) (And.intro (k19 I.1) ?_))
      show cal 46 [.ref (am_r h 1 9), .ref (am_r h 1 3)] h _
      rw [sr_1_3 I.1, sr_1_9 I.1]
      refine hC _ _ _ _ (c_Mv_run (by decide) I.1 I.2.1.1 I.2.1.co I.2.1.2.2.2.1 (fun h' s h5 hm => ?_))
      obtain ⟨I', F⟩ := I.mv5 s h5 (fun x hx => by simp at hx; omega)
      have H := HQ _ I' F
      unfold sMove at H
      refine And.intro (fun q => ?_) (fun q => ?_)
      · have q : ¬ w = nI 0 := q
        rw [if_neg q] at H
        refine And.intro (fun q2 => ?_) (fun q2 => ?_)
        · have q2 : ¬ w = nI 1 := q2
          have q3 : w = nI 2 := by
            rw [fa_eq, w2]
            rw [fa_eq, w0] at q
            rw [fa_eq, w1] at q2
            omega
          rw [if_neg q2, if_pos q3] at H
          refine And.intro (sk_1 I'.1) (And.intro (k19 I'.1) (And.intro trivial (hQ _ _ ?_)))
          show Q (.inl (some (.int (am_i h' (am_r h' 1 9) 2)))) h'
          rw [sr_1_9 I'.1, hm.2.2]
          exact H
        · have q2 : w = nI 1 := Classical.not_not.mp q2
          rw [if_pos q2] at H
          refine And.intro (sk_1 I'.1) (And.intro (k19 I'.1) (And.intro trivial (hQ _ _ ?_)))
          show Q (.inl (some (.int (am_i h' (am_r h' 1 9) 1)))) h'
          rw [sr_1_9 I'.1, hm.2.1]
          exact H
      · have q : w = nI 0 := Classical.not_not.mp q
        rw [if_pos q] at H
        refine And.intro (sk_1 I'.1) (And.intro (k19 I'.1) (And.intro trivial (hQ _ _ ?_)))
        show Q (.inl (some (.int (am_i h' (am_r h' 1 9) 0)))) h'
        rw [sr_1_9 I'.1, hm.1]
        exact H
    · have c2 : ¬ w ≤ nI 2 := c2
      rw [fa_le, w2] at c2
      exact And.intro (top_lt hN) (hQ _ _ (no (fun e => by rw [e, w0] at c2; omega) (fun e => by rw [e, w1] at c2; omega) (fun e => by rw [e, w2] at c2; omega)))
end

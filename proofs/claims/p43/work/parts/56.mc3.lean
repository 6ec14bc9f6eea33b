/-! THE CLASS'S QUESTIONS, 3 -/
theorem cgp.T {h : am_H} {a : Nat} {g : gD} (p : cgp h a g) : am_i h a 2 = nI (gT g) := p.1.2.1.2.2
section
variable {xs : am_X} {d : Nat} {h : am_H} {st : stD} {Q : am_Q}
theorem eT3 (I : CI h st) : am_i h (am_r h 1 3) 2 = nI (gT st.1) := by rw [sr_1_3 I.1]; exact I.2.1.T
set_option maxHeartbeats 4000000 in
theorem k_exactCost (hd : 13 ≤ d) (I : CI h st) (HQ : ∀ h', CI h' st → clF h h' → Q (.inl (some (.int (nI (eC st.1 (gT st.1)))))) h') : am_C xs am_P0 d m_Mc_exactCost [.ref 1] h Q := by
  refine am_C_le hd (am_enter (d := 12) ap_Mc_exactCost rfl ?_) (fun _ _ k => k)
  refine am_go (fun _ => false) (fun K cal Q' hK hC hQ => ?_)
  refine And.intro (sk_1 I.1) (And.intro (sk_1 I.1) (And.intro (sk_1 I.1) (And.intro (k13 I.1) (And.intro (k17 I.1) ?_))))
  show cal m_Ex_run [.ref (am_r h 1 7), .ref (am_r h 1 3), .int (am_i h (am_r h 1 3) 2)] h _
  rw [eT3 I, sr_1_3 I.1, sr_1_7 I.1]
  refine hC _ _ _ _ (c_Ex_run (by decide) I.1 I.2.1.1 I.2.1.co I.2.1.1.2.2.2.1.2.2 (fun h' s r => ?_))
  obtain ⟨I', F⟩ := I.q s rfl
  obtain ⟨r1, r2⟩ := exr_eq I.2.1.1.2.2.2.2 r
  refine And.intro (sk_1 I'.1) (And.intro (k17 I'.1) (And.intro trivial (hQ _ _ ?_)))
  show Q (.inl (some (.int (am_i h' (am_r h' 1 7) 1)))) h'
  rw [sr_1_7 I'.1, r1]
  exact HQ _ I' F
set_option maxHeartbeats 4000000 in
theorem k_exact (hd : 13 ≤ d) (I : CI h st) (hN : topN h) (v : Int32) (HQ : ∀ h', CI h' st → clF h h' → Q (aR 2 0 0 (sEx st.1 v)) h') : am_C xs am_P0 d m_Mc_exact [.ref 1, .int v] h Q := by
  have hn := I.2.1.1.2.2.2.1.1
  refine am_C_le hd (am_enter (d := 12) ap_Mc_exact rfl ?_) (fun _ _ k => k)
  refine am_go (fun _ => false) (fun K cal Q' hK hC hQ => ?_)
  refine And.intro (sk_1 I.1) (hC _ _ _ _ (c_requireVertex (by decide) I hN v (fun k k1 k2 => ?_) (fun z => ?_)))
  · subst k2
    refine And.intro (sk_1 I.1) (And.intro (sk_1 I.1) (And.intro (sk_1 I.1) (And.intro (k13 I.1) (And.intro (k17 I.1) ?_))))
    show cal m_Ex_run [.ref (am_r h 1 7), .ref (am_r h 1 3), .int (am_i h (am_r h 1 3) 2)] h _
    rw [eT3 I, sr_1_3 I.1, sr_1_7 I.1]
    refine hC _ _ _ _ (c_Ex_run (by decide) I.1 I.2.1.1 I.2.1.co I.2.1.1.2.2.2.1.2.2 (fun h' s r => ?_))
    obtain ⟨I', F⟩ := I.q s rfl
    obtain ⟨r1, r2⟩ := exr_eq I.2.1.1.2.2.2.2 r
    refine And.intro (sk_1 I'.1) (And.intro (k17 I'.1) (And.intro (ck_row (x := am_r h' (am_r h' 1 7) 0) (by rw [sr_1_7 I'.1]; exact sr_80_0 I'.1) (sk_81 I'.1) rfl (by omega) (by omega)) (And.intro trivial (hQ _ _ ?_))))
    show Q (.inl (some (.int (am_i h' (am_r h' (am_r h' 1 7) 0) (nI k).toNatClampNeg)))) h'
    rw [sr_1_7 I'.1, sr_80_0 I'.1, q_cl (by omega), r2 k k1]
    have := HQ _ I' F
    unfold sEx at this
    rw [if_pos (vin_nI k1 (by omega)), q_cl (by omega)] at this
    exact this
  · have := HQ _ I.thr.1 I.thr.2
    unfold sEx at this
    rw [if_neg (by rw [z]; decide)] at this
    exact hQ _ _ this
set_option maxHeartbeats 4000000 in
theorem k_price (hd : 13 ≤ d) (I : CI h st) (hN : topN h) (t : Int32) (HQ : ∀ h', CI h' st → clF h h' → Q (aR 1 0 0 (sPrice st.1 t)) h') : am_C xs am_P0 d m_Mc_price [.ref 1, .int t] h Q := by
  have hn := I.2.1.1.2.2.2.1.1
  refine am_C_le hd (am_enter (d := 12) ap_Mc_price rfl ?_) (fun _ _ k => k)
  refine am_go (fun _ => false) (fun K cal Q' hK hC hQ => ?_)
  refine And.intro (sk_1 I.1) (hC _ _ _ _ (c_requireTerminal (by decide) I hN t (fun k k1 k2 k3 => ?_) (fun z => ?_)))
  · subst k2
    refine And.intro (sk_1 I.1) (And.intro (sk_1 I.1) (And.intro (sk_1 I.1) (And.intro (k13 I.1) (And.intro (k17 I.1) ?_))))
    show cal m_Ex_run [.ref (am_r h 1 7), .ref (am_r h 1 3), .int (am_i h (am_r h 1 3) 2)] h _
    rw [eT3 I, sr_1_3 I.1, sr_1_7 I.1]
    refine hC _ _ _ _ (c_Ex_run (by decide) I.1 I.2.1.1 I.2.1.co I.2.1.1.2.2.2.1.2.2 (fun h' s r => ?_))
    obtain ⟨I', F⟩ := I.q s rfl
    obtain ⟨r1, r2⟩ := exr_eq I.2.1.1.2.2.2.2 r
    refine And.intro (sk_1 I'.1) (And.intro (k17 I'.1) (And.intro (sk_1 I'.1) (And.intro (sk_1 I'.1) (And.intro (sk_1 I'.1) (And.intro (k13 I'.1) (And.intro (k17 I'.1) ?_))))))
    have e1 : am_i h' (am_r h' 1 3) 2 &&& ((nI 1 <<< (nI k &&& 31)) ^^^ -nI 1) = nI (andn (gT st.1) (2 ^ k)) := by rw [eT3 I', q_shl k (by omega)]; exact q_andn _ _
    show cal m_Ex_run [.ref (am_r h' 1 7), .ref (am_r h' 1 3), .int (am_i h' (am_r h' 1 3) 2 &&& ((nI 1 <<< (nI k &&& 31)) ^^^ -nI 1))] h' _
    rw [e1, sr_1_3 I'.1, sr_1_7 I'.1]
    refine hC _ _ _ _ (c_Ex_run (by decide) I'.1 I'.2.1.1 I'.2.1.co (andn_lt _ I.2.1.1.2.2.2.1.2.2) (fun h2 s2 r3 => ?_))
    obtain ⟨I2, F2⟩ := I.q (s.tr s2) rfl
    obtain ⟨r4, r5⟩ := exr_eq I.2.1.1.2.2.2.2 r3
    refine And.intro (sk_1 I2.1) (And.intro (k17 I2.1) (And.intro trivial (hQ _ _ ?_)))
    show Q (.inl (some (.int (am_i h' 80 1 - am_i h2 (am_r h2 1 7) 1)))) h2
    rw [sr_1_7 I2.1, r1, r4]
    have := HQ _ I2 F2
    unfold sPrice at this
    rw [if_pos (by rw [isT_nI k1 (by omega)]; exact k3), q_cl (by omega)] at this
    exact this
  · have := HQ _ I.thr.1 I.thr.2
    unfold sPrice at this
    rw [if_neg (by rw [z]; decide)] at this
    exact hQ _ _ this
set_option maxHeartbeats 4000000 in
theorem k_nearest (hd : 4 ≤ d) (I : CI h st) (hN : topN h) (v : Int32) (HQ : ∀ h', CI h' st → clF h h' → Q (aR 2 0 0 (sNear st.1 v)) h') : am_C xs am_P0 d m_Mc_nearest [.ref 1, .int v] h Q := by
  have hn := I.2.1.1.2.2.2.1.1
  refine am_C_le hd (am_enter (d := 3) ap_Mc_nearest rfl ?_) (fun _ _ k => k)
  refine am_go (fun _ => false) (fun K cal Q' hK hC hQ => ?_)
  refine And.intro (sk_1 I.1) (hC _ _ _ _ (c_requireVertex (by decide) I hN v (fun k k1 k2 => ?_) (fun z => ?_)))
  · subst k2
    refine And.intro (sk_1 I.1) (And.intro (sk_1 I.1) (And.intro (k18 I.1) ?_))
    show cal m_Ne_run [.ref (am_r h 1 8), .ref (am_r h 1 3)] h _
    rw [sr_1_3 I.1, sr_1_8 I.1]
    refine hC _ _ _ _ (c_Ne_run (by decide) I.1 I.2.1.1 I.2.1.co (fun h' s r => ?_))
    obtain ⟨I', F⟩ := I.q s rfl
    refine And.intro (sk_1 I'.1) (And.intro (k18 I'.1) (And.intro (ck_row (x := am_r h' (am_r h' 1 8) 0) (by rw [sr_1_8 I'.1]; exact sr_83_0 I'.1) (sk_84 I'.1) rfl (by omega) (by omega)) (And.intro trivial (hQ _ _ ?_))))
    show Q (.inl (some (.int (am_i h' (am_r h' (am_r h' 1 8) 0) (nI k).toNatClampNeg)))) h'
    rw [sr_1_8 I'.1, sr_83_0 I'.1, q_cl (by omega), (r k (by omega)).1]
    have := HQ _ I' F
    unfold sNear at this
    rw [if_pos (vin_nI k1 (by omega)), q_cl (by omega)] at this
    exact this
  · have := HQ _ I.thr.1 I.thr.2
    unfold sNear at this
    rw [if_neg (by rw [z]; decide)] at this
    exact hQ _ _ this
set_option maxHeartbeats 4000000 in
theorem k_distance (hd : 4 ≤ d) (I : CI h st) (hN : topN h) (v : Int32) (HQ : ∀ h', CI h' st → clF h h' → Q (aR 2 0 0 (sDist st.1 v)) h') : am_C xs am_P0 d m_Mc_distance [.ref 1, .int v] h Q := by
  have hn := I.2.1.1.2.2.2.1.1
  refine am_C_le hd (am_enter (d := 3) ap_Mc_distance rfl ?_) (fun _ _ k => k)
  refine am_go (fun _ => false) (fun K cal Q' hK hC hQ => ?_)
  refine And.intro (sk_1 I.1) (hC _ _ _ _ (c_requireVertex (by decide) I hN v (fun k k1 k2 => ?_) (fun z => ?_)))
  · subst k2
    refine And.intro (sk_1 I.1) (And.intro (sk_1 I.1) (And.intro (k18 I.1) ?_))
    show cal m_Ne_run [.ref (am_r h 1 8), .ref (am_r h 1 3)] h _
    rw [sr_1_3 I.1, sr_1_8 I.1]
    refine hC _ _ _ _ (c_Ne_run (by decide) I.1 I.2.1.1 I.2.1.co (fun h' s r => ?_))
    obtain ⟨I', F⟩ := I.q s rfl
    refine And.intro (sk_1 I'.1) (And.intro (k18 I'.1) (And.intro (ck_row (x := am_r h' (am_r h' 1 8) 1) (by rw [sr_1_8 I'.1]; exact sr_83_1 I'.1) (sk_85 I'.1) rfl (by omega) (by omega)) (And.intro trivial (hQ _ _ ?_))))
    show Q (.inl (some (.int (am_i h' (am_r h' (am_r h' 1 8) 1) (nI k).toNatClampNeg)))) h'
    rw [sr_1_8 I'.1, sr_83_1 I'.1, q_cl (by omega), (r k (by omega)).2]
    have := HQ _ I' F
    unfold sDist at this
    rw [if_pos (vin_nI k1 (by omega)), q_cl (by omega)] at this
    exact this
  · have := HQ _ I.thr.1 I.thr.2
    unfold sDist at this
    rw [if_neg (by rw [z]; decide)] at this
    exact hQ _ _ this
set_option maxHeartbeats 4000000 in
theorem k_cost (hd : 3 ≤ d) (I : CI h st) (HQ : ∀ h', CI h' st → clF h h' → Q (.inl (some (.int (nI (gCost st.1))))) h') : am_C xs am_P0 d m_Mc_cost [.ref 1] h Q := by
  refine am_C_le hd (am_enter (d := 2) ap_Mc_cost rfl ?_) (fun _ _ k => k)
  refine am_go (fun _ => false) (fun K cal Q' hK hC hQ => ?_)
  refine And.intro (sk_1 I.1) (And.intro (k13 I.1) ?_)
  show cal m_Gr_presentCost [.ref (am_r h 1 3)] h _
  rw [sr_1_3 I.1]
  exact hC _ _ _ _ (c_presentCost (by decide) I.2.1.1 I.2.1.co I.2.1.2.2.2.1 (And.intro trivial (hQ _ _ (HQ _ I clF.rf))))
end

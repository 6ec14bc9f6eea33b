/-! THE CLASS'S QUESTIONS, 2 -/
theorem vin_of {n : Nat} {v : Int32} (hn : n < 2 ^ 30) (h : vin n v = true) : ∃ k, k < n ∧ v = nI k := by
  have h := of_decide_eq_true h
  obtain ⟨j, hj, e⟩ := nI_of (x := v) (by have := h.1; rw [fa_le] at this; rw [fa_lt]; omega)
  refine ⟨j, ?_, e⟩
  have h2 := h.2
  rw [e] at h2
  exact (nI_ltI hj (by omega)).mp h2
theorem vin_big {n k : Nat} (hk : k < n) (hn : n < 2 ^ 30) : vin n (nI k) = true := decide_eq_true ⟨nI_pos' (by omega), nI_lt hk (by omega)⟩
section
variable {xs : am_X} {d : Nat} {h : am_H} {st : stD} {Q : am_Q}
set_option maxHeartbeats 4000000 in
theorem k_cutCost (hd : 3 ≤ d) (I : CI h st) (hN : topN h) (s : Int32) (HQ : ∀ h', CI h' st → clF h h' → Q (aR 1 0 0 (sCutCost st.1 s)) h') : am_C xs am_P0 d m_Mc_cutCost [.ref 1, .int s] h Q := by
  have hn := I.2.1.1.2.2.2.1.1
  have hn9 := pow_le9 hn
  have hp := Nat.two_pow_pos (gN st.1)
  have no : vin (2 ^ gN st.1) s = false → Q (.inr 1) (am_thr h) := fun z => by
    have := HQ _ I.thr.1 I.thr.2
    unfold sCutCost at this
    rw [if_neg (by rw [z]; decide)] at this
    exact this
  refine am_C_le hd (am_enter (d := 2) ap_Mc_cutCost rfl ?_) (fun _ _ k => k)
  refine am_go (fun _ => false) (fun K cal Q' hK hC hQ => ?_)
  refine And.intro (fun c => ?_) (fun c => ?_)
  · have c : s < 0 := c
    exact And.intro (top_lt hN) (hQ _ _ (no (decide_eq_false fun z => by have := z.1; rw [fa_le] at this; rw [fa_lt] at c; omega)))
  · have c : ¬ s < 0 := c
    refine And.intro (sk_1 I.1) (And.intro (k13 I.1) ?_)
    show cal m_Gr_allVertices [.ref (am_r h 1 3)] h _
    rw [sr_1_3 I.1]
    refine hC _ _ _ _ (c_allVertices (by decide) (sk_3 I.1) I.2.1.1.2.1.1 hn ?_)
    refine And.intro (fun c2 => ?_) (fun c2 => ?_)
    · have c2 : s ≤ nI (2 ^ gN st.1 - 1) := c2
      obtain ⟨j, j1, j2⟩ := nI_of c
      subst j2
      have c2 := (nI_leI j1 (by omega)).mp c2
      refine And.intro (sk_1 I.1) (And.intro (k13 I.1) ?_)
      show cal m_Gr_costOfSet [.ref (am_r h 1 3), .int (nI j)] h _
      rw [sr_1_3 I.1]
      refine hC _ _ _ _ (c_costOfSet (by decide) I.2.1.1 I.2.1.co j1 (And.intro trivial (hQ _ _ ?_)))
      have := HQ _ I clF.rf
      unfold sCutCost at this
      rw [if_pos (vin_big (by omega) (by omega)), q_cl j1] at this
      exact this
    · have c2 : ¬ s ≤ nI (2 ^ gN st.1 - 1) := c2
      refine And.intro (top_lt hN) (hQ _ _ (no ?_))
      cases e : vin (2 ^ gN st.1) s with
      | false => rfl
      | true =>
        obtain ⟨k, k1, k2⟩ := vin_of (by omega) e
        exact absurd (by rw [k2]; exact nI_le (by omega) (by omega)) c2
set_option maxHeartbeats 4000000 in
theorem k_isolatingValue (hd : 6 ≤ d) (I : CI h st) (hN : topN h) (t : Int32) (HQ : ∀ h', CI h' st → clF h h' → Q (aR 1 0 0 (sIsoV st.1 t)) h') : am_C xs am_P0 d m_Mc_isolatingValue [.ref 1, .int t] h Q := by
  have hn := I.2.1.1.2.2.2.1.1
  refine am_C_le hd (am_enter (d := 5) ap_Mc_isolatingValue rfl ?_) (fun _ _ k => k)
  refine am_go (fun _ => false) (fun K cal Q' hK hC hQ => ?_)
  refine And.intro (sk_1 I.1) (hC _ _ _ _ (c_requireTerminal (by decide) I hN t (fun k k1 k2 k3 => ?_) (fun z => ?_)))
  · subst k2
    refine And.intro (sk_1 I.1) (And.intro trivial ?_)
    show cal m_Cu_valueOf [.ref (am_r h 1 3), .int (nI k)] h _
    rw [sr_1_3 I.1]
    refine hC _ _ _ _ (c_valueOf (by decide) I.2.1.1 I.2.1.co k1 k3 (And.intro trivial (hQ _ _ ?_)))
    have := HQ _ I clF.rf
    unfold sIsoV at this
    rw [if_pos (by rw [isT_nI k1 (by omega)]; exact k3), q_cl (by omega)] at this
    exact this
  · have := HQ _ I.thr.1 I.thr.2
    unfold sIsoV at this
    rw [if_neg (by rw [z]; decide)] at this
    exact hQ _ _ this
set_option maxHeartbeats 4000000 in
theorem k_isolatingSet (hd : 5 ≤ d) (I : CI h st) (hN : topN h) (t : Int32) (HQ : ∀ h', CI h' st → clF h h' → Q (aR 1 0 0 (sIsoS st.1 t)) h') : am_C xs am_P0 d m_Mc_isolatingSet [.ref 1, .int t] h Q := by
  have hn := I.2.1.1.2.2.2.1.1
  refine am_C_le hd (am_enter (d := 4) ap_Mc_isolatingSet rfl ?_) (fun _ _ k => k)
  refine am_go (fun _ => false) (fun K cal Q' hK hC hQ => ?_)
  refine And.intro (sk_1 I.1) (hC _ _ _ _ (c_requireTerminal (by decide) I hN t (fun k k1 k2 k3 => ?_) (fun z => ?_)))
  · subst k2
    refine And.intro (sk_1 I.1) (And.intro trivial ?_)
    show cal m_Cu_setOf [.ref (am_r h 1 3), .int (nI k)] h _
    rw [sr_1_3 I.1]
    refine hC _ _ _ _ (c_setOf (by decide) I.2.1.1 I.2.1.co k1 k3 (And.intro trivial (hQ _ _ ?_)))
    have := HQ _ I clF.rf
    unfold sIsoS at this
    rw [if_pos (by rw [isT_nI k1 (by omega)]; exact k3), q_cl (by omega)] at this
    exact this
  · have := HQ _ I.thr.1 I.thr.2
    unfold sIsoS at this
    rw [if_neg (by rw [z]; decide)] at this
    exact hQ _ _ this
theorem gSum_s (g : gD) (v : Nat) : gSum g (v + 1) = gSum g v + (if (gT g).testBit v then gIV g v else 0) := rfl
theorem gSum_le {g : gD} (hw : gwf g) (v : Nat) : gSum g v ≤ v * (20 * 9999) := fb_sm_bound fun k _ => by
  have : gIV g k ≤ 20 * 9999 := cutc_le hw.1.2.1 (fun e he => (coF_rng (hw.2.2.1 e he)).2) _
  show (if (gT g).testBit k then gIV g k else 0) ≤ _
  split <;> omega
set_option maxHeartbeats 4000000 in
theorem k_lowerBound (hd : 6 ≤ d) (I : CI h st) (HQ : ∀ h', CI h' st → clF h h' → Q (.inl (some (.int (sLow st.1)))) h') : am_C xs am_P0 d m_Mc_lowerBound [.ref 1] h Q := by
  have hn := I.2.1.1.2.2.2.1.1
  have e0 : am_i h (am_r h 1 3) 0 = nI (gN st.1) := by rw [sr_1_3 I.1]; exact I.2.1.1.2.1.1
  refine am_C_le hd (am_enter (d := 5) ap_Mc_lowerBound rfl ?_) (fun _ _ k => k)
  refine am_go (fun p => p == 4) (fun K cal Q' hK hC hQ => hK _ _ _ _ ?_)
  refine am_for (gN st.1) (fun i L h' => h' = h ∧ L = [.ref 1, .int (nI (gSum st.1 i)), .int (nI i)]) ?_ ?_ 0 (Nat.zero_le _) _ _ ⟨rfl, rfl⟩
  · rintro i hi9 L h' ⟨rfl, rfl⟩ next
    have eI : am_inc (nI i) (Int.ofNat 1) = nI (i + 1) := nI_1 i
    rw [← eI] at next
    refine am_go (fun p => p == 4) (fun K cal Q' hK hC hQ => ?_)
    refine And.intro (sk_1 I.1) (And.intro (k13 I.1) (And.intro (fun z => absurd z (q_ge e0 hi9 (by omega))) (fun _ => ?_)))
    refine And.intro (sk_1 I.1) (And.intro (k13 I.1) ?_)
    show cal m_Gr_isTerminal [.ref (am_r h' 1 3), .int (nI i)] h' _
    rw [sr_1_3 I.1]
    refine hC _ _ _ _ (c_isTerminal (by decide) I.2.1.1 _ ?_)
    rw [isT_nI hi9 (by omega)]
    cases hT : (gT st.1).testBit i with
    | false =>
      refine And.intro (fun _ => hK _ _ _ _ (next _ _ ⟨rfl, ?_⟩)) (fun z => absurd rfl z)
      rw [gSum_s, hT]; rfl
    | true =>
      refine And.intro (fun z => absurd z q_t1) (fun _ => ?_)
      refine And.intro (sk_1 I.1) (And.intro trivial ?_)
      show cal m_Cu_valueOf [.ref (am_r h' 1 3), .int (nI i)] h' _
      rw [sr_1_3 I.1]
      refine hC _ _ _ _ (c_valueOf (by decide) I.2.1.1 I.2.1.co hi9 hT (hK _ _ _ _ (next _ _ ⟨rfl, ?_⟩)))
      rw [gSum_s, if_pos hT, ← nI_add]
      rfl
  · rintro L h' ⟨rfl, rfl⟩
    have hsl := gSum_le I.2.1.2.2.2.2.2.2 (gN st.1)
    refine am_go (fun p => p == 4) (fun K cal Q' hK hC hQ => ?_)
    refine And.intro (sk_1 I.1) (And.intro (k13 I.1) (And.intro (fun _ => ?_) (fun z => absurd (q_le e0 (by omega)) z)))
    refine And.intro (show ¬ nI 2 = 0 by decide) (And.intro trivial (hQ _ _ ?_))
    have hb : gSum st.1 (gN st.1) + 1 < 2 ^ 31 := by
      have : gN st.1 * (20 * 9999) ≤ 9 * (20 * 9999) := Nat.mul_le_mul_right _ hn
      omega
    rw [nI_add, q_div hb (by omega)]
    exact HQ _ I clF.rf
set_option maxHeartbeats 4000000 in
theorem k_dearest (hd : 7 ≤ d) (I : CI h st) (hN : topN h) (HQ : ∀ h', CI h' st → clF h h' → Q (aR 3 0 0 (sDear st.1)) h') : am_C xs am_P0 d m_Mc_dearest [.ref 1] h Q := by
  refine am_C_le hd (am_enter (d := 6) ap_Mc_dearest rfl ?_) (fun _ _ k => k)
  refine am_go (fun _ => false) (fun K cal Q' hK hC hQ => ?_)
  refine And.intro (sk_1 I.1) (hC _ _ _ _ (c_requireSome (by decide) I hN (fun z => ?_) (fun z => ?_)))
  · refine And.intro (sk_1 I.1) (And.intro trivial ?_)
    show cal m_Cu_dearestOf [.ref (am_r h 1 3)] h _
    rw [sr_1_3 I.1]
    refine hC _ _ _ _ (c_dearestOf (by decide) I.2.1.1 I.2.1.co (And.intro trivial (hQ _ _ ?_)))
    have := HQ _ I clF.rf
    unfold sDear at this
    rw [if_neg z] at this
    exact this
  · have := HQ _ I.thr.1 I.thr.2
    unfold sDear at this
    rw [if_pos z] at this
    exact hQ _ _ this
end

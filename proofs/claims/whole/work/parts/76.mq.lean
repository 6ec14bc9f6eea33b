/-! THE MODEL'S QUESTIONS -/
section
variable {xs : am_X} {d : Nat} {h : am_H} {st : stD} {Q : am_Q}
theorem i0_0 (h : am_H) (v : Int32) : am_i (am_pi h 87 0 v) 87 0 = v := by rw [i_pi_same, if_pos rfl]
theorem s00 {h : am_H} (v : Int32) : sfq h (am_pi h 87 0 v) := sfq_thr sf_rf v
/-- what a question's contract says -/
abbrev mQ (h : am_H) (st : stD) (p : Nat × Int32) (Q : am_Q) : Prop := ∀ h', MI h' st → moF h h' → am_i h' 87 0 = nI p.1 → Q (.inl (some (.int p.2))) h'
theorem mQ_of {p : Nat × Int32} {h' : am_H} {v : Int32} (I : MI h st) (HQ : mQ h st p Q) (s : sfq h h') (e0 : am_i h' 87 0 = nI p.1) (ev : v = p.2) : Q (.inl (some (.int v))) h' := by
  rw [ev]
  exact HQ h' (sfq_I s I).1 (sfq_I s I).2 e0
theorem q_thrown (hd : 1 ≤ d) (I : MI h st) (HQ : Q (.inl (some (.int (am_i h 87 0)))) h) : am_C xs am_P0 d m_Mo_thrown [.ref 87] h Q := by
  obtain ⟨w, m, -⟩ := id I
  refine am_C_le hd (am_enter (d := 0) ap_Mo_thrown rfl ?_) (fun _ _ k => k)
  refine am_go (fun _ => false) (fun K cal Q' hK hC hQ => ?_)
  exact And.intro (sk_87 m.1.1) (And.intro trivial (hQ _ _ HQ))
theorem q_errorOffset (hd : 1 ≤ d) (I : MI h st) (HQ : mQ h st (0, st.2.2.2) Q) : am_C xs am_P0 d m_Mo_errorOffset [.ref 87] h Q := by
  obtain ⟨w, m, -, -, e⟩ := id I
  refine am_C_le hd (am_enter (d := 0) ap_Mo_errorOffset rfl ?_) (fun _ _ k => k)
  refine am_go (fun _ => false) (fun K cal Q' hK hC hQ => ?_)
  refine And.intro (sk_87 m.1.1) (And.intro (sk_87 m.1.1) (And.intro trivial (hQ _ _ (mQ_of I HQ (s00 _) (i0_0 _ _) ?_))))
  exact ((s00 (h := h) (nI 0)).2 8 (by decide)).trans e
theorem q_size (hd : 3 ≤ d) (I : MI h st) (HQ : mQ h st (0, nI (gN st.1)) Q) : am_C xs am_P0 d m_Mo_size [.ref 87] h Q := by
  obtain ⟨w, m, -⟩ := id I
  refine am_C_le hd (am_enter (d := 2) ap_Mo_size rfl ?_) (fun _ _ k => k)
  refine am_go (fun _ => false) (fun K cal Q' hK hC hQ => ?_)
  exact And.intro (sk_87 m.1.1) (And.intro (sk_87 m.1.1) (hC _ _ _ _ (w_count (by decide) (sfq_m (s00 _) m) (And.intro trivial (hQ _ _ (mQ_of I HQ (s00 _) (i0_0 _ _) rfl))))))
theorem q_edgeCount (hd : 3 ≤ d) (I : MI h st) (HQ : mQ h st (0, nI (gM st.1)) Q) : am_C xs am_P0 d m_Mo_edgeCount [.ref 87] h Q := by
  obtain ⟨w, m, -⟩ := id I
  refine am_C_le hd (am_enter (d := 2) ap_Mo_edgeCount rfl ?_) (fun _ _ k => k)
  refine am_go (fun _ => false) (fun K cal Q' hK hC hQ => ?_)
  exact And.intro (sk_87 m.1.1) (And.intro (sk_87 m.1.1) (hC _ _ _ _ (w_edges (by decide) (sfq_m (s00 _) m) (And.intro trivial (hQ _ _ (mQ_of I HQ (s00 _) (i0_0 _ _) rfl))))))
theorem q_terminals (hd : 2 ≤ d) (I : MI h st) (HQ : mQ h st (0, nI (gT st.1)) Q) : am_C xs am_P0 d m_Mo_terminals [.ref 87] h Q := by
  obtain ⟨w, m, -⟩ := id I
  have m' := sfq_m (s00 (nI 0)) m
  refine am_C_le hd (am_enter (d := 1) ap_Mo_terminals rfl ?_) (fun _ _ k => k)
  refine am_go (fun _ => false) (fun K cal Q' hK hC hQ => ?_)
  exact And.intro (sk_87 m.1.1) (And.intro (sk_87 m.1.1) (hC _ _ _ _ (w_get (by decide) m'.1 (k := 2) rfl (by decide) m'.2.1.2.2.1 (And.intro trivial (hQ _ _ (mQ_of I HQ (s00 _) (i0_0 _ _) rfl))))))
theorem q_burden (hd : 4 ≤ d) (I : MI h st) (v : Int32) (HQ : mQ h st (sBurden st.1 v) Q) : am_C xs am_P0 d m_Mo_burden [.ref 87, .int v] h Q := by
  obtain ⟨w, m, -⟩ := id I
  have m' := sfq_m (s00 (nI 0)) m
  have hn := mg_n9 m
  unfold sBurden at HQ
  refine am_C_le hd (am_enter (d := 3) ap_Mo_burden rfl ?_) (fun _ _ k => k)
  refine am_go (fun _ => false) (fun K cal Q' hK hC hQ => ?_)
  refine And.intro (sk_87 m.1.1) (And.intro (sk_87 m.1.1) (hC _ _ _ _ (w_isVertex (by decide) m' (i0_0 _ _) (fun k k1 k2 => ?_) (fun e => ?_))))
  · rw [k2, vin_nI k1 (by omega), if_pos rfl, q_cl (by omega)] at HQ
    refine And.intro (fun z => absurd z q_n1) (fun _ => ?_)
    exact And.intro (sk_87 m.1.1) (hC _ _ _ _ (w_get (by decide) m'.1 (k := 6 + k) (by rw [k2, ← nI_add]) (by omega) (m'.2.2.1 k k1) (And.intro trivial (hQ _ _ (mQ_of I HQ (s00 _) (i0_0 _ _) rfl)))))
  · rw [e] at HQ
    exact And.intro (fun _ => And.intro trivial (hQ _ _ (mQ_of I HQ (sfq_thr (s00 _) _) (i0_0 _ _) rfl))) (fun z => absurd rfl z)
theorem q_label (hd : 4 ≤ d) (I : MI h st) (v : Int32) (HQ : mQ h st (sLabel st.1 v) Q) : am_C xs am_P0 d m_Mo_label [.ref 87, .int v] h Q := by
  obtain ⟨w, m, -⟩ := id I
  have m' := sfq_m (s00 (nI 0)) m
  have hn := mg_n9 m
  unfold sLabel at HQ
  refine am_C_le hd (am_enter (d := 3) ap_Mo_label rfl ?_) (fun _ _ k => k)
  refine am_go (fun _ => false) (fun K cal Q' hK hC hQ => ?_)
  refine And.intro (sk_87 m.1.1) (And.intro (sk_87 m.1.1) (hC _ _ _ _ (w_isVertex (by decide) m' (i0_0 _ _) (fun k k1 k2 => ?_) (fun e => ?_))))
  · rw [k2, vin_nI k1 (by omega), if_pos rfl, q_cl (by omega)] at HQ
    refine And.intro (fun z => absurd z q_n1) (fun _ => ?_)
    exact And.intro (sk_87 m.1.1) (hC _ _ _ _ (w_get (by decide) m'.1 (k := 75 + k) (by rw [k2, ← nI_add]) (by omega) (m'.2.2.2.2.1 k k1) (And.intro trivial (hQ _ _ (mQ_of I HQ (s00 _) (i0_0 _ _) rfl)))))
  · rw [e] at HQ
    exact And.intro (fun _ => And.intro trivial (hQ _ _ (mQ_of I HQ (sfq_thr (s00 _) _) (i0_0 _ _) rfl))) (fun z => absurd rfl z)
theorem w_lengthOf {w : Nat} {g : gD} (hd : 1 ≤ d) (m : mg h w g) (hc : mco h g) {e : Nat} (he : e < gM g) (HQ : Q (.inl (some (.int (nI (10000 / gCo g e))))) h) : am_C xs am_P0 d m_Mo_lengthOf [.ref 87, .int (nI e)] h Q := by
  have hm := mg_m20 m
  have hco := mg_co m he
  refine am_C_le hd (am_enter (d := 0) ap_Mo_lengthOf rfl ?_) (fun _ _ k => k)
  refine am_go (fun _ => false) (fun K cal Q' hK hC hQ => ?_)
  have v1 : am_i h (am_r h 87 17) (nI e).toNatClampNeg = nI (gCo g e) := by rw [sr_87_17 m.1.1, q_cl (by omega), hc e he]
  refine And.intro (sk_87 m.1.1) (And.intro (ck_row (sr_87_17 m.1.1) (sk_93 m.1.1) rfl (by omega) (by omega)) (And.intro ?_ (And.intro trivial (hQ _ _ ?_))))
  · show ¬ am_i h (am_r h 87 17) (nI e).toNatClampNeg = 0
    rw [v1]
    exact nI_ne0 (by omega) (by omega)
  · rw [v1, q_div (by omega) (by omega)]
    exact HQ
set_option maxHeartbeats 8000000 in
theorem q_edge (hd : 4 ≤ d) (I : MI h st) (e what : Int32) (HQ : mQ h st (sEdge st.1 e what) Q) : am_C xs am_P0 d m_Mo_edge [.ref 87, .int e, .int what] h Q := by
  obtain ⟨w, m, -⟩ := id I
  have m' := sfq_m (s00 (nI 0)) m
  have hm := mg_m20 m
  unfold sEdge at HQ
  refine am_C_le hd (am_enter (d := 3) ap_Mo_edge rfl ?_) (fun _ _ k => k)
  refine am_go (fun _ => false) (fun K cal Q' hK hC hQ => ?_)
  refine And.intro (sk_87 m.1.1) (And.intro (sk_87 m.1.1) (hC _ _ _ _ (w_edges (by decide) m' ?_)))
  refine And.intro trivial (hC _ _ _ _ (w_isIn (by decide) (q_vin (n := gM st.1) (by omega) (q_pr (by omega))) ?_))
  refine And.intro (sk_87 m.1.1) (hC _ _ _ _ (w_right (by decide) (sk_87 m'.1.1) (i0_0 _ _) (by decide) (by decide) (fun q => ?_) (fun q => ?_)))
  · obtain ⟨k, k1, rfl⟩ := q_range_of (by omega) q
    rw [q, if_pos rfl, q_cl (by omega)] at HQ
    refine And.intro (fun z => absurd z q_n1) (fun _ => ?_)
    have e4 : (lN 4).toInt = ((5 : Nat) : Int) - 1 := by decide +kernel
    refine And.intro trivial (hC _ _ _ _ (w_isIn (by decide) (q_vin (n := 5) (by decide) e4) ?_))
    refine And.intro (sk_87 m.1.1) (hC _ _ _ _ (w_right (by decide) (sk_87 m'.1.1) (i0_0 _ _) (by decide) (by decide) (fun q2 => ?_) (fun q2 => ?_)))
    · obtain ⟨j, j1, rfl⟩ := q_range_of (by decide) q2
      refine And.intro (fun _ => ?_) (fun z => absurd q_n1 z)
      have hget := m'.2.2.2.1 k k1
      rcases (show j < 3 ∨ j = 3 ∨ j = 4 by omega) with j3 | j3 | j3
      · refine And.intro (fun z => absurd z (nI_ge (by omega) (by omega))) (fun _ => ?_)
        have key : ∃ v, am_i (am_pi h 87 0 (nI 0)) 88 (1472 * w + (15 + 3 * k + j)) = v ∧ mQ h st (0, v) Q := by
          rcases (show j = 0 ∨ j = 1 ∨ j = 2 by omega) with r | r | r <;> subst r
          · exact ⟨_, hget.1, HQ⟩
          · exact ⟨_, hget.2.1, HQ⟩
          · exact ⟨_, hget.2.2, HQ⟩
        obtain ⟨v, hv, HQ⟩ := key
        exact And.intro (sk_87 m.1.1) (hC _ _ _ _ (w_get (by decide) m'.1 (k := 15 + 3 * k + j) (by rw [← nI_add, ← nI_add, ← pk_mul]) (by omega) hv (And.intro trivial (hQ _ _ (mQ_of I HQ (s00 _) (i0_0 _ _) rfl)))))
      · subst j3
        refine And.intro (fun _ => ?_) (fun z => absurd (nI_le (Nat.le_refl _) (by decide)) z)
        refine And.intro (sk_87 m.1.1) (hC _ _ _ _ (w_laysCosts (by decide) m' fun h2 s2 c2 => ?_))
        have m2 := sf_mg s2 m' rfl (by decide)
        refine And.intro (fun z => absurd rfl z) (fun _ => ?_)
        refine And.intro (sk_87 m2.1.1) (And.intro (ck_row (sr_87_17 m2.1.1) (sk_93 m2.1.1) rfl (by omega) (by omega)) (And.intro trivial (hQ _ _ (mQ_of I HQ (sf_tr (s00 _) (sfq_of s2 rfl rfl)) ((s2.2 0 (by decide)).trans (i0_0 _ _)) ?_))))
        show am_i h2 (am_r h2 87 17) (nI k).toNatClampNeg = _
        rw [sr_87_17 m2.1.1, q_cl (by omega), c2 k k1]
        rfl
      · subst j3
        refine And.intro (fun _ => ?_) (fun z => absurd (nI_le (by decide) (by decide)) z)
        refine And.intro (sk_87 m.1.1) (hC _ _ _ _ (w_laysCosts (by decide) m' fun h2 s2 c2 => ?_))
        have m2 := sf_mg s2 m' rfl (by decide)
        refine And.intro (fun _ => ?_) (fun z => absurd (show ¬ nI 4 = nI 3 by decide) z)
        exact And.intro (sk_87 m2.1.1) (hC _ _ _ _ (w_lengthOf (by decide) m2 c2 k1 (And.intro trivial (hQ _ _ (mQ_of I HQ (sf_tr (s00 _) (sfq_of s2 rfl rfl)) ((s2.2 0 (by decide)).trans (i0_0 _ _)) rfl)))))
    · have no : ∀ k, k < 5 → what ≠ nI k := fun k hk q3 => by rw [q3, vin_nI hk (by decide)] at q2; cases q2
      rw [if_neg (no 0 (by decide)), if_neg (no 1 (by decide)), if_neg (no 2 (by decide)), if_neg (no 3 (by decide)), if_neg (no 4 (by decide))] at HQ
      exact And.intro (fun z => absurd rfl z) (fun _ => And.intro trivial (hQ _ _ (mQ_of I HQ (sfq_thr (s00 _) _) (i0_0 _ _) rfl)))
  · rw [q] at HQ
    exact And.intro (fun _ => And.intro trivial (hQ _ _ (mQ_of I HQ (sfq_thr (s00 _) _) (i0_0 _ _) rfl))) (fun z => absurd rfl z)
theorem q_cutCost (hd : 5 ≤ d) (I : MI h st) (S : Int32) (HQ : mQ h st (sCutCost st.1 S) Q) : am_C xs am_P0 d m_Mo_cutCost [.ref 87, .int S] h Q := by
  obtain ⟨w, m, -⟩ := id I
  have m' := sfq_m (s00 (nI 0)) m
  have hn := mg_n9 m
  have hn9 := pow_le9 hn
  have hn1 := Nat.two_pow_pos (gN st.1)
  unfold sCutCost at HQ
  refine am_C_le hd (am_enter (d := 4) ap_Mo_cutCost rfl ?_) (fun _ _ k => k)
  refine am_go (fun _ => false) (fun K cal Q' hK hC hQ => ?_)
  refine And.intro (sk_87 m.1.1) (And.intro (sk_87 m.1.1) (hC _ _ _ _ (w_all (by decide) m' ?_)))
  refine And.intro trivial (hC _ _ _ _ (w_isIn (by decide) (q_vin (n := 2 ^ gN st.1) (by omega) (q_pr' hn1 (by omega))) ?_))
  refine And.intro (sk_87 m.1.1) (hC _ _ _ _ (w_right (by decide) (sk_87 m'.1.1) (i0_0 _ _) (by decide) (by decide) (fun q => ?_) (fun q => ?_)))
  · obtain ⟨k, k1, rfl⟩ := q_range_of (by omega) q
    rw [q, if_pos rfl, q_cl (by omega)] at HQ
    refine And.intro (fun _ => ?_) (fun z => absurd q_n1 z)
    refine And.intro (sk_87 m.1.1) (hC _ _ _ _ (w_laysCosts (by decide) m' fun h2 s2 c2 => ?_))
    have m2 := sf_mg s2 m' rfl (by decide)
    exact And.intro (sk_87 m2.1.1) (hC _ _ _ _ (w_cutOf (by decide) m2 c2 (by omega) (And.intro trivial (hQ _ _ (mQ_of I HQ (sf_tr (s00 _) (sfq_of s2 rfl rfl)) ((s2.2 0 (by decide)).trans (i0_0 _ _)) rfl)))))
  · rw [q] at HQ
    exact And.intro (fun z => absurd rfl z) (fun _ => And.intro trivial (hQ _ _ (mQ_of I HQ (sfq_thr (s00 _) _) (i0_0 _ _) rfl)))
theorem q_isoV (hd : 6 ≤ d) (I : MI h st) (t : Int32) (HQ : mQ h st (sIsoV st.1 t) Q) : am_C xs am_P0 d m_Mo_isolatingValue [.ref 87, .int t] h Q := by
  obtain ⟨w, m, -⟩ := id I
  have m' := sfq_m (s00 (nI 0)) m
  have hn := mg_n9 m
  unfold sIsoV at HQ
  refine am_C_le hd (am_enter (d := 5) ap_Mo_isolatingValue rfl ?_) (fun _ _ k => k)
  refine am_go (fun _ => false) (fun K cal Q' hK hC hQ => ?_)
  refine And.intro (sk_87 m.1.1) (hC _ _ _ _ (w_mustBe (by decide) m (fun k k1 k2 k3 => ?_) (fun q => ?_)))
  · rw [k2, isT_nI k1 (by omega), if_pos k3, q_cl (by omega)] at HQ
    subst k2
    refine And.intro (fun _ => ?_) (fun z => absurd q_n1 z)
    refine And.intro (sk_87 m.1.1) (hC _ _ _ _ (w_laysCosts (by decide) m' fun h2 s2 c2 => ?_))
    have m2 := sf_mg s2 m' rfl (by decide)
    refine And.intro (sk_87 m2.1.1) (hC _ _ _ _ (w_isolating (by decide) m2 c2 k1 fun h3 s3 hv => ?_))
    have m3 := sf_mg s3 m2 rfl (by decide)
    exact And.intro (sk_87 m3.1.1) (And.intro trivial (hQ _ _ (mQ_of I HQ (sf_tr (sf_tr (s00 _) (sfq_of s2 rfl rfl)) (sfq_of s3 rfl rfl)) ((s3.2 0 (by decide)).trans ((s2.2 0 (by decide)).trans (i0_0 _ _))) hv)))
  · rw [q] at HQ
    exact And.intro (fun z => absurd rfl z) (fun _ => And.intro trivial (hQ _ _ (mQ_of I HQ (sfq_thr (s00 _) _) (i0_0 _ _) rfl)))
theorem q_isoS (hd : 6 ≤ d) (I : MI h st) (t : Int32) (HQ : mQ h st (sIsoS st.1 t) Q) : am_C xs am_P0 d m_Mo_isolatingSet [.ref 87, .int t] h Q := by
  obtain ⟨w, m, -⟩ := id I
  have m' := sfq_m (s00 (nI 0)) m
  have hn := mg_n9 m
  unfold sIsoS at HQ
  refine am_C_le hd (am_enter (d := 5) ap_Mo_isolatingSet rfl ?_) (fun _ _ k => k)
  refine am_go (fun _ => false) (fun K cal Q' hK hC hQ => ?_)
  refine And.intro (sk_87 m.1.1) (hC _ _ _ _ (w_mustBe (by decide) m (fun k k1 k2 k3 => ?_) (fun q => ?_)))
  · rw [k2, isT_nI k1 (by omega), if_pos k3, q_cl (by omega)] at HQ
    subst k2
    refine And.intro (fun _ => ?_) (fun z => absurd q_n1 z)
    refine And.intro (sk_87 m.1.1) (hC _ _ _ _ (w_laysCosts (by decide) m' fun h2 s2 c2 => ?_))
    have m2 := sf_mg s2 m' rfl (by decide)
    refine And.intro (sk_87 m2.1.1) (hC _ _ _ _ (w_isolating (by decide) m2 c2 k1 fun h3 s3 hv => ?_))
    exact And.intro trivial (hQ _ _ (mQ_of I HQ (sf_tr (sf_tr (s00 _) (sfq_of s2 rfl rfl)) (sfq_of s3 rfl rfl)) ((s3.2 0 (by decide)).trans ((s2.2 0 (by decide)).trans (i0_0 _ _))) rfl))
  · rw [q] at HQ
    exact And.intro (fun z => absurd rfl z) (fun _ => And.intro trivial (hQ _ _ (mQ_of I HQ (sfq_thr (s00 _) _) (i0_0 _ _) rfl)))
end

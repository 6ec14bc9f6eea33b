/-! THE MODEL'S QUESTIONS: exact -/
section
variable {xs : am_X} {d : Nat} {h : am_H} {Q : am_Q}
theorem w_exactNow {w : Nat} {g : gD} (hd : 5 ≤ d) (m : mg h w g) (HQ : ∀ h', sf [92, 93, 97, 98, 99] [26, 27] h h' → mco h' g → (∀ v, v < gN g → am_i h' 98 v = eL g (gT g) v) → Q (.inl (some (.int (nI (eC g (gT g)))))) h') : am_C xs am_P0 d m_Mo_exactNow [.ref 87] h Q := by
  refine am_C_le hd (am_enter (d := 4) ap_Mo_exactNow rfl ?_) (fun _ _ k => k)
  refine am_go (fun _ => false) (fun K cal Q' hK hC hQ => ?_)
  refine And.intro (sk_87 m.1.1) (hC _ _ _ _ (w_laysCosts (by decide) m fun h1 s1 c1 => ?_))
  have m1 := sf_mg s1 m rfl (by decide)
  refine And.intro (sk_87 m1.1.1) (hC _ _ _ _ (w_get (by decide) m1.1 (k := 2) rfl (by decide) m1.2.1.2.2.1 ?_))
  refine And.intro (sk_87 m1.1.1) (hC _ _ _ _ (w_laysExact (by decide) m1 c1 (mg_T m1) fun h2 s2 l2 => ?_))
  exact And.intro trivial (hQ _ _ (HQ h2 (sf_tr (sf_mo s1 (subl_x (by decide)) (subl_x (by decide))) (sf_mo s2 (subl_x (by decide)) (subl_x (by decide)))) (sf_mco s2 c1 (by decide)) l2))
end
section
variable {xs : am_X} {d : Nat} {h : am_H} {st : stD} {Q : am_Q}
theorem q_exactCost (hd : 6 ≤ d) (I : MI h st) (HQ : mQ h st (0, nI (eC st.1 (gT st.1))) Q) : am_C xs am_P0 d m_Mo_exactCost [.ref 87] h Q := by
  obtain ⟨w, m, -⟩ := id I
  have m' := sfq_m (s00 (nI 0)) m
  refine am_C_le hd (am_enter (d := 5) ap_Mo_exactCost rfl ?_) (fun _ _ k => k)
  refine am_go (fun _ => false) (fun K cal Q' hK hC hQ => ?_)
  exact And.intro (sk_87 m.1.1) (And.intro (sk_87 m.1.1) (hC _ _ _ _ (w_exactNow (by decide) m' fun h2 s2 _ _ => And.intro trivial (hQ _ _ (mQ_of I HQ (sf_tr (s00 _) (sfq_of s2 rfl rfl)) ((s2.2 0 (by decide)).trans (i0_0 _ _)) rfl)))))
theorem q_exact (hd : 6 ≤ d) (I : MI h st) (v : Int32) (HQ : mQ h st (sEx st.1 v) Q) : am_C xs am_P0 d m_Mo_exact [.ref 87, .int v] h Q := by
  obtain ⟨w, m, -⟩ := id I
  have m' := sfq_m (s00 (nI 0)) m
  have hn := mg_n9 m
  unfold sEx at HQ
  refine am_C_le hd (am_enter (d := 5) ap_Mo_exact rfl ?_) (fun _ _ k => k)
  refine am_go (fun _ => false) (fun K cal Q' hK hC hQ => ?_)
  refine And.intro (sk_87 m.1.1) (And.intro (sk_87 m.1.1) (hC _ _ _ _ (w_isVertex (by decide) m' (i0_0 _ _) (fun k k1 k2 => ?_) (fun e => ?_))))
  · rw [k2, vin_nI k1 (by omega), if_pos rfl, q_cl (by omega)] at HQ
    subst k2
    refine And.intro (fun _ => ?_) (fun z => absurd q_n1 z)
    refine And.intro (sk_87 m.1.1) (hC _ _ _ _ (w_exactNow (by decide) m' fun h2 s2 _ l2 => ?_))
    have m2 := sf_mg s2 m' rfl (by decide)
    refine And.intro (sk_87 m2.1.1) (And.intro (ck_row (sr_87_24 m2.1.1) (sk_98 m2.1.1) rfl (by omega) (by omega)) (And.intro trivial (hQ _ _ (mQ_of I HQ (sf_tr (s00 _) (sfq_of s2 rfl rfl)) ((s2.2 0 (by decide)).trans (i0_0 _ _)) ?_))))
    show am_i h2 (am_r h2 87 24) (nI k).toNatClampNeg = _
    rw [sr_87_24 m2.1.1, q_cl (by omega)]
    exact l2 k k1
  · rw [e] at HQ
    exact And.intro (fun z => absurd rfl z) (fun _ => And.intro trivial (hQ _ _ (mQ_of I HQ (sfq_thr (s00 _) _) (i0_0 _ _) rfl)))
theorem q_price (hd : 6 ≤ d) (I : MI h st) (t : Int32) (HQ : mQ h st (sPrice st.1 t) Q) : am_C xs am_P0 d m_Mo_price [.ref 87, .int t] h Q := by
  obtain ⟨w, m, -⟩ := id I
  have m' := sfq_m (s00 (nI 0)) m
  have hn := mg_n9 m
  unfold sPrice at HQ
  refine am_C_le hd (am_enter (d := 5) ap_Mo_price rfl ?_) (fun _ _ k => k)
  refine am_go (fun _ => false) (fun K cal Q' hK hC hQ => ?_)
  refine And.intro (sk_87 m.1.1) (hC _ _ _ _ (w_mustBe (by decide) m (fun k k1 k2 k3 => ?_) (fun q => ?_)))
  · rw [k2, isT_nI k1 (by omega), if_pos k3, q_cl (by omega)] at HQ
    subst k2
    refine And.intro (fun _ => ?_) (fun z => absurd q_n1 z)
    refine And.intro (sk_87 m.1.1) (hC _ _ _ _ (w_exactNow (by decide) m' fun h2 s2 c2 _ => ?_))
    have m2 := sf_mg s2 m' rfl (by decide)
    refine And.intro (sk_87 m2.1.1) (hC _ _ _ _ (w_get (by decide) m2.1 (k := 2) rfl (by decide) m2.2.1.2.2.1 ?_))
    have eA : nI (gT st.1) &&& ((nI 1 <<< (nI k &&& 31)) ^^^ -nI 1) = nI (andn (gT st.1) (2 ^ k)) := by rw [q_shl k (by omega), q_andn]
    refine And.intro (sk_87 m2.1.1) ?_
    show cal m_Mo_laysExact [.ref 87, .int (nI (gT st.1) &&& ((nI 1 <<< (nI k &&& 31)) ^^^ -nI 1))] h2 _
    rw [eA]
    refine hC _ _ _ _ (w_laysExact (by decide) m2 c2 (andn_lt _ (mg_T m2)) fun h3 s3 _ => ?_)
    exact And.intro trivial (hQ _ _ (mQ_of I HQ (sf_tr (sf_tr (s00 _) (sfq_of s2 rfl rfl)) (sfq_of s3 rfl rfl)) ((s3.2 0 (by decide)).trans ((s2.2 0 (by decide)).trans (i0_0 _ _))) rfl))
  · rw [q] at HQ
    exact And.intro (fun z => absurd rfl z) (fun _ => And.intro trivial (hQ _ _ (mQ_of I HQ (sfq_thr (s00 _) _) (i0_0 _ _) rfl)))
set_option maxHeartbeats 8000000 in
theorem q_useExact (hd : 6 ≤ d) (I : MI h st) (HQ : ∀ h', MI h' (stC st (gUseE st.1)) → moF h h' → Q (.inl (some (.int (nI (gCost (gUseE st.1)))))) h') : am_C xs am_P0 d m_Mo_useExact [.ref 87] h Q := by
  obtain ⟨w, I⟩ := I
  have I0 := MIw_0 I (nI 0)
  have s0 := s00 (h := h) (nI 0)
  have hn := mg_n9 I.1
  refine am_C_le hd (am_enter (d := 5) ap_Mo_useExact rfl ?_) (fun _ _ k => k)
  refine am_go (fun p => p == 16) (fun K cal Q' hK hC hQ => ?_)
  refine And.intro (sk_87 I.1.1.1) (And.intro (sk_87 I.1.1.1) ?_)
  show cal m_Mo_exactNow _ (am_pi h 87 0 (nI 0)) _
  generalize am_pi h 87 0 (nI 0) = h0 at I0 s0
  have m : mg h0 w st.1 := I0.1
  refine hC _ _ _ _ (w_exactNow (by decide) m fun ha sa _ la => ?_)
  have Ia := MIw_q I0 (sfq_of sa rfl rfl)
  refine And.intro (sk_87 Ia.1.1.1) (hC _ _ _ _ (w_change (by decide) Ia fun h1 s1 I1 => hK _ _ _ _ ?_))
  have m1 : mg h1 ((w + 1) % 9) st.1 := I1.1
  have F1 : sfc h h1 := sfc_t (sfc_t (sfc_q s0) sa (by decide) (by decide)) s1 (by decide) (by decide)
  have l1 : ∀ v, v < gN st.1 → am_i h1 98 v = eL st.1 (gT st.1) v := fun v hv => (s1.1.i (by decide) v).trans (la v hv)
  generalize (w + 1) % 9 = w2 at I1 m1
  generalize (nI (eC st.1 (gT st.1))) = v1
  refine am_for (gN st.1) (fun i L h2 => L = [.ref 87, .int v1, .int (nI i)] ∧ sf [88] [] h1 h2 ∧ ∀ k, am_i h2 88 k = if 1472 * w2 + 75 ≤ k ∧ k < 1472 * w2 + 75 + i then eL st.1 (gT st.1) (k - (1472 * w2 + 75)) else am_i h1 88 k) ?_ ?_ 0 (Nat.zero_le _) _ _ ⟨rfl, sf_rf, fun k => by rw [if_neg (by omega)]⟩
  · rintro i hi9 L h2 ⟨rfl, s, hk'⟩ next
    have mw2 : mw h2 w2 := ⟨s.1.sh m1.1.1, m1.1.2.1, (s.2 3 (by decide)).trans m1.1.2.2⟩
    have eI : am_inc (nI i) (Int.ofNat 1) = nI (i + 1) := nI_1 i
    rw [← eI] at next
    have v0 : am_i h2 88 (1472 * w2 + 0) = nI (gN st.1) := by rw [hk', if_neg (by omega)]; exact m1.2.1.1
    refine am_go (fun p => p == 16) (fun K cal Q' hK hC hQ => ?_)
    refine And.intro (sk_87 mw2.1) (hC _ _ _ _ (w_countv (by decide) mw2 v0 ?_))
    refine And.intro (fun c => absurd c (nI_ge hi9 (by omega))) (fun _ => ?_)
    have r1 : am_r h2 87 24 = 98 := sr_87_24 mw2.1
    refine And.intro (sk_87 mw2.1) (And.intro (ck_row r1 (sk_98 mw2.1) rfl (by omega) (by omega)) ?_)
    refine And.intro (sk_87 mw2.1) (hC _ _ _ _ (w_put (by decide) mw2 (k := 75 + i) (by rw [← nI_add]) (by omega) ?_))
    rw [show am_r h2 87 (600 % 64) = 98 from r1, q_cl (by omega), s.1.i (by decide) i, l1 i hi9]
    refine hK _ _ _ _ (next _ _ ⟨rfl, sf_pi s (by decide) (by decide), fun k => ?_⟩)
    rw [i_pi_same]
    by_cases q : k = 1472 * w2 + (75 + i)
    · rw [if_pos q, if_pos (by omega), q, show 1472 * w2 + (75 + i) - (1472 * w2 + 75) = i by omega]
    · rw [if_neg q, hk']
      have : (1472 * w2 + 75 ≤ k ∧ k < 1472 * w2 + 75 + i) ↔ (1472 * w2 + 75 ≤ k ∧ k < 1472 * w2 + 75 + (i + 1)) := by omega
      simp only [this]
  · rintro L h2 ⟨rfl, s, hk'⟩
    have mw2 : mw h2 w2 := ⟨s.1.sh m1.1.1, m1.1.2.1, (s.2 3 (by decide)).trans m1.1.2.2⟩
    have v0 : am_i h2 88 (1472 * w2 + 0) = nI (gN st.1) := by rw [hk', if_neg (by omega)]; exact m1.2.1.1
    refine am_go (fun p => p == 16) (fun K cal Q' hK hC hQ => ?_)
    refine And.intro (sk_87 mw2.1) (hC _ _ _ _ (w_countv (by decide) mw2 v0 ?_))
    refine And.intro (fun _ => ?_) (fun c => absurd (nI_le (Nat.le_refl _) (by omega)) c)
    have I9 := MIw_row (g := gUseE st.1) I1 (sf_mo s (subl_x (by decide)) (subl_x (by decide))) (fun k hk => by rw [hk', if_neg (by omega)]) (mrow_L m1.2 fun k hk => by
      rw [hk']
      have a1 : (1472 * w2 + 75 ≤ 1472 * w2 + k ∧ 1472 * w2 + k < 1472 * w2 + 75 + gN st.1) ↔ (75 ≤ k ∧ k < 75 + gN st.1) := by omega
      have a2 : 1472 * w2 + k - (1472 * w2 + 75) = k - 75 := by omega
      simp only [a1, a2])
    have m9 : mg h2 w2 (gUseE st.1) := I9.1
    refine And.intro (sk_87 m9.1.1) (hC _ _ _ _ (w_costNow (by decide) m9 fun h3 s3 _ _ => ?_))
    exact And.intro trivial (hQ _ _ (HQ h3 (MIw_I (MIw_q I9 (sfq_of s3 rfl rfl))) (sfc_F (sfc_t (sfc_t F1 s (by decide) (by decide)) s3 (by decide) (by decide)))))
end

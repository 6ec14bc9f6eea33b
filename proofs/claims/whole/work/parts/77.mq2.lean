/-! THE MODEL'S QUESTIONS, 2: bound, dearest, union, rounds -/
section
variable {xs : am_X} {d : Nat} {h : am_H} {st : stD} {Q : am_Q}
set_option maxHeartbeats 4000000 in
theorem q_lowerBound (hd : 7 ≤ d) (I : MI h st) (HQ : mQ h st (0, sLow st.1) Q) : am_C xs am_P0 d m_Mo_lowerBound [.ref 87] h Q := by
  obtain ⟨w, m, -⟩ := id I
  have m' := sfq_m (s00 (nI 0)) m
  have hn := mg_n9 m
  refine am_C_le hd (am_enter (d := 6) ap_Mo_lowerBound rfl ?_) (fun _ _ k => k)
  refine am_go (fun p => p == 13) (fun K cal Q' hK hC hQ => ?_)
  refine And.intro (sk_87 m.1.1) (And.intro (sk_87 m.1.1) (hC _ _ _ _ (w_laysIsolating (by decide) m' fun h2 s2 c2 l2 => hK _ _ _ _ ?_)))
  have m2 := sf_mg s2 m' rfl (by decide)
  refine am_for (gN st.1) (fun i L h' => h' = h2 ∧ L = [.ref 87, .int (nI (gSum st.1 i)), .int (nI i)]) ?_ ?_ 0 (Nat.zero_le _) _ _ ⟨rfl, rfl⟩
  · rintro i hi9 L h' ⟨rfl, rfl⟩ next
    have eI : am_inc (nI i) (Int.ofNat 1) = nI (i + 1) := nI_1 i
    rw [← eI] at next
    have eS : gSum st.1 (i + 1) = gSum st.1 i + if (gT st.1).testBit i then gIV st.1 i else 0 := rfl
    refine am_go (fun p => p == 13) (fun K cal Q' hK hC hQ => ?_)
    refine And.intro (sk_87 m2.1.1) (hC _ _ _ _ (w_count (by decide) m2 ?_))
    refine And.intro (fun c => absurd c (nI_ge hi9 (by omega))) (fun _ => ?_)
    refine And.intro (sk_87 m2.1.1) (hC _ _ _ _ (w_isTerm (by decide) m2 (by omega) ?_))
    cases hTi : (gT st.1).testBit i with
    | false =>
      rw [hTi] at eS
      refine And.intro (fun _ => ?_) (fun z => absurd rfl z)
      exact hK _ _ _ _ (next _ _ ⟨rfl, by rw [eS, ← nI_add]; rfl⟩)
    | true =>
      rw [hTi] at eS
      refine And.intro (fun z => absurd z q_t1) (fun _ => ?_)
      refine And.intro (sk_87 m2.1.1) (And.intro (ck_row (sr_87_19 m2.1.1) (sk_94 m2.1.1) rfl (by omega) (by omega)) ?_)
      have v1 : am_i h' (am_r h' 87 19) (nI i).toNatClampNeg = nI (gIV st.1 i) := by rw [sr_87_19 m2.1.1, q_cl (by omega)]; exact (l2 i hi9 hTi).2
      exact hK _ _ _ _ (next _ _ ⟨rfl, by rw [eS, if_pos rfl, ← nI_add, ← v1]; rfl⟩)
  · rintro L h' ⟨rfl, rfl⟩
    refine am_go (fun p => p == 13) (fun K cal Q' hK hC hQ => ?_)
    refine And.intro (sk_87 m2.1.1) (hC _ _ _ _ (w_count (by decide) m2 ?_))
    refine And.intro (fun _ => And.intro (show ¬ nI 2 = 0 by decide) (And.intro trivial (hQ _ _ (mQ_of I HQ (sf_tr (s00 _) (sfq_of s2 rfl rfl)) ((s2.2 0 (by decide)).trans (i0_0 _ _)) ?_)))) (fun c => absurd (nI_le (Nat.le_refl _) (by omega)) c)
    have b : gSum st.1 (gN st.1) ≤ gN st.1 * (20 * 9999) := fb_sm_bound fun k hk => by
      split
      · exact gIV_le m k
      · exact Nat.zero_le _
    have b2 : gN st.1 * (20 * 9999) ≤ 9 * (20 * 9999) := Nat.mul_le_mul_right _ hn
    show (nI (gSum st.1 (gN st.1)) + nI 1) / nI 2 = _
    rw [nI_add, q_div (by omega) (by decide)]
    rfl
theorem q_dearest (hd : 7 ≤ d) (I : MI h st) (HQ : mQ h st (sDear st.1) Q) : am_C xs am_P0 d m_Mo_dearest [.ref 87] h Q := by
  obtain ⟨w, m, -⟩ := id I
  have m' := sfq_m (s00 (nI 0)) m
  unfold sDear at HQ
  refine am_C_le hd (am_enter (d := 6) ap_Mo_dearest rfl ?_) (fun _ _ k => k)
  refine am_go (fun _ => false) (fun K cal Q' hK hC hQ => ?_)
  refine And.intro (sk_87 m.1.1) (hC _ _ _ _ (w_hasTerminal (by decide) m (fun q => ?_) (fun q => ?_)))
  · rw [if_neg q] at HQ
    refine And.intro (fun _ => ?_) (fun z => absurd q_n1 z)
    refine And.intro (sk_87 m.1.1) (hC _ _ _ _ (w_laysIsolating (by decide) m' fun h2 s2 c2 l2 => ?_))
    have m2 := sf_mg s2 m' rfl (by decide)
    exact And.intro (sk_87 m2.1.1) (hC _ _ _ _ (w_dearestNow (by decide) m2 l2 (And.intro trivial (hQ _ _ (mQ_of I HQ (sf_tr (s00 _) (sfq_of s2 rfl rfl)) ((s2.2 0 (by decide)).trans (i0_0 _ _)) rfl)))))
  · rw [if_pos q] at HQ
    exact And.intro (fun z => absurd rfl z) (fun _ => And.intro trivial (hQ _ _ (mQ_of I HQ (sfq_thr (s00 _) _) (i0_0 _ _) rfl)))
theorem uniB_s {n : Nat} {lo hi : Nat → Nat} {S : Nat → Nat} {T : Nat} {o : Option Nat} {e : Nat} : uniB (n + 1) lo hi S T o e = true ↔ uniB n lo hi S T o e = true ∨ (T.testBit n = true ∧ o ≠ some n ∧ crs lo hi (S n) e = true) := by
  unfold uniB
  rw [decide_eq_true_iff, decide_eq_true_iff]
  constructor
  · rintro ⟨v, v1, v2⟩
    by_cases q : v = n
    · subst q; exact Or.inr v2
    · exact Or.inl ⟨v, by omega, v2⟩
  · rintro (⟨v, v1, v2⟩ | v2)
    · exact ⟨v, by omega, v2⟩
    · exact ⟨n, by omega, v2⟩
set_option maxHeartbeats 8000000 in
theorem w_unionNow {w : Nat} {g : gD} (hd : 7 ≤ d) (m : mg h w g) (HQ : ∀ h', sf [92, 93, 94, 95] [18] h h' → mco h' g → Q (.inl (some (.int (nI (gUn g))))) h') : am_C xs am_P0 d m_Mo_unionNow [.ref 87] h Q := by
  have hn := mg_n9 m
  have hm := mg_m20 m
  refine am_C_le hd (am_enter (d := 6) ap_Mo_unionNow rfl ?_) (fun _ _ k => k)
  refine am_go (fun p => p == 13) (fun K cal Q' hK hC hQ => ?_)
  refine And.intro (sk_87 m.1.1) (hC _ _ _ _ (w_laysIsolating (by decide) m fun h2 s2 c2 l2 => ?_))
  have m2 := sf_mg s2 m rfl (by decide)
  refine And.intro (sk_87 m2.1.1) (hC _ _ _ _ (w_dearestNow (by decide) m2 l2 (hK _ _ _ _ ?_)))
  have HQ := HQ h2 s2 c2
  unfold gUn at HQ
  generalize ho : gDe g = o at HQ
  have hob : ∀ b, o = some b → b < 1000 := fun b e => by have := (dea_lt (ho.trans e)).1; omega
  have Sl : ∀ t, t < gN g → gIS g t < 2 ^ 31 := fun t ht => Nat.lt_trans (iso_lt ht) (pow_le31 (by omega))
  refine am_for (gM g) (fun i L h' => ∃ M v4, h' = h2 ∧ L = [.ref 87, .int (oI o), .int (nI M), .int (nI i), v4] ∧ ∀ e, M.testBit e = true ↔ e < i ∧ uniB (gN g) (gLo g) (gHi g) (gIS g) (gT g) o e = true) ?_ ?_ 0 (Nat.zero_le _) _ _ ⟨0, _, rfl, rfl, fun e => by rw [Nat.zero_testBit]; exact ⟨fun z => absurd z (by decide), fun z => absurd z.1 (Nat.not_lt_zero e)⟩⟩
  · rintro i hi9 L h' ⟨M, v4, rfl, rfl, hM⟩ next
    obtain ⟨w1, w2⟩ := mg_e m hi9
    refine am_go (fun p => p == 24) (fun K cal Q' hK hC hQ => ?_)
    refine And.intro (sk_87 m2.1.1) (hC _ _ _ _ (w_edges (by decide) m2 ?_))
    refine And.intro (fun c => absurd c (nI_ge hi9 (by omega))) (fun _ => hK _ _ _ _ ?_)
    refine am_for (gN g) (fun j L h => ∃ M, h = h' ∧ L = [.ref 87, .int (oI o), .int (nI M), .int (nI i), .int (nI j)] ∧ ∀ e, M.testBit e = true ↔ (e < i ∧ uniB (gN g) (gLo g) (gHi g) (gIS g) (gT g) o e = true) ∨ (e = i ∧ uniB j (gLo g) (gHi g) (gIS g) (gT g) o e = true)) ?_ ?_ 0 (Nat.zero_le _) _ _ ⟨M, rfl, rfl, fun e => (hM e).trans ⟨Or.inl, fun z => z.resolve_right fun q => by unfold uniB at q; obtain ⟨v, v1, -⟩ := of_decide_eq_true q.2; exact absurd v1 (Nat.not_lt_zero v)⟩⟩
    · rintro j hj9 L h ⟨M, rfl, rfl, hM⟩ next2
      have eI : am_inc (nI j) (Int.ofNat 1) = nI (j + 1) := nI_1 j
      rw [← eI] at next2
      have same : ¬ ((gT g).testBit j = true ∧ o ≠ some j ∧ crs (gLo g) (gHi g) (gIS g j) i = true) → ∀ e, M.testBit e = true ↔ (e < i ∧ uniB (gN g) (gLo g) (gHi g) (gIS g) (gT g) o e = true) ∨ (e = i ∧ uniB (j + 1) (gLo g) (gHi g) (gIS g) (gT g) o e = true) := fun hno e => by
        rw [hM e]
        refine or_congr Iff.rfl (and_congr_right fun q => ?_)
        rw [uniB_s]
        exact ⟨Or.inl, fun z => z.resolve_right fun q2 => hno (by rw [q] at q2; exact q2)⟩
      refine am_go (fun p => p == 24) (fun K cal Q' hK hC hQ => ?_)
      refine And.intro (sk_87 m2.1.1) (hC _ _ _ _ (w_count (by decide) m2 ?_))
      refine And.intro (fun c => absurd c (nI_ge hj9 (by omega))) (fun _ => ?_)
      refine And.intro (sk_87 m2.1.1) (hC _ _ _ _ (w_isTerm (by decide) m2 (by omega) ?_))
      cases hTi : (gT g).testBit j with
      | false => exact And.intro (fun _ => hK _ _ _ _ (next2 _ _ ⟨M, rfl, rfl, same fun q => by rw [hTi] at q; exact absurd q.1 (by decide)⟩)) (fun z => absurd rfl z)
      | true =>
        refine And.intro (fun z => absurd z q_t1) (fun _ => ?_)
        refine And.intro (fun z => ?_) (fun z => ?_)
        · exact hK _ _ _ _ (next2 _ _ ⟨M, rfl, rfl, same fun q => q.2.1 ((oI_eq (by omega) hob).mp z)⟩)
        · have z : o ≠ some j := fun q => z ((oI_eq (by omega) hob).mpr q)
          have r95 : am_r h 87 20 = 95 := sr_87_20 m2.1.1
          have v1 : am_i h (am_r h 87 20) (nI j).toNatClampNeg = nI (gIS g j) := by rw [r95, q_cl (by omega)]; exact (l2 j hj9 hTi).1
          have k1 : am_arr h (am_r h 87 20) 2 (nI j) := ck_row r95 (sk_95 m2.1.1) rfl (by omega) (by omega)
          refine And.intro (sk_87 m2.1.1) (And.intro k1 ?_)
          refine And.intro (sk_87 m2.1.1) (hC _ _ _ _ (w_low (by decide) m2 hi9 ?_))
          refine And.intro trivial ?_
          show cal m_Mo_has [.int (am_i h (am_r h 87 20) (nI j).toNatClampNeg), .int (nI (gLo g i))] h _
          rw [v1]
          refine hC _ _ _ _ (w_has (by decide) (Sl j hj9) (by omega) ?_)
          refine And.intro (sk_87 m2.1.1) (And.intro k1 ?_)
          refine And.intro (sk_87 m2.1.1) (hC _ _ _ _ (w_high (by decide) m2 hi9 ?_))
          refine And.intro trivial ?_
          show cal m_Mo_has [.int (am_i h (am_r h 87 20) (nI j).toNatClampNeg), .int (nI (gHi g i))] h _
          rw [v1]
          refine hC _ _ _ _ (w_has (by decide) (Sl j hj9) (by omega) ?_)
          refine And.intro (fun c => ?_) (fun c => ?_)
          · refine hK _ _ _ _ (next2 _ _ ⟨M, rfl, rfl, same fun q => ?_⟩)
            have q := q.2.2
            unfold crs at q
            rw [bI_inj c] at q
            simp at q
          · have hcr : crs (gLo g) (gHi g) (gIS g j) i = true := by
              unfold crs
              exact bne_iff_ne.mpr fun q => c (congrArg bI q)
            refine hK _ _ _ _ (next2 _ _ ⟨M ||| 2 ^ i, rfl, by rw [← q_orb (by omega)]; rfl, fun e => ?_⟩)
            rw [fb_bit_set, Bool.or_eq_true, hM e, decide_eq_true_iff, uniB_s]
            constructor
            · rintro ((q | q) | q)
              · exact Or.inl q
              · exact Or.inr ⟨q.1, Or.inl q.2⟩
              · exact Or.inr ⟨q, Or.inr ⟨hTi, z, by rw [q]; exact hcr⟩⟩
            · rintro (q | ⟨q, q2 | q2⟩)
              · exact Or.inl (Or.inl q)
              · exact Or.inl (Or.inr ⟨q, q2⟩)
              · exact Or.inr q
    · rintro L h ⟨M, rfl, rfl, hM⟩
      have eI : am_inc (nI i) (Int.ofNat 1) = nI (i + 1) := nI_1 i
      rw [← eI] at next
      refine am_go (fun p => p == 13) (fun K cal Q' hK hC hQ => ?_)
      refine And.intro (sk_87 m2.1.1) (hC _ _ _ _ (w_count (by decide) m2 ?_))
      refine And.intro (fun _ => hK _ _ _ _ (next _ _ ⟨M, _, rfl, rfl, fun e => (hM e).trans ⟨?_, ?_⟩⟩)) (fun c => absurd (nI_le (Nat.le_refl _) (by omega)) c)
      · rintro (q | q)
        · exact ⟨by omega, q.2⟩
        · exact ⟨by omega, q.2⟩
      · rintro ⟨q, q2⟩
        by_cases r : e = i
        · exact Or.inr ⟨r, q2⟩
        · exact Or.inl ⟨by omega, q2⟩
  · rintro L h' ⟨M, v4, rfl, rfl, hM⟩
    refine am_go (fun p => p == 13) (fun K cal Q' hK hC hQ => ?_)
    refine And.intro (sk_87 m2.1.1) (hC _ _ _ _ (w_edges (by decide) m2 ?_))
    refine And.intro (fun _ => And.intro trivial (hQ _ _ ?_)) (fun c => absurd (nI_le (Nat.le_refl _) (by omega)) c)
    rw [show M = cutm (uniB (gN g) (gLo g) (gHi g) (gIS g) (gT g) o) (gM g) from Nat.eq_of_testBit_eq fun e => by
      rw [Bool.eq_iff_iff, hM, cutm_bit, Bool.and_eq_true, decide_eq_true_iff]]
    exact HQ
theorem q_unionCut (hd : 8 ≤ d) (I : MI h st) (HQ : mQ h st (sUni st.1) Q) : am_C xs am_P0 d m_Mo_unionCut [.ref 87] h Q := by
  obtain ⟨w, m, -⟩ := id I
  have m' := sfq_m (s00 (nI 0)) m
  unfold sUni at HQ
  refine am_C_le hd (am_enter (d := 7) ap_Mo_unionCut rfl ?_) (fun _ _ k => k)
  refine am_go (fun _ => false) (fun K cal Q' hK hC hQ => ?_)
  refine And.intro (sk_87 m.1.1) (hC _ _ _ _ (w_hasTerminal (by decide) m (fun q => ?_) (fun q => ?_)))
  · rw [if_neg q] at HQ
    refine And.intro (fun z => absurd z q_n1) (fun _ => ?_)
    exact And.intro (sk_87 m.1.1) (hC _ _ _ _ (w_unionNow (by decide) m' fun h2 s2 c2 => And.intro trivial (hQ _ _ (mQ_of I HQ (sf_tr (s00 _) (sfq_of s2 rfl rfl)) ((s2.2 0 (by decide)).trans (i0_0 _ _)) rfl))))
  · rw [if_pos q] at HQ
    exact And.intro (fun _ => And.intro trivial (hQ _ _ (mQ_of I HQ (sfq_thr (s00 _) _) (i0_0 _ _) rfl))) (fun z => absurd rfl z)
set_option maxHeartbeats 4000000 in
theorem q_unionCost (hd : 8 ≤ d) (I : MI h st) (HQ : mQ h st (sUniC st.1) Q) : am_C xs am_P0 d m_Mo_unionCost [.ref 87] h Q := by
  obtain ⟨w, m, -⟩ := id I
  have m' := sfq_m (s00 (nI 0)) m
  have hm := mg_m20 m
  unfold sUniC at HQ
  refine am_C_le hd (am_enter (d := 7) ap_Mo_unionCost rfl ?_) (fun _ _ k => k)
  refine am_go (fun p => p == 18) (fun K cal Q' hK hC hQ => ?_)
  refine And.intro (sk_87 m.1.1) (hC _ _ _ _ (w_hasTerminal (by decide) m (fun q => ?_) (fun q => ?_)))
  rotate_left
  · rw [if_pos q] at HQ
    exact And.intro (fun z => absurd rfl z) (fun _ => And.intro trivial (hQ _ _ (mQ_of I HQ (sfq_thr (s00 _) _) (i0_0 _ _) rfl)))
  · rw [if_neg q] at HQ
    refine And.intro (fun _ => ?_) (fun z => absurd q_n1 z)
    refine And.intro (sk_87 m.1.1) (hC _ _ _ _ (w_unionNow (by decide) m' fun h2 s2 c2 => hK _ _ _ _ ?_))
    have m2 := sf_mg s2 m' rfl (by decide)
    have gl : gUn st.1 < 2 ^ 31 := cutm_lt31 _ hm
    refine am_for (gM st.1) (fun i L h' => h' = h2 ∧ L = [.ref 87, .int (nI (gUn st.1)), .int (nI (sumE (gCo st.1) (gUn st.1).testBit i)), .int (nI i)]) ?_ ?_ 0 (Nat.zero_le _) _ _ ⟨rfl, rfl⟩
    · rintro i hi9 L h' ⟨rfl, rfl⟩ next
      have eI : am_inc (nI i) (Int.ofNat 1) = nI (i + 1) := nI_1 i
      rw [← eI] at next
      refine am_go (fun p => p == 18) (fun K cal Q' hK hC hQ => ?_)
      refine And.intro (sk_87 m2.1.1) (hC _ _ _ _ (w_edges (by decide) m2 ?_))
      refine And.intro (fun c => absurd c (nI_ge hi9 (by omega))) (fun _ => ?_)
      refine And.intro trivial (hC _ _ _ _ (w_has (by decide) gl (by omega) ?_))
      rw [sumE_s] at next
      cases hb : (gUn st.1).testBit i with
      | false =>
        rw [hb] at next
        exact And.intro (fun _ => hK _ _ _ _ (next _ _ ⟨rfl, by rw [← nI_add]; rfl⟩)) (fun z => absurd rfl z)
      | true =>
        rw [hb] at next
        refine And.intro (fun z => absurd z q_t1) (fun _ => ?_)
        refine And.intro (sk_87 m2.1.1) (And.intro (ck_row (sr_87_17 m2.1.1) (sk_93 m2.1.1) rfl (by omega) (by omega)) ?_)
        have v1 : am_i h' (am_r h' 87 17) (nI i).toNatClampNeg = nI (gCo st.1 i) := by rw [sr_87_17 m2.1.1, q_cl (by omega), c2 i hi9]
        exact hK _ _ _ _ (next _ _ ⟨rfl, by rw [if_pos rfl, ← nI_add, ← v1]; rfl⟩)
    · rintro L h' ⟨rfl, rfl⟩
      refine am_go (fun p => p == 18) (fun K cal Q' hK hC hQ => ?_)
      refine And.intro (sk_87 m2.1.1) (hC _ _ _ _ (w_edges (by decide) m2 ?_))
      exact And.intro (fun _ => And.intro trivial (hQ _ _ (mQ_of I HQ (sf_tr (s00 _) (sfq_of s2 rfl rfl)) ((s2.2 0 (by decide)).trans (i0_0 _ _)) rfl))) (fun c => absurd (nI_le (Nat.le_refl _) (by omega)) c)
theorem q_rounds (hd : 7 ≤ d) (I : MI h st) (HQ : mQ h st (0, nI (gR st.1)) Q) : am_C xs am_P0 d m_Mo_rounds [.ref 87] h Q := by
  obtain ⟨w, m, -⟩ := id I
  have m' := sfq_m (s00 (nI 0)) m
  refine am_C_le hd (am_enter (d := 6) ap_Mo_rounds rfl ?_) (fun _ _ k => k)
  refine am_go (fun _ => false) (fun K cal Q' hK hC hQ => ?_)
  refine And.intro (sk_87 m.1.1) (And.intro (sk_87 m.1.1) (hC _ _ _ _ (w_laysGroups (by decide) m' fun h2 R s2 e2 r2 _ => ?_)))
  have m2 := sf_mg s2 m' rfl (by decide)
  exact And.intro (sk_87 m2.1.1) (And.intro trivial (hQ _ _ (mQ_of I HQ (sf_tr (s00 _) (sfq_of s2 rfl rfl)) ((s2.2 0 (by decide)).trans (i0_0 _ _)) (by rw [gR_eq r2]; exact e2))))
end

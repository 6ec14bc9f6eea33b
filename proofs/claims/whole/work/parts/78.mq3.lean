/-! THE MODEL'S QUESTIONS, 3: fixed, the present cost, moves -/
theorem mvr_T {m T : Nat} {lo hi co : Nat → Nat} {lab : Nat → Int32} {v : Nat} {o : mvT} (h : T.testBit v = true) : ∀ t, mvr m T lo hi co lab v o t = o
  | 0 => rfl
  | t + 1 => by
    show mv1 m T lo hi co lab v t (mvr m T lo hi co lab v o t) = o
    unfold mv1
    rw [if_neg fun z => by rw [h] at z; exact absurd z.1 (by decide), mvr_T h t]
section
variable {xs : am_X} {d : Nat} {h : am_H} {st : stD} {Q : am_Q}
set_option maxHeartbeats 4000000 in
theorem q_fixed (hd : 7 ≤ d) (I : MI h st) (v : Int32) (HQ : mQ h st (sFixed st.1 v) Q) : am_C xs am_P0 d m_Mo_fixed [.ref 87, .int v] h Q := by
  obtain ⟨w, m, -⟩ := id I
  have m' := sfq_m (s00 (nI 0)) m
  have hn := mg_n9 m
  have hT := mg_T m
  unfold sFixed at HQ
  refine am_C_le hd (am_enter (d := 6) ap_Mo_fixed rfl ?_) (fun _ _ k => k)
  refine am_go (fun p => p == 21) (fun K cal Q' hK hC hQ => ?_)
  refine And.intro (sk_87 m.1.1) (And.intro (sk_87 m.1.1) (hC _ _ _ _ (w_isVertex (by decide) m' (i0_0 _ _) (fun k k1 k2 => ?_) (fun e => ?_))))
  · rw [k2, vin_nI k1 (by omega), if_pos rfl, q_cl (by omega)] at HQ
    subst k2
    refine And.intro (fun _ => ?_) (fun z => absurd q_n1 z)
    refine And.intro (sk_87 m.1.1) (hC _ _ _ _ (w_laysGroups (by decide) m' fun h2 R s2 e2 r2 hv => hK _ _ _ _ ?_))
    have m2 := sf_mg s2 m' rfl (by decide)
    rw [gR_eq r2] at HQ
    have GI2 := grs_GI (c := gCC st.1) hT R
    have Gl : ∀ t, grs (gN st.1) (gT st.1) (gCC st.1) R t < 2 ^ 31 := fun t => Nat.lt_trans (GI2.2.1 t) (pow_le31 (by omega))
    have fr := sf_tr (s00 (h := h) (nI 0)) (sfq_of s2 rfl rfl)
    have e0 := (s2.2 0 (by decide)).trans (i0_0 h (nI 0))
    refine am_for (gN st.1) (fun i L h' => h' = h2 ∧ L = [.ref 87, .int (nI k), .int (nI i)] ∧ ∀ t, t < i → (grs (gN st.1) (gT st.1) (gCC st.1) R t).testBit k = false) ?_ ?_ 0 (Nat.zero_le _) _ _ ⟨rfl, rfl, fun t ht => absurd ht (Nat.not_lt_zero t)⟩
    · rintro i hi9 L h' ⟨rfl, rfl, hno⟩ next
      have eI : am_inc (nI i) (Int.ofNat 1) = nI (i + 1) := nI_1 i
      rw [← eI] at next
      have skip : (grs (gN st.1) (gT st.1) (gCC st.1) R i).testBit k = false → ∀ t, t < i + 1 → (grs (gN st.1) (gT st.1) (gCC st.1) R t).testBit k = false := fun q t ht => by
        by_cases r : t = i
        · rw [r]; exact q
        · exact hno t (by omega)
      refine am_go (fun p => p == 21) (fun K cal Q' hK hC hQ => ?_)
      refine And.intro (sk_87 m2.1.1) (hC _ _ _ _ (w_count (by decide) m2 ?_))
      refine And.intro (fun c => absurd c (nI_ge hi9 (by omega))) (fun _ => ?_)
      refine And.intro (sk_87 m2.1.1) (hC _ _ _ _ (w_isTerm (by decide) m2 (by omega) ?_))
      cases hTi : (gT st.1).testBit i with
      | false => exact And.intro (fun _ => hK _ _ _ _ (next _ _ ⟨rfl, rfl, skip (by rw [GI2.1 i hTi]; exact Nat.zero_testBit _)⟩)) (fun z => absurd rfl z)
      | true =>
        refine And.intro (fun z => absurd z q_t1) (fun _ => ?_)
        have r96 : am_r h' 87 21 = 96 := sr_87_21 m2.1.1
        refine And.intro (sk_87 m2.1.1) (And.intro (ck_row r96 (sk_96 m2.1.1) rfl (by omega) (by omega)) ?_)
        have v1 : am_i h' (am_r h' 87 21) (nI i).toNatClampNeg = nI (grs (gN st.1) (gT st.1) (gCC st.1) R i) := by rw [r96, q_cl (by omega)]; exact hv i hi9
        refine And.intro trivial ?_
        show cal m_Mo_has [.int (am_i h' (am_r h' 87 21) (nI i).toNatClampNeg), .int (nI k)] h' _
        rw [v1]
        refine hC _ _ _ _ (w_has (by decide) (Gl i) (by omega) ?_)
        cases hb : (grs (gN st.1) (gT st.1) (gCC st.1) R i).testBit k with
        | false => exact And.intro (fun _ => hK _ _ _ _ (next _ _ ⟨rfl, rfl, skip hb⟩)) (fun z => absurd rfl z)
        | true =>
          refine And.intro (fun z => absurd z q_t1) (fun _ => And.intro trivial (hQ _ _ (mQ_of I HQ fr e0 ?_)))
          rw [fnd_hit hno hb (by omega)]
          rfl
    · rintro L h' ⟨rfl, rfl, hno⟩
      refine am_go (fun p => p == 21) (fun K cal Q' hK hC hQ => ?_)
      refine And.intro (sk_87 m2.1.1) (hC _ _ _ _ (w_count (by decide) m2 ?_))
      refine And.intro (fun _ => And.intro trivial (hQ _ _ (mQ_of I HQ fr e0 ?_))) (fun c => absurd (nI_le (Nat.le_refl _) (by omega)) c)
      rw [fnd_no fun t ht => ?_]
      · rfl
      · by_cases r : t < gN st.1
        · exact hno t r
        · rw [GI2.1 t (Nat.testBit_lt_two_pow (Nat.lt_of_lt_of_le hT (Nat.pow_le_pow_right (by decide) (by omega))))]
          exact Nat.zero_testBit _
  · rw [e] at HQ
    exact And.intro (fun z => absurd rfl z) (fun _ => And.intro trivial (hQ _ _ (mQ_of I HQ (sfq_thr (s00 _) _) (i0_0 _ _) rfl)))
def mlb (h : am_H) (n : Nat) (lab : Nat → Int32) : Prop := ∀ v, v < n → am_i h 100 v = lab v
set_option maxHeartbeats 4000000 in
theorem w_costNow {w : Nat} {g : gD} (hd : 4 ≤ d) (m : mg h w g) (HQ : ∀ h', sf [92, 93, 100] [] h h' → mco h' g → mlb h' (gN g) (gLab g) → Q (.inl (some (.int (nI (gCost g))))) h') : am_C xs am_P0 d m_Mo_costNow [.ref 87] h Q := by
  have hn := mg_n9 m
  refine am_C_le hd (am_enter (d := 3) ap_Mo_costNow rfl ?_) (fun _ _ k => k)
  refine am_go (fun p => p == 6) (fun K cal Q' hK hC hQ => ?_)
  refine And.intro (sk_87 m.1.1) (hC _ _ _ _ (w_laysCosts (by decide) m fun h1 s1 c1 => hK _ _ _ _ ?_))
  have s1' : sf [92, 93, 100] [] h h1 := sf_mo s1 (subl_x (by decide)) (subl_x (by decide))
  refine am_for (gN g) (fun i L h' => L = [.ref 87, .int (nI i)] ∧ sf [92, 93, 100] [] h h' ∧ mco h' g ∧ mlb h' i (gLab g)) ?_ ?_ 0 (Nat.zero_le _) _ _ ⟨rfl, s1', c1, fun v hv => absurd hv (Nat.not_lt_zero v)⟩
  · rintro i hi9 L h' ⟨rfl, s, hc, hl⟩ next
    have m' := sf_mg s m rfl (by decide)
    have eI : am_inc (nI i) (Int.ofNat 1) = nI (i + 1) := nI_1 i
    rw [← eI] at next
    refine am_go (fun p => p == 6) (fun K cal Q' hK hC hQ => ?_)
    refine And.intro (sk_87 m'.1.1) (hC _ _ _ _ (w_count (by decide) m' ?_))
    refine And.intro (fun c => absurd c (nI_ge hi9 (by omega))) (fun _ => ?_)
    have r1 : am_r h' 87 28 = 100 := sr_87_28 m'.1.1
    refine And.intro (sk_87 m'.1.1) (And.intro (sk_87 m'.1.1) (hC _ _ _ _ (w_get (by decide) m'.1 (k := 75 + i) (by rw [← nI_add]) (by omega) (m'.2.2.2.2.1 i hi9) ?_)))
    refine And.intro (ck_row r1 (sk_100 m'.1.1) rfl (by omega) (by omega)) ?_
    rw [show am_r h' 87 (604 % 64) = 100 from r1, q_cl (by omega)]
    refine hK _ _ _ _ (next _ _ ⟨rfl, sf_pi s (by decide) (by decide), fun e he => (congrFun (i_pi_ne (by decide)) e).trans (hc e he), fun v hvi => ?_⟩)
    rw [i_pi_same]
    by_cases q : v = i
    · rw [if_pos q, q]
    · rw [if_neg q]; exact hl v (by omega)
  · rintro L h' ⟨rfl, s, hc, hl⟩
    have m' := sf_mg s m rfl (by decide)
    refine am_go (fun p => p == 6) (fun K cal Q' hK hC hQ => ?_)
    refine And.intro (sk_87 m'.1.1) (hC _ _ _ _ (w_count (by decide) m' ?_))
    refine And.intro (fun _ => ?_) (fun c => absurd (nI_le (Nat.le_refl _) (by omega)) c)
    have r1 : am_r h' 87 28 = 100 := sr_87_28 m'.1.1
    refine And.intro (sk_87 m'.1.1) (And.intro (sk_87 m'.1.1) ?_)
    show cal m_Mo_costBy [.ref 87, .ref (am_r h' 87 28)] h' _
    rw [r1]
    exact hC _ _ _ _ (w_costBy (by decide) m' hc (sk_100 m'.1.1) hl (And.intro trivial (hQ _ _ (HQ h' s hc hl))))
theorem q_cost (hd : 5 ≤ d) (I : MI h st) (HQ : mQ h st (0, nI (gCost st.1)) Q) : am_C xs am_P0 d m_Mo_cost [.ref 87] h Q := by
  obtain ⟨w, m, -⟩ := id I
  have m' := sfq_m (s00 (nI 0)) m
  refine am_C_le hd (am_enter (d := 4) ap_Mo_cost rfl ?_) (fun _ _ k => k)
  refine am_go (fun _ => false) (fun K cal Q' hK hC hQ => ?_)
  exact And.intro (sk_87 m.1.1) (And.intro (sk_87 m.1.1) (hC _ _ _ _ (w_costNow (by decide) m' fun h2 s2 _ _ => And.intro trivial (hQ _ _ (mQ_of I HQ (sf_tr (s00 _) (sfq_of s2 rfl rfl)) ((s2.2 0 (by decide)).trans (i0_0 _ _)) rfl)))))
set_option maxHeartbeats 4000000 in
theorem q_cut (hd : 4 ≤ d) (I : MI h st) (HQ : mQ h st (0, sCut st.1) Q) : am_C xs am_P0 d m_Mo_cut [.ref 87] h Q := by
  obtain ⟨w, m, -⟩ := id I
  have m' := sfq_m (s00 (nI 0)) m
  have hn := mg_n9 m
  have hm := mg_m20 m
  refine am_C_le hd (am_enter (d := 3) ap_Mo_cut rfl ?_) (fun _ _ k => k)
  refine am_go (fun p => p == 9) (fun K cal Q' hK hC hQ => ?_)
  refine And.intro (sk_87 m.1.1) (hK _ _ _ _ ?_)
  refine am_for (gM st.1) (fun i L h' => h' = am_pi h 87 0 (nI 0) ∧ L = [.ref 87, .int (nI (cutm (dif (gLo st.1) (gHi st.1) (gLab st.1)) i)), .int (nI i)]) ?_ ?_ 0 (Nat.zero_le _) _ _ ⟨rfl, rfl⟩
  · rintro i hi9 L h' ⟨rfl, rfl⟩ next
    obtain ⟨w1, w2⟩ := mg_e m hi9
    have eI : am_inc (nI i) (Int.ofNat 1) = nI (i + 1) := nI_1 i
    rw [← eI] at next
    refine am_go (fun p => p == 9) (fun K cal Q' hK hC hQ => ?_)
    refine And.intro (sk_87 m'.1.1) (hC _ _ _ _ (w_edges (by decide) m' ?_))
    refine And.intro (fun c => absurd c (nI_ge hi9 (by omega))) (fun _ => ?_)
    refine And.intro (sk_87 m'.1.1) (hC _ _ _ _ (w_low (by decide) m' hi9 ?_))
    refine And.intro (sk_87 m'.1.1) (hC _ _ _ _ (w_get (by decide) m'.1 (k := 75 + gLo st.1 i) (by rw [← nI_add]) (by omega) (m'.2.2.2.2.1 _ (by omega)) ?_))
    refine And.intro (sk_87 m'.1.1) (hC _ _ _ _ (w_high (by decide) m' hi9 ?_))
    refine And.intro (sk_87 m'.1.1) (hC _ _ _ _ (w_get (by decide) m'.1 (k := 75 + gHi st.1 i) (by rw [← nI_add]) (by omega) (m'.2.2.2.2.1 _ (by omega)) ?_))
    refine And.intro (fun c => ?_) (fun c => ?_)
    · have e9 : cutm (dif (gLo st.1) (gHi st.1) (gLab st.1)) (i + 1) = cutm (dif (gLo st.1) (gHi st.1) (gLab st.1)) i := by
        have : dif (gLo st.1) (gHi st.1) (gLab st.1) i = false := decide_eq_false fun z => z c
        simp [cutm, this]
      refine hK _ _ _ _ (next _ _ ⟨rfl, ?_⟩)
      have e8 : nI (cutm (dif (gLo st.1) (gHi st.1) (gLab st.1)) i) ||| nI 0 = nI (cutm (dif (gLo st.1) (gHi st.1) (gLab st.1)) (i + 1)) := by rw [fa_or, Nat.or_zero, e9]
      rw [← e8]
      rfl
    · have e9 : cutm (dif (gLo st.1) (gHi st.1) (gLab st.1)) (i + 1) = cutm (dif (gLo st.1) (gHi st.1) (gLab st.1)) i ||| 2 ^ i := by
        have : dif (gLo st.1) (gHi st.1) (gLab st.1) i = true := decide_eq_true fun z => c z
        simp [cutm, this]
      exact hK _ _ _ _ (next _ _ ⟨rfl, by rw [e9, ← q_orb (by omega)]; rfl⟩)
  · rintro L h' ⟨rfl, rfl⟩
    refine am_go (fun p => p == 9) (fun K cal Q' hK hC hQ => ?_)
    refine And.intro (sk_87 m'.1.1) (hC _ _ _ _ (w_edges (by decide) m' ?_))
    exact And.intro (fun _ => And.intro trivial (hQ _ _ (mQ_of I HQ (s00 _) (i0_0 _ _) rfl))) (fun c => absurd (nI_le (Nat.le_refl _) (by omega)) c)
def mms (h : am_H) (o : mvT) : Prop := am_i h 87 32 = oV1 o ∧ am_i h 87 33 = oT1 o ∧ am_i h 87 34 = oC1 o
set_option maxHeartbeats 8000000 in
theorem w_laysMove {w : Nat} {g : gD} (hd : 5 ≤ d) (m : mg h w g) (HQ : ∀ h', sf [92, 93, 100] [32, 33, 34] h h' → mco h' g → mlb h' (gN g) (gLab g) → mms h' (gMv g) → mok (gN g) (gMv g) → Q (.inl none) h') : am_C xs am_P0 d m_Mo_laysMove [.ref 87] h Q := by
  have hn := mg_n9 m
  have hm := mg_m20 m
  refine am_C_le hd (am_enter (d := 4) ap_Mo_laysMove rfl ?_) (fun _ _ k => k)
  refine am_go (fun p => p == 22) (fun K cal Q' hK hC hQ => ?_)
  refine And.intro (sk_87 m.1.1) (hC _ _ _ _ (w_costNow (by decide) m fun h1 s1 c1 l1 => ?_))
  have m1 := sf_mg s1 m rfl (by decide)
  refine And.intro (sk_87 m1.1.1) (And.intro (sk_87 m1.1.1) (And.intro (sk_87 m1.1.1) (hK _ _ _ _ ?_)))
  have s1' : sf [92, 93, 100] [32, 33, 34] h h1 := sf_mo s1 (subl_x (by decide)) (subl_x (by decide))
  generalize hits : (nI (gCost g)) = its
  refine am_for (gN g) (fun i L h' => ∃ v3 v4, L = [.ref 87, .int its, .int (nI i), v3, v4] ∧ sf [92, 93, 100] [32, 33, 34] h h' ∧ mco h' g ∧ mlb h' (gN g) (gLab g) ∧ mms h' (mva (gN g) (gM g) (gT g) (gLo g) (gHi g) (gCo g) (gLab g) i) ∧ mok (gN g) (mva (gN g) (gM g) (gT g) (gLo g) (gHi g) (gCo g) (gLab g) i)) ?_ ?_ 0 (Nat.zero_le _) _ _ ⟨_, _, rfl, ?_, ?_, ?_, ?_, fun q hq => by cases hq⟩
  · rintro i hi9 L h' ⟨v3, v4, rfl, s, hc, hl, hs, ho⟩ next
    have m' := sf_mg s m rfl (by decide)
    refine am_go (fun p => p == 32) (fun K cal Q' hK hC hQ => ?_)
    refine And.intro (sk_87 m'.1.1) (hC _ _ _ _ (w_count (by decide) m' ?_))
    refine And.intro (fun c => absurd c (nI_ge hi9 (by omega))) (fun _ => hK _ _ _ _ ?_)
    -- the end of the inner loop
    have fin : ∀ (h2 : am_H) (v3 v4 : Value), sf [92, 93, 100] [32, 33, 34] h h2 → mco h2 g → (∀ u, u < gN g → u ≠ i → am_i h2 100 u = gLab g u) → mms h2 (mvr (gM g) (gT g) (gLo g) (gHi g) (gCo g) (gLab g) i (mva (gN g) (gM g) (gT g) (gLo g) (gHi g) (gCo g) (gLab g) i) (gN g)) → mok (gN g) (mvr (gM g) (gT g) (gLo g) (gHi g) (gCo g) (gLab g) i (mva (gN g) (gM g) (gT g) (gLo g) (gHi g) (gCo g) (gLab g) i) (gN g)) → am_W xs (am_code at_Mo_laysMove) (am_hd ah_Mo_laysMove) (am_C xs am_P0 4) Q 127 [.ref 87, .int its, .int (nI i), v3, v4] [] h2 := by
      intro h2 v3 v4 s2 c2 l2 hs2 ho2
      have m2 := sf_mg s2 m rfl (by decide)
      have r1 : am_r h2 87 28 = 100 := sr_87_28 m2.1.1
      have eI : am_inc (nI i) (Int.ofNat 1) = nI (i + 1) := nI_1 i
      rw [← eI] at next
      refine am_go (fun p => p == 22) (fun K cal Q' hK hC hQ => ?_)
      refine And.intro (sk_87 m2.1.1) (And.intro (sk_87 m2.1.1) (hC _ _ _ _ (w_get (by decide) m2.1 (k := 75 + i) (by rw [← nI_add]) (by omega) (m2.2.2.2.2.1 i hi9) ?_)))
      refine And.intro (ck_row r1 (sk_100 m2.1.1) rfl (by omega) (by omega)) ?_
      rw [show am_r h2 87 (604 % 64) = 100 from r1, q_cl (by omega)]
      refine hK _ _ _ _ (next _ _ ⟨v3, v4, rfl, sf_pi s2 (by decide) (by decide), fun e he => (congrFun (i_pi_ne (by decide)) e).trans (c2 e he), fun u hu => ?_, ⟨(congrFun (i_pi_ne (by decide)) 32).trans hs2.1, (congrFun (i_pi_ne (by decide)) 33).trans hs2.2.1, (congrFun (i_pi_ne (by decide)) 34).trans hs2.2.2⟩, ho2⟩)
      rw [i_pi_same]
      by_cases q : u = i
      · rw [if_pos q, q]
      · rw [if_neg q]; exact l2 u hu q
    cases hTv : (gT g).testBit i with
    | true =>
      have e9 := mvr_T (m := gM g) (lo := gLo g) (hi := gHi g) (co := gCo g) (lab := gLab g) (o := mva (gN g) (gM g) (gT g) (gLo g) (gHi g) (gCo g) (gLab g) i) hTv (gN g)
      rw [e9] at fin
      refine am_go (fun p => p == 127) (fun K cal Q' hK hC hQ => ?_)
      refine And.intro (sk_87 m'.1.1) (hC _ _ _ _ (w_count (by decide) m' ?_))
      refine And.intro (fun c => absurd c (nI_ge (show 0 < gN g by omega) (by omega))) (fun _ => ?_)
      refine And.intro (sk_87 m'.1.1) (hC _ _ _ _ (w_isTerm (by decide) m' (by omega) ?_))
      rw [hTv]
      exact And.intro (fun _ => hK _ _ _ _ (fin h' _ _ s hc (fun u hu _ => hl u hu) hs ho)) (fun z => absurd q_t1 z)
    | false =>
      refine am_for (gN g) (fun j L h2 => ∃ v4, L = [.ref 87, .int its, .int (nI i), .int (nI j), v4] ∧ sf [92, 93, 100] [32, 33, 34] h h2 ∧ mco h2 g ∧ (∀ u, u < gN g → u ≠ i → am_i h2 100 u = gLab g u) ∧ mms h2 (mvr (gM g) (gT g) (gLo g) (gHi g) (gCo g) (gLab g) i (mva (gN g) (gM g) (gT g) (gLo g) (gHi g) (gCo g) (gLab g) i) j) ∧ mok (gN g) (mvr (gM g) (gT g) (gLo g) (gHi g) (gCo g) (gLab g) i (mva (gN g) (gM g) (gT g) (gLo g) (gHi g) (gCo g) (gLab g) i) j)) ?_ ?_ 0 (Nat.zero_le _) _ _ ⟨_, rfl, s, hc, fun u hu _ => hl u hu, hs, ho⟩
      · rintro j hj9 L h2 ⟨v4, rfl, s2, c2, l2, hs2, ho2⟩ next2
        have m2 := sf_mg s2 m rfl (by decide)
        have eI : am_inc (nI j) (Int.ofNat 1) = nI (j + 1) := nI_1 j
        rw [← eI] at next2
        have st9 : mvr (gM g) (gT g) (gLo g) (gHi g) (gCo g) (gLab g) i (mva (gN g) (gM g) (gT g) (gLo g) (gHi g) (gCo g) (gLab g) i) (j + 1) = mv1 (gM g) (gT g) (gLo g) (gHi g) (gCo g) (gLab g) i j (mvr (gM g) (gT g) (gLo g) (gHi g) (gCo g) (gLab g) i (mva (gN g) (gM g) (gT g) (gLo g) (gHi g) (gCo g) (gLab g) i) j) := rfl
        rw [st9] at next2
        generalize mvr (gM g) (gT g) (gLo g) (gHi g) (gCo g) (gLab g) i (mva (gN g) (gM g) (gT g) (gLo g) (gHi g) (gCo g) (gLab g) i) j = o at hs2 ho2 next2
        unfold mv1 at next2
        refine am_go (fun p => p == 32) (fun K cal Q' hK hC hQ => ?_)
        refine And.intro (sk_87 m2.1.1) (hC _ _ _ _ (w_count (by decide) m2 ?_))
        refine And.intro (fun c => absurd c (nI_ge hj9 (by omega))) (fun _ => ?_)
        refine And.intro (sk_87 m2.1.1) (hC _ _ _ _ (w_isTerm (by decide) m2 (by omega) ?_))
        rw [hTv]
        refine And.intro (fun z => absurd rfl z) (fun _ => ?_)
        refine And.intro (sk_87 m2.1.1) (hC _ _ _ _ (w_isTerm (by decide) m2 (by omega) ?_))
        cases hTj : (gT g).testBit j with
        | false =>
          rw [if_neg fun q => by rw [hTj] at q; exact absurd q.2.1 (by decide)] at next2
          exact And.intro (fun _ => hK _ _ _ _ (next2 _ _ ⟨v4, rfl, s2, c2, l2, hs2, ho2⟩)) (fun z => absurd rfl z)
        | true =>
          refine And.intro (fun z => absurd z q_t1) (fun _ => ?_)
          refine And.intro (sk_87 m2.1.1) (hC _ _ _ _ (w_get (by decide) m2.1 (k := 75 + i) (by rw [← nI_add]) (by omega) (m2.2.2.2.2.1 i hi9) ?_))
          refine And.intro (fun z => ?_) (fun z => ?_)
          rotate_left
          · have z : gLab g i = nI j := Classical.not_not.mp z
            rw [if_neg fun q => q.2.2 z] at next2
            exact hK _ _ _ _ (next2 _ _ ⟨v4, rfl, s2, c2, l2, hs2, ho2⟩)
          · have z : gLab g i ≠ nI j := z
            rw [if_pos ⟨hTv, hTj, z⟩] at next2
            have r1 : am_r h2 87 28 = 100 := sr_87_28 m2.1.1
            refine And.intro (sk_87 m2.1.1) (And.intro (ck_row r1 (sk_100 m2.1.1) rfl (by omega) (by omega)) ?_)
            rw [show am_r h2 87 (604 % 64) = 100 from r1, q_cl (by omega)]
            have s3 : sf [92, 93, 100] [32, 33, 34] h (am_pi h2 100 i (nI j)) := sf_pi s2 (by decide) (by decide)
            have m3 := sf_mg s3 m rfl (by decide)
            have c3 : mco (am_pi h2 100 i (nI j)) g := fun e he => (congrFun (i_pi_ne (by decide)) e).trans (c2 e he)
            have l3 : mlb (am_pi h2 100 i (nI j)) (gN g) (setL (gLab g) i j) := fun u hu => by
              rw [i_pi_same]
              unfold setL
              by_cases q : u = i
              · rw [if_pos q, if_pos q]
              · rw [if_neg q, if_neg q]; exact l2 u hu q
            have l3' : ∀ u, u < gN g → u ≠ i → am_i (am_pi h2 100 i (nI j)) 100 u = gLab g u := fun u hu q => by rw [i_pi_same, if_neg q]; exact l2 u hu q
            have s3m : mms (am_pi h2 100 i (nI j)) o := ⟨(congrFun (i_pi_ne (by decide)) 32).trans hs2.1, (congrFun (i_pi_ne (by decide)) 33).trans hs2.2.1, (congrFun (i_pi_ne (by decide)) 34).trans hs2.2.2⟩
            generalize am_pi h2 100 i (nI j) = h3 at s3 m3 c3 l3 l3' s3m
            have r3 : am_r h3 87 28 = 100 := sr_87_28 m3.1.1
            refine And.intro (sk_87 m3.1.1) (And.intro (sk_87 m3.1.1) ?_)
            show cal m_Mo_costBy [.ref 87, .ref (am_r h3 87 28)] h3 _
            rw [r3]
            have lC : mvc (gM g) (gLo g) (gHi g) (gCo g) (gLab g) i j ≤ 20 * 9999 := mvc_le hm fun e he => (mg_co m he).2
            refine hC _ _ _ _ (w_costBy (by decide) m3 c3 (sk_100 m3.1.1) l3 ?_)
            have new : ∀ v4, mvu o (i, j, mvc (gM g) (gLo g) (gHi g) (gCo g) (gLab g) i j) = some (i, j, mvc (gM g) (gLo g) (gHi g) (gCo g) (gLab g) i j) → K 32 [.ref 87, .int its, .int (nI i), .int (am_inc (nI j) (Int.ofNat 1)), v4] [] (am_pi (am_pi (am_pi h3 87 32 (nI i)) 87 33 (nI j)) 87 34 (nI (mvc (gM g) (gLo g) (gHi g) (gCo g) (gLab g) i j))) := fun v4 hu => by
              rw [hu] at next2
              refine hK _ _ _ _ (next2 _ _ ⟨v4, rfl, sf_pf (sf_pf (sf_pf s3 (by decide)) (by decide)) (by decide), fun e he => ?_, fun u hu q => ?_, ⟨?_, ?_, ?_⟩, fun q hq => ?_⟩)
              · rw [i_pi_ne (by decide), i_pi_ne (by decide), i_pi_ne (by decide)]; exact c3 e he
              · rw [i_pi_ne (by decide), i_pi_ne (by decide), i_pi_ne (by decide)]; exact l3' u hu q
              · rw [i_pi_same, if_neg (by decide), i_pi_same, if_neg (by decide), i_pi_same]; rfl
              · rw [i_pi_same, if_neg (by decide), i_pi_same]; rfl
              · rw [i_pi_same]; rfl
              · rw [← Option.some.inj hq]; exact ⟨hi9, hj9, lC⟩
            cases ho9 : o with
            | none =>
              rw [ho9] at s3m
              refine And.intro (sk_87 m3.1.1) (And.intro (fun _ => ?_) (fun z => absurd s3m.1 z))
              exact And.intro (sk_87 m3.1.1) (And.intro (sk_87 m3.1.1) (And.intro (sk_87 m3.1.1) (new _ (by rw [ho9]; rfl))))
            | some q =>
              obtain ⟨q1, q2, q3⟩ := ho2 q ho9
              rw [ho9] at s3m
              refine And.intro (sk_87 m3.1.1) (And.intro (fun z => absurd (s3m.1.symm.trans z) (nI_neg1 (by omega))) (fun _ => ?_))
              refine And.intro (sk_87 m3.1.1) (And.intro (fun z => ?_) (fun z => ?_))
              · have z : am_i h3 87 34 ≤ nI (mvc (gM g) (gLo g) (gHi g) (gCo g) (gLab g) i j) := z
                rw [s3m.2.2] at z
                have z := (nI_leI (show q.2.2 < 2 ^ 31 by omega) (by omega)).mp z
                have hu : mvu o (i, j, mvc (gM g) (gLo g) (gHi g) (gCo g) (gLab g) i j) = o := by
                  rw [ho9]
                  show (if _ < _ then _ else _) = _
                  rw [if_neg (by simp only; omega)]
                rw [hu] at next2
                exact hK _ _ _ _ (next2 _ _ ⟨_, rfl, s3, c3, l3', by rw [ho9]; exact s3m, ho2⟩)
              · have z : ¬ am_i h3 87 34 ≤ nI (mvc (gM g) (gLo g) (gHi g) (gCo g) (gLab g) i j) := z
                rw [s3m.2.2] at z
                have z := Nat.not_le.mp fun r => z ((nI_leI (show q.2.2 < 2 ^ 31 by omega) (by omega)).mpr r)
                refine And.intro (sk_87 m3.1.1) (And.intro (sk_87 m3.1.1) (And.intro (sk_87 m3.1.1) (new _ ?_)))
                rw [ho9]
                show (if _ < _ then _ else _) = _
                rw [if_pos (by simp only; omega)]
      · rintro L h2 ⟨v4, rfl, s2, c2, l2, hs2, ho2⟩
        have m2 := sf_mg s2 m rfl (by decide)
        refine am_go (fun p => p == 127) (fun K cal Q' hK hC hQ => ?_)
        refine And.intro (sk_87 m2.1.1) (hC _ _ _ _ (w_count (by decide) m2 ?_))
        exact And.intro (fun _ => hK _ _ _ _ (fin h2 _ _ s2 c2 l2 hs2 ho2)) (fun c => absurd (nI_le (Nat.le_refl _) (by omega)) c)
  · rintro L h' ⟨v3, v4, rfl, s, hc, hl, hs, ho⟩
    have m' := sf_mg s m rfl (by decide)
    refine am_go (fun p => p == 22) (fun K cal Q' hK hC hQ => ?_)
    refine And.intro (sk_87 m'.1.1) (hC _ _ _ _ (w_count (by decide) m' ?_))
    exact And.intro (fun _ => And.intro trivial (hQ _ _ (HQ h' s hc hl hs ho))) (fun c => absurd (nI_le (Nat.le_refl _) (by omega)) c)
  · exact sf_pf (sf_pf (sf_pf s1' (by decide)) (by decide)) (by decide)
  · intro e he
    rw [i_pi_ne (by decide), i_pi_ne (by decide), i_pi_ne (by decide)]; exact c1 e he
  · intro e he
    rw [i_pi_ne (by decide), i_pi_ne (by decide), i_pi_ne (by decide)]; exact l1 e he
  · refine ⟨?_, ?_, ?_⟩
    · rw [i_pi_same, if_neg (by decide), i_pi_same, if_neg (by decide), i_pi_same]; rfl
    · rw [i_pi_same, if_neg (by decide), i_pi_same]; rfl
    · rw [i_pi_same]; rfl
set_option maxHeartbeats 4000000 in
theorem q_bestMove (hd : 6 ≤ d) (I : MI h st) (what : Int32) (HQ : mQ h st (sMove st.1 what) Q) : am_C xs am_P0 d m_Mo_bestMove [.ref 87, .int what] h Q := by
  obtain ⟨w, m, -⟩ := id I
  have m' := sfq_m (s00 (nI 0)) m
  unfold sMove at HQ
  refine am_C_le hd (am_enter (d := 5) ap_Mo_bestMove rfl ?_) (fun _ _ k => k)
  refine am_go (fun _ => false) (fun K cal Q' hK hC hQ => ?_)
  have e4 : (lN 2).toInt = ((3 : Nat) : Int) - 1 := by decide +kernel
  refine And.intro (sk_87 m.1.1) (And.intro trivial (hC _ _ _ _ (w_isIn (by decide) (q_vin (n := 3) (by decide) e4) ?_)))
  refine And.intro (sk_87 m.1.1) (hC _ _ _ _ (w_right (by decide) (sk_87 m'.1.1) (i0_0 _ _) (by decide) (by decide) (fun q2 => ?_) (fun q2 => ?_)))
  · obtain ⟨j, j1, rfl⟩ := q_range_of (by decide) q2
    refine And.intro (fun _ => ?_) (fun z => absurd q_n1 z)
    refine And.intro (sk_87 m.1.1) (hC _ _ _ _ (w_laysMove (by decide) m' fun h2 s2 _ _ hs ho => ?_))
    have m2 := sf_mg s2 m' rfl (by decide)
    have fr := sf_tr (s00 (h := h) (nI 0)) (sfq_of s2 rfl rfl)
    have e0 := (s2.2 0 (by decide)).trans (i0_0 h (nI 0))
    rcases (show j = 0 ∨ j = 1 ∨ j = 2 by omega) with r | r | r <;> subst r
    · exact And.intro (fun z => absurd rfl z) (fun _ => And.intro (sk_87 m2.1.1) (And.intro trivial (hQ _ _ (mQ_of I HQ fr e0 hs.1))))
    · exact And.intro (fun _ => And.intro (fun z => absurd rfl z) (fun _ => And.intro (sk_87 m2.1.1) (And.intro trivial (hQ _ _ (mQ_of I HQ fr e0 hs.2.1))))) (fun z => absurd q_n1 z)
    · exact And.intro (fun _ => And.intro (fun _ => And.intro (sk_87 m2.1.1) (And.intro trivial (hQ _ _ (mQ_of I HQ fr e0 hs.2.2)))) (fun z => absurd (show ¬ nI 2 = nI 1 by decide) z)) (fun z => absurd (show ¬ nI 2 = 0 by decide) z)
  · have no : ∀ k, k < 3 → what ≠ nI k := fun k hk q3 => by rw [q3, vin_nI hk (by decide)] at q2; cases q2
    rw [if_neg (no 0 (by decide)), if_neg (no 1 (by decide)), if_neg (no 2 (by decide))] at HQ
    exact And.intro (fun z => absurd rfl z) (fun _ => And.intro trivial (hQ _ _ (mQ_of I HQ (sfq_thr (s00 _) _) (i0_0 _ _) rfl)))
end

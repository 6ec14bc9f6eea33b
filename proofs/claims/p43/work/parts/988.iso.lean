/-! THE LAW'S OWN MODEL, 4: areIsolating -/
theorem cff_CI {c w : Nat} {h h1 : am_H} (s : cff c w h h1) : am_n h ≤ am_n h1 := s.2.2.1.1
section
variable {xs : am_X} {d : Nat} {h : am_H} {Q : am_Q} {n T : Nat} {C : Nat → Nat → Nat} {st : stD}
set_option maxHeartbeats 8000000 in
/-- the scan of all sets, from its head to 130 -/
theorem w_scan (hd : 2 ≤ d) (hs : sh h) (m : mlO h n T C) {t : Nat} (ht : t < n) {a2 a3 a4 : Value}
    (K0 : ∀ val com, scn (lCut n C) (fun S => S < 2 ^ n ∧ S.testBit t = true ∧ S &&& T = 2 ^ t) (2 ^ n) val com → val ≤ xMAX → com < 2 ^ n → am_W xs (am_code at_La_areIsolating) (am_hd ah_La_areIsolating) (am_C xs am_P0 d) Q 130 [.ref 87, .ref 1, a2, a3, a4, .int (nI t), .int (nI val), .int (nI com), .int (nI (2 ^ n))] [] h) :
    am_W xs (am_code at_La_areIsolating) (am_hd ah_La_areIsolating) (am_C xs am_P0 d) Q 44 [.ref 87, .ref 1, a2, a3, a4, .int (nI t), .int (nI xMAX), .int (nI 0), .int (nI 0)] [] h := by
  obtain ⟨⟨m0, m1⟩, ⟨hn, hT⟩, mC⟩ := id m
  have hk := sk_87 hs
  have hC1 : ∀ a, a < 6 → ∀ b, b < 6 → C a b ≤ 1000 := fun a ha b hb => (mC a ha b hb).2
  have hp : 2 ^ n ≤ 64 := Nat.pow_le_pow_right (n := 2) (by decide) hn
  have hp0 : 0 < 2 ^ n := Nat.two_pow_pos n
  have ht2 : 2 ^ t ≤ 64 := Nat.pow_le_pow_right (n := 2) (by decide) (show t ≤ 6 by omega)
  have e1 : nI 1 <<< (nI n &&& 31) = nI (2 ^ n) := q_shl n (by omega)
  have et : nI 1 <<< (nI t &&& 31) = nI (2 ^ t) := q_shl t (by omega)
  have hT64 : T < 64 := by omega
  refine am_for (2 ^ n) (fun i L h' => h' = h ∧ ∃ val com, scn (lCut n C) (fun S => S < 2 ^ n ∧ S.testBit t = true ∧ S &&& T = 2 ^ t) i val com ∧ val ≤ xMAX ∧ com < 2 ^ n ∧ L = [.ref 87, .ref 1, a2, a3, a4, .int (nI t), .int (nI val), .int (nI com), .int (nI i)]) ?_ ?_ 0 (Nat.zero_le _) _ _ ⟨rfl, xMAX, 0, Or.inl ⟨rfl, rfl, fun S hS => absurd hS (Nat.not_lt_zero S)⟩, Nat.le_refl _, hp0, rfl⟩
  · rintro i hi9 L h' ⟨rfl, val, com, hsc, hv, hcm, rfl⟩ next
    have hcut : lCut n C i ≤ 36000 := lCut_le hn hC1 i n (Nat.le_refl _)
    have hv : val ≤ 2147483647 := hv
    -- on with the next set
    have fin : ∀ val com, scn (lCut n C) (fun S => S < 2 ^ n ∧ S.testBit t = true ∧ S &&& T = 2 ^ t) (i + 1) val com → val ≤ xMAX → com < 2 ^ n → am_W xs (am_code at_La_areIsolating) (am_hd ah_La_areIsolating) (am_C xs am_P0 d) Q 124 [.ref 87, .ref 1, a2, a3, a4, .int (nI t), .int (nI val), .int (nI com), .int (nI i)] [] h' := by
      intro val com h1 h2 h3
      refine am_go (fun p => p == 44) (fun K cal Q' hK hC hQ => ?_)
      refine hK _ _ _ _ (next _ _ ⟨rfl, val, com, h1, h2, h3, ?_⟩)
      rw [← nI_1 i]
      rfl
    refine am_go (fun p => p == 124 || p == 93) (fun K cal Q' hK hC hQ => ?_)
    refine And.intro hk (And.intro (fun c => ?_) (fun _ => ?_))
    · have c : nI 1 <<< (am_i h' 87 0 &&& 31) ≤ nI i := c
      rw [m0, e1] at c
      exact absurd c (nI_ge hi9 (by omega))
    refine And.intro trivial (hC _ _ _ _ (c_La_in (by omega) (by omega) (by omega) ?_))
    refine And.intro (fun c => hK _ _ _ _ (fin val com (hsc.skip fun q => ?_) hv hcm)) (fun c => ?_)
    · have c := (bI_0 _).mp c
      rw [q.2.1] at c
      cases c
    have ci : i.testBit t = true := by
      cases q : i.testBit t with
      | true => rfl
      | false => rw [q] at c; exact absurd rfl c
    have eA : nI i &&& am_i h' 87 1 = nI (i &&& T) := by rw [m1, fa_and]
    have hAl : i &&& T < 2 ^ 31 := Nat.lt_of_le_of_lt Nat.and_le_left (by omega)
    refine And.intro hk (And.intro (fun c2 => hK _ _ _ _ (fin val com (hsc.skip fun q => ?_) hv hcm)) (fun c2 => ?_))
    · have c2 : ¬ nI i &&& am_i h' 87 1 = nI 1 <<< (nI t &&& 31) := c2
      rw [eA, et, q.2.2] at c2
      exact c2 rfl
    have c2 : nI i &&& am_i h' 87 1 = nI 1 <<< (nI t &&& 31) := Classical.not_not.mp c2
    rw [eA, et] at c2
    have hcand : i < 2 ^ n ∧ i.testBit t = true ∧ i &&& T = 2 ^ t := ⟨hi9, ci, (nI_eq hAl (by omega)).mp c2⟩
    refine And.intro hk (hC _ _ _ _ (c_La_cut (by omega) hs m (by omega) ?_))
    refine And.intro (fun c3 => hK _ _ _ _ ?_) (fun c3 => hK _ _ _ _ (fin val com (hsc.more ?_ (by show _ < 2147483647; omega)) hv hcm))
    · have c3 : nI (lCut n C i) ≤ nI val := c3
      have c3 := (nI_leI (by omega) (by show val < 2147483648; omega)).mp c3
      show am_W _ _ _ _ _ 93 [.ref 87, .ref 1, a2, a3, a4, .int (nI t), .int (nI val), .int (nI com), .int (nI i)] [] h'
      refine am_go (fun p => p == 124) (fun K cal Q' hK hC hQ => ?_)
      refine And.intro hk (hC _ _ _ _ (c_La_cut (by omega) hs m (by omega) ?_))
      refine And.intro (fun c4 => ?_) (fun c4 => ?_)
      · have c4 : nI val ≤ nI (lCut n C i) := c4
        have c4 := (nI_leI (by show val < 2147483648; omega) (by omega)).mp c4
        have ev : lCut n C i = val := by omega
        refine And.intro hk (hC _ _ _ _ (c_La_cut (by omega) hs m (by omega) ?_))
        refine hK _ _ _ _ ?_
        show am_W _ _ _ _ _ 124 [.ref 87, .ref 1, a2, a3, a4, .int (nI t), .int (nI (lCut n C i)), .int (nI com &&& nI i), .int (nI i)] [] h'
        rw [fa_and, ev]
        exact fin val (com &&& i) (hsc.same hcand ev (by show _ < 2147483647; omega)) hv (Nat.lt_of_le_of_lt Nat.and_le_left hcm)
      · have c4 : ¬ nI val ≤ nI (lCut n C i) := c4
        have c4 : lCut n C i < val := Nat.not_le.mp fun q => c4 ((nI_leI (by show val < 2147483648; omega) (by omega)).mpr q)
        refine And.intro hk (hC _ _ _ _ (c_La_cut (by omega) hs m (by omega) ?_))
        refine hK _ _ _ _ ?_
        exact fin (lCut n C i) i (hsc.less hcand c4) (by show _ ≤ 2147483647; omega) hi9
    · have c3 : ¬ nI (lCut n C i) ≤ nI val := c3
      exact Nat.not_le.mp fun q => c3 ((nI_leI (by omega) (by show val < 2147483648; omega)).mpr q)
  · rintro L h' ⟨rfl, val, com, hsc, hv, hcm, rfl⟩
    refine am_go (fun p => p == 130) (fun K cal Q' hK hC hQ => ?_)
    refine And.intro hk (And.intro (fun _ => hK _ _ _ _ (K0 val com hsc hv hcm)) (fun c => absurd ?_ c))
    show nI 1 <<< (am_i h' 87 0 &&& 31) ≤ nI (2 ^ n)
    rw [m0, e1]
    exact nI_le (Nat.le_refl _) (by omega)
theorem aR0 (E1 E2 E3 : Nat) (v : Int32) : aR E1 E2 E3 (0, v) = .inl (some (.int v)) := rfl
set_option maxHeartbeats 8000000 in
theorem c_La_areIsolating (hd : 8 ≤ d) (I : CI h st) (hTN : TN h) (hN : am_n h ≤ 800000) (m : mlO h n T C) (en : gN st.1 = n) (eT : gT st.1 = T) (hT0 : T ≠ 0) (R : mrl n (gM st.1) (gLo st.1) (gHi st.1) (gCo st.1) C)
    (HQ : ∀ h', CI h' st → cff 100 20000 h h' → Q (.inl (some (.int (nI 1)))) h') : am_C xs am_P0 d m_La_areIsolating [.ref 87, .ref 1] h Q := by
  have hs := I.1
  obtain ⟨⟨m0, m1⟩, ⟨hn, hT⟩, mC⟩ := id m
  have hk := sk_87 hs
  have hw := I.2.1.2.2.2.2.2.2
  have hC1 : ∀ a, a < 6 → ∀ b, b < 6 → C a b ≤ 1000 := fun a ha b hb => (mC a ha b hb).2
  have hcu := mrl_cut R
  have hp : 2 ^ n ≤ 64 := Nat.pow_le_pow_right (n := 2) (by decide) hn
  have gIVb : ∀ t, gIV st.1 t ≤ 36000 := fun t => by
    show cutc (gM st.1) (gLo st.1) (gHi st.1) (gCo st.1) _ ≤ 36000
    rw [hcu]
    exact lCut_le hn hC1 _ n (Nat.le_refl _)
  have gSb : ∀ t, t ≤ n → gSum st.1 t ≤ 216000 := fun t ht => by
    refine Nat.le_trans (fb_sm_bound (c := 36000) fun k hk => ?_) (by omega)
    have := gIVb k
    show (if (gT st.1).testBit k then gIV st.1 k else 0) ≤ 36000
    split <;> omega
  refine am_C_le hd (am_enter (d := 7) ap_La_areIsolating rfl ?_) (fun _ _ k => k)
  refine am_go (fun p => p == 10) (fun K cal Q' hK hC hQ => hK _ _ _ _ ?_)
  refine am_for n (fun t L h' => CI h' st ∧ cff (9 * t) (2160 * t) h h' ∧ ∃ v6 v7 v8, L = [.ref 87, .ref 1, .int (nI (gSum st.1 t)), .int (oV (gIV st.1) (dea (gIV st.1) T t)), .int (oI (dea (gIV st.1) T t)), .int (nI t), v6, v7, v8]) ?_ ?_ 0 (Nat.zero_le _) _ _ ⟨I, cff.rf, _, _, _, rfl⟩
  · rintro t ht9 L h' ⟨I', F, v6, v7, v8, rfl⟩ next
    have hs' := I'.1
    have m' := cff_ml F hs m
    have hk' := sk_87 hs'
    have hN' : topN h' := by show am_n h' < 900000; have := F.2.2.1.2; omega
    have eS : gSum st.1 (t + 1) = gSum st.1 t + (if (gT st.1).testBit t then gIV st.1 t else 0) := rfl
    refine am_go (fun p => p == 34 || p == 186) (fun K cal Q' hK hC hQ => ?_)
    refine And.intro hk' (And.intro (fun c => absurd c (q_ge m'.1.1 ht9 (by omega))) (fun _ => ?_))
    refine And.intro hk' (And.intro trivial ?_)
    show cal m_La_in [.int (am_i h' 87 1), .int (nI t)] h' _
    rw [m'.1.2]
    refine hC _ _ _ _ (c_La_in (by decide) (by omega) (by omega) ?_)
    refine And.intro (fun c => hK _ _ _ _ ?_) (fun c => hK _ _ _ _ ?_)
    · have hTt : T.testBit t = true := by
        cases q : T.testBit t with
        | true => rfl
        | false => rw [q] at c; exact absurd rfl c
      show am_W _ _ _ _ _ 34 [.ref 87, .ref 1, .int (nI (gSum st.1 t)), .int (oV (gIV st.1) (dea (gIV st.1) T t)), .int (oI (dea (gIV st.1) T t)), .int (nI t), v6, v7, v8] [] h'
      refine am_go (fun p => p == 44) (fun K cal Q' hK hC hQ => hK _ _ _ _ ?_)
      refine w_scan (by decide) hs' m' ht9 (fun val com hsc hv hcm => ?_)
      rw [← hcu] at hsc
      obtain ⟨ev, ec⟩ := scn_fin (by omega) ht9 hTt hsc
      have eV : gIV st.1 t = val := by rw [ev, ← en, ← eT]; rfl
      have eC : gIS st.1 t = com := by rw [ec, ← en, ← eT]; rfl
      have eCC : gCC st.1 com = val := by rw [ec, ev]; rfl
      have hvb := gIVb t
      rw [eV] at hvb
      have hT9 : isT (gN st.1) (gT st.1) (nI t) = true := by rw [isT_bit hw.1.2.2 hw.1.1 (by omega), eT]; exact hTt
      refine am_go (fun p => p == 165 || p == 163) (fun K cal Q' hK hC hQ => ?_)
      refine And.intro (sk_1 hs') (hC _ _ _ _ (k_isolatingValue (by decide) I' hN' (nI t) (fun h1 I1 F1 => ?_)))
      have e9 : sIsoV st.1 (nI t) = (0, nI val) := by unfold sIsoV; rw [if_pos hT9, q_cl (by omega), eV]
      rw [e9, aR0]
      refine And.intro (fun c => absurd rfl c) (fun _ => ?_)
      have hs1 := I1.1
      have F1 := F.tr (cff_of F1)
      have hN1 : topN h1 := by show am_n h1 < 900000; have := F1.2.2.1.2; omega
      refine And.intro (sk_1 hs1) (hC _ _ _ _ (k_isolatingSet (by decide) I1 hN1 (nI t) (fun h2 I2 F2 => ?_)))
      have e10 : sIsoS st.1 (nI t) = (0, nI com) := by unfold sIsoS; rw [if_pos hT9, q_cl (by omega), eC]
      rw [e10, aR0]
      refine And.intro (fun c => absurd rfl c) (fun _ => ?_)
      have hs2 := I2.1
      have F2 := F1.tr (cff_of F2)
      have hN2 : topN h2 := by show am_n h2 < 900000; have := F2.2.2.1.2; omega
      refine And.intro (sk_1 hs2) (hC _ _ _ _ (k_cutCost (by decide) I2 hN2 (nI com) (fun h3 I3 F3 => ?_)))
      have e11 : sCutCost st.1 (nI com) = (0, nI val) := by
        unfold sCutCost vin
        rw [if_pos (q_range (by rw [en]; exact hcm) (by rw [en]; omega)), q_cl (by omega), eCC]
      rw [e11, aR0]
      refine And.intro (fun _ => hK _ _ _ _ ?_) (fun c => absurd rfl c)
      have F3 := F2.tr (cff_of F3)
      show am_W _ _ _ _ _ 165 [.ref 87, .ref 1, .int (nI (gSum st.1 t)), .int (oV (gIV st.1) (dea (gIV st.1) T t)), .int (oI (dea (gIV st.1) T t)), .int (nI t), .int (nI val), .int (nI com), .int (nI (2 ^ n))] [] h3
      have eS2 : nI (gSum st.1 t) + nI val = nI (gSum st.1 (t + 1)) := by rw [nI_add, eS, if_pos (by rw [eT]; exact hTt), eV]
      have eD : dea (gIV st.1) T (t + 1) = (match dea (gIV st.1) T t with
        | none => some t
        | some b => if gIV st.1 b < gIV st.1 t then some t else some b) := by
        show (if T.testBit t then _ else _) = _
        rw [if_pos hTt]
        cases dea (gIV st.1) T t <;> rfl
      have F4 : cff (9 * (t + 1)) (2160 * (t + 1)) h h3 := F3.mo (by omega) (by omega)
      -- the next terminal
      have fin : ∀ D1 D2, D1 = oV (gIV st.1) (dea (gIV st.1) T (t + 1)) → D2 = oI (dea (gIV st.1) T (t + 1)) → am_W xs (am_code at_La_areIsolating) (am_hd ah_La_areIsolating) (am_C xs am_P0 7) Q 186 [.ref 87, .ref 1, .int (nI (gSum st.1 (t + 1))), .int D1, .int D2, .int (nI t), .int (nI val), .int (nI com), .int (nI (2 ^ n))] [] h3 := by
        rintro D1 D2 rfl rfl
        refine am_go (fun p => p == 10) (fun K cal Q' hK hC hQ => ?_)
        refine hK _ _ _ _ (next _ _ ⟨I3, F4, .int (nI val), .int (nI com), .int (nI (2 ^ n)), ?_⟩)
        rw [← nI_1 t]
        rfl
      refine am_go (fun p => p == 186) (fun K cal Q' hK hC hQ => ?_)
      refine And.intro (fun c => hK _ _ _ _ ?_) (fun c => hK _ _ _ _ ?_)
      · have c : oV (gIV st.1) (dea (gIV st.1) T t) < nI val := c
        show am_W _ _ _ _ _ 186 [.ref 87, .ref 1, .int (nI (gSum st.1 t) + nI val), .int (nI val), .int (nI t), .int (nI t), .int (nI val), .int (nI com), .int (nI (2 ^ n))] [] h3
        rw [eS2]
        have e12 : dea (gIV st.1) T (t + 1) = some t := by
          rw [eD]
          cases q : dea (gIV st.1) T t with
          | none => rfl
          | some b =>
            rw [q] at c
            have c : nI (gIV st.1 b) < nI val := c
            have hb := gIVb b
            have c2 : gIV st.1 b < gIV st.1 t := by rw [eV]; exact Nat.not_le.mp fun z => absurd c (nI_nlt z (by omega))
            show (if gIV st.1 b < gIV st.1 t then some t else some b) = some t
            rw [if_pos c2]
        refine fin _ _ ?_ ?_
        · rw [e12]; show nI val = nI (gIV st.1 t); rw [eV]
        · rw [e12]; rfl
      · have c : ¬ oV (gIV st.1) (dea (gIV st.1) T t) < nI val := c
        show am_W _ _ _ _ _ 186 [.ref 87, .ref 1, .int (nI (gSum st.1 t) + nI val), .int (oV (gIV st.1) (dea (gIV st.1) T t)), .int (oI (dea (gIV st.1) T t)), .int (nI t), .int (nI val), .int (nI com), .int (nI (2 ^ n))] [] h3
        rw [eS2]
        have e12 : dea (gIV st.1) T (t + 1) = dea (gIV st.1) T t := by
          rw [eD]
          cases q : dea (gIV st.1) T t with
          | none =>
            rw [q] at c
            have c : ¬ -nI 1 < nI val := c
            exfalso
            refine c ?_
            rw [fa_lt, nI_m1, nI_toInt (by omega)]
            omega
          | some b =>
            rw [q] at c
            have c : ¬ nI (gIV st.1 b) < nI val := c
            have hb := gIVb b
            show (if gIV st.1 b < gIV st.1 t then some t else some b) = some b
            rw [if_neg (fun z => c (nI_lt (by rw [eV] at z; exact z) (by omega)))]
        refine fin _ _ ?_ ?_
        · rw [e12]
        · rw [e12]
    · have hTt : T.testBit t = false := by
        cases q : T.testBit t with
        | false => rfl
        | true => rw [q] at c; exact absurd (show ¬ bI true = 0 by decide) c
      show am_W _ _ _ _ _ 186 [.ref 87, .ref 1, .int (nI (gSum st.1 t)), .int (oV (gIV st.1) (dea (gIV st.1) T t)), .int (oI (dea (gIV st.1) T t)), .int (nI t), v6, v7, v8] [] h'
      refine am_go (fun p => p == 10) (fun K cal Q' hK hC hQ => ?_)
      refine hK _ _ _ _ (next _ _ ⟨I', F.mo (by omega) (by omega), v6, v7, v8, ?_⟩)
      have eD : dea (gIV st.1) T (t + 1) = dea (gIV st.1) T t := by
        show (if T.testBit t then _ else _) = _
        rw [hTt]
        rfl
      rw [eS, if_neg (by rw [eT, hTt]; exact Bool.false_ne_true), eD, ← nI_1 t]
      rfl
  · rintro L h' ⟨I', F, v6, v7, v8, rfl⟩
    have hs' := I'.1
    have m' := cff_ml F hs m
    have hN' : topN h' := by show am_n h' < 900000; have := F.2.2.1.2; omega
    refine am_go (fun p => p == 217) (fun K cal Q' hK hC hQ => ?_)
    refine And.intro (sk_87 hs') (And.intro (fun _ => ?_) (fun c => absurd (q_le m'.1.1 (by omega)) c))
    refine And.intro (sk_1 hs') (hC _ _ _ _ (k_lowerBound (by decide) I' (fun h1 I1 F1 => ?_)))
    have F1 := F.tr (cff_of F1)
    have hs1 := I1.1
    have hN1 : topN h1 := by show am_n h1 < 900000; have := F1.2.2.1.2; omega
    have eL : sLow st.1 = (nI (gSum st.1 n) + nI 1) / nI 2 := by
      unfold sLow
      have := gSb n (Nat.le_refl _)
      rw [en, nI_add, q_div (by omega) (by decide)]
    refine And.intro (by decide) (And.intro (fun c => absurd eL c) (fun _ => ?_))
    refine And.intro (sk_1 hs1) (hC _ _ _ _ (k_dearest (by decide) I1 hN1 (fun h2 I2 F2 => ?_)))
    have F2 := F1.tr (cff_of F2)
    have eD : sDear st.1 = (0, oI (dea (gIV st.1) T n)) := by
      unfold sDear
      rw [if_neg (by rw [eT]; exact hT0), ← en, ← eT]
      rfl
    rw [eD, aR0]
    exact And.intro (fun c => absurd rfl c) (fun _ => And.intro (Or.inr rfl) (hQ _ _ (HQ h2 I2 (F2.mo (by omega) (by omega)))))
end

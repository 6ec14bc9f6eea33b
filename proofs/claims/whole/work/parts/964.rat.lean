/-! RATIO, MEAN COST -/
noncomputable def sRatio (g : gD) : UInt32 := if eC g (gT g) = 0 then (if gCost g = 0 then UInt32.ofNat 1065353216 else UInt32.ofNat 3212836864) else FP.fdiv (FP.i2f (nI (gCost g))) (FP.i2f (nI (eC g (gT g))))
/-- the share of an edge among c terminals -/
def mSh (g : gD) (c e : Nat) : UInt32 := if (gT g).testBit (gLo g e) = true ∧ (gT g).testBit (gHi g e) = true then FP.i2f (nI (gCo g e)) else FP.fdiv (FP.fmul (FP.i2f (nI (gCo g e))) (FP.i2f (nI (c - 1)))) (FP.i2f (nI c))
def mSum (g : gD) (c : Nat) : Nat → UInt32
  | 0 => UInt32.ofNat 0
  | e + 1 => FP.fadd (mSum g c e) (mSh g c e)
def sMean (g : gD) : UInt32 := if pcn (gT g) < 2 then UInt32.ofNat 0 else mSum g (pcn (gT g)) (gM g)
theorem pcn_30x (S : Nat) : pcn S ≤ 9 := fb_ct_le _ _
theorem gCost_le {g : gD} (h : gwf g) : gCost g ≤ 199980 := Nat.le_trans (sumE_le (c := 9999) fun e he => (coF_rng (h.2.2.1 e he)).2) (by have := h.1.2.1; omega)
theorem eC_le {g : gD} (h : gwf g) (T : Nat) : eC g T ≤ 199980 := by
  unfold eC
  split
  · exact Nat.zero_le _
  · exact acost_le h.1.2.1 fun e he => (coF_rng (h.2.2.1 e he)).2
theorem mSh_m {g : gD} (h : gwf g) {c e : Nat} (hc : 2 ≤ c ∧ c ≤ 9) (he : e < gM g) : fpos (FP.i2f (nI (gCo g e))) ∧ fpos (FP.fmul (FP.i2f (nI (gCo g e))) (FP.i2f (nI (c - 1)))) ∧ fpos (FP.fdiv (FP.fmul (FP.i2f (nI (gCo g e))) (FP.i2f (nI (c - 1)))) (FP.i2f (nI c))) ∧ fpos (mSh g c e) := by
  have h0 := coF_rng (cs := gCs g) (l := gLd g (gLo g e)) (g := gLd g (gHi g e)) (h.2.2.1 e he)
  have h0 : gCo g e ≤ 9999 := h0.2
  have h1 : fpos (FP.i2f (nI (gCo g e))) := i2f_pos (by omega)
  have h2 := fpos_mul h1 (i2f_num (n := c - 1) (by omega) (by omega))
  have h3 := fpos_div h2 (i2f_num (n := c) (by omega) (by omega))
  refine ⟨h1, h2, h3, ?_⟩
  unfold mSh
  split
  · exact h1
  · exact h3
theorem fpos_0 : fpos (UInt32.ofNat 0) := by unfold fpos; decide
theorem mSum_pos {g : gD} (h : gwf g) {c : Nat} (hc : 2 ≤ c ∧ c ≤ 9) : ∀ e, e ≤ gM g → fpos (mSum g c e)
  | 0, _ => fpos_0
  | e + 1, he => fpos_add (mSum_pos h hc e (by omega)) (mSh_m h hc (by omega)).2.2.2
theorem sMean_pos {g : gD} (h : gwf g) : fpos (sMean g) := by
  unfold sMean
  split
  · exact fpos_0
  · exact mSum_pos h ⟨by omega, pcn_30x _⟩ _ (Nat.le_refl _)
theorem sRatio_m {g : gD} (h : gwf g) (z : ¬ eC g (gT g) = 0) : fpos (FP.fdiv (FP.i2f (nI (gCost g))) (FP.i2f (nI (eC g (gT g))))) := by
  have := eC_le h (gT g)
  have := gCost_le h
  exact fpos_div (i2f_pos (by omega)) (i2f_num (by omega) (by omega))
/-- as a double, it is no NaN -/
theorem sRatio_n {g : gD} (h : gwf g) : vf_n64 (FP.f2d (sRatio g)) := by
  unfold sRatio
  split
  · split
    · refine f2d_pos ?_
      unfold fpos
      decide
    · exact f2d_m1
  · rename_i z
    exact f2d_pos (sRatio_m h z)
section
variable {xs : am_X} {d : Nat} {h : am_H} {st : stD} {Q : am_Q}
set_option maxHeartbeats 4000000 in
theorem k_ratio (hd : 13 ≤ d) (I : CI h st) (HQ : ∀ h', CI h' st → clF h h' → Q (.inl (some (.float (sRatio st.1)))) h') : am_C xs am_P0 d m_Mc_ratio [.ref 1] h Q := by
  have wf : gwf st.1 := I.2.1.2.2.2.2.2.2
  refine am_C_le hd (am_enter (d := 12) ap_Mc_ratio rfl ?_) (fun _ _ k => k)
  refine am_go (fun p => p == 34) (fun K cal Q' hK hC hQ => ?_)
  refine And.intro (sk_1 I.1) (And.intro (k13 I.1) ?_)
  show cal 36 [.ref (am_r h 1 3)] h _
  rw [sr_1_3 I.1]
  refine hC _ _ _ _ (c_presentCost (by decide) I.2.1.1 I.2.1.co I.2.1.2.2.2.1 ?_)
  refine And.intro (sk_1 I.1) (And.intro (sk_1 I.1) (And.intro (sk_1 I.1) (And.intro (k13 I.1) (And.intro (k17 I.1) ?_))))
  show cal 10 [.ref (am_r h 1 7), .ref (am_r h 1 3), .int (am_i h (am_r h 1 3) 2)] h _
  rw [eT3 I, sr_1_3 I.1, sr_1_7 I.1]
  refine hC _ _ _ _ (c_Ex_run (by decide) I.1 I.2.1.1 I.2.1.co I.2.1.1.2.2.2.1.2.2 (fun h' s r => ?_))
  obtain ⟨I', F⟩ := I.q s rfl
  obtain ⟨r1, r2⟩ := exr_eq I.2.1.1.2.2.2.2 r
  refine And.intro (sk_1 I'.1) (And.intro (k17 I'.1) (hK _ _ _ _ ?_))
  have e2 : am_i h' (am_r h' 1 7) 1 = nI (eC st.1 (gT st.1)) := by rw [sr_1_7 I'.1, r1]
  have hL : am_W xs (am_code at_Mc_ratio) (am_hd ah_Mc_ratio) (am_C xs am_P0 12) Q 34 [.ref 1, .int (nI (gCost st.1)), .int (nI (eC st.1 (gT st.1)))] [] h' := by
    have le := eC_le wf (gT st.1)
    have lg := gCost_le wf
    refine am_go (fun _ => false) (fun K cal Q' hK hC hQ => ?_)
    have HQ := HQ h' I' F
    unfold sRatio at HQ
    refine And.intro (fun z => ?_) (fun z => ?_)
    · have z : ¬ eC st.1 (gT st.1) = 0 := fun q => z (by rw [q]; rfl)
      rw [if_neg z] at HQ
      exact And.intro (fpos_n32 (sRatio_m wf z)) (And.intro trivial (hQ _ _ HQ))
    · have z : nI (eC st.1 (gT st.1)) = nI 0 := Classical.not_not.mp z
      have z := (nI_eq (by omega) (by decide)).mp z
      rw [if_pos z] at HQ
      refine And.intro (fun y => ?_) (fun y => ?_)
      · have y : ¬ gCost st.1 = 0 := fun q => y (by rw [q]; rfl)
        rw [if_neg y] at HQ
        exact And.intro trivial (hQ _ _ HQ)
      · have y : nI (gCost st.1) = nI 0 := Classical.not_not.mp y
        have y := (nI_eq (by omega) (by decide)).mp y
        rw [if_pos y] at HQ
        exact And.intro trivial (hQ _ _ HQ)
  rw [← e2] at hL
  exact hL
set_option maxHeartbeats 8000000 in
theorem k_meanCost (hd : 3 ≤ d) (I : CI h st) (HQ : ∀ h', CI h' st → clF h h' → Q (.inl (some (.float (sMean st.1)))) h') : am_C xs am_P0 d m_Mc_meanCost [.ref 1] h Q := by
  have hs := I.1
  have wf : gwf st.1 := I.2.1.2.2.2.2.2.2
  have hg := I.2.1.1
  have hn := wf.1.1
  have hm := wf.1.2.1
  have hT9 : gT st.1 < 512 := Nat.lt_of_lt_of_le wf.1.2.2 (Nat.pow_le_pow_right (by decide) hn : 2 ^ gN st.1 ≤ 2 ^ 9)
  have HQ := HQ h I clF.rf
  unfold sMean at HQ
  have c9 := pcn_30x (gT st.1)
  have e1 : am_i h (am_r h 1 3) 1 = nI (gM st.1) := by rw [sr_1_3 hs]; exact hg.2.1.2.1
  refine am_C_le hd (am_enter (d := 2) ap_Mc_meanCost rfl ?_) (fun _ _ k => k)
  refine am_go (fun p => p == 22) (fun K cal Q' hK hC hQ => ?_)
  refine And.intro (sk_1 hs) (And.intro (k13 hs) (And.intro trivial ?_))
  show cal 216 [.int (am_i h (am_r h 1 3) 2)] h _
  rw [eT3 I]
  refine hC _ _ _ _ (c_bitCount (by decide) hT9 ?_)
  have hwf9 := wf
  generalize hc : pcn (gT st.1) = c at HQ c9 ⊢
  refine And.intro (fun z => hK _ _ _ _ ?_) (fun z => ?_)
  rotate_left
  · have z : ¬ nI 2 ≤ nI c := z
    have z : c < 2 := Nat.not_le.mp fun q => z (nI_le q (by omega))
    rw [if_pos z] at HQ
    exact And.intro trivial (hQ _ _ HQ)
  have z : nI 2 ≤ nI c := z
  have z := (nI_leI (by decide) (by omega)).mp z
  rw [if_neg (by omega)] at HQ
  refine am_for (gM st.1) (fun i L h' => h' = h ∧ ∃ v4, L = [.ref 1, .int (nI c), .float (mSum st.1 c i), .int (nI i), v4]) ?_ ?_ 0 (Nat.zero_le _) _ _ ⟨rfl, _, rfl⟩
  · rintro i hi9 L h' ⟨rfl, v4, rfl⟩ next
    have eI : am_inc (nI i) (Int.ofNat 1) = nI (i + 1) := nI_1 i
    rw [← eI] at next
    obtain ⟨w1, w2⟩ := wf.2.1 i hi9
    obtain ⟨p1, p2, p3, p4⟩ := mSh_m wf ⟨z, c9⟩ hi9
    have p5 := mSum_pos wf ⟨z, c9⟩ i (by omega)
    have eC1 : nI c - nI 1 = nI (c - 1) := by
      have := nI_pred (c - 1)
      rw [show c - 1 + 1 = c by omega] at this
      exact this
    have a5 : am_r h' (am_r h' 1 3) 5 = 6 := by rw [sr_1_3 hs]; exact sr_3_5 hs
    have a6 : am_r h' (am_r h' 1 3) 6 = 7 := by rw [sr_1_3 hs]; exact sr_3_6 hs
    have a8 : am_r h' (am_r h' 1 3) 8 = 9 := by rw [sr_1_3 hs]; exact sr_3_8 hs
    have v5 : am_i h' (am_r h' (am_r h' 1 3) 5) (nI i).toNatClampNeg = nI (gLo st.1 i) := by rw [a5, q_cl (by omega)]; exact (hg.2.2.1 i hi9).1
    have v6 : am_i h' (am_r h' (am_r h' 1 3) 6) (nI i).toNatClampNeg = nI (gHi st.1 i) := by rw [a6, q_cl (by omega)]; exact (hg.2.2.1 i hi9).2
    have v8 : am_i h' (am_r h' (am_r h' 1 3) 8) (nI i).toNatClampNeg = nI (gCo st.1 i) := by rw [a8, q_cl (by omega)]; exact (I.2.1.co i hi9).1
    have v8b : am_i h' (am_r h' 3 8) (nI i).toNatClampNeg = nI (gCo st.1 i) := by rw [← v8, sr_1_3 hs]
    have hb := Nat.lt_trans w1 w2
    -- the end of a turn
    have fin : ∀ y : UInt32, y = mSh st.1 c i → am_W xs (am_code at_Mc_meanCost) (am_hd ah_Mc_meanCost) (am_C xs am_P0 2) Q 95 [.ref 1, .int (nI c), .float (mSum st.1 c i), .int (nI i), .float y] [] h' := by
      intro y hy
      subst hy
      refine am_go (fun p => p == 22) (fun K cal Q' hK hC hQ => ?_)
      exact And.intro (fpos_n32 (fpos_add p5 p4)) (hK _ _ _ _ (next _ _ ⟨rfl, _, rfl⟩))
    have mid : ¬ ((gT st.1).testBit (gLo st.1 i) = true ∧ (gT st.1).testBit (gHi st.1 i) = true) → am_W xs (am_code at_Mc_meanCost) (am_hd ah_Mc_meanCost) (am_C xs am_P0 2) Q 83 [.ref 1, .int (nI c), .float (mSum st.1 c i), .int (nI i), .float (FP.i2f (nI (gCo st.1 i)))] [] h' := by
      intro hno
      refine am_go (fun p => p == 95) (fun K cal Q' hK hC hQ => ?_)
      show vf_n32 (FP.fmul (FP.i2f (nI (gCo st.1 i))) (FP.i2f (nI c - nI 1))) ∧ vf_n32 (FP.fdiv (FP.fmul (FP.i2f (nI (gCo st.1 i))) (FP.i2f (nI c - nI 1))) (FP.i2f (nI c))) ∧ K 95 [.ref 1, .int (nI c), .float (mSum st.1 c i), .int (nI i), .float (FP.fdiv (FP.fmul (FP.i2f (nI (gCo st.1 i))) (FP.i2f (nI c - nI 1))) (FP.i2f (nI c)))] [] h'
      rw [eC1]
      refine ⟨fpos_n32 p2, fpos_n32 p3, hK _ _ _ _ (fin _ ?_)⟩
      unfold mSh
      rw [if_neg hno]
    refine am_go (fun p => p == 22 || p == 83 || p == 95) (fun K cal Q' hK hC hQ => ?_)
    refine And.intro (sk_1 hs) (And.intro (k13 hs) (And.intro (fun z => absurd z (q_ge e1 hi9 (by omega))) (fun _ => ?_)))
    refine And.intro (sk_1 hs) (And.intro (k13 hs) (And.intro (ck_row a8 (sk_9 hs) rfl (by omega) (by omega)) ?_))
    refine And.intro (sk_1 hs) (And.intro (sk_1 hs) (And.intro (k13 hs) (And.intro (ck_row a5 (sk_6 hs) rfl (by omega) (by omega)) (And.intro (k13 hs) ?_))))
    show cal 21 [.ref (am_r h' 1 3), .int (am_i h' (am_r h' (am_r h' 1 3) 5) (nI i).toNatClampNeg)] h' _
    rw [v5, sr_1_3 hs]
    refine hC _ _ _ _ (c_isTerminal (by decide) hg (nI (gLo st.1 i)) ?_)
    rw [isT_nI hb (by omega)]
    refine And.intro (fun q => hK _ _ _ _ ?_) (fun q => ?_)
    · have q := (bI_0 _).mp q
      have := mid (fun y => by rw [q] at y; exact absurd y.1 (by decide))
      rw [← v8b] at this
      exact this
    · have q1 : (gT st.1).testBit (gLo st.1 i) = true := by
        cases e : (gT st.1).testBit (gLo st.1 i) with
        | true => rfl
        | false => rw [e] at q; exact absurd rfl q
      refine And.intro (sk_1 hs) (And.intro (sk_1 hs) (And.intro (k13 hs) (And.intro (ck_row a6 (sk_7 hs) rfl (by omega) (by omega)) (And.intro (k13 hs) ?_))))
      show cal 21 [.ref (am_r h' 1 3), .int (am_i h' (am_r h' (am_r h' 1 3) 6) (nI i).toNatClampNeg)] h' _
      rw [v6, sr_1_3 hs]
      refine hC _ _ _ _ (c_isTerminal (by decide) hg (nI (gHi st.1 i)) ?_)
      rw [isT_nI w2 (by omega)]
      refine And.intro (fun y => hK _ _ _ _ ?_) (fun y => hK _ _ _ _ ?_)
      · have y1 : (gT st.1).testBit (gHi st.1 i) = true := by
          cases e : (gT st.1).testBit (gHi st.1 i) with
          | true => rfl
          | false => rw [e] at y; exact absurd rfl y
        have := fin (FP.i2f (nI (gCo st.1 i))) (by unfold mSh; rw [if_pos ⟨q1, y1⟩])
        rw [← v8b] at this
        exact this
      · have y : bI ((gT st.1).testBit (gHi st.1 i)) = 0 := Classical.not_not.mp y
        have y := (bI_0 _).mp y
        have := mid (fun u => by rw [y] at u; exact absurd u.2 (by decide))
        rw [← v8b] at this
        exact this
  · rintro L h' ⟨rfl, v4, rfl⟩
    refine am_go (fun p => p == 22) (fun K cal Q' hK hC hQ => ?_)
    exact And.intro (sk_1 hs) (And.intro (k13 hs) (And.intro (fun _ => And.intro trivial (hQ _ _ HQ)) (fun z => absurd (q_le e1 (by omega)) z)))
/-- the model's -/
abbrev mF (h : am_H) (st : stD) (x : UInt32) (Q : am_Q) : Prop := ∀ h', MI h' st → moF h h' → Q (.inl (some (.float x))) h'
theorem mF_of {x : UInt32} (I : MI h st) (HQ : mF h st x Q) {h' : am_H} (s : sfq h h') : Q (.inl (some (.float x))) h' := HQ h' (sfq_I s I).1 (sfq_I s I).2
set_option maxHeartbeats 4000000 in
theorem q_ratio (hd : 6 ≤ d) (I : MI h st) (HQ : mF h st (sRatio st.1) Q) : am_C xs am_P0 d m_Mo_ratio [.ref 87] h Q := by
  obtain ⟨w, m, -⟩ := id I
  have m' := sfq_m (s00 (nI 0)) m
  have wf := mg_wf m
  refine am_C_le hd (am_enter (d := 5) ap_Mo_ratio rfl ?_) (fun _ _ k => k)
  refine am_go (fun _ => false) (fun K cal Q' hK hC hQ => ?_)
  refine And.intro (sk_87 m.1.1) (And.intro (sk_87 m.1.1) (hC _ _ _ _ (w_costNow (by decide) m' fun h2 s2 _ _ => ?_)))
  have m2 := sf_mg s2 m' rfl (by decide)
  refine And.intro (sk_87 m2.1.1) (hC _ _ _ _ (w_exactNow (by decide) m2 fun h3 s3 _ _ => ?_))
  have s : sfq h h3 := sf_tr (sf_tr (s00 _) (sfq_of s2 rfl rfl)) (sfq_of s3 rfl rfl)
  have HQ := mF_of I HQ s
  unfold sRatio at HQ
  have le := eC_le wf (gT st.1)
  have lg := gCost_le wf
  refine And.intro (fun z => ?_) (fun z => ?_)
  · have z : ¬ eC st.1 (gT st.1) = 0 := fun q => z (by rw [q]; rfl)
    rw [if_neg z] at HQ
    exact And.intro (fpos_n32 (sRatio_m wf z)) (And.intro trivial (hQ _ _ HQ))
  · have z : nI (eC st.1 (gT st.1)) = nI 0 := Classical.not_not.mp z
    have z := (nI_eq (by omega) (by decide)).mp z
    rw [if_pos z] at HQ
    refine And.intro (fun y => ?_) (fun y => ?_)
    · have y : ¬ gCost st.1 = 0 := fun q => y (by rw [q]; rfl)
      rw [if_neg y] at HQ
      exact And.intro trivial (hQ _ _ HQ)
    · have y : nI (gCost st.1) = nI 0 := Classical.not_not.mp y
      have y := (nI_eq (by omega) (by decide)).mp y
      rw [if_pos y] at HQ
      exact And.intro trivial (hQ _ _ HQ)
set_option maxHeartbeats 8000000 in
theorem q_meanCost (hd : 6 ≤ d) (I : MI h st) (HQ : mF h st (sMean st.1) Q) : am_C xs am_P0 d m_Mo_meanCost [.ref 87] h Q := by
  obtain ⟨w, m, -⟩ := id I
  have m' := sfq_m (s00 (nI 0)) m
  have wf := mg_wf m
  have hn := wf.1.1
  have hm := wf.1.2.1
  have hT9 : gT st.1 < 2 ^ 9 := Nat.lt_of_lt_of_le wf.1.2.2 (Nat.pow_le_pow_right (by decide) hn)
  have c9 := pcn_30x (gT st.1)
  refine am_C_le hd (am_enter (d := 5) ap_Mo_meanCost rfl ?_) (fun _ _ k => k)
  refine am_go (fun p => p == 29) (fun K cal Q' hK hC hQ => ?_)
  refine And.intro (sk_87 m.1.1) (And.intro (sk_87 m.1.1) (hC _ _ _ _ (w_get (by decide) m'.1 (k := 2) rfl (by decide) m'.2.1.2.2.1 ?_)))
  refine And.intro trivial (hC _ _ _ _ (w_bitsOf (by decide) hT9 ?_))
  have s1 : sfq h (am_pi h 87 0 (nI 0)) := s00 _
  unfold sMean at HQ
  generalize hc : pcn (gT st.1) = c at HQ c9 ⊢
  refine And.intro (fun z => ?_) (fun z => ?_)
  rotate_left
  · have z : ¬ nI 2 ≤ nI c := z
    have z : c < 2 := Nat.not_le.mp fun q => z (nI_le q (by omega))
    rw [if_pos z] at HQ
    exact And.intro trivial (hQ _ _ (mF_of I HQ s1))
  have z : nI 2 ≤ nI c := z
  have z := (nI_leI (by decide) (by omega)).mp z
  rw [if_neg (by omega)] at HQ
  refine And.intro (sk_87 m.1.1) (hC _ _ _ _ (w_laysCosts (by decide) m' fun h1 s2 c1 => hK _ _ _ _ ?_))
  have m1 := sf_mg s2 m' rfl (by decide)
  have HQ := mF_of I HQ (sf_tr s1 (sfq_of s2 rfl rfl))
  refine am_for (gM st.1) (fun i L h' => h' = h1 ∧ ∃ v4, L = [.ref 87, .int (nI c), .float (mSum st.1 c i), .int (nI i), v4]) ?_ ?_ 0 (Nat.zero_le _) _ _ ⟨rfl, _, rfl⟩
  · rintro i hi9 L h' ⟨rfl, v4, rfl⟩ next
    have hs := m1.1.1
    have eI : am_inc (nI i) (Int.ofNat 1) = nI (i + 1) := nI_1 i
    rw [← eI] at next
    obtain ⟨w1, w2⟩ := mg_e m hi9
    obtain ⟨p1, p2, p3, p4⟩ := mSh_m wf ⟨z, c9⟩ hi9
    have p5 := mSum_pos wf ⟨z, c9⟩ i (by omega)
    have eC1 : nI c - nI 1 = nI (c - 1) := by
      have := nI_pred (c - 1)
      rw [show c - 1 + 1 = c by omega] at this
      exact this
    have v8 : am_i h' (am_r h' 87 17) (nI i).toNatClampNeg = nI (gCo st.1 i) := by rw [sr_87_17 hs, q_cl (by omega)]; exact c1 i hi9
    refine am_go (fun p => p == 29) (fun K cal Q' hK hC hQ => ?_)
    refine And.intro (sk_87 hs) (hC _ _ _ _ (w_edges (by decide) m1 ?_))
    refine And.intro (fun c => absurd c (nI_ge hi9 (by omega))) (fun _ => ?_)
    refine And.intro (sk_87 hs) (And.intro (ck_row (sr_87_17 hs) (sk_93 hs) rfl (by omega) (by omega)) ?_)
    have fin : ∀ y : UInt32, y = mSh st.1 c i → vf_n32 (FP.fadd (mSum st.1 c i) y) ∧ K 29 [.ref 87, .int (nI c), .float (FP.fadd (mSum st.1 c i) y), .int (am_inc (nI i) (Int.ofNat 1)), .float (FP.i2f (nI (gCo st.1 i)))] [] h' := by
      intro y hy
      subst hy
      exact ⟨fpos_n32 (fpos_add p5 p4), hK _ _ _ _ (next _ _ ⟨rfl, _, rfl⟩)⟩
    have mid : ¬ ((gT st.1).testBit (gLo st.1 i) = true ∧ (gT st.1).testBit (gHi st.1 i) = true) → vf_n32 (FP.fmul (FP.i2f (nI (gCo st.1 i))) (FP.i2f (nI c - nI 1))) ∧ vf_n32 (FP.fdiv (FP.fmul (FP.i2f (nI (gCo st.1 i))) (FP.i2f (nI c - nI 1))) (FP.i2f (nI c))) ∧ vf_n32 (FP.fadd (mSum st.1 c i) (FP.fdiv (FP.fmul (FP.i2f (nI (gCo st.1 i))) (FP.i2f (nI c - nI 1))) (FP.i2f (nI c)))) ∧ K 29 [.ref 87, .int (nI c), .float (FP.fadd (mSum st.1 c i) (FP.fdiv (FP.fmul (FP.i2f (nI (gCo st.1 i))) (FP.i2f (nI c - nI 1))) (FP.i2f (nI c)))), .int (am_inc (nI i) (Int.ofNat 1)), .float (FP.i2f (nI (gCo st.1 i)))] [] h' := by
      intro hno
      rw [eC1]
      exact ⟨fpos_n32 p2, fpos_n32 p3, fin _ (by unfold mSh; rw [if_neg hno])⟩
    rw [← v8] at fin mid
    refine And.intro (sk_87 hs) (hC _ _ _ _ (w_low (by decide) m1 hi9 ?_))
    refine And.intro (sk_87 hs) (hC _ _ _ _ (w_isTerm (by decide) m1 (by omega) ?_))
    refine And.intro (fun q => ?_) (fun q => ?_)
    · have q := (bI_0 _).mp q
      exact mid (fun y => by rw [q] at y; exact absurd y.1 (by decide))
    · have q1 : (gT st.1).testBit (gLo st.1 i) = true := by
        cases e : (gT st.1).testBit (gLo st.1 i) with
        | true => rfl
        | false => rw [e] at q; exact absurd rfl q
      refine And.intro (sk_87 hs) (hC _ _ _ _ (w_high (by decide) m1 hi9 ?_))
      refine And.intro (sk_87 hs) (hC _ _ _ _ (w_isTerm (by decide) m1 (by omega) ?_))
      refine And.intro (fun y => ?_) (fun y => ?_)
      · have y := (bI_0 _).mp y
        exact mid (fun u => by rw [y] at u; exact absurd u.2 (by decide))
      · have y1 : (gT st.1).testBit (gHi st.1 i) = true := by
          cases e : (gT st.1).testBit (gHi st.1 i) with
          | true => rfl
          | false => rw [e] at y; exact absurd rfl y
        exact fin _ (by rw [v8]; unfold mSh; rw [if_pos ⟨q1, y1⟩])
  · rintro L h' ⟨rfl, v4, rfl⟩
    refine am_go (fun p => p == 29) (fun K cal Q' hK hC hQ => ?_)
    refine And.intro (sk_87 m1.1.1) (hC _ _ _ _ (w_edges (by decide) m1 ?_))
    exact And.intro (fun _ => And.intro trivial (hQ _ _ HQ)) (fun c => absurd (nI_le (Nat.le_refl _) (by omega)) c)
end

/-! NEAREST: the model's search, its questions -/
theorem isN_skip {m T : Nat} {lo hi co : Nat → Nat} {i v : Nat} {o : Option (Nat × Nat)} (h : isN m T lo hi co i v o) (hi9 : T.testBit i = false) : isN m T lo hi co (i + 1) v o := by
  have old : ∀ t, t < i + 1 → T.testBit t = true → t < i := fun t z hT => Nat.lt_of_le_of_ne (by omega) fun q => by rw [q, hi9] at hT; cases hT
  cases o with
  | none => exact fun t l ht hT w => h t l (old t ht hT) hT w
  | some p => exact ⟨by have := h.1; omega, h.2.1, h.2.2.1, fun t l ht hT w => h.2.2.2 t l (old t ht hT) hT w⟩
def nup (F : Nat → Nat) (o : Nat → Option (Nat × Nat)) (i j : Nat) : Nat → Option (Nat × Nat) := fun v => if v < j ∧ F v < oF (o v) then some (F v, i) else o v
def mne (h : am_H) (n : Nat) (o : Nat → Option (Nat × Nat)) : Prop := ∀ v, v < n → am_i h 102 v = oG (o v) ∧ am_i h 103 v = nI (oF (o v))
def obd (o : Nat → Option (Nat × Nat)) : Prop := ∀ v, oF (o v) ≤ 1000000000 ∧ ∀ p, o v = some p → p.1 < 1000000000
theorem obd_up {F : Nat → Nat} {o : Nat → Option (Nat × Nat)} (h : obd o) (i j : Nat) : obd (nup F o i j) := fun v => by
  unfold nup
  have hv := h v
  by_cases q : v < j ∧ F v < oF (o v)
  · rw [if_pos q]
    exact ⟨by show F v ≤ _; omega, fun p hp => by cases hp; show F v < _; omega⟩
  · rw [if_neg q]; exact hv
section
variable {xs : am_X} {d : Nat} {h : am_H} {w : Nat} {g : gD} {Q : am_Q}
set_option maxHeartbeats 8000000 in
theorem w_laysNear (hd : 4 ≤ d) (m : mg h w g) (HQ : ∀ h', sf [92, 93, 101, 102, 103] [] h h' → mne h' (gN g) (gNe g) → Q (.inl none) h') : am_C xs am_P0 d m_Mo_laysNear [.ref 87] h Q := by
  have hn := mg_n9 m
  have hm := mg_m20 m
  have hT := mg_T m
  have hw9 := (mg_wf m).2.1
  have hc9 : ∀ e, e < gM g → 1 ≤ gCo g e ∧ gCo g e ≤ 9999 := fun e he => mg_co m he
  refine am_C_le hd (am_enter (d := 3) ap_Mo_laysNear rfl ?_) (fun _ _ k => k)
  refine am_go (fun p => p == 6) (fun K cal Q' hK hC hQ => ?_)
  refine And.intro (sk_87 m.1.1) (hC _ _ _ _ (w_laysCosts (by decide) m fun h1 s1 c1 => hK _ _ _ _ ?_))
  have s1' : sf [92, 93, 101, 102, 103] [] h h1 := sf_mo s1 (subl_x (by decide)) (subl_x (by decide))
  refine am_for (gN g) (fun i L h' => ∃ v2, L = [.ref 87, .int (nI i), v2] ∧ sf [92, 93, 101, 102, 103] [] h h' ∧ mco h' g ∧ mne h' i (fun _ => none)) ?_ ?_ 0 (Nat.zero_le _) _ _ ⟨_, rfl, s1', c1, fun v hv => absurd hv (Nat.not_lt_zero v)⟩
  · rintro i hi9 L h' ⟨v2, rfl, s, hc, hl⟩ next
    have m' := sf_mg s m rfl (by decide)
    have eI : am_inc (nI i) (Int.ofNat 1) = nI (i + 1) := nI_1 i
    rw [← eI] at next
    have r1 : am_r h' 87 30 = 102 := sr_87_30 m'.1.1
    have r2 : am_r h' 87 31 = 103 := sr_87_31 m'.1.1
    refine am_go (fun p => p == 6) (fun K cal Q' hK hC hQ => ?_)
    refine And.intro (sk_87 m'.1.1) (hC _ _ _ _ (w_count (by decide) m' ?_))
    refine And.intro (fun c => absurd c (nI_ge hi9 (by omega))) (fun _ => ?_)
    refine And.intro (sk_87 m'.1.1) (And.intro (ck_row r1 (sk_102 m'.1.1) rfl (by omega) (by omega)) ?_)
    refine And.intro (sk_87 m'.1.1) (And.intro (ck_row r2 (sk_103 m'.1.1) rfl (by omega) (by omega)) ?_)
    refine hK _ _ _ _ (next _ _ ⟨v2, rfl, ?_, ?_, ?_⟩)
    · rw [show am_r h' 87 (606 % 64) = 102 from r1]
      show sf _ _ h (am_pi (am_pi h' 102 _ _) (am_r h' 87 31) _ _)
      rw [r2]
      exact sf_pi (sf_pi s (by decide) (by decide)) (by decide) (by decide)
    · rw [show am_r h' 87 (606 % 64) = 102 from r1]
      show mco (am_pi (am_pi h' 102 _ _) (am_r h' 87 31) _ _) g
      rw [r2]
      intro e he
      rw [i_pi_ne (by decide), i_pi_ne (by decide)]
      exact hc e he
    · rw [show am_r h' 87 (606 % 64) = 102 from r1]
      show mne (am_pi (am_pi h' 102 (nI i).toNatClampNeg _) (am_r h' 87 31) (nI i).toNatClampNeg _) _ _
      rw [r2, q_cl (by omega)]
      intro v hv
      rw [i_pi_ne (show (102 : Nat) ≠ 103 by decide), i_pi_same, i_pi_same]
      by_cases q : v = i
      · rw [if_pos q, if_pos q]; exact ⟨rfl, rfl⟩
      · rw [if_neg q, if_neg q, i_pi_ne (show (103 : Nat) ≠ 102 by decide)]; exact hl v (by omega)
  · rintro L h' ⟨v2, rfl, s, hc, hl⟩
    have m' := sf_mg s m rfl (by decide)
    refine am_go (fun p => p == 37) (fun K cal Q' hK hC hQ => ?_)
    refine And.intro (sk_87 m'.1.1) (hC _ _ _ _ (w_count (by decide) m' ?_))
    refine And.intro (fun _ => hK _ _ _ _ ?_) (fun c => absurd (nI_le (Nat.le_refl _) (by omega)) c)
    refine am_for (gN g) (fun i L h2 => ∃ v2 o, L = [.ref 87, .int (nI i), v2] ∧ sf [92, 93, 101, 102, 103] [] h h2 ∧ mco h2 g ∧ mne h2 (gN g) o ∧ obd o ∧ ∀ v, v < gN g → isN (gM g) (gT g) (gLo g) (gHi g) (gCo g) i v (o v)) ?_ ?_ 0 (Nat.zero_le _) _ _ ⟨v2, fun _ => none, rfl, s, hc, hl, fun v => ⟨Nat.le_refl _, fun p hp => by cases hp⟩, fun v _ t l ht _ _ => absurd ht (Nat.not_lt_zero t)⟩
    · rintro i hi9 L h2 ⟨v2, o, rfl, s2, c2, l2, b2, n2⟩ next
      have m2 := sf_mg s2 m rfl (by decide)
      have eI : am_inc (nI i) (Int.ofNat 1) = nI (i + 1) := nI_1 i
      rw [← eI] at next
      refine am_go (fun p => p == 63 || p == 37) (fun K cal Q' hK hC hQ => ?_)
      refine And.intro (sk_87 m2.1.1) (hC _ _ _ _ (w_count (by decide) m2 ?_))
      refine And.intro (fun c => absurd c (nI_ge hi9 (by omega))) (fun _ => ?_)
      refine And.intro (sk_87 m2.1.1) (hC _ _ _ _ (w_isTerm (by decide) m2 (by omega) ?_))
      cases hTi : (gT g).testBit i with
      | false =>
        refine And.intro (fun z => absurd rfl z) (fun _ => ?_)
        exact hK _ _ _ _ (next _ _ ⟨_, o, rfl, s2, c2, l2, b2, fun v hv => isN_skip (n2 v hv) hTi⟩)
      | true =>
        refine And.intro (fun _ => ?_) (fun z => absurd q_t1 z)
        refine And.intro (sk_87 m2.1.1) (hC _ _ _ _ (w_laysFar (by decide) m2 c2 (by omega) fun h3 s3 f3 => hK _ _ _ _ ?_))
        have s3' : sf [92, 93, 101, 102, 103] [] h h3 := sf_tr s2 (sf_mo s3 (subl_x (by decide)) (subl_x (by decide)))
        have c3 := sf_mco s3 c2 (by decide)
        have l3 : mne h3 (gN g) o := fun v hv => ⟨(s3.1.i (by decide) v).trans (l2 v hv).1, (s3.1.i (by decide) v).trans (l2 v hv).2⟩
        have dF : ∀ v, v < gN g → isD (gM g) (gLo g) (gHi g) (gCo g) i v (fars (gM g) (gLo g) (gHi g) (gCo g) i (gN g - 1) v) := fun v hv => fars_isD hw9 hc9 hn hv
        have bF : ∀ v, fars (gM g) (gLo g) (gHi g) (gCo g) i (gN g - 1) v ≤ 1000000000 := fun v => (fars_snd (m := gM g) (lo := gLo g) (hi := gHi g) (co := gCo g) (t := i) (gN g - 1) v).1
        generalize fars (gM g) (gLo g) (gHi g) (gCo g) i (gN g - 1) = F at f3 dF bF
        refine am_for (gN g) (fun j L h4 => L = [.ref 87, .int (nI i), .int (nI j)] ∧ sf [92, 93, 101, 102, 103] [] h h4 ∧ mco h4 g ∧ mfa h4 (gN g) F ∧ mne h4 (gN g) (nup F o i j)) ?_ ?_ 0 (Nat.zero_le _) _ _ ⟨rfl, s3', c3, f3, fun v hv => by unfold nup; rw [if_neg fun z => absurd z.1 (Nat.not_lt_zero v)]; exact l3 v hv⟩
        · rintro j hj9 L h4 ⟨rfl, s4, c4, f4, l4⟩ next2
          have m4 := sf_mg s4 m rfl (by decide)
          have eI : am_inc (nI j) (Int.ofNat 1) = nI (j + 1) := nI_1 j
          rw [← eI] at next2
          have r1 : am_r h4 87 29 = 101 := sr_87_29 m4.1.1
          have r2 : am_r h4 87 30 = 102 := sr_87_30 m4.1.1
          have r3 : am_r h4 87 31 = 103 := sr_87_31 m4.1.1
          have k1 : am_arr h4 (am_r h4 87 29) 2 (nI j) := ck_row r1 (sk_101 m4.1.1) rfl (by omega) (by omega)
          have k2 : am_arr h4 (am_r h4 87 30) 2 (nI j) := ck_row r2 (sk_102 m4.1.1) rfl (by omega) (by omega)
          have k3 : am_arr h4 (am_r h4 87 31) 2 (nI j) := ck_row r3 (sk_103 m4.1.1) rfl (by omega) (by omega)
          have oj : nup F o i j j = o j := if_neg fun z => absurd z.1 (Nat.lt_irrefl j)
          have v1 : am_i h4 (am_r h4 87 29) (nI j).toNatClampNeg = nI (F j) := by rw [r1, q_cl (by omega)]; exact f4 j hj9
          have v3 : am_i h4 (am_r h4 87 31) (nI j).toNatClampNeg = nI (oF (o j)) := by rw [r3, q_cl (by omega), ← oj]; exact (l4 j hj9).2
          have bo := (b2 j).1
          have bf := bF j
          have ne : ∀ v, v ≠ j → nup F o i (j + 1) v = nup F o i j v := fun v q => by
            unfold nup
            have : (v < j + 1) ↔ (v < j) := by omega
            simp only [this]
          refine am_go (fun p => p == 63) (fun K cal Q' hK hC hQ => ?_)
          refine And.intro (sk_87 m4.1.1) (hC _ _ _ _ (w_count (by decide) m4 ?_))
          refine And.intro (fun c => absurd c (nI_ge hj9 (by omega))) (fun _ => ?_)
          refine And.intro (sk_87 m4.1.1) (And.intro k1 (And.intro (sk_87 m4.1.1) (And.intro k3 ?_)))
          refine And.intro (fun c => ?_) (fun c => ?_)
          · have c : am_i h4 (am_r h4 87 29) (nI j).toNatClampNeg < am_i h4 (am_r h4 87 31) (nI j).toNatClampNeg := c
            rw [v1, v3] at c
            have c := (nI_ltI (by omega) (by omega)).mp c
            refine And.intro (sk_87 m4.1.1) (And.intro (sk_87 m4.1.1) (And.intro k1 (And.intro k3 ?_)))
            rw [show am_r h4 87 (605 % 64) = 101 from r1, show am_r h4 87 (607 % 64) = 103 from r3, q_cl (show j < 2 ^ 31 by omega), f4 j hj9]
            refine And.intro (sk_87 m4.1.1) (And.intro k2 ?_)
            refine hK _ _ _ _ (next2 _ _ ⟨rfl, ?_, ?_, ?_, ?_⟩)
            · show sf _ _ h (am_pi (am_pi h4 103 _ _) (am_r h4 87 30) _ _)
              rw [r2]
              exact sf_pi (sf_pi s4 (by decide) (by decide)) (by decide) (by decide)
            · show mco (am_pi (am_pi h4 103 _ _) (am_r h4 87 30) _ _) g
              rw [r2]
              intro e he
              rw [i_pi_ne (by decide), i_pi_ne (by decide)]
              exact c4 e he
            · show mfa (am_pi (am_pi h4 103 _ _) (am_r h4 87 30) _ _) _ F
              rw [r2]
              intro e he
              rw [i_pi_ne (by decide), i_pi_ne (by decide)]
              exact f4 e he
            · show mne (am_pi (am_pi h4 103 _ _) (am_r h4 87 30) (nI j).toNatClampNeg _) _ _
              rw [r2, q_cl (show j < 2 ^ 31 by omega)]
              intro v hv
              rw [i_pi_same, i_pi_ne (show (103 : Nat) ≠ 102 by decide), i_pi_same]
              by_cases q : v = j
              · rw [if_pos q, if_pos q, q]
                have : nup F o i (j + 1) j = some (F j, i) := if_pos ⟨Nat.lt_succ_self j, c⟩
                rw [this]
                exact ⟨rfl, rfl⟩
              · rw [if_neg q, if_neg q, i_pi_ne (show (102 : Nat) ≠ 103 by decide), ne v q]; exact l4 v hv
          · have c : ¬ am_i h4 (am_r h4 87 29) (nI j).toNatClampNeg < am_i h4 (am_r h4 87 31) (nI j).toNatClampNeg := c
            rw [v1, v3] at c
            have c : ¬ F j < oF (o j) := fun z => c (nI_lt z (by omega))
            refine hK _ _ _ _ (next2 _ _ ⟨rfl, s4, c4, f4, fun v hv => ?_⟩)
            by_cases q : v = j
            · subst q
              have : nup F o i (v + 1) v = o v := if_neg fun z => c z.2
              rw [this, ← oj]
              exact l4 v hv
            · rw [ne v q]; exact l4 v hv
        · rintro L h4 ⟨rfl, s4, c4, f4, l4⟩
          have m4 := sf_mg s4 m rfl (by decide)
          refine am_go (fun p => p == 37) (fun K cal Q' hK hC hQ => ?_)
          refine And.intro (sk_87 m4.1.1) (hC _ _ _ _ (w_count (by decide) m4 ?_))
          refine And.intro (fun _ => hK _ _ _ _ (next _ _ ⟨_, nup F o i (gN g), rfl, s4, c4, l4, obd_up b2 _ _, fun v hv => ?_⟩)) (fun c => absurd (nI_le (Nat.le_refl _) (by omega)) c)
          have := isN_step (n2 v hv) hTi (dF v hv) (b2 v).2
          unfold nup
          have e : (v < gN g ∧ F v < oF (o v)) = (F v < oF (o v)) := propext ⟨fun z => z.2, fun z => ⟨hv, z⟩⟩
          simp only [e]
          exact this
    · rintro L h2 ⟨v2, o, rfl, s2, c2, l2, b2, n2⟩
      have m2 := sf_mg s2 m rfl (by decide)
      refine am_go (fun p => p == 37) (fun K cal Q' hK hC hQ => ?_)
      refine And.intro (sk_87 m2.1.1) (hC _ _ _ _ (w_count (by decide) m2 ?_))
      refine And.intro (fun _ => And.intro trivial (hQ _ _ (HQ h2 s2 fun v hv => ?_))) (fun c => absurd (nI_le (Nat.le_refl _) (by omega)) c)
      rw [show gNe g v = o v from isN_one (ners_isN hw9 hc9 hT hv) (n2 v hv)]
      exact l2 v hv
end
section
variable {xs : am_X} {d : Nat} {h : am_H} {st : stD} {Q : am_Q}
theorem q_nearest (hd : 5 ≤ d) (I : MI h st) (v : Int32) (HQ : mQ h st (sNear st.1 v) Q) : am_C xs am_P0 d m_Mo_nearest [.ref 87, .int v] h Q := by
  obtain ⟨w, m, -⟩ := id I
  have m' := sfq_m (s00 (nI 0)) m
  have hn := mg_n9 m
  unfold sNear at HQ
  refine am_C_le hd (am_enter (d := 4) ap_Mo_nearest rfl ?_) (fun _ _ k => k)
  refine am_go (fun _ => false) (fun K cal Q' hK hC hQ => ?_)
  refine And.intro (sk_87 m.1.1) (And.intro (sk_87 m.1.1) (hC _ _ _ _ (w_isVertex (by decide) m' (i0_0 _ _) (fun k k1 k2 => ?_) (fun e => ?_))))
  · rw [k2, vin_nI k1 (by omega), if_pos rfl, q_cl (by omega)] at HQ
    subst k2
    refine And.intro (fun _ => ?_) (fun z => absurd q_n1 z)
    refine And.intro (sk_87 m.1.1) (hC _ _ _ _ (w_laysNear (by decide) m' fun h2 s2 l2 => ?_))
    have m2 := sf_mg s2 m' rfl (by decide)
    refine And.intro (sk_87 m2.1.1) (And.intro (ck_row (sr_87_30 m2.1.1) (sk_102 m2.1.1) rfl (by omega) (by omega)) (And.intro trivial (hQ _ _ (mQ_of I HQ (sf_tr (s00 _) (sfq_of s2 rfl rfl)) ((s2.2 0 (by decide)).trans (i0_0 _ _)) ?_))))
    show am_i h2 (am_r h2 87 30) (nI k).toNatClampNeg = _
    rw [sr_87_30 m2.1.1, q_cl (by omega)]
    exact (l2 k k1).1
  · rw [e] at HQ
    exact And.intro (fun z => absurd rfl z) (fun _ => And.intro trivial (hQ _ _ (mQ_of I HQ (sfq_thr (s00 _) _) (i0_0 _ _) rfl)))
theorem q_distance (hd : 5 ≤ d) (I : MI h st) (v : Int32) (HQ : mQ h st (sDist st.1 v) Q) : am_C xs am_P0 d m_Mo_distance [.ref 87, .int v] h Q := by
  obtain ⟨w, m, -⟩ := id I
  have m' := sfq_m (s00 (nI 0)) m
  have hn := mg_n9 m
  have hT := mg_T m
  unfold sDist at HQ
  refine am_C_le hd (am_enter (d := 4) ap_Mo_distance rfl ?_) (fun _ _ k => k)
  refine am_go (fun _ => false) (fun K cal Q' hK hC hQ => ?_)
  refine And.intro (sk_87 m.1.1) (And.intro (sk_87 m.1.1) (hC _ _ _ _ (w_isVertex (by decide) m' (i0_0 _ _) (fun k k1 k2 => ?_) (fun e => ?_))))
  · rw [k2, vin_nI k1 (by omega), if_pos rfl, q_cl (by omega)] at HQ
    subst k2
    refine And.intro (fun _ => ?_) (fun z => absurd q_n1 z)
    refine And.intro (sk_87 m.1.1) (hC _ _ _ _ (w_laysNear (by decide) m' fun h2 s2 l2 => ?_))
    have m2 := sf_mg s2 m' rfl (by decide)
    have fr := sf_tr (s00 (h := h) (nI 0)) (sfq_of s2 rfl rfl)
    have e0 := (s2.2 0 (by decide)).trans (i0_0 h (nI 0))
    refine And.intro (sk_87 m2.1.1) (And.intro (ck_row (sr_87_30 m2.1.1) (sk_102 m2.1.1) rfl (by omega) (by omega)) ?_)
    have v1 : am_i h2 (am_r h2 87 30) (nI k).toNatClampNeg = oG (gNe st.1 k) := by rw [sr_87_30 m2.1.1, q_cl (by omega)]; exact (l2 k k1).1
    cases hg : gNe st.1 k with
    | none =>
      rw [hg] at v1 HQ
      exact And.intro (fun z => absurd v1 z) (fun _ => And.intro trivial (hQ _ _ (mQ_of I HQ fr e0 rfl)))
    | some p =>
      have pb : p.2 < 2 ^ 31 := by
        have := (ners_nb (mg_m20 m) hT hn (gN st.1 - 1) k p hg).2
        omega
      rw [hg] at v1 HQ
      refine And.intro (fun _ => ?_) (fun z => absurd (v1.symm.trans (Classical.not_not.mp z)) (nI_neg1 pb))
      refine And.intro (sk_87 m2.1.1) (And.intro (ck_row (sr_87_31 m2.1.1) (sk_103 m2.1.1) rfl (by omega) (by omega)) (And.intro trivial (hQ _ _ (mQ_of I HQ fr e0 ?_))))
      show am_i h2 (am_r h2 87 31) (nI k).toNatClampNeg = _
      rw [sr_87_31 m2.1.1, q_cl (by omega), (l2 k k1).2, hg]
      rfl
  · rw [e] at HQ
    exact And.intro (fun z => absurd rfl z) (fun _ => And.intro trivial (hQ _ _ (mQ_of I HQ (sfq_thr (s00 _) _) (i0_0 _ _) rfl)))
end

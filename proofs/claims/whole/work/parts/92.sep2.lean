/-! SEPARATES: the model's question -/
def mla (h : am_H) (n : Nat) (F : Nat → Nat) : Prop := ∀ v, v < n → am_i h 100 v = nI (F v)
section
variable {xs : am_X} {d : Nat} {h : am_H} {st : stD} {Q : am_Q}
set_option maxHeartbeats 16000000 in
theorem q_separates (hd : 4 ≤ d) (I : MI h st) (S : Int32) (HQ : mQ h st (sSep st.1 S) Q) : am_C xs am_P0 d m_Mo_separates [.ref 87, .int S] h Q := by
  obtain ⟨w, m, -⟩ := id I
  have m' := sfq_m (s00 (nI 0)) m
  have hn := mg_n9 m
  have hm := mg_m20 m
  have hT := mg_T m
  have hw9 := (mg_wf m).2.1
  have h2m : 2 ^ gM st.1 ≤ 2 ^ 20 := Nat.pow_le_pow_right (by decide) hm
  have h2p := Nat.two_pow_pos (gM st.1)
  unfold sSep at HQ
  refine am_C_le hd (am_enter (d := 3) ap_Mo_separates rfl ?_) (fun _ _ k => k)
  refine am_go (fun p => p == 32) (fun K cal Q' hK hC hQ => ?_)
  refine And.intro (sk_87 m.1.1) (And.intro (sk_87 m.1.1) (hC _ _ _ _ (w_edges (by decide) m' ?_)))
  have eA : nI 1 <<< (nI (gM st.1) &&& 31) - nI 1 = nI (2 ^ gM st.1 - 1) := by
    rw [q_shl _ (by omega)]
    have e2 := nI_pred (2 ^ gM st.1 - 1)
    rw [show 2 ^ gM st.1 - 1 + 1 = 2 ^ gM st.1 by omega] at e2
    exact e2
  refine And.intro trivial (hC _ _ _ _ (w_isIn (by decide) (q_vin (n := 2 ^ gM st.1) (by omega) ?_) ?_))
  · show ((nI 1 <<< (nI (gM st.1) &&& 31) - nI 1).toInt64).toInt = _
    rw [eA]
    exact q_pr' h2p (by omega)
  refine And.intro (sk_87 m.1.1) (hC _ _ _ _ (w_right (by decide) (sk_87 m'.1.1) (i0_0 _ _) (by decide) (by decide) (fun q => ?_) (fun q => ?_)))
  rotate_left
  · rw [q] at HQ
    exact And.intro (fun z => absurd rfl z) (fun _ => And.intro (Or.inl rfl) (hQ _ _ (mQ_of I HQ (sfq_thr (s00 _) _) (i0_0 _ _) rfl)))
  obtain ⟨R, hR, rfl⟩ : ∃ k, k < 2 ^ gM st.1 ∧ S = nI k := by
    have z := of_decide_eq_true q
    obtain ⟨j, hj, e⟩ := nI_of (x := S) (fun c => absurd z.1 (fa_of_lt c).2.1)
    refine ⟨j, ?_, e⟩
    have z2 := z.2
    rw [e] at z2
    exact (nI_ltI hj (by omega)).mp z2
  rw [q, if_pos rfl, q_cl (by omega)] at HQ
  have hR31 : R < 2 ^ 31 := by omega
  have e0 := i0_0 h (nI 0)
  have s0 := s00 (h := h) (nI 0)
  refine And.intro (fun _ => hK _ _ _ _ ?_) (fun z => absurd q_n1 z)
  generalize am_pi h 87 0 (nI 0) = h0 at m' e0 s0
  refine am_for (gN st.1) (fun i L h' => ∃ v3 v4, L = [.ref 87, .int (nI R), .int (nI i), v3, v4] ∧ sf [100] [] h0 h' ∧ mla h' i (fun v => v)) ?_ ?_ 0 (Nat.zero_le _) _ _ ⟨_, _, rfl, sf_rf, fun v hv => absurd hv (Nat.not_lt_zero v)⟩
  · rintro i hi9 L h' ⟨v3, v4, rfl, s, hl⟩ next
    have m1 := sf_mg s m' rfl (by decide)
    have eI : am_inc (nI i) (Int.ofNat 1) = nI (i + 1) := nI_1 i
    rw [← eI] at next
    have r1 : am_r h' 87 28 = 100 := sr_87_28 m1.1.1
    refine am_go (fun p => p == 32) (fun K cal Q' hK hC hQ => ?_)
    refine And.intro (sk_87 m1.1.1) (hC _ _ _ _ (w_count (by decide) m1 ?_))
    refine And.intro (fun c => absurd c (nI_ge hi9 (by omega))) (fun _ => ?_)
    refine And.intro (sk_87 m1.1.1) (And.intro (ck_row r1 (sk_100 m1.1.1) rfl (by omega) (by omega)) ?_)
    rw [show am_r h' 87 (604 % 64) = 100 from r1, q_cl (by omega)]
    refine hK _ _ _ _ (next _ _ ⟨v3, v4, rfl, sf_pi s (by decide) (by decide), fun v hv => ?_⟩)
    rw [i_pi_same]
    by_cases q : v = i
    · rw [if_pos q, q]
    · rw [if_neg q]; exact hl v (by omega)
  · rintro L h' ⟨v3, v4, rfl, s, hl⟩
    have m1 := sf_mg s m' rfl (by decide)
    refine am_go (fun p => p == 55) (fun K cal Q' hK hC hQ => ?_)
    refine And.intro (sk_87 m1.1.1) (hC _ _ _ _ (w_count (by decide) m1 ?_))
    refine And.intro (fun _ => hK _ _ _ _ ?_) (fun c => absurd (nI_le (Nat.le_refl _) (by omega)) c)
    refine am_for (gN st.1) (fun r L h2 => ∃ v3 v4, L = [.ref 87, .int (nI R), .int (nI r), v3, v4] ∧ sf [100] [] h0 h2 ∧ mla h2 (gN st.1) (lrs (gM st.1) (gLo st.1) (gHi st.1) R r)) ?_ ?_ 0 (Nat.zero_le _) _ _ ⟨v3, v4, rfl, s, hl⟩
    · rintro r hr L h2 ⟨v3, v4, rfl, s2, l2⟩ next
      have m2 := sf_mg s2 m' rfl (by decide)
      refine am_go (fun p => p == 65) (fun K cal Q' hK hC hQ => ?_)
      refine And.intro (sk_87 m2.1.1) (hC _ _ _ _ (w_count (by decide) m2 ?_))
      refine And.intro (fun c => absurd c (nI_ge hr (by omega))) (fun _ => hK _ _ _ _ ?_)
      refine am_for (gM st.1) (fun e L h3 => ∃ v4, L = [.ref 87, .int (nI R), .int (nI r), .int (nI e), v4] ∧ sf [100] [] h0 h3 ∧ mla h3 (gN st.1) (lps (gLo st.1) (gHi st.1) R (lrs (gM st.1) (gLo st.1) (gHi st.1) R r) e)) ?_ ?_ 0 (Nat.zero_le _) _ _ ⟨v4, rfl, s2, l2⟩
      · rintro e he L h3 ⟨v4, rfl, s3, l3⟩ next2
        have m3 := sf_mg s3 m' rfl (by decide)
        obtain ⟨w1, w2⟩ := mg_e m he
        have eI : am_inc (nI e) (Int.ofNat 1) = nI (e + 1) := nI_1 e
        rw [← eI] at next2
        have hst : lps (gLo st.1) (gHi st.1) R (lrs (gM st.1) (gLo st.1) (gHi st.1) R r) (e + 1) = lst (gLo st.1) (gHi st.1) R (lps (gLo st.1) (gHi st.1) R (lrs (gM st.1) (gLo st.1) (gHi st.1) R r) e) e := rfl
        have bF : ∀ v, v < gN st.1 → lps (gLo st.1) (gHi st.1) R (lrs (gM st.1) (gLo st.1) (gHi st.1) R r) e v < 9 := fun v hv => by
          have := Nat.le_trans (lps_le (lo := gLo st.1) (hi := gHi st.1) (rem := R) (F := lrs (gM st.1) (gLo st.1) (gHi st.1) R r) (x := v) e) (lrs_le r)
          omega
        rw [hst] at next2
        generalize lps (gLo st.1) (gHi st.1) R (lrs (gM st.1) (gLo st.1) (gHi st.1) R r) e = F at next2 l3 bF
        unfold lst at next2
        refine am_go (fun p => p == 65) (fun K cal Q' hK hC hQ => ?_)
        refine And.intro (sk_87 m3.1.1) (hC _ _ _ _ (w_edges (by decide) m3 ?_))
        refine And.intro (fun c => absurd c (nI_ge he (by omega))) (fun _ => ?_)
        refine And.intro trivial (hC _ _ _ _ (w_has (by decide) hR31 (by omega) ?_))
        cases hb : R.testBit e with
        | true =>
          rw [if_pos hb] at next2
          exact And.intro (fun z => absurd z q_t1) (fun _ => hK _ _ _ _ (next2 _ _ ⟨v4, rfl, s3, l3⟩))
        | false =>
          rw [if_neg (by rw [hb]; decide)] at next2
          refine And.intro (fun _ => ?_) (fun z => absurd rfl z)
          have r1 : am_r h3 87 28 = 100 := sr_87_28 m3.1.1
          have kA : am_arr h3 (am_r h3 87 28) 2 (nI (gLo st.1 e)) := ck_row r1 (sk_100 m3.1.1) rfl (by omega) (by omega)
          have kB : am_arr h3 (am_r h3 87 28) 2 (nI (gHi st.1 e)) := ck_row r1 (sk_100 m3.1.1) rfl (by omega) (by omega)
          refine And.intro (sk_87 m3.1.1) (And.intro (sk_87 m3.1.1) (hC _ _ _ _ (w_low (by decide) m3 he ?_)))
          refine And.intro kA ?_
          refine And.intro (sk_87 m3.1.1) (And.intro (sk_87 m3.1.1) (hC _ _ _ _ (w_high (by decide) m3 he ?_)))
          refine And.intro kB ?_
          have vA : am_i h3 100 (nI (gLo st.1 e)).toNatClampNeg = nI (F (gLo st.1 e)) := by rw [q_cl (by omega)]; exact l3 _ (by omega)
          have vB : am_i h3 100 (nI (gHi st.1 e)).toNatClampNeg = nI (F (gHi st.1 e)) := by rw [q_cl (by omega)]; exact l3 _ (by omega)
          have b1 := bF (gLo st.1 e) (by omega)
          have b2 := bF (gHi st.1 e) w2
          rw [show am_r h3 87 (604 % 64) = 100 from r1, vA, vB]
          refine And.intro (sk_87 m3.1.1) (And.intro (sk_87 m3.1.1) (hC _ _ _ _ (w_low (by decide) m3 he ?_)))
          refine And.intro kA ?_
          rw [show am_r h3 87 (604 % 64) = 100 from r1, q_cl (show gLo st.1 e < 2 ^ 31 by omega), q_mn (show F (gLo st.1 e) < 2 ^ 31 by omega) (show F (gHi st.1 e) < 2 ^ 31 by omega)]
          have s4 : sf [100] [] h0 (am_pi h3 100 (gLo st.1 e) (nI (Nat.min (F (gLo st.1 e)) (F (gHi st.1 e))))) := sf_pi s3 (by decide) (by decide)
          have v4' : ∀ k, am_i (am_pi h3 100 (gLo st.1 e) (nI (Nat.min (F (gLo st.1 e)) (F (gHi st.1 e))))) 100 k = if k = gLo st.1 e then nI (Nat.min (F (gLo st.1 e)) (F (gHi st.1 e))) else am_i h3 100 k := fun k => by rw [i_pi_same]
          generalize am_pi h3 100 (gLo st.1 e) (nI (Nat.min (F (gLo st.1 e)) (F (gHi st.1 e)))) = h4 at s4 v4'
          have m4 := sf_mg s4 m' rfl (by decide)
          have r4 : am_r h4 87 28 = 100 := sr_87_28 m4.1.1
          refine And.intro (sk_87 m4.1.1) (And.intro (sk_87 m4.1.1) (hC _ _ _ _ (w_high (by decide) m4 he ?_)))
          refine And.intro (ck_row r4 (sk_100 m4.1.1) (e := gHi st.1 e) rfl (by omega) (by omega)) ?_
          rw [show am_r h4 87 (604 % 64) = 100 from r4, q_cl (show gHi st.1 e < 2 ^ 31 by omega)]
          refine hK _ _ _ _ (next2 _ _ ⟨_, rfl, sf_pi s4 (by decide) (by decide), fun v hv => ?_⟩)
          rw [i_pi_same, v4']
          show _ = nI (if v = gHi st.1 e then Nat.min (F (gLo st.1 e)) (F (gHi st.1 e)) else if v = gLo st.1 e then Nat.min (F (gLo st.1 e)) (F (gHi st.1 e)) else F v)
          by_cases q1 : v = gHi st.1 e
          · rw [if_pos q1, if_pos q1]
          · rw [if_neg q1, if_neg q1]
            by_cases q2 : v = gLo st.1 e
            · rw [if_pos q2, if_pos q2]
            · rw [if_neg q2, if_neg q2]; exact l3 v hv
      · rintro L h3 ⟨v4, rfl, s3, l3⟩
        have m3 := sf_mg s3 m' rfl (by decide)
        have eI : am_inc (nI r) (Int.ofNat 1) = nI (r + 1) := nI_1 r
        rw [← eI] at next
        refine am_go (fun p => p == 55) (fun K cal Q' hK hC hQ => ?_)
        refine And.intro (sk_87 m3.1.1) (hC _ _ _ _ (w_edges (by decide) m3 ?_))
        exact And.intro (fun _ => hK _ _ _ _ (next _ _ ⟨_, _, rfl, s3, l3⟩)) (fun c => absurd (nI_le (Nat.le_refl _) (by omega)) c)
    · rintro L h2 ⟨v3, v4, rfl, s2, l2⟩
      have m2 := sf_mg s2 m' rfl (by decide)
      have fr : sfq h h2 := sf_tr s0 (sfq_of s2 rfl rfl)
      have e2 := (s2.2 0 (by decide)).trans e0
      have bL : ∀ v, v < gN st.1 → lrs (gM st.1) (gLo st.1) (gHi st.1) R (gN st.1) v < 9 := fun v hv => by
        have := lrs_le (m := gM st.1) (lo := gLo st.1) (hi := gHi st.1) (rem := R) (x := v) (gN st.1)
        omega
      have done : ∀ b : Bool, b = kap (gN st.1) (gM st.1) (gT st.1) (gLo st.1) (gHi st.1) R → Q (.inl (some (.int (bI b)))) h2 := fun b hb => mQ_of I HQ fr e2 (by rw [hb])
      refine am_go (fun p => p == 147) (fun K cal Q' hK hC hQ => ?_)
      refine And.intro (sk_87 m2.1.1) (hC _ _ _ _ (w_count (by decide) m2 ?_))
      refine And.intro (fun _ => hK _ _ _ _ ?_) (fun c => absurd (nI_le (Nat.le_refl _) (by omega)) c)
      refine am_for (gN st.1) (fun a L h3 => ∃ v3, h3 = h2 ∧ L = [.ref 87, .int (nI R), .int (nI a), v3, v4] ∧ ∀ x y, x < a → y < x → (gT st.1).testBit x = true → (gT st.1).testBit y = true → ¬ pkE (gM st.1) (gLo st.1) (gHi st.1) R x y) ?_ ?_ 0 (Nat.zero_le _) _ _ ⟨v3, rfl, rfl, fun x y z => absurd z (Nat.not_lt_zero x)⟩
      · rintro a ha L h3 ⟨v3, rfl, rfl, hno⟩ next
        refine am_go (fun p => p == 157) (fun K cal Q' hK hC hQ => ?_)
        refine And.intro (sk_87 m2.1.1) (hC _ _ _ _ (w_count (by decide) m2 ?_))
        refine And.intro (fun c => absurd c (nI_ge ha (by omega))) (fun _ => hK _ _ _ _ ?_)
        refine am_for a (fun b L h4 => h4 = h3 ∧ L = [.ref 87, .int (nI R), .int (nI a), .int (nI b), v4] ∧ ∀ y, y < b → (gT st.1).testBit a = true → (gT st.1).testBit y = true → ¬ pkE (gM st.1) (gLo st.1) (gHi st.1) R a y) ?_ ?_ 0 (Nat.zero_le _) _ _ ⟨rfl, rfl, fun y z => absurd z (Nat.not_lt_zero y)⟩
        · rintro b hb L h4 ⟨rfl, rfl, hno2⟩ next2
          have eI : am_inc (nI b) (Int.ofNat 1) = nI (b + 1) := nI_1 b
          rw [← eI] at next2
          have skip : ¬ ((gT st.1).testBit a = true ∧ (gT st.1).testBit b = true ∧ pkE (gM st.1) (gLo st.1) (gHi st.1) R a b) → am_W xs (am_code at_Mo_separates) (am_hd ah_Mo_separates) (am_C xs am_P0 3) Q 157 [.ref 87, .int (nI R), .int (nI a), .int (am_inc (nI b) (Int.ofNat 1)), v4] [] h4 := fun q => next2 _ _ ⟨rfl, rfl, fun y hy q1 q2 q3 => by
            by_cases z : y = b
            · subst z; exact q ⟨q1, q2, q3⟩
            · exact hno2 y (by omega) q1 q2 q3⟩
          refine am_go (fun p => p == 157) (fun K cal Q' hK hC hQ => ?_)
          refine And.intro (fun c => absurd c (nI_ge hb (by omega))) (fun _ => ?_)
          refine And.intro (sk_87 m2.1.1) (hC _ _ _ _ (w_isTerm (by decide) m2 (by omega) ?_))
          cases hTa : (gT st.1).testBit a with
          | false => exact And.intro (fun _ => hK _ _ _ _ (skip fun q => by rw [hTa] at q; exact absurd q.1 (by decide))) (fun z => absurd rfl z)
          | true =>
            refine And.intro (fun z => absurd z q_t1) (fun _ => ?_)
            refine And.intro (sk_87 m2.1.1) (hC _ _ _ _ (w_isTerm (by decide) m2 (by omega) ?_))
            cases hTb : (gT st.1).testBit b with
            | false => exact And.intro (fun _ => hK _ _ _ _ (skip fun q => by rw [hTb] at q; exact absurd q.2.1 (by decide))) (fun z => absurd rfl z)
            | true =>
              refine And.intro (fun z => absurd z q_t1) (fun _ => ?_)
              have r1 : am_r h4 87 28 = 100 := sr_87_28 m2.1.1
              refine And.intro (sk_87 m2.1.1) (And.intro (ck_row r1 (sk_100 m2.1.1) (e := a) rfl (by omega) (by omega)) ?_)
              refine And.intro (sk_87 m2.1.1) (And.intro (ck_row r1 (sk_100 m2.1.1) (e := b) rfl (by omega) (by omega)) ?_)
              have v1 : am_i h4 (am_r h4 87 28) (nI a).toNatClampNeg = nI (lrs (gM st.1) (gLo st.1) (gHi st.1) R (gN st.1) a) := by rw [r1, q_cl (by omega)]; exact l2 a ha
              have v2 : am_i h4 (am_r h4 87 28) (nI b).toNatClampNeg = nI (lrs (gM st.1) (gLo st.1) (gHi st.1) R (gN st.1) b) := by rw [r1, q_cl (by omega)]; exact l2 b (by omega)
              have x1 := bL a ha
              have x2 := bL b (by omega)
              have eq9 := lrs_eq hw9 (rem := R) ha (show b < gN st.1 by omega)
              refine And.intro (fun c => ?_) (fun c => ?_)
              · have c : ¬ am_i h4 (am_r h4 87 28) (nI a).toNatClampNeg = am_i h4 (am_r h4 87 28) (nI b).toNatClampNeg := c
                rw [v1, v2] at c
                exact hK _ _ _ _ (skip fun q => c (by rw [eq9.mpr q.2.2]))
              · have c : am_i h4 (am_r h4 87 28) (nI a).toNatClampNeg = am_i h4 (am_r h4 87 28) (nI b).toNatClampNeg := Classical.not_not.mp c
                rw [v1, v2] at c
                have c := (nI_eq (by omega) (by omega)).mp c
                refine And.intro (Or.inl rfl) (hQ _ _ (done false ?_))
                cases hk : kap (gN st.1) (gM st.1) (gT st.1) (gLo st.1) (gHi st.1) R with
                | false => rfl
                | true => exact absurd ((kap_iff hw9 hT).mp hk a b hTa hTb (eq9.mp c)) (by omega)
        · rintro L h4 ⟨rfl, rfl, hno2⟩
          have eI : am_inc (nI a) (Int.ofNat 1) = nI (a + 1) := nI_1 a
          rw [← eI] at next
          refine am_go (fun p => p == 147) (fun K cal Q' hK hC hQ => ?_)
          refine And.intro (fun _ => hK _ _ _ _ (next _ _ ⟨_, rfl, rfl, fun x y hx hy q1 q2 => ?_⟩)) (fun c => absurd (nI_le (Nat.le_refl _) (by omega)) c)
          by_cases z : x = a
          · subst z; exact hno2 y hy q1 q2
          · exact hno x y (by omega) hy q1 q2
      · rintro L h3 ⟨v3, rfl, rfl, hno⟩
        refine am_go (fun p => p == 147) (fun K cal Q' hK hC hQ => ?_)
        refine And.intro (sk_87 m2.1.1) (hC _ _ _ _ (w_count (by decide) m2 ?_))
        refine And.intro (fun _ => And.intro (Or.inr rfl) (hQ _ _ (done true ?_))) (fun c => absurd (nI_le (Nat.le_refl _) (by omega)) c)
        refine ((kap_iff hw9 hT).mpr fun x y q1 q2 q3 => ?_).symm
        have x1 := q_T_lt hT q1
        have x2 := q_T_lt hT q2
        rcases Nat.lt_trichotomy x y with z | z | z
        · obtain ⟨k, q3⟩ := q3
          exact absurd ⟨k, pk_sy q3⟩ (hno y x x2 z q2 q1)
        · exact z
        · exact absurd q3 (hno x y x1 z q1 q2)
end

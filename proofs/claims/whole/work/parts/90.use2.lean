/-! THE MODEL: labels taken from the union -/
section
variable {xs : am_X} {d : Nat} {h : am_H} {st : stD} {Q : am_Q}
set_option maxHeartbeats 8000000 in
theorem q_useUnion (hd : 7 ≤ d) (I : MI h st) (HX : ∀ h', gT st.1 = 0 → MI h' st → moF h h' → am_i h' 87 0 = nI 1 → Q (.inl (some (.int 0))) h') (HQ : ∀ h', gT st.1 ≠ 0 → MI h' (stC st (gUseU st.1)) → moF h h' → am_i h' 87 0 = nI 0 → Q (.inl (some (.int (nI (gCost (gUseU st.1)))))) h') : am_C xs am_P0 d m_Mo_useUnion [.ref 87] h Q := by
  obtain ⟨w, I⟩ := I
  have I0 := MIw_0 I (nI 0)
  have s0 := s00 (h := h) (nI 0)
  have e0 := i0_0 h (nI 0)
  have hn := mg_n9 I.1
  have hT31 := mg_T31 I.1
  refine am_C_le hd (am_enter (d := 6) ap_Mo_useUnion rfl ?_) (fun _ _ k => k)
  refine am_go (fun p => p == 24) (fun K cal Q' hK hC hQ => ?_)
  refine And.intro (sk_87 I.1.1.1) (hC _ _ _ _ (w_hasTerminal (by decide) I.1 (fun q => ?_) (fun q => ?_)))
  rotate_left
  · exact And.intro (fun z => absurd rfl z) (fun _ => And.intro trivial (hQ _ _ (HX _ q (MIw_I (MIw_0 I0 _)) (sfc_F (sfc_q (sfq_thr s0 _))) (i0_0 _ _))))
  refine And.intro (fun _ => ?_) (fun z => absurd q_n1 z)
  generalize am_pi h 87 0 (nI 0) = h0 at I0 s0 e0
  have m : mg h0 w st.1 := I0.1
  refine And.intro (sk_87 m.1.1) (hC _ _ _ _ (w_laysIsolating (by decide) m fun ha sa ca la => ?_))
  have Ia := MIw_q I0 (sfq_of sa rfl rfl)
  have ma : mg ha w st.1 := Ia.1
  refine And.intro (sk_87 ma.1.1) (hC _ _ _ _ (w_dearestNow (by decide) ma la ?_))
  refine And.intro (sk_87 ma.1.1) (hC _ _ _ _ (w_change (by decide) Ia fun h1 s1 I1 => hK _ _ _ _ ?_))
  have m1 : mg h1 ((w + 1) % 9) st.1 := I1.1
  have F1 : sfc h h1 := sfc_t (sfc_t (sfc_q s0) sa (by decide) (by decide)) s1 (by decide) (by decide)
  have e1 : am_i h1 87 0 = nI 0 := (s1.2 0 (by decide)).trans ((sa.2 0 (by decide)).trans e0)
  have l1 : ∀ t, t < gN st.1 → (gT st.1).testBit t = true → am_i h1 95 t = nI (gIS st.1 t) := fun t ht hT => (s1.1.i (by decide) t).trans (la t ht hT).1
  have Sl : ∀ t, t < gN st.1 → gIS st.1 t < 2 ^ 31 := fun t ht => Nat.lt_trans (iso_lt ht) (pow_le31 (by omega))
  generalize (w + 1) % 9 = w2 at I1 m1
  have hlun : ∀ v, lud (gT st.1) (gIS st.1) (gDe st.1) (gN st.1) v (gN st.1) = lun (gT st.1) (gIS st.1) (gDe st.1) (gN st.1) v := fun v => lud_lun hn _
  have hob : ∀ b, gDe st.1 = some b → b < 1000 := fun b e => by have := (dea_lt e).1; omega
  refine am_for (gN st.1) (fun i L h2 => ∃ v3 v4, L = [.ref 87, .int (oI (gDe st.1)), .int (nI i), v3, v4] ∧ sf [88] [] h1 h2 ∧ ∀ k, am_i h2 88 k = if 1472 * w2 + 75 ≤ k ∧ k < 1472 * w2 + 75 + i then lun (gT st.1) (gIS st.1) (gDe st.1) (gN st.1) (k - (1472 * w2 + 75)) else am_i h1 88 k) ?_ ?_ 0 (Nat.zero_le _) _ _ ⟨_, _, rfl, sf_rf, fun k => by rw [if_neg (by omega)]⟩
  · rintro i hi9 L h2 ⟨v3, v4, rfl, s, hk'⟩ next
    have mw2 : mw h2 w2 := ⟨s.1.sh m1.1.1, m1.1.2.1, (s.2 3 (by decide)).trans m1.1.2.2⟩
    have eI : am_inc (nI i) (Int.ofNat 1) = nI (i + 1) := nI_1 i
    rw [← eI] at next
    have v0 : am_i h2 88 (1472 * w2 + 0) = nI (gN st.1) := by rw [hk', if_neg (by omega)]; exact m1.2.1.1
    have v2 : am_i h2 88 (1472 * w2 + 2) = nI (gT st.1) := by rw [hk', if_neg (by omega)]; exact m1.2.1.2.2.1
    refine am_go (fun p => p == 42) (fun K cal Q' hK hC hQ => ?_)
    refine And.intro (sk_87 mw2.1) (hC _ _ _ _ (w_countv (by decide) mw2 v0 ?_))
    refine And.intro (fun c => absurd c (nI_ge hi9 (by omega))) (fun _ => ?_)
    refine And.intro (sk_87 mw2.1) (hC _ _ _ _ (w_countv (by decide) mw2 v0 (hK _ _ _ _ ?_)))
    have fin : ∀ v4 : Value, am_W xs (am_code at_Mo_useUnion) (am_hd ah_Mo_useUnion) (am_C xs am_P0 6) Q 89 [.ref 87, .int (oI (gDe st.1)), .int (nI i), .int (lud (gT st.1) (gIS st.1) (gDe st.1) (gN st.1) i (gN st.1)), v4] [] h2 := by
      intro v4
      refine am_go (fun p => p == 24) (fun K cal Q' hK hC hQ => ?_)
      refine And.intro (sk_87 mw2.1) (hC _ _ _ _ (w_put (by decide) mw2 (k := 75 + i) (by rw [← nI_add]) (by omega) ?_))
      refine hK _ _ _ _ (next _ _ ⟨_, v4, rfl, sf_pi s (by decide) (by decide), fun k => ?_⟩)
      rw [i_pi_same, hlun]
      by_cases q : k = 1472 * w2 + (75 + i)
      · rw [if_pos q, if_pos (by omega), q, show 1472 * w2 + (75 + i) - (1472 * w2 + 75) = i by omega]
      · rw [if_neg q, hk']
        have : (1472 * w2 + 75 ≤ k ∧ k < 1472 * w2 + 75 + i) ↔ (1472 * w2 + 75 ≤ k ∧ k < 1472 * w2 + 75 + (i + 1)) := by omega
        simp only [this]
    have dn : ∀ j, j < gN st.1 → nI (gN st.1 - j) - nI 1 = nI (gN st.1 - 1 - j) := fun j hj => by
      have := nI_pred (gN st.1 - 1 - j)
      rw [show gN st.1 - 1 - j + 1 = gN st.1 - j by omega] at this
      exact this
    refine am_for (gN st.1) (fun j L h3 => h3 = h2 ∧ L = [.ref 87, .int (oI (gDe st.1)), .int (nI i), .int (lud (gT st.1) (gIS st.1) (gDe st.1) (gN st.1) i j), .int (nI (gN st.1 - j) - nI 1)]) ?_ ?_ 0 (Nat.zero_le _) _ _ ⟨rfl, rfl⟩
    · rintro j hj9 L h3 ⟨rfl, rfl⟩ next2
      have eJ : am_inc (nI (gN st.1 - 1 - j)) (Int.negSucc 0) = nI (gN st.1 - (j + 1)) - nI 1 := by
        show nI (gN st.1 - 1 - j) - nI 1 = _
        rw [show gN st.1 - 1 - j = gN st.1 - (j + 1) by omega]
      rw [← eJ] at next2
      have hst : lud (gT st.1) (gIS st.1) (gDe st.1) (gN st.1) i (j + 1) = if gN st.1 - 1 - j ≠ gN st.1 ∧ (gT st.1).testBit (gN st.1 - 1 - j) = true ∧ gDe st.1 ≠ some (gN st.1 - 1 - j) ∧ (gIS st.1 (gN st.1 - 1 - j)).testBit i = true then nI (gN st.1 - 1 - j) else lud (gT st.1) (gIS st.1) (gDe st.1) (gN st.1) i j := rfl
      rw [hst] at next2
      rw [dn j hj9]
      have tb : gN st.1 - 1 - j < gN st.1 := by omega
      generalize gN st.1 - 1 - j = t at next2 tb
      generalize lud (gT st.1) (gIS st.1) (gDe st.1) (gN st.1) i j = cur at next2
      have skip : ¬ ((gT st.1).testBit t = true ∧ gDe st.1 ≠ some t ∧ (gIS st.1 t).testBit i = true) → am_W xs (am_code at_Mo_useUnion) (am_hd ah_Mo_useUnion) (am_C xs am_P0 6) Q 42 [.ref 87, .int (oI (gDe st.1)), .int (nI i), .int cur, .int (am_inc (nI t) (Int.negSucc 0))] [] h3 := fun q => by
        rw [if_neg fun z => q z.2] at next2
        exact next2 _ _ ⟨rfl, rfl⟩
      refine am_go (fun p => p == 42) (fun K cal Q' hK hC hQ => ?_)
      refine And.intro (fun c => absurd c (nI_pos (by omega))) (fun _ => ?_)
      refine And.intro (fun c => ?_) (fun c => ?_)
      · have c := (oI_eq (by omega) hob).mp c
        exact hK _ _ _ _ (skip fun q => q.2.1 c)
      · have c : gDe st.1 ≠ some t := fun q => c ((oI_eq (by omega) hob).mpr q)
        refine And.intro (sk_87 mw2.1) (hC _ _ _ _ (w_isTermv (by decide) mw2 v2 hT31 (by omega) ?_))
        cases hTt : (gT st.1).testBit t with
        | false => exact And.intro (fun _ => hK _ _ _ _ (skip fun q => by rw [hTt] at q; exact absurd q.1 (by decide))) (fun z => absurd rfl z)
        | true =>
          refine And.intro (fun z => absurd z q_t1) (fun _ => ?_)
          have r1 : am_r h3 87 20 = 95 := sr_87_20 mw2.1
          refine And.intro (sk_87 mw2.1) (And.intro (ck_row r1 (sk_95 mw2.1) rfl (by omega) (by omega)) ?_)
          refine And.intro trivial ?_
          show cal m_Mo_has [.int (am_i h3 (am_r h3 87 20) (nI t).toNatClampNeg), .int (nI i)] h3 _
          rw [r1, q_cl (by omega), s.1.i (by decide) t, l1 t tb hTt]
          refine hC _ _ _ _ (w_has (by decide) (Sl t tb) (by omega) ?_)
          cases hb : (gIS st.1 t).testBit i with
          | false => exact And.intro (fun _ => hK _ _ _ _ (skip fun q => by rw [hb] at q; exact absurd q.2.2 (by decide))) (fun z => absurd rfl z)
          | true =>
            rw [if_pos ⟨by omega, hTt, c, hb⟩] at next2
            exact And.intro (fun z => absurd z q_t1) (fun _ => hK _ _ _ _ (next2 _ _ ⟨rfl, rfl⟩))
    · rintro L h3 ⟨rfl, rfl⟩
      refine am_go (fun p => p == 89) (fun K cal Q' hK hC hQ => ?_)
      refine And.intro (fun _ => hK _ _ _ _ (fin _)) (fun c => absurd ?_ c)
      rw [Nat.sub_self]
      show nI 0 - nI 1 < 0
      decide
  · rintro L h2 ⟨v3, v4, rfl, s, hk'⟩
    have mw2 : mw h2 w2 := ⟨s.1.sh m1.1.1, m1.1.2.1, (s.2 3 (by decide)).trans m1.1.2.2⟩
    have v0 : am_i h2 88 (1472 * w2 + 0) = nI (gN st.1) := by rw [hk', if_neg (by omega)]; exact m1.2.1.1
    refine am_go (fun p => p == 24) (fun K cal Q' hK hC hQ => ?_)
    refine And.intro (sk_87 mw2.1) (hC _ _ _ _ (w_countv (by decide) mw2 v0 ?_))
    refine And.intro (fun _ => ?_) (fun c => absurd (nI_le (Nat.le_refl _) (by omega)) c)
    have I9 := MIw_row (g := gUseU st.1) I1 (sf_mo s (subl_x (by decide)) (subl_x (by decide))) (fun k hk => by rw [hk', if_neg (by omega)]) (mrow_L m1.2 fun k hk => by
      rw [hk']
      have a1 : (1472 * w2 + 75 ≤ 1472 * w2 + k ∧ 1472 * w2 + k < 1472 * w2 + 75 + gN st.1) ↔ (75 ≤ k ∧ k < 75 + gN st.1) := by omega
      have a2 : 1472 * w2 + k - (1472 * w2 + 75) = k - 75 := by omega
      simp only [a1, a2])
    have m9 : mg h2 w2 (gUseU st.1) := I9.1
    refine And.intro (sk_87 m9.1.1) (hC _ _ _ _ (w_costNow (by decide) m9 fun h3 s3 _ _ => ?_))
    exact And.intro trivial (hQ _ _ (HQ h3 q (MIw_I (MIw_q I9 (sfq_of s3 rfl rfl))) (sfc_F (sfc_t (sfc_t F1 s (by decide) (by decide)) s3 (by decide) (by decide))) ((s3.2 0 (by decide)).trans ((s.2 0 (by decide)).trans e1))))
end

/-! THE MODEL: load, the call -/
section
variable {xs : am_X} {d : Nat} {h : am_H} {st : stD} {Q : am_Q}
set_option maxHeartbeats 16000000 in
theorem q_load (hd : 22 ≤ d) (I : MI h st) (v : Int32) (HX : ∀ h', vin (st.2.2.1.1 + 1) v = false → MI h' st → moF h h' → am_i h' 87 0 = nI 1 → Q (.inl (some (.int 0))) h')
    (H0 : ∀ k e h', k ≤ st.2.2.1.1 → v = nI k → pText (tOf st k) = .inl e → MI h' (stF st (nI e.2)) → moF h h' → am_i h' 87 0 = nI 0 → Q (.inl (some (.int (-nI e.1)))) h')
    (H1 : ∀ k s h', k ≤ st.2.2.1.1 → v = nI k → pText (tOf st k) = .inr s → MI h' (stL st (gFin s.2.1)) → moF h h' → am_i h' 87 0 = nI 0 → Q (.inl (some (.int (nI (gM s.2.1))))) h') : am_C xs am_P0 d m_Mo_load [.ref 87, .int v] h Q := by
  obtain ⟨w, I⟩ := I
  have I0 := MIw_0 I (nI 0)
  have s0 : sfq h (am_pi h 87 0 (nI 0)) := s00 _
  have e0 := i0_0 h (nI 0)
  refine am_C_le hd (am_enter (d := 21) ap_Mo_load rfl ?_) (fun _ _ k => k)
  refine am_go (fun p => p == 26) (fun K cal Q' hK hC hQ => ?_)
  refine And.intro (sk_87 I.1.1.1) ?_
  show am_ev _ _ _ _ _ _ _ _ _ _ _ (am_pi h 87 0 (nI 0))
  generalize am_pi h 87 0 (nI 0) = h0 at I0 s0 e0
  have hs0 := I0.1.1.1
  obtain ⟨j1, j2, j3⟩ := I0.2.2.1
  refine And.intro (sk_87 hs0) ?_
  show True ∧ cal m_Mo_isIn [.long v.toInt64, .long (lN 0), .long (am_i h0 87 7).toInt64] h0 _
  rw [j2]
  refine And.intro trivial (hC _ _ _ _ (w_isIn (by decide) (q_vin (n := st.2.2.1.1 + 1) (by omega) (b := (nI st.2.2.1.1).toInt64) ?_) ?_))
  · rw [q_L, nI_toInt (by omega)]; omega
  refine And.intro (sk_87 hs0) (hC _ _ _ _ (w_right (by decide) (sk_87 hs0) e0 (by decide) (by decide) (fun e => ?_) (fun e => ?_)))
  rotate_left
  · refine And.intro (fun y => absurd rfl y) (fun _ => And.intro trivial (hQ _ _ (HX _ e ?_ ?_ (i0_0 _ _))))
    · exact MIw_I (MIw_0 I0 _)
    · exact sfc_F (sfc_q (sfq_thr s0 _))
  obtain ⟨k, k1, k2⟩ := q_range_of (n := st.2.2.1.1 + 1) (by omega) e
  have G0 := fun e h' => H0 k e h' (by omega) k2
  have G1 := fun s h' => H1 k s h' (by omega) k2
  clear H0 H1 HX
  subst k2
  refine And.intro (fun _ => hK _ _ _ _ ?_) (fun y => absurd (Classical.not_not.mp y) i1_0)
  refine am_go (fun p => p == 65) (fun K cal Q' hK hC hQ => ?_)
  refine And.intro (sk_87 hs0) (And.intro (sk_87 hs0) (And.intro (sk_87 hs0) ?_))
  show am_k (am_pi (am_pi (am_pi h0 87 9 (nI k)) 87 7 (nI 0)) 87 8 (-nI 1)) 87 = _ ∧ _
  have s1 : sf [] [7, 8, 9] h0 (am_pi (am_pi (am_pi h0 87 9 (nI k)) 87 7 (nI 0)) 87 8 (-nI 1)) := sf_pf (sf_pf (sf_pf sf_rf (by decide)) (by decide)) (by decide)
  have f1 : ∀ j, am_i (am_pi (am_pi (am_pi h0 87 9 (nI k)) 87 7 (nI 0)) 87 8 (-nI 1)) 87 j = if j = 8 then -nI 1 else if j = 7 then nI 0 else if j = 9 then nI k else am_i h0 87 j := fun j => by rw [i_pi_same, i_pi_same, i_pi_same]
  generalize am_pi (am_pi (am_pi h0 87 9 (nI k)) 87 7 (nI 0)) 87 8 (-nI 1) = h1 at s1 f1 ⊢
  have hs1 := s1.1.sh hs0
  have e88 : ∀ j, am_i h1 88 j = am_i h0 88 j := fun j => s1.1.i (by decide) j
  have I1 : MIw h1 w (stF st (-nI 1)) := by
    obtain ⟨m, ⟨i1, i2, i3⟩, -, -⟩ := I0
    exact ⟨⟨⟨hs1, m.1.2.1, (f1 3).trans m.1.2.2⟩, mrow_mv m.2 e88⟩, ⟨(f1 4).trans i1, i2, fun j g z => mrow_mv (i3 j g z) e88⟩, ⟨Nat.zero_le _, f1 7, fun j hj => absurd hj (Nat.not_lt_zero _)⟩, f1 8⟩
  have x1 : mTx h1 (tOf st k) := ⟨by show k ≤ 700; omega, f1 9, fun j hj => by
    have hj : j < k := hj
    exact ⟨(s1.1.i (by decide) j).trans (j3 j (by omega)).1, (j3 j (by omega)).2⟩⟩
  have F1 : moF h h1 := (sfc_F (sfc_q s0)).tr (s1.1.mo (subl_x (by decide)))
  have e01 : am_i h1 87 0 = nI 0 := (f1 0).trans e0
  refine And.intro (sk_87 hs1) (hC _ _ _ _ (y_texts (by decide) hs1 x1 (fun e h2 hR s2 E2 => ?_) (fun s h2 hR s2 Z2 => ?_)))
  · -- an error
    refine And.intro (sk_87 E2.1) (And.intro (fun y => absurd y E2.ne) (fun _ => ?_))
    refine And.intro (sk_87 E2.1) (And.intro (sk_87 E2.1) (And.intro (sk_87 E2.1) (And.intro trivial (hQ _ _ ?_))))
    show Q (.inl (some (.int (am_i (am_pi h2 87 8 (am_i h2 87 12)) 87 11)))) (am_pi h2 87 8 (am_i h2 87 12))
    rw [i_pi_k (by decide), E2.2.2.1, E2.2.2.2]
    have I2 := MIw_y I1 s2 (by decide) (by decide)
    have s3 : sf [] [8] h2 (am_pi h2 87 8 (nI e.2)) := sf_pf sf_rf (by decide)
    have f3 : ∀ j, am_i (am_pi h2 87 8 (nI e.2)) 87 j = if j = 8 then nI e.2 else am_i h2 87 j := fun j => i_pi_same _ _ _ _ _
    generalize am_pi h2 87 8 (nI e.2) = h3 at s3 f3 ⊢
    have e883 : ∀ j, am_i h3 88 j = am_i h2 88 j := fun j => s3.1.i (by decide) j
    refine G0 e h3 hR ⟨w, ?_⟩ (F1.tr ((s2.1.mo (subl_x (by decide))).tr (s3.1.mo (subl_x (by decide))))) ((f3 0).trans ((s2.2 0 (by decide)).trans e01))
    obtain ⟨m, ⟨i1, i2, i3⟩, ⟨a1, a2, a3⟩, -⟩ := I2
    exact ⟨⟨⟨s3.1.sh m.1.1, m.1.2.1, (f3 3).trans m.1.2.2⟩, mrow_mv m.2 e883⟩, ⟨(f3 4).trans i1, i2, fun j g z => mrow_mv (i3 j g z) e883⟩, ⟨a1, (f3 7).trans a2, fun j hj => absurd hj (Nat.not_lt_zero _)⟩, f3 8⟩
  · -- a graph
    have tw := pText_wf x1.1 hR
    have I2 := MIw_y I1 s2 (by decide) (by decide)
    refine And.intro (sk_87 Z2.1.1) (And.intro (fun _ => hK _ _ _ _ ?_) (fun y => absurd Z2.1.2.2.2.1 y))
    generalize hgd : s.2.1 = g at Z2 tw G1
    have G1 := fun h' a b c => hgd ▸ G1 s h' hR (hgd.symm ▸ a) b c
    have wf : gwf g := tw.1
    have h690 : ncs g ≤ 690 := tw.2
    have hn := wf.1.1
    refine am_go (fun p => p == 71) (fun K cal Q' hK hC hQ => ?_)
    refine And.intro (sk_87 Z2.1.1) (hC _ _ _ _ (w_change (by decide) I2 (fun h3 s3 I3 => hK _ _ _ _ ?_)))
    have R3 : mRd h3 g ((gCs g).getD []) := Z2.2.1.mv (sf_89 s3 (by decide))
    have F3 : moF h h3 := F1.tr ((s2.1.mo (subl_x (by decide))).tr (s3.1.mo (subl_x (by decide))))
    have e03 : am_i h3 87 0 = nI 0 := (s3.2 0 (by decide)).trans ((s2.2 0 (by decide)).trans e01)
    generalize hw' : (w + 1) % 9 = w' at I3
    have w9 : w' < 9 := I3.1.1.2.1
    -- the row is copied
    refine am_for 1472 (fun i L' h' => L' = [.ref 87, .int (nI k), .int (nI i)] ∧ sf [88] [] h3 h' ∧ ∀ j, am_i h' 88 j = if 1472 * w' ≤ j ∧ j < 1472 * w' + i then am_i h3 89 (j - 1472 * w') else am_i h3 88 j) ?_ ?_ 0 (Nat.zero_le _) _ _ ⟨rfl, sf_rf, fun j => by rw [if_neg (by omega)]⟩
    · rintro i hi9 L' h' ⟨rfl, s4, f4⟩ next
      have eI : am_inc (nI i) (Int.ofNat 1) = nI (i + 1) := nI_1 i
      rw [← eI] at next
      have m4 : mw h' w' := sf_mw s4 I3.1.1 (by decide)
      have R2 : am_r h' 87 2 = 89 := sr_87_2 m4.1
      refine am_go (fun p => p == 71) (fun K cal Q' hK hC hQ => ?_)
      refine And.intro (fun c => absurd c (nI_ge hi9 (by omega))) (fun _ => ?_)
      refine And.intro (sk_87 m4.1) (And.intro (ck_row R2 (sk_89 m4.1) rfl hi9 (by decide)) (And.intro (sk_87 m4.1) ?_))
      have ev : am_i h' (am_r h' 87 2) (nI i).toNatClampNeg = am_i h3 89 i := by rw [R2, q_cl (by omega)]; exact sf_89 s4 (by decide) i
      show cal m_Mo_put [.ref 87, .int (nI i), .int (am_i h' (am_r h' 87 2) (nI i).toNatClampNeg)] h' _
      rw [ev]
      refine hC _ _ _ _ (w_put (by decide) m4 rfl hi9 (hK _ _ _ _ (next _ _ ⟨rfl, sf_pi s4 (by decide) (by decide), fun j => ?_⟩)))
      rw [i_pi_same, f4]
      by_cases q : j = 1472 * w' + i
      · rw [if_pos q, if_pos (by omega), q, Nat.add_sub_cancel_left]
      · rw [if_neg q]
        have : (1472 * w' ≤ j ∧ j < 1472 * w' + i) ↔ (1472 * w' ≤ j ∧ j < 1472 * w' + (i + 1)) := by omega
        simp only [this]
    rintro L' h4 ⟨rfl, s4, f4⟩
    refine am_go (fun p => p == 97) (fun K cal Q' hK hC hQ => ?_)
    refine And.intro (fun _ => hK _ _ _ _ ?_) (fun c => absurd (nI_le (Nat.le_refl _) (by omega)) c)
    have row4 : ∀ h', (∀ j, 1472 * w' ≤ j → j < 1472 * w' + 1472 → ¬ (1472 * w' + 75 ≤ j ∧ j < 1472 * w' + 84) → am_i h' 88 j = am_i h4 88 j) → (∀ j, am_i h' 89 j = am_i h3 89 j) → ∀ j, j < 1472 → ¬ (75 ≤ j ∧ j < 84) → am_i h' 88 (1472 * w' + j) = am_i h' 89 j := fun h' a b j hj hn => by
      rw [a _ (by omega) (by omega) (by omega), f4, if_pos (by omega), b, Nat.add_sub_cancel_left]
    -- the labels
    refine am_for 9 (fun i L' h' => L' = [.ref 87, .int (nI k), .int (nI i)] ∧ sf [88] [] h3 h' ∧ (∀ j, ¬ (1472 * w' + 75 ≤ j ∧ j < 1472 * w' + 84) → am_i h' 88 j = am_i h4 88 j) ∧ ∀ v, v < i → am_i h' 88 (1472 * w' + (75 + v)) = if (gT g).testBit v = true then nI v else -nI 1) ?_ ?_ 0 (Nat.zero_le _) _ _ ⟨rfl, s4, fun _ _ => rfl, fun v hv => absurd hv (Nat.not_lt_zero _)⟩
    · rintro i hi9 L' h' ⟨rfl, s5, f5, g5⟩ next
      have eI : am_inc (nI i) (Int.ofNat 1) = nI (i + 1) := nI_1 i
      rw [← eI] at next
      have m5 : mw h' w' := sf_mw s5 I3.1.1 (by decide)
      have R5 : mRd h' g ((gCs g).getD []) := R3.mv (sf_89 s5 (by decide))
      have mg5 : mg h' w' (gL g (fun v => am_i h' 88 (1472 * w' + (75 + v)))) := ⟨m5, mrow_read wf h690 (row4 h' (fun j _ _ hn => f5 j hn) (sf_89 s5 (by decide))) R5 _ (fun v _ => rfl)⟩
      refine am_go (fun p => p == 97) (fun K cal Q' hK hC hQ => ?_)
      refine And.intro (fun c => absurd c (nI_ge hi9 (by omega))) (fun _ => ?_)
      refine And.intro (sk_87 m5.1) (hC _ _ _ _ (w_isTerm (by decide) mg5 (v := i) (by omega) ?_))
      have fin : ∀ x : Int32, x = (if (gT g).testBit i = true then nI i else -nI 1) → am_C xs am_P0 21 m_Mo_put [.ref 87, .int (nI 75 + nI i), .int x] h' (fun r h9 => match r with
          | .inl none => am_W xs (am_code at_Mo_load) (am_hd ah_Mo_load) (am_C xs am_P0 21) Q 97 [.ref 87, .int (nI k), .int (am_inc (nI i) (Int.ofNat 1))] [] h9
          | _ => False) := fun x hx => by
        rw [nI_add]
        refine w_put (by decide) m5 rfl (by omega) (next _ _ ⟨rfl, sf_pi s5 (by decide) (by decide), fun j hj => ?_, fun v hv => ?_⟩)
        · rw [i_pi_same, if_neg (by omega)]
          exact f5 j hj
        · rw [i_pi_same]
          by_cases q : v = i
          · rw [if_pos (by omega), hx, q]
          · rw [if_neg (by omega)]
            exact g5 v (by omega)
      have eg : gT (gL g (fun v => am_i h' 88 (1472 * w' + (75 + v)))) = gT g := rfl
      rw [eg]
      cases e : (gT g).testBit i with
      | true => exact And.intro (fun y => absurd y q_t1) (fun _ => And.intro (sk_87 m5.1) (hC _ _ _ _ (am_C_mono _ _ _ _ _ _ (fun r h9 q => match r, q with | .inl none, q => hK _ _ _ _ q) (fin _ (by rw [if_pos e])))))
      | false => exact And.intro (fun _ => And.intro (sk_87 m5.1) (hC _ _ _ _ (am_C_mono _ _ _ _ _ _ (fun r h9 q => match r, q with | .inl none, q => hK _ _ _ _ q) (fin _ (by rw [if_neg (by rw [e]; decide)]))))) (fun y => absurd rfl y)
    · rintro L' h5 ⟨rfl, s5, f5, g5⟩
      refine am_go (fun _ => false) (fun K cal Q' hK hC hQ => ?_)
      refine And.intro (fun _ => ?_) (fun c => absurd (nI_le (Nat.le_refl _) (by omega)) c)
      have R5 : mRd h5 g ((gCs g).getD []) := R3.mv (sf_89 s5 (by decide))
      have row5 : mrow h5 (1472 * w') (gFin g) := mrow_read wf h690 (row4 h5 (fun j _ _ hn => f5 j hn) (sf_89 s5 (by decide))) R5 _ (fun v hv => g5 v (by omega))
      have I5 := MIw_row I3 (sf_mo s5 (subl_x rfl) (subl_x rfl)) (fun j hj => (f5 j (by omega)).trans (by rw [f4, if_neg (by omega)])) row5
      refine And.intro (sk_87 I5.1.1.1) (hC _ _ _ _ (w_get (by decide) I5.1.1 (k := 1) rfl (by decide) row5.1.2.1 (And.intro trivial (hQ _ _ ?_))))
      exact G1 h5 (MIw_I I5) (F3.tr (s5.1.mo (subl_x (by decide)))) ((s5.2 0 (by decide)).trans e03)
end

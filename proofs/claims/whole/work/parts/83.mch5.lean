/-! THE MODEL: improve -/
section
variable {xs : am_X} {d : Nat} {h : am_H} {st : stD} {Q : am_Q}
set_option maxHeartbeats 8000000 in
theorem q_improve (hd : 6 ≤ d) (I : MI h st) (mo : Int32) (HX : ∀ h', decide (nI 1 ≤ mo ∧ mo ≤ nI 20) = false → MI h' st → moF h h' → am_i h' 87 0 = nI 1 → Q (.inl (some (.int 0))) h')
    (HQ : ∀ h' k, k ≤ 20 → mo = nI k → 1 ≤ k → MI h' (stC st (gImps k st.1).1) → moF h h' → am_i h' 87 0 = nI 0 → Q (.inl (some (.int (nI (gImps k st.1).2)))) h') : am_C xs am_P0 d m_Mo_improve [.ref 87, .int mo] h Q := by
  obtain ⟨w, I⟩ := I
  have I0 := MIw_0 I (nI 0)
  have s0 := s00 (h := h) (nI 0)
  have e0 := i0_0 h (nI 0)
  have hn := mg_n9 I.1
  refine am_C_le hd (am_enter (d := 5) ap_Mo_improve rfl ?_) (fun _ _ k => k)
  refine am_go (fun p => p == 30) (fun K cal Q' hK hC hQ => ?_)
  refine And.intro (sk_87 I.1.1.1) ?_
  show True ∧ cal m_Mo_isIn _ (am_pi h 87 0 (nI 0)) _
  generalize am_pi h 87 0 (nI 0) = h0 at I0 s0 e0
  have m : mg h0 w st.1 := I0.1
  have hk := sk_87 m.1.1
  refine And.intro trivial (hC _ _ _ _ (w_isIn (by decide) (q_in99 (a := 1) (b := 20) (by decide) (by decide)) ?_))
  refine And.intro hk (hC _ _ _ _ (w_right (by decide) hk e0 (by decide) (by decide) (fun q => ?_) (fun q => ?_)))
  rotate_left
  · exact And.intro (fun z => absurd rfl z) (fun _ => And.intro trivial (hQ _ _ (HX _ q (MIw_I (MIw_0 I0 _)) (sfc_F (sfc_q (sfq_thr s0 _))) (i0_0 _ _))))
  obtain ⟨k, k1, k2, rfl⟩ := q_in_of (by decide) (by decide) q
  refine And.intro (fun _ => ?_) (fun z => absurd q_n1 z)
  refine And.intro hk (hC _ _ _ _ (w_change (by decide) I0 fun h1 s1 I1 => hK _ _ _ _ ?_))
  have F1 : sfc h h1 := sfc_t (sfc_q s0) s1 (by decide) (by decide)
  have e1 := (s1.2 0 (by decide)).trans e0
  generalize (w + 1) % 9 = w2 at I1
  refine am_for k (fun n L h2 => ∃ g, L = [.ref 87, .int (nI k), .int (nI n)] ∧ sfc h h2 ∧ MIw h2 w2 (stC st g) ∧ am_i h2 87 0 = nI 0 ∧ gImps k st.1 = ((gImps (k - n) g).1, (gImps (k - n) g).2 + n)) ?_ ?_ 0 (Nat.zero_le _) _ _ ⟨st.1, rfl, F1, I1, e1, rfl⟩
  · rintro n hn9 L h2 ⟨g, rfl, F2, I2, e2, hg⟩ next
    have eI : am_inc (nI n) (Int.ofNat 1) = nI (n + 1) := nI_1 n
    rw [← eI] at next
    have m2 : mg h2 w2 g := I2.1
    have st9 : gImps (k - n) g = if gBet g = true then ((gImps (k - (n + 1)) (gImp g)).1, (gImps (k - (n + 1)) (gImp g)).2 + 1) else (g, 0) := by
      rw [show k - n = (k - (n + 1)) + 1 by omega]
      exact gImp_step
    refine am_go (fun p => p == 30) (fun K cal Q' hK hC hQ => ?_)
    refine And.intro (fun c => absurd c (nI_ge hn9 (by omega))) (fun _ => ?_)
    refine And.intro (sk_87 m2.1.1) (hC _ _ _ _ (w_laysMove (by decide) m2 fun h3 s3 c3 l3 hs3 ho3 => ?_))
    have I3 := MIw_q I2 (sfq_of s3 rfl rfl)
    have m3 : mg h3 w2 g := I3.1
    have F3 : sfc h h3 := sfc_t F2 s3 (by decide) (by decide)
    have e3 := (s3.2 0 (by decide)).trans e2
    have stop : gBet g = false → ∀ h4, MI h4 (stC st g) → moF h h4 → am_i h4 87 0 = nI 0 → Q' (.inl (some (.int (nI n)))) h4 := fun hb h4 i4 f4 e4 => by
      rw [st9, if_neg (by rw [hb]; decide)] at hg
      have := HQ h4 k k2 rfl k1 (by rw [hg]; exact i4) f4 e4
      rw [hg] at this
      simp only [Nat.zero_add] at this
      exact hQ _ _ this
    have hbet : gBet g = mvi (gM g) (gLo g) (gHi g) (gCo g) (gLab g) (gMv g) := rfl
    have himp : gImp g = gL g (mvl (gLab g) (gMv g)) := rfl
    cases ho : gMv g with
    | none =>
      rw [ho] at hs3 hbet
      refine And.intro (sk_87 m3.1.1) (And.intro (fun _ => ?_) (fun z => absurd hs3.1 z))
      exact And.intro trivial (stop hbet h3 (MIw_I I3) (sfc_F F3) e3)
    | some q =>
      obtain ⟨q1, q2, q3⟩ := ho3 q ho
      have n3 := mg_n9 m3
      rw [ho] at hs3 hbet himp
      refine And.intro (sk_87 m3.1.1) (And.intro (fun z => absurd (hs3.1.symm.trans z) (nI_neg1 (by omega))) (fun _ => ?_))
      refine And.intro (sk_87 m3.1.1) (And.intro (sk_87 m3.1.1) (hC _ _ _ _ (w_costNow (by decide) m3 fun h4 s4 c4 l4 => ?_)))
      have I4 := MIw_q I3 (sfq_of s4 rfl rfl)
      have m4 : mg h4 w2 g := I4.1
      have F4 : sfc h h4 := sfc_t F3 s4 (by decide) (by decide)
      have e4 := (s4.2 0 (by decide)).trans e3
      have lC : gCost g ≤ 20 * 9999 := Nat.le_trans (sumE_le fun e he => (mg_co m4 he).2) (Nat.mul_le_mul_right _ (mg_m20 m4))
      refine And.intro (fun z => ?_) (fun z => ?_)
      · have z : am_i h3 87 34 < nI (gCost g) := z
        rw [hs3.2.2] at z
        have z := (nI_ltI (show q.2.2 < 2 ^ 31 by omega) (by omega)).mp z
        have hb : gBet g = true := by rw [hbet]; exact decide_eq_true z
        rw [if_pos hb] at st9
        rw [st9] at hg
        have v32 : am_i h4 87 32 = nI q.1 := (s4.2 32 (by decide)).trans hs3.1
        have v33 : am_i h4 87 33 = nI q.2.1 := (s4.2 33 (by decide)).trans hs3.2.1
        refine And.intro (sk_87 m4.1.1) (And.intro (sk_87 m4.1.1) (And.intro (sk_87 m4.1.1) ?_))
        have n4 := mg_n9 m4
        refine hC _ _ _ _ (w_put (by decide) m4.1 (k := 75 + q.1) (by rw [show am_i h4 87 (608 % 64) = nI q.1 from v32, nI_add]) (by omega) ?_)
        rw [show am_i h4 87 (609 % 64) = nI q.2.1 from v33]
        have I5 : MIw (am_pi h4 88 (1472 * w2 + (75 + q.1)) (nI q.2.1)) w2 (stC st (gImp g)) := by
          rw [himp]
          exact MIw_put I4 (by omega) (mrow_lab m4.2 q1 (nI q.2.1))
        refine hK _ _ _ _ (next _ _ ⟨gImp g, rfl, sfc_pi F4 _ _, I5, (congrFun (i_pi_ne (by decide)) 0).trans e4, ?_⟩)
        rw [hg]
        simp only [Nat.add_assoc, Nat.add_comm 1 n]
      · have z : ¬ am_i h3 87 34 < nI (gCost g) := z
        rw [hs3.2.2] at z
        have z : ¬ q.2.2 < gCost g := fun r => z ((nI_ltI (show q.2.2 < 2 ^ 31 by omega) (by omega)).mpr r)
        exact And.intro trivial (stop (by rw [hbet]; exact decide_eq_false z) h4 (MIw_I I4) (sfc_F F4) e4)
  · rintro L h2 ⟨g, rfl, F2, I2, e2, hg⟩
    refine am_go (fun p => p == 30) (fun K cal Q' hK hC hQ => ?_)
    refine And.intro (fun _ => And.intro trivial (hQ _ _ ?_)) (fun c => absurd (nI_le (Nat.le_refl _) (by omega)) c)
    rw [Nat.sub_self] at hg
    have hg : gImps k st.1 = (g, 0 + k) := hg
    have := HQ h2 k k2 rfl k1 (by rw [hg]; exact MIw_I I2) (sfc_F F2) e2
    rw [hg] at this
    simp only [Nat.zero_add] at this
    exact this
end

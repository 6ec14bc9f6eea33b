/-! THE MODEL: append -/
theorem q_sh20 : ∀ k, k < 20 → nI 24 - nI 8 * (nI k - nI k / nI 4 * nI 4) = nI (24 - 8 * (k % 4)) := by decide +kernel
theorem byt_nI (w : Int32) (s : Nat) : (w >>> (nI s &&& 31)) &&& nI 255 = nI (byt w s) := by
  unfold byt
  obtain ⟨k, k1, k2⟩ := byt_and (w >>> (nI s &&& 31))
  rw [k2, q_cl (by omega)]
  exact k2
section
variable {xs : am_X} {d : Nat} {h : am_H} {st : stD} {Q : am_Q}
set_option maxHeartbeats 8000000 in
theorem q_append (hd : 1 ≤ d) (I : MI h st) (w : Nat → Int32) (H0 : 680 < st.2.2.1.1 → ∀ h', MI h' st → moF h h' → Q (.inl (some (.int (-nI 1)))) h')
    (HQ : ∀ h', st.2.2.1.1 ≤ 680 → MI h' (stB st (st.2.2.1.1 + 20) (apB w st.2.2.1.1 st.2.2.1.2)) → moF h h' → Q (.inl (some (.int (nI (st.2.2.1.1 + 20))))) h') : am_C xs am_P0 d m_Mo_append [.ref 87, .int (w 0), .int (w 1), .int (w 2), .int (w 3), .int (w 4)] h Q := by
  obtain ⟨r, I⟩ := I
  have I0 := MIw_0 I (nI 0)
  have s0 := s00 (h := h) (nI 0)
  refine am_C_le hd (am_enter (d := 0) ap_Mo_append rfl ?_) (fun _ _ k => k)
  refine am_go (fun p => p == 23) (fun K cal Q' hK hC hQ => ?_)
  refine And.intro (sk_87 I.1.1.1) ?_
  show am_k (am_pi h 87 0 (nI 0)) 87 = _ ∧ _
  generalize am_pi h 87 0 (nI 0) = h0 at I0 s0
  obtain ⟨m, ⟨i1, i2, i3⟩, ⟨j1, j2, j3⟩, i4⟩ := id I0
  have hk := sk_87 m.1.1
  generalize hL : st.2.2.1.1 = L at *
  have eL : am_i h0 87 7 + nI 20 = nI (L + 20) := by rw [j2, nI_add]
  refine And.intro hk (And.intro (fun c => hK _ _ _ _ ?_) (fun c => ?_))
  rotate_left
  · have c : ¬ am_i h0 87 7 + nI 20 ≤ nI 700 := c
    rw [eL] at c
    exact And.intro trivial (hQ _ _ (H0 (Nat.not_le.mp fun q => c (nI_le (by omega) (by decide))) h0 (MIw_I I0) (sfc_F (sfc_q s0))))
  have c : am_i h0 87 7 + nI 20 ≤ nI 700 := c
  rw [eL] at c
  have c := (nI_leI (by omega) (by decide)).mp c
  refine am_for 20 (fun i M h2 => ∃ v7, M = [.ref 87, .int (w 0), .int (w 1), .int (w 2), .int (w 3), .int (w 4), .int (nI i), v7] ∧ sf [90] [] h0 h2 ∧ ∀ k, am_i h2 90 k = if L ≤ k ∧ k < L + i then nI (byt (w ((k - L) / 4)) (24 - 8 * ((k - L) % 4))) else am_i h0 90 k) ?_ ?_ 0 (Nat.zero_le _) _ _ ⟨_, rfl, sf_rf, fun k => by rw [if_neg (by omega)]⟩
  · rintro i hi9 M h2 ⟨v7, rfl, s, hv⟩ next
    have eI : am_inc (nI i) (Int.ofNat 1) = nI (i + 1) := nI_1 i
    rw [← eI] at next
    have hs2 := s.1.sh m.1.1
    have hk2 := sk_87 hs2
    have r90 : am_r h2 87 5 = 90 := sr_87_5 hs2
    have eX : am_i h2 87 7 + nI i = nI (L + i) := by rw [s.2 7 (by decide), j2, nI_add]
    refine am_go (fun p => p == 23) (fun K cal Q' hK hC hQ => ?_)
    have fin : ∀ x : Int32, x = w (i / 4) → am_k h2 87 = (1, 9) ∧ am_k h2 87 = (1, 9) ∧ (¬ nI 4 = 0) ∧ am_arr h2 (am_r h2 87 5) 2 (am_i h2 87 7 + nI i) ∧ K 23 [.ref 87, .int (w 0), .int (w 1), .int (w 2), .int (w 3), .int (w 4), .int (am_inc (nI i) (Int.ofNat 1)), .int x] [] (am_pi h2 (am_r h2 87 5) (am_i h2 87 7 + nI i).toNatClampNeg ((x >>> ((nI 24 - nI 8 * (nI i - nI i / nI 4 * nI 4)) &&& 31)) &&& nI 255)) := fun x hx => by
      refine ⟨hk2, hk2, by decide, ck_row r90 (sk_90 hs2) eX (by omega) (by omega), ?_⟩
      rw [r90, eX, q_cl (by omega), q_sh20 i hi9, byt_nI, hx]
      refine hK _ _ _ _ (next _ _ ⟨_, rfl, sf_pi s (by decide) (by decide), fun k => ?_⟩)
      rw [i_pi_same, hv]
      by_cases q : k = L + i
      · rw [if_pos q, if_pos (by omega), q, show L + i - L = i by omega]
      · rw [if_neg q]
        have : (L ≤ k ∧ k < L + i) ↔ (L ≤ k ∧ k < L + (i + 1)) := by omega
        simp only [this]
    refine And.intro (fun c => absurd c (nI_ge (show i < 20 from hi9) (by decide))) (fun _ => ?_)
    by_cases r0 : i < 4
    · exact And.intro (fun c => absurd c (nI_ge r0 (by decide))) (fun _ => fin _ (by rw [show i / 4 = 0 by omega]))
    refine And.intro (fun _ => ?_) (fun c => absurd (nI_le (show 4 ≤ i by omega) (by omega)) c)
    by_cases r1 : i < 8
    · exact And.intro (fun c => absurd c (nI_ge r1 (by decide))) (fun _ => fin _ (by rw [show i / 4 = 1 by omega]))
    refine And.intro (fun _ => ?_) (fun c => absurd (nI_le (show 8 ≤ i by omega) (by omega)) c)
    by_cases r2 : i < 12
    · exact And.intro (fun c => absurd c (nI_ge r2 (by decide))) (fun _ => fin _ (by rw [show i / 4 = 2 by omega]))
    refine And.intro (fun _ => ?_) (fun c => absurd (nI_le (show 12 ≤ i by omega) (by omega)) c)
    by_cases r3 : i < 16
    · exact And.intro (fun c => absurd c (nI_ge r3 (by decide))) (fun _ => fin _ (by rw [show i / 4 = 3 by omega]))
    exact And.intro (fun _ => fin _ (by rw [show i / 4 = 4 by omega])) (fun c => absurd (nI_le (show 16 ≤ i by omega) (by omega)) c)
  · rintro M h2 ⟨v7, rfl, s, hv⟩
    have hs2 := s.1.sh m.1.1
    have hk2 := sk_87 hs2
    have e7 : am_i h2 87 7 = nI L := (s.2 7 (by decide)).trans j2
    refine am_go (fun p => p == 23) (fun K cal Q' hK hC hQ => ?_)
    refine And.intro (fun _ => ?_) (fun c => absurd (nI_le (Nat.le_refl _) (by decide)) c)
    refine And.intro hk2 (And.intro hk2 (And.intro hk2 (And.intro trivial (hQ _ _ ?_))))
    rw [show am_i h2 87 (583 % 64) = nI L from e7, nI_add]
    show Q (.inl (some (.int (am_i (am_pi h2 87 7 (nI (L + 20))) 87 7)))) (am_pi h2 87 7 (nI (L + 20)))
    have s3 : sf [90] [7] h0 (am_pi h2 87 7 (nI (L + 20))) := sf_pf (sf_mo s (subl_x (by decide)) (subl_x (by decide))) (by decide)
    have v7' : am_i (am_pi h2 87 7 (nI (L + 20))) 87 7 = nI (L + 20) := by rw [i_pi_same, if_pos rfl]
    have v90 : ∀ k, am_i (am_pi h2 87 7 (nI (L + 20))) 90 k = if L ≤ k ∧ k < L + 20 then nI (byt (w ((k - L) / 4)) (24 - 8 * ((k - L) % 4))) else am_i h0 90 k := fun k => (congrFun (i_pi_ne (by decide)) k).trans (hv k)
    rw [v7']
    generalize am_pi h2 87 7 (nI (L + 20)) = h3 at *
    have e88 : ∀ k, am_i h3 88 k = am_i h0 88 k := fun k => s3.1.i (by decide) k
    refine HQ h3 (by omega) ⟨r, sf_mg s3 m rfl (by decide), ⟨(s3.2 4 (by decide)).trans i1, i2, fun j g z => mrow_mv (i3 j g z) e88⟩, ⟨by show L + 20 ≤ 700; omega, v7', fun k hk => ?_⟩, (s3.2 8 (by decide)).trans i4⟩ (sm.tr (sfc_F (sfc_q s0)) (s3.1.mo (subl_x (by decide))))
    have hk : k < L + 20 := hk
    show am_i h3 90 k = nI (if k < L then st.2.2.1.2 k else byt (w ((k - L) / 4)) (24 - 8 * ((k - L) % 4))) ∧ (if k < L then st.2.2.1.2 k else byt (w ((k - L) / 4)) (24 - 8 * ((k - L) % 4))) < 256
    rw [v90]
    by_cases q : k < L
    · rw [if_pos q, if_neg (by omega)]; exact j3 k q
    · rw [if_neg q, if_pos (by omega)]; exact ⟨rfl, byt_lt _ _⟩
end

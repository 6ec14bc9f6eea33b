/-! NEAREST TERMINALS, the run -/
theorem isT_bit {n T k : Nat} (hT : T < 2 ^ n) (hn : n ≤ 9) (hk : k < 9) : isT n T (nI k) = T.testBit k := by
  cases e : T.testBit k with
  | true => rw [isT_nI (q_T_lt hT e) (by omega)]; exact e
  | false =>
    cases e2 : isT n T (nI k) with
    | false => rfl
    | true =>
      unfold isT at e2
      rw [q_cl (by omega), e, Bool.and_false] at e2
      cases e2
theorem nep_nb {lo hi co : Nat → Nat} {S : Nat → Option (Nat × Nat)} {K : Nat} (h : nb S K) : ∀ e, nb (nep lo hi co S e) (K + 2 * e)
  | 0 => h
  | e + 1 => by
    have a := ((nep_nb (lo := lo) (hi := hi) (co := co) h e).ofr (u := lo e) (v := hi e) (w := 10000 / co e) (Nat.div_le_self _ _)).ofr (u := hi e) (v := lo e) (w := 10000 / co e) (Nat.div_le_self _ _)
    rw [show K + 2 * (e + 1) = K + 2 * e + 1 + 1 by omega]
    exact a
theorem ners_nb {n m T : Nat} {lo hi co : Nat → Nat} (hm : m ≤ 20) (hT : T < 2 ^ n) (hn : n ≤ 9) : ∀ p, nb (ners m T lo hi co p) (40 * p)
  | 0 => fun v q h => by
    have h : (if T.testBit v then some (0, v) else none) = some q := h
    split at h
    · rename_i hv
      cases h
      have := q_T_lt hT hv
      exact ⟨Nat.zero_le _, by show v < 9; omega⟩
    · cases h
  | p + 1 => by
    have a := nep_nb (lo := lo) (hi := hi) (co := co) (ners_nb (m := m) (lo := lo) (hi := hi) (co := co) hm hT hn p) m
    intro v q h
    have := a v q h
    exact ⟨by omega, this.2⟩
theorem nb.up {S : Nat → Option (Nat × Nat)} {K L : Nat} (h : nb S K) (hl : K ≤ L) : nb S L := fun v p e => by
  have := h v p e
  exact ⟨by omega, this.2⟩
set_option maxHeartbeats 4000000 in
theorem c_Ne_run {xs : am_X} {d : Nat} {h : am_H} {n m T : Nat} {lo hi co : Nat → Nat} (hd : 3 ≤ d) (hs : sh h) (hg : cg h 3 n m T lo hi) (hc : cco h 3 m co) {Q : am_Q}
    (HQ : ∀ h', sm [84, 85] h h' → nst h' (ners m T lo hi co (n - 1)) → Q (.inl none) h') : am_C xs am_P0 d m_Ne_run [.ref 83, .ref 3] h Q := by
  obtain ⟨⟨hk, -⟩, ⟨h0, h1, h2⟩, he, ⟨hn, hm, hT⟩, hw⟩ := id hg
  refine am_C_le hd (am_enter (d := 2) ap_Ne_run rfl ?_) (fun _ _ k => k)
  refine am_go (fun p => p == 2) (fun K cal Q' hK hC hQ => hK _ _ _ _ ?_)
  refine am_for 9 (fun i L h' => ∃ v3, L = [.ref 83, .ref 3, .int (nI i), v3] ∧ sm [84, 85] h h' ∧ ∀ v, v < i → am_i h' 84 v = oG (ners m T lo hi co 0 v) ∧ am_i h' 85 v = oL (ners m T lo hi co 0 v)) ?_ ?_ 0 (Nat.zero_le _) _ _ ⟨am_J, rfl, sm.rf, fun v z => absurd z (Nat.not_lt_zero _)⟩
  · rintro i hi9 L h' ⟨v3, rfl, s, hv⟩ next
    have hs' := s.sh hs
    have hg' := hg.mv s (by decide) (by decide) (by decide)
    have eI : am_inc (nI i) (Int.ofNat 1) = nI (i + 1) := nI_1 i
    rw [← eI] at next
    have fin : ∀ (x y : Int32) (v3 : Value), x = oG (ners m T lo hi co 0 i) → y = oL (ners m T lo hi co 0 i) → am_W xs (am_code at_Ne_run) (am_hd ah_Ne_run) (am_C xs am_P0 2) Q 2 [.ref 83, .ref 3, .int (am_inc (nI i) (Int.ofNat 1)), v3] [] (am_pi (am_pi h' (am_r h' 83 0) (nI i).toNatClampNeg x) (am_r h' 83 1) (nI i).toNatClampNeg y) := by
      intro x y v3 hx hy
      rw [sr_83_0 hs', sr_83_1 hs', q_cl (by omega)]
      refine next _ _ ⟨_, rfl, (s.pi (by decide)).pi (by decide), fun v z => ?_⟩
      rw [i_pi_ne (show (84 : Nat) ≠ 85 by decide), i_pi_same, i_pi_same, i_pi_ne (show (85 : Nat) ≠ 84 by decide)]
      by_cases w : v = i
      · rw [if_pos w, if_pos w, w]; exact ⟨hx, hy⟩
      · rw [if_neg w, if_neg w]; exact hv v (by omega)
    refine am_go (fun p => p == 2) (fun K cal Q' hK hC hQ => ?_)
    refine And.intro (fun z => absurd z (q_ge rfl hi9 (by omega))) (fun _ => ?_)
    refine And.intro hg'.1.1 (hC _ _ _ _ (c_isTerminal (by decide) hg' _ ?_))
    rw [isT_bit hT hn hi9]
    have g0 : am_arr h' (am_r h' 83 0) 2 (nI i) := ck_row (sr_83_0 hs') (sk_84 hs') rfl hi9 (by omega)
    have g1 : am_arr h' (am_r h' 83 1) 2 (nI i) := ck_row (sr_83_1 hs') (sk_85 hs') rfl hi9 (by omega)
    have e0 : ners m T lo hi co 0 i = if T.testBit i then some (0, i) else none := rfl
    cases hTi : T.testBit i with
    | false =>
      rw [hTi] at e0
      refine And.intro (sk_83 hs') (And.intro (fun _ => ?_) (fun z => absurd rfl z))
      refine And.intro g0 (And.intro (sk_83 hs') (And.intro (fun _ => ?_) (fun z => absurd rfl z)))
      refine And.intro g1 (hK _ _ _ _ (fin _ _ _ (by rw [e0]; rfl) (by rw [e0]; rfl)))
    | true =>
      rw [hTi] at e0
      refine And.intro (sk_83 hs') (And.intro (fun z => absurd z q_t1) (fun _ => ?_))
      refine And.intro g0 (And.intro (sk_83 hs') (And.intro (fun z => absurd z q_t1) (fun _ => ?_)))
      refine And.intro g1 (hK _ _ _ _ (fin _ _ _ (by rw [e0]; rfl) (by rw [e0]; rfl)))
  · rintro L h' ⟨v3, rfl, s, hv⟩
    refine am_go (fun p => p == 2 || p == 52) (fun K cal Q' hK hC hQ => ?_)
    refine And.intro (fun _ => hK _ _ _ _ ?_) (fun z => absurd (q_le rfl (by omega)) z)
    refine am_for (n - 1) (fun i L h' => ∃ v3, L = [.ref 83, .ref 3, .int (nI (i + 1)), v3] ∧ sm [84, 85] h h' ∧ nst h' (ners m T lo hi co i)) ?_ ?_ 0 (Nat.zero_le _) _ _ ⟨v3, rfl, s, hv⟩
    · rintro i hi9 L h' ⟨v3, rfl, s, hv⟩ next
      have hs' := s.sh hs
      have hg' := hg.mv s (by decide) (by decide) (by decide)
      refine am_go (fun p => p == 52 || p == 62) (fun K cal Q' hK hC hQ => ?_)
      refine And.intro hg'.1.1 (And.intro (fun z => absurd z (q_ge hg'.2.1.1 (by omega) (by omega))) (fun _ => hK _ _ _ _ ?_))
      refine am_for m (fun e L h9 => L = [.ref 83, .ref 3, .int (nI (i + 1)), .int (nI e)] ∧ sm [84, 85] h h9 ∧ nst h9 (nep lo hi co (ners m T lo hi co i) e)) ?_ ?_ 0 (Nat.zero_le _) _ _ ⟨rfl, s, hv⟩
      · rintro e he9 L h9 ⟨rfl, s9, hv9⟩ next2
        have hs9 := s9.sh hs
        have hg9 := hg.mv s9 (by decide) (by decide) (by decide)
        have hc9 := hc.mv s9 (by decide)
        obtain ⟨⟨_, ⟨k1, k2, k3, k4, k5, k6⟩, r3, r4, r5, r6, r7, r8⟩, ⟨g0, g1, g2⟩, ge, _⟩ := id hg9
        obtain ⟨e1, e2⟩ := ge e he9
        obtain ⟨w1, w2⟩ := hw e he9
        have eI : am_inc (nI e) (Int.ofNat 1) = nI (e + 1) := nI_1 e
        rw [← eI] at next2
        have hnb := nep_nb (lo := lo) (hi := hi) (co := co) (ners_nb (m := m) (lo := lo) (hi := hi) (co := co) hm hT hn i) e
        have eA : am_i h9 (am_r h9 3 5) (nI e).toNatClampNeg = nI (lo e) := by rw [r5, q_cl (by omega)]; exact e1
        have eB : am_i h9 (am_r h9 3 6) (nI e).toNatClampNeg = nI (hi e) := by rw [r6, q_cl (by omega)]; exact e2
        refine am_go (fun p => p == 62) (fun K cal Q' hK hC hQ => ?_)
        refine And.intro hg9.1.1 (And.intro (fun z => absurd z (q_ge g1 he9 (by omega))) (fun _ => ?_))
        refine And.intro hg9.1.1 (And.intro (ck_row r5 k3 rfl (by omega) (by omega)) ?_)
        refine And.intro hg9.1.1 (And.intro (ck_row r6 k4 rfl (by omega) (by omega)) ?_)
        refine And.intro hg9.1.1 (hC _ _ _ _ (c_lengthOf (by decide) hg9 hc9 he9 ?_))
        refine And.intro (sk_83 hs9) ?_
        show cal m_Ne_offer [.ref 83, .int (am_i h9 (am_r h9 3 5) (nI e).toNatClampNeg), .int (am_i h9 (am_r h9 3 6) (nI e).toNatClampNeg), .int (nI (10000 / co e))] h9 _
        rw [eA, eB]
        refine hC _ _ _ _ (c_offer (by decide) hs9 hv9 hnb (by omega) (by omega) (by omega) (Nat.div_le_self _ _) (fun h10 s10 hv10 => ?_))
        have s10' := s9.tr s10
        have hs10 := s10'.sh hs
        have hg10 := hg.mv s10' (by decide) (by decide) (by decide)
        have hc10 := hc.mv s10' (by decide)
        have eA : am_i h10 (am_r h10 3 5) (nI e).toNatClampNeg = nI (lo e) := by rw [(gs_3 hs10).2.2.2.2.1, q_cl (by omega)]; exact (hg10.2.2.1 e he9).1
        have eB : am_i h10 (am_r h10 3 6) (nI e).toNatClampNeg = nI (hi e) := by rw [(gs_3 hs10).2.2.2.2.2.1, q_cl (by omega)]; exact (hg10.2.2.1 e he9).2
        refine And.intro hg10.1.1 (And.intro (ck_row (sr_3_6 hs10) (sk_7 hs10) rfl (by omega) (by omega)) ?_)
        refine And.intro hg10.1.1 (And.intro (ck_row (sr_3_5 hs10) (sk_6 hs10) rfl (by omega) (by omega)) ?_)
        refine And.intro hg10.1.1 (hC _ _ _ _ (c_lengthOf (by decide) hg10 hc10 he9 ?_))
        refine And.intro (sk_83 hs10) ?_
        show cal m_Ne_offer [.ref 83, .int (am_i h10 (am_r h10 3 6) (nI e).toNatClampNeg), .int (am_i h10 (am_r h10 3 5) (nI e).toNatClampNeg), .int (nI (10000 / co e))] h10 _
        rw [eA, eB]
        refine hC _ _ _ _ (c_offer (by decide) hs10 hv10 (hnb.ofr (Nat.div_le_self _ _)) (by omega) (by omega) (by omega) (Nat.div_le_self _ _) (fun h11 s11 hv11 => ?_))
        exact hK _ _ _ _ (next2 _ _ ⟨rfl, s10'.tr s11, hv11⟩)
      · rintro L h9 ⟨rfl, s9, hv9⟩
        have hg9 := hg.mv s9 (by decide) (by decide) (by decide)
        have eI : am_inc (nI (i + 1)) (Int.ofNat 1) = nI (i + 1 + 1) := nI_1 (i + 1)
        refine am_go (fun p => p == 52) (fun K cal Q' hK hC hQ => ?_)
        exact And.intro hg9.1.1 (And.intro (fun _ => hK _ _ _ _ (next _ _ ⟨_, by rw [← eI]; rfl, s9, hv9⟩)) (fun z => absurd (q_le hg9.2.1.2.1 (by omega)) z))
    · rintro L h' ⟨v3, rfl, s, hv⟩
      have hg' := hg.mv s (by decide) (by decide) (by decide)
      refine am_go (fun p => p == 52) (fun K cal Q' hK hC hQ => ?_)
      refine And.intro hg'.1.1 (And.intro (fun _ => And.intro trivial (hQ _ _ (HQ _ s hv))) (fun z => absurd ?_ z))
      show am_i h' 3 0 ≤ nI (n - 1 + 1)
      rw [hg'.2.1.1]
      exact nI_le (by omega) (by omega)

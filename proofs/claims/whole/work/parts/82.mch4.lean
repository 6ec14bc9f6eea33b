/-! THE MODEL'S CHANGES, 4: setTerminal, improve -/
theorem mrow_on {h h' : am_H} {b : Nat} {g : gD} (r : mrow h b g) {v : Nat} (hv : v < gN g)
    (o : ∀ k, k < 1472 → am_i h' 88 (b + k) = if k = 75 + v then nI v else if k = 2 then nI (gT g ||| 2 ^ v) else am_i h 88 (b + k)) : mrow h' b (gOn g v) := by
  obtain ⟨⟨a0, a1, a2, a3⟩, r1, r2, r3, r4, ⟨hw, h690⟩⟩ := r
  obtain ⟨n9, m20, hT⟩ := hw.1
  have hT2 : gT g ||| 2 ^ v < 2 ^ gN g := Nat.or_lt_two_pow hT (Nat.pow_lt_pow_right (by decide) hv)
  have s : ∀ k, k < 1472 → k ≠ 75 + v → k ≠ 2 → am_i h' 88 (b + k) = am_i h 88 (b + k) := fun k hk h1 h2 => by rw [o k hk, if_neg h1, if_neg h2]
  refine ⟨⟨(s 0 (by decide) (by omega) (by omega)).trans a0, (s 1 (by decide) (by omega) (by omega)).trans a1, ?_, (s 3 (by decide) (by omega) (by omega)).trans a3⟩, fun x hx => ?_, fun k hk => ?_, fun x hx => ?_, fun k hk => ?_, ⟨⟨⟨n9, m20, hT2⟩, hw.2⟩, h690⟩⟩
  · rw [o 2 (by decide), if_neg (by omega), if_pos rfl]; rfl
  · have hx : x < gN g := hx
    exact (s _ (by omega) (by omega) (by omega)).trans (r1 x hx)
  · have hk : k < gM g := hk
    have := r2 k hk
    exact ⟨(s _ (by omega) (by omega) (by omega)).trans this.1, (s _ (by omega) (by omega) (by omega)).trans this.2.1, (s _ (by omega) (by omega) (by omega)).trans this.2.2⟩
  · have hx : x < gN g := hx
    show _ = if x = v then nI v else gLab g x
    by_cases q : x = v
    · rw [if_pos q, o _ (by omega), if_pos (by omega)]
    · rw [if_neg q]; exact (s _ (by omega) (by omega) (by omega)).trans (r3 x hx)
  · have hk : k < ncs g := hk
    have z := r4 k hk
    rw [← s (84 + 2 * k) (by omega) (by omega) (by omega), ← s (84 + 2 * k + 1) (by omega) (by omega) (by omega)] at z
    exact z
theorem mrow_off {h h' : am_H} {b : Nat} {g : gD} (r : mrow h b g) {v : Nat}
    (o : ∀ k, k < 1472 → am_i h' 88 (b + k) = if k = 2 then nI (andn (gT g) (2 ^ v)) else if 75 ≤ k ∧ k < 75 + gN g ∧ am_i h 88 (b + k) = nI v then -nI 1 else am_i h 88 (b + k)) : mrow h' b (gOff g v) := by
  obtain ⟨⟨a0, a1, a2, a3⟩, r1, r2, r3, r4, ⟨hw, h690⟩⟩ := r
  obtain ⟨n9, m20, hT⟩ := hw.1
  have hT2 : andn (gT g) (2 ^ v) < 2 ^ gN g := andn_lt _ hT
  have s : ∀ k, k < 1472 → (k < 75 ∨ 75 + gN g ≤ k) → k ≠ 2 → am_i h' 88 (b + k) = am_i h 88 (b + k) := fun k hk h1 h2 => by rw [o k hk, if_neg h2, if_neg (by omega)]
  refine ⟨⟨(s 0 (by decide) (by omega) (by omega)).trans a0, (s 1 (by decide) (by omega) (by omega)).trans a1, ?_, (s 3 (by decide) (by omega) (by omega)).trans a3⟩, fun x hx => ?_, fun k hk => ?_, fun x hx => ?_, fun k hk => ?_, ⟨⟨⟨n9, m20, hT2⟩, hw.2⟩, h690⟩⟩
  · rw [o 2 (by decide), if_pos rfl]; rfl
  · have hx : x < gN g := hx
    exact (s _ (by omega) (by omega) (by omega)).trans (r1 x hx)
  · have hk : k < gM g := hk
    have := r2 k hk
    exact ⟨(s _ (by omega) (by omega) (by omega)).trans this.1, (s _ (by omega) (by omega) (by omega)).trans this.2.1, (s _ (by omega) (by omega) (by omega)).trans this.2.2⟩
  · have hx : x < gN g := hx
    show _ = if gLab g x = nI v then -nI 1 else gLab g x
    rw [o _ (by omega), if_neg (by omega), r3 x hx]
    by_cases q : gLab g x = nI v
    · rw [if_pos q, if_pos ⟨by omega, by omega, q⟩]
    · rw [if_neg q, if_neg fun z => q z.2.2]
  · have hk : k < ncs g := hk
    have z := r4 k hk
    rw [← s (84 + 2 * k) (by omega) (by omega) (by omega), ← s (84 + 2 * k + 1) (by omega) (by omega) (by omega)] at z
    exact z
theorem mw_put {h : am_H} {w k : Nat} {v : Int32} (m : mw h w) : mw (am_pi h 88 k v) w := ⟨m.1, m.2.1, (congrFun (i_pi_ne (by decide)) 3).trans m.2.2⟩
section
variable {xs : am_X} {d : Nat} {h : am_H} {st : stD} {Q : am_Q}
set_option maxHeartbeats 16000000 in
theorem q_setTerminal (hd : 4 ≤ d) (I : MI h st) (v : Int32) (b : Bool) (HX : ∀ k h', sTer st.1 v b = k → k ≠ 0 → MI h' st → moF h h' → am_i h' 87 0 = nI k → Q (.inl (some (.int 0))) h')
    (HQ : ∀ h' k, v = nI k → k < gN st.1 → sTer st.1 v b = 0 → MI h' (stC st (gTer st.1 k b)) → moF h h' → am_i h' 87 0 = nI 0 → Q (.inl (some (.int (nI (pcn (gT (gTer st.1 k b))))))) h') : am_C xs am_P0 d m_Mo_setTerminal [.ref 87, .int v, .int (bI b)] h Q := by
  obtain ⟨w, I⟩ := I
  have I0 := MIw_0 I (nI 0)
  have s0 := s00 (h := h) (nI 0)
  have e0 := i0_0 h (nI 0)
  have hn := mg_n9 I.1
  have hT := mg_T I.1
  have hT31 := mg_T31 I.1
  have p9 := pow_le9 hn
  refine am_C_le hd (am_enter (d := 3) ap_Mo_setTerminal rfl ?_) (fun _ _ k => k)
  refine am_go (fun p => p == 43) (fun K cal Q' hK hC hQ => ?_)
  refine And.intro (sk_87 I.1.1.1) ?_
  show am_k (am_pi h 87 0 (nI 0)) 87 = _ ∧ _
  generalize am_pi h 87 0 (nI 0) = h0 at I0 s0 e0
  have m : mg h0 w st.1 := I0.1
  have hk := sk_87 m.1.1
  refine And.intro hk (hC _ _ _ _ (w_isVertex (by decide) m e0 (fun u u1 u2 => ?_) (fun z => ?_)))
  rotate_left
  · exact And.intro (fun _ => And.intro trivial (hQ _ _ (HX 1 _ (by unfold sTer; rw [if_neg (fun q => by rw [z] at q; cases q)]) (by decide) (MIw_I (MIw_0 I0 _)) (sfc_F (sfc_q (sfq_thr s0 _))) (i0_0 _ _)))) (fun z => absurd rfl z)
  subst u2
  refine And.intro (fun z => absurd z q_n1) (fun _ => ?_)
  have code : sTer st.1 (nI u) b = if b = true ∧ (gT st.1).testBit u = false ∧ 5 ≤ pcn (gT st.1) then 2 else 0 := by unfold sTer; rw [vin_nI u1 (by omega), if_pos rfl, q_cl (by omega)]
  rw [code] at HX HQ
  have rest : ∀ p : Bool, p = !decide (b = true ∧ (gT st.1).testBit u = false ∧ 5 ≤ pcn (gT st.1)) → am_W xs (am_code at_Mo_setTerminal) (am_hd ah_Mo_setTerminal) (am_C xs am_P0 3) Q 43 [.ref 87, .int (nI u), .int (bI b), am_J, am_J] [.int (bI p), .ref 87] h0 := by
    intro p hp
    refine am_go (fun p => p == 158 || p == 120) (fun K cal Q' hK hC hQ => ?_)
    refine And.intro hk (hC _ _ _ _ (w_right (by decide) hk e0 (by decide) (by decide) (fun q => ?_) (fun q => ?_)))
    rotate_left
    · have q9 : b = true ∧ (gT st.1).testBit u = false ∧ 5 ≤ pcn (gT st.1) := by
        rw [q] at hp
        have : decide (b = true ∧ (gT st.1).testBit u = false ∧ 5 ≤ pcn (gT st.1)) = true := by
          cases e : decide (b = true ∧ (gT st.1).testBit u = false ∧ 5 ≤ pcn (gT st.1)) with
          | true => rfl
          | false => rw [e] at hp; cases hp
        exact of_decide_eq_true this
      rw [if_pos q9] at HX
      exact And.intro (fun z => absurd rfl z) (fun _ => And.intro trivial (hQ _ _ (HX 2 _ rfl (by decide) (MIw_I (MIw_0 I0 _)) (sfc_F (sfc_q (sfq_thr s0 _))) (i0_0 _ _))))
    have q9 : ¬ (b = true ∧ (gT st.1).testBit u = false ∧ 5 ≤ pcn (gT st.1)) := fun z => by
      rw [q, decide_eq_true z] at hp
      cases hp
    rw [if_neg q9] at HQ
    refine And.intro (fun _ => ?_) (fun z => absurd q_n1 z)
    refine And.intro hk (hC _ _ _ _ (w_isTerm (by decide) m (by omega) ?_))
    refine And.intro hk (hC _ _ _ _ (w_change (by decide) I0 fun h1 s1 I1 => ?_))
    have m1 : mg h1 ((w + 1) % 9) st.1 := I1.1
    have hk1 := sk_87 m1.1.1
    have F1 : sfc h h1 := sfc_t (sfc_q s0) s1 (by decide) (by decide)
    have e1 := (s1.2 0 (by decide)).trans e0
    generalize (w + 1) % 9 = w2 at I1 m1
    -- the end
    have fin : ∀ (h2 : am_H) (v4 : Value), sf [88] [] h1 h2 → (∀ k, k < 1472 * w2 ∨ 1472 * w2 + 1472 ≤ k → am_i h2 88 k = am_i h1 88 k) → mrow h2 (1472 * w2) (gTer st.1 u b) → am_W xs (am_code at_Mo_setTerminal) (am_hd ah_Mo_setTerminal) (am_C xs am_P0 3) Q 158 [.ref 87, .int (nI u), .int (bI b), .int (bI ((gT st.1).testBit u)), v4] [] h2 := by
      intro h2 v4 s2 o2 r2
      have I2 := MIw_row I1 (sf_mo s2 (subl_x (by decide)) (subl_x (by decide))) o2 r2
      have m2 : mg h2 w2 (gTer st.1 u b) := I2.1
      have hk2 := sk_87 m2.1.1
      refine am_go (fun _ => false) (fun K cal Q' hK hC hQ => ?_)
      refine And.intro hk2 (hC _ _ _ _ (w_get (by decide) m2.1 (k := 2) rfl (by decide) m2.2.1.2.2.1 ?_))
      have n2 : gN (gTer st.1 u b) ≤ 9 := mg_n9 m2
      have b9 : gT (gTer st.1 u b) < 2 ^ 9 := Nat.lt_of_lt_of_le (mg_T m2) (Nat.pow_le_pow_right (by decide) n2)
      refine And.intro trivial (hC _ _ _ _ (w_bitsOf (by decide) b9 ?_))
      exact And.intro trivial (hQ _ _ (HQ h2 u rfl u1 rfl (MIw_I I2) (sfc_F (sfc_t F1 s2 (by decide) (by decide))) ((s2.2 0 (by decide)).trans e1)))
    unfold gTer at fin
    cases b with
    | true =>
      cases hTu : (gT st.1).testBit u with
      | true =>
        rw [hTu, if_neg (by decide), if_neg (by decide)] at fin
        refine And.intro (fun z => absurd z q_t1) (fun _ => And.intro (fun _ => ?_) (fun z => absurd q_t1 z))
        refine And.intro (fun _ => ?_) (fun z => absurd q_t1 z)
        exact hK _ _ _ _ (fin h1 _ sf_rf (fun k _ => rfl) m1.2)
      | false =>
        rw [hTu, if_pos ⟨rfl, rfl⟩] at fin
        refine And.intro (fun z => absurd z q_t1) (fun _ => And.intro (fun z => absurd rfl z) (fun _ => ?_))
        refine And.intro hk1 (hC _ _ _ _ (w_get (by decide) m1.1 (k := 2) rfl (by decide) m1.2.1.2.2.1 ?_))
        refine And.intro hk1 (hC _ _ _ _ (w_put (by decide) m1.1 (k := 2) rfl (by decide) ?_))
        refine And.intro hk1 (hC _ _ _ _ (w_put (by decide) (mw_put m1.1) (k := 75 + u) (by rw [← nI_add]) (by omega) ?_))
        refine And.intro (fun _ => ?_) (fun z => absurd q_t1 z)
        have ek : ∀ k, am_i (am_pi (am_pi h1 88 (1472 * w2 + 2) (nI (gT st.1) ||| (nI 1 <<< (nI u &&& 31)))) 88 (1472 * w2 + (75 + u)) (nI u)) 88 k = if k = 1472 * w2 + (75 + u) then nI u else if k = 1472 * w2 + 2 then nI (gT st.1 ||| 2 ^ u) else am_i h1 88 k := fun k => by rw [i_pi_same, i_pi_same, q_orb (by omega)]
        refine hK _ _ _ _ (fin _ _ (sf_pi (sf_pi sf_rf (by decide) (by decide)) (by decide) (by decide)) (fun k hk => (ek k).trans (by rw [if_neg (by omega), if_neg (by omega)])) (mrow_on m1.2 u1 fun k hk => ?_))
        refine (ek _).trans ?_
        have a2 : ∀ x, (1472 * w2 + k = 1472 * w2 + x) ↔ k = x := fun x => by omega
        simp only [a2]
    | false =>
      cases hTu : (gT st.1).testBit u with
      | false =>
        rw [hTu, if_neg (by decide), if_neg (by decide)] at fin
        refine And.intro (fun _ => ?_) (fun z => absurd rfl z)
        refine And.intro (fun z => absurd rfl z) (fun _ => And.intro (fun _ => ?_) (fun z => absurd rfl z))
        exact hK _ _ _ _ (fin h1 _ sf_rf (fun k _ => rfl) m1.2)
      | true =>
        rw [hTu, if_neg (by decide), if_pos ⟨rfl, rfl⟩] at fin
        refine And.intro (fun _ => ?_) (fun z => absurd rfl z)
        refine And.intro (fun z => absurd rfl z) (fun _ => And.intro (fun z => absurd z q_t1) (fun _ => ?_))
        refine And.intro hk1 (hC _ _ _ _ (w_get (by decide) m1.1 (k := 2) rfl (by decide) m1.2.1.2.2.1 ?_))
        refine And.intro hk1 (hC _ _ _ _ (w_put (by decide) m1.1 (k := 2) rfl (by decide) (hK _ _ _ _ ?_)))
        have eA : nI (gT st.1) &&& ((nI 1 <<< (nI u &&& 31)) ^^^ -nI 1) = nI (andn (gT st.1) (2 ^ u)) := by rw [q_shl u (by omega), q_andn]
        have lo9 : ∀ j, j < gN st.1 → am_i h1 88 (1472 * w2 + (75 + j)) = gLab st.1 j := m1.2.2.2.2.1
        refine am_for (gN st.1) (fun i L h2 => L = [.ref 87, .int (nI u), .int (bI false), .int (bI true), .int (nI i)] ∧ sf [88] [] h1 h2 ∧ ∀ k, am_i h2 88 k = if k = 1472 * w2 + 2 then nI (andn (gT st.1) (2 ^ u)) else if 1472 * w2 + 75 ≤ k ∧ k < 1472 * w2 + 75 + i ∧ am_i h1 88 k = nI u then -nI 1 else am_i h1 88 k) ?_ ?_ 0 (Nat.zero_le _) _ _ ⟨rfl, sf_pi sf_rf (by decide) (by decide), fun k => by
          show am_i (am_pi h1 88 (1472 * w2 + 2) (nI (gT st.1) &&& ((nI 1 <<< (nI u &&& 31)) ^^^ -nI 1))) 88 k = _
          rw [i_pi_same, eA]
          by_cases q : k = 1472 * w2 + 2
          · rw [if_pos q, if_pos q]
          · rw [if_neg q, if_neg q, if_neg (by omega)]⟩
        · rintro i hi9 L h2 ⟨rfl, s, hk'⟩ next
          have mw2 : mw h2 w2 := ⟨s.1.sh m1.1.1, m1.1.2.1, (s.2 3 (by decide)).trans m1.1.2.2⟩
          have eI : am_inc (nI i) (Int.ofNat 1) = nI (i + 1) := nI_1 i
          rw [← eI] at next
          have v0 : am_i h2 88 (1472 * w2 + 0) = nI (gN st.1) := by rw [hk', if_neg (by omega), if_neg (by omega)]; exact m1.2.1.1
          have vi : am_i h2 88 (1472 * w2 + (75 + i)) = gLab st.1 i := by rw [hk', if_neg (by omega), if_neg (by omega)]; exact lo9 i hi9
          have cnt : ∀ q : am_Q, q (.inl (some (.int (nI (gN st.1))))) h2 → am_C xs am_P0 3 m_Mo_count [.ref 87] h2 q := fun q hq => by
            refine am_C_le (show 2 ≤ 3 by decide) (am_enter (d := 1) ap_Mo_count rfl ?_) (fun _ _ k => k)
            refine am_go (fun _ => false) (fun K cal Q' hK hC hQ => ?_)
            exact And.intro (sk_87 mw2.1) (hC _ _ _ _ (w_get (by decide) mw2 (k := 0) rfl (by decide) v0 (And.intro trivial (hQ _ _ hq))))
          refine am_go (fun p => p == 120) (fun K cal Q' hK hC hQ => ?_)
          refine And.intro (sk_87 mw2.1) (hC _ _ _ _ (cnt _ ?_))
          refine And.intro (fun c => absurd c (nI_ge hi9 (by omega))) (fun _ => ?_)
          refine And.intro (sk_87 mw2.1) (hC _ _ _ _ (w_get (by decide) mw2 (k := 75 + i) (by rw [← nI_add]) (by omega) vi ?_))
          have mid : ∀ k, k ≠ 1472 * w2 + (75 + i) → (1472 * w2 + 75 ≤ k ∧ k < 1472 * w2 + 75 + (i + 1) ∧ am_i h1 88 k = nI u) = (1472 * w2 + 75 ≤ k ∧ k < 1472 * w2 + 75 + i ∧ am_i h1 88 k = nI u) := fun k hk => propext ⟨fun z => ⟨z.1, by have := z.2.1; omega, z.2.2⟩, fun z => ⟨z.1, by have := z.2.1; omega, z.2.2⟩⟩
          refine And.intro (fun c => ?_) (fun c => ?_)
          · have c : gLab st.1 i ≠ nI u := c
            refine hK _ _ _ _ (next _ _ ⟨rfl, s, fun k => ?_⟩)
            rw [hk']
            by_cases q : k = 1472 * w2 + (75 + i)
            · subst q
              rw [if_neg (by omega), if_neg (by omega), if_neg (by omega), if_neg (fun z => c (by rw [← lo9 i hi9]; exact z.2.2))]
            · simp only [mid k q]
          · have c : gLab st.1 i = nI u := Classical.not_not.mp c
            refine And.intro (sk_87 mw2.1) (hC _ _ _ _ (w_put (by decide) mw2 (k := 75 + i) (by rw [← nI_add]) (by omega) ?_))
            refine hK _ _ _ _ (next _ _ ⟨rfl, sf_pi s (by decide) (by decide), fun k => ?_⟩)
            rw [i_pi_same, hk']
            by_cases q : k = 1472 * w2 + (75 + i)
            · rw [if_pos q]
              subst q
              rw [if_neg (by omega), if_pos ⟨by omega, by omega, by rw [lo9 i hi9]; exact c⟩]
            · rw [if_neg q]
              simp only [mid k q]
        · rintro L h2 ⟨rfl, s, hk'⟩
          have mw2 : mw h2 w2 := ⟨s.1.sh m1.1.1, m1.1.2.1, (s.2 3 (by decide)).trans m1.1.2.2⟩
          have v0 : am_i h2 88 (1472 * w2 + 0) = nI (gN st.1) := by rw [hk', if_neg (by omega), if_neg (by omega)]; exact m1.2.1.1
          have cnt : ∀ q : am_Q, q (.inl (some (.int (nI (gN st.1))))) h2 → am_C xs am_P0 3 m_Mo_count [.ref 87] h2 q := fun q hq => by
            refine am_C_le (show 2 ≤ 3 by decide) (am_enter (d := 1) ap_Mo_count rfl ?_) (fun _ _ k => k)
            refine am_go (fun _ => false) (fun K cal Q' hK hC hQ => ?_)
            exact And.intro (sk_87 mw2.1) (hC _ _ _ _ (w_get (by decide) mw2 (k := 0) rfl (by decide) v0 (And.intro trivial (hQ _ _ hq))))
          refine am_go (fun p => p == 158) (fun K cal Q' hK hC hQ => ?_)
          refine And.intro (sk_87 mw2.1) (hC _ _ _ _ (cnt _ ?_))
          refine And.intro (fun _ => hK _ _ _ _ (fin h2 _ s (fun k hk => by rw [hk', if_neg (by omega), if_neg (by omega)]) (mrow_off m1.2 fun k hk => ?_))) (fun c => absurd (nI_le (Nat.le_refl _) (by omega)) c)
          rw [hk']
          have a1 : (1472 * w2 + k = 1472 * w2 + 2) ↔ k = 2 := by omega
          have a2 : (1472 * w2 + 75 ≤ 1472 * w2 + k) ↔ 75 ≤ k := by omega
          have a3 : (1472 * w2 + k < 1472 * w2 + 75 + gN st.1) ↔ k < 75 + gN st.1 := by omega
          simp only [a1, a2, a3]
  cases b with
  | false =>
    exact And.intro (fun _ => hK _ _ _ _ (rest true (by simp))) (fun z => absurd rfl z)
  | true =>
    refine And.intro (fun z => absurd z q_t1) (fun _ => ?_)
    refine And.intro hk (hC _ _ _ _ (w_isTerm (by decide) m (by omega) ?_))
    cases hTu : (gT st.1).testBit u with
    | true =>
      rw [hTu] at rest
      exact And.intro (fun _ => hK _ _ _ _ (rest true (by simp))) (fun z => absurd q_t1 z)
    | false =>
      rw [hTu] at rest
      refine And.intro (fun z => absurd rfl z) (fun _ => ?_)
      refine And.intro hk (hC _ _ _ _ (w_get (by decide) m.1 (k := 2) rfl (by decide) m.2.1.2.2.1 ?_))
      refine And.intro trivial (hC _ _ _ _ (w_bitsOf (by decide) (by omega) ?_))
      have pl := pcn_le (gT st.1)
      refine And.intro (fun c => ?_) (fun c => ?_)
      · have c := (nI_leI (by omega) (by omega)).mp c
        exact hK _ _ _ _ (rest false (by simp [c]))
      · have c : ¬ 5 ≤ pcn (gT st.1) := fun z => c (nI_le z (by omega))
        exact hK _ _ _ _ (rest true (by simp [c]))
end

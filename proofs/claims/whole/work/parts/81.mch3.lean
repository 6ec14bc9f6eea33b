/-! THE MODEL'S CHANGES, 3: addEdge, removeEdge -/
theorem q_mn {u v : Nat} (hu : u < 2 ^ 31) (hv : v < 2 ^ 31) : (if nI v < nI u then nI v else nI u) = nI (Nat.min u v) := by
  show _ = nI (min u v)
  by_cases q : v < u
  · rw [if_pos (nI_lt q hu), Nat.min_eq_right (by omega)]
  · rw [if_neg fun z => q ((nI_ltI hv hu).mp z), Nat.min_eq_left (by omega)]
theorem q_mx {u v : Nat} (hu : u < 2 ^ 31) (hv : v < 2 ^ 31) : (if nI u < nI v then nI v else nI u) = nI (Nat.max u v) := by
  show _ = nI (max u v)
  by_cases q : u < v
  · rw [if_pos (nI_lt q hv), Nat.max_eq_right (by omega)]
  · rw [if_neg fun z => q ((nI_ltI hu hv).mp z), Nat.max_eq_left (by omega)]
/-- the row after addEdge -/
theorem mrow_add {h h' : am_H} {b : Nat} {g : gD} (r : mrow h b g) {u v j : Nat} (hu : u < gN g) (hv : v < gN g) (huv : u ≠ v) (hj : 1 ≤ j ∧ j ≤ 99) (hm : gM g < 20)
    (e : ∀ k, k < 1472 → am_i h' 88 (b + k) = if k = 1 then nI (gM g + 1) else if k = 15 + 3 * gM g + 2 then nI j else if k = 15 + 3 * gM g + 1 then nI (Nat.max u v) else if k = 15 + 3 * gM g then nI (Nat.min u v) else am_i h 88 (b + k)) : mrow h' b (gAdd g u v j) := by
  obtain ⟨⟨a0, a1, a2, a3⟩, r1, r2, r3, r4, ⟨hw, h690⟩⟩ := r
  obtain ⟨n9, m20, hT⟩ := hw.1
  have mnx : Nat.min u v < gN g ∧ Nat.max u v < gN g ∧ Nat.min u v < Nat.max u v := by
    show min u v < _ ∧ max u v < _ ∧ min u v < max u v
    omega
  have o : ∀ k, k < 1472 → k ≠ 1 → k ≠ 15 + 3 * gM g + 2 → k ≠ 15 + 3 * gM g + 1 → k ≠ 15 + 3 * gM g → am_i h' 88 (b + k) = am_i h 88 (b + k) := fun k hk h1 h2 h3 h4 => by rw [e k hk, if_neg h1, if_neg h2, if_neg h3, if_neg h4]
  refine ⟨⟨(o 0 (by decide) (by omega) (by omega) (by omega) (by omega)).trans a0, ?_, (o 2 (by decide) (by omega) (by omega) (by omega) (by omega)).trans a2, (o 3 (by decide) (by omega) (by omega) (by omega) (by omega)).trans a3⟩, fun x hx => ?_, fun k hk => ?_, fun x hx => ?_, fun k hk => ?_, ⟨⟨⟨n9, by show gM g + 1 ≤ 20; omega, hT⟩, fun k hk => ?_, fun k hk => ?_, hw.2.2.2⟩, h690⟩⟩
  · exact (e 1 (by decide)).trans (if_pos rfl)
  · have hx : x < gN g := hx
    exact (o _ (by omega) (by omega) (by omega) (by omega) (by omega)).trans (r1 x hx)
  · have hk : k < gM g + 1 := hk
    show _ = nI (if k = gM g then Nat.min u v else gLo g k) ∧ _ = nI (if k = gM g then Nat.max u v else gHi g k) ∧ _ = nI (if k = gM g then j else gWt g k)
    by_cases q : k = gM g
    · subst q
      rw [if_pos rfl, if_pos rfl, if_pos rfl]
      refine ⟨?_, ?_, ?_⟩
      · rw [e _ (by omega), if_neg (by omega), if_neg (by omega), if_neg (by omega), if_pos rfl]
      · rw [e _ (by omega), if_neg (by omega), if_neg (by omega), if_pos rfl]
      · rw [e _ (by omega), if_neg (by omega), if_pos rfl]
    · rw [if_neg q, if_neg q, if_neg q]
      have := r2 k (by omega)
      exact ⟨(o _ (by omega) (by omega) (by omega) (by omega) (by omega)).trans this.1, (o _ (by omega) (by omega) (by omega) (by omega) (by omega)).trans this.2.1, (o _ (by omega) (by omega) (by omega) (by omega) (by omega)).trans this.2.2⟩
  · have hx : x < gN g := hx
    exact (o _ (by omega) (by omega) (by omega) (by omega) (by omega)).trans (r3 x hx)
  · have hk : k < ncs g := hk
    have z := r4 k hk
    rw [← o (84 + 2 * k) (by omega) (by omega) (by omega) (by omega) (by omega), ← o (84 + 2 * k + 1) (by omega) (by omega) (by omega) (by omega) (by omega)] at z
    exact z
  · show (if k = gM g then Nat.min u v else gLo g k) < (if k = gM g then Nat.max u v else gHi g k) ∧ (if k = gM g then Nat.max u v else gHi g k) < gN g
    have hk : k < gM g + 1 := hk
    by_cases q : k = gM g
    · rw [if_pos q, if_pos q]; exact ⟨mnx.2.2, mnx.2.1⟩
    · rw [if_neg q, if_neg q]; exact hw.2.1 k (by omega)
  · show 1 ≤ (if k = gM g then j else gWt g k) ∧ (if k = gM g then j else gWt g k) ≤ 99
    have hk : k < gM g + 1 := hk
    by_cases q : k = gM g
    · rw [if_pos q]; exact hj
    · rw [if_neg q]; exact hw.2.2.1 k (by omega)
/-- the row after removeEdge -/
theorem mrow_rem {h h' : am_H} {b : Nat} {g : gD} (r : mrow h b g) {e : Nat} (he : e < gM g)
    (o : ∀ k, k < 1472 → am_i h' 88 (b + k) = if k = 1 then nI (gM g - 1) else if 15 + 3 * e ≤ k ∧ k < 15 + 3 * (gM g - 1) then am_i h 88 (b + (k + 3)) else am_i h 88 (b + k)) : mrow h' b (gRem g e) := by
  obtain ⟨⟨a0, a1, a2, a3⟩, r1, r2, r3, r4, ⟨hw, h690⟩⟩ := r
  obtain ⟨n9, m20, hT⟩ := hw.1
  have s : ∀ k, k < 1472 → k ≠ 1 → (k < 15 + 3 * e ∨ 75 ≤ k) → am_i h' 88 (b + k) = am_i h 88 (b + k) := fun k hk h1 h2 => by rw [o k hk, if_neg h1, if_neg (by omega)]
  refine ⟨⟨(s 0 (by decide) (by omega) (by omega)).trans a0, (o 1 (by decide)).trans (if_pos rfl), (s 2 (by decide) (by omega) (by omega)).trans a2, (s 3 (by decide) (by omega) (by omega)).trans a3⟩, fun x hx => ?_, fun k hk => ?_, fun x hx => ?_, fun k hk => ?_, ⟨⟨⟨n9, by show gM g - 1 ≤ 20; omega, hT⟩, fun k hk => ?_, fun k hk => ?_, hw.2.2.2⟩, h690⟩⟩
  · have hx : x < gN g := hx
    exact (s _ (by omega) (by omega) (by omega)).trans (r1 x hx)
  · have hk : k < gM g - 1 := hk
    show _ = nI (if k < e then gLo g k else gLo g (k + 1)) ∧ _ = nI (if k < e then gHi g k else gHi g (k + 1)) ∧ _ = nI (if k < e then gWt g k else gWt g (k + 1))
    by_cases q : k < e
    · rw [if_pos q, if_pos q, if_pos q]
      have := r2 k (by omega)
      exact ⟨(s _ (by omega) (by omega) (by omega)).trans this.1, (s _ (by omega) (by omega) (by omega)).trans this.2.1, (s _ (by omega) (by omega) (by omega)).trans this.2.2⟩
    · rw [if_neg q, if_neg q, if_neg q]
      have := r2 (k + 1) (by omega)
      refine ⟨?_, ?_, ?_⟩
      · rw [o _ (by omega), if_neg (by omega), if_pos (by omega)]; exact this.1
      · rw [o _ (by omega), if_neg (by omega), if_pos (by omega)]; exact this.2.1
      · rw [o _ (by omega), if_neg (by omega), if_pos (by omega)]; exact this.2.2
  · have hx : x < gN g := hx
    exact (s _ (by omega) (by omega) (by omega)).trans (r3 x hx)
  · have hk : k < ncs g := hk
    have z := r4 k hk
    rw [← s (84 + 2 * k) (by omega) (by omega) (by omega), ← s (84 + 2 * k + 1) (by omega) (by omega) (by omega)] at z
    exact z
  · show (if k < e then gLo g k else gLo g (k + 1)) < (if k < e then gHi g k else gHi g (k + 1)) ∧ (if k < e then gHi g k else gHi g (k + 1)) < gN g
    have hk : k < gM g - 1 := hk
    by_cases q : k < e
    · rw [if_pos q, if_pos q]; exact hw.2.1 k (by omega)
    · rw [if_neg q, if_neg q]; exact hw.2.1 (k + 1) (by omega)
  · show 1 ≤ (if k < e then gWt g k else gWt g (k + 1)) ∧ (if k < e then gWt g k else gWt g (k + 1)) ≤ 99
    have hk : k < gM g - 1 := hk
    by_cases q : k < e
    · rw [if_pos q]; exact hw.2.2.1 k (by omega)
    · rw [if_neg q]; exact hw.2.2.1 (k + 1) (by omega)
section
variable {xs : am_X} {d : Nat} {h : am_H} {st : stD} {Q : am_Q}
set_option maxHeartbeats 4000000 in
theorem w_areJoined {w : Nat} {g : gD} (hd : 3 ≤ d) (m : mg h w g) {u v : Nat} (hu : u < 9) (hv : v < 9) (HQ : Q (.inl (some (.int (bI (joins (gM g) (gLo g) (gHi g) u v))))) h) : am_C xs am_P0 d m_Mo_areJoined [.ref 87, .int (nI u), .int (nI v)] h Q := by
  have hm := mg_m20 m
  have hn := mg_n9 m
  have emn := q_mn (u := u) (v := v) (by omega) (by omega)
  have emx := q_mx (u := u) (v := v) (by omega) (by omega)
  have bmn : Nat.min u v < 9 := by show min u v < 9; omega
  have bmx : Nat.max u v < 9 := by show max u v < 9; omega
  refine am_C_le hd (am_enter (d := 2) ap_Mo_areJoined rfl ?_) (fun _ _ k => k)
  refine am_go (fun p => p == 2) (fun K cal Q' hK hC hQ => hK _ _ _ _ ?_)
  refine am_for (gM g) (fun i L h' => h' = h ∧ L = [.ref 87, .int (nI u), .int (nI v), .int (nI i)] ∧ ∀ e, e < i → ¬ (gLo g e = Nat.min u v ∧ gHi g e = Nat.max u v)) ?_ ?_ 0 (Nat.zero_le _) _ _ ⟨rfl, rfl, fun e he => absurd he (Nat.not_lt_zero e)⟩
  · rintro i hi9 L h' ⟨rfl, rfl, hno⟩ next
    obtain ⟨w1, w2⟩ := mg_e m hi9
    have eI : am_inc (nI i) (Int.ofNat 1) = nI (i + 1) := nI_1 i
    rw [← eI] at next
    have skip : ¬ (gLo g i = Nat.min u v ∧ gHi g i = Nat.max u v) → ∀ e, e < i + 1 → ¬ (gLo g e = Nat.min u v ∧ gHi g e = Nat.max u v) := fun q e he => by
      by_cases r : e = i
      · rw [r]; exact q
      · exact hno e (by omega)
    refine am_go (fun p => p == 2) (fun K cal Q' hK hC hQ => ?_)
    refine And.intro (sk_87 m.1.1) (hC _ _ _ _ (w_edges (by decide) m ?_))
    refine And.intro (fun c => absurd c (nI_ge hi9 (by omega))) (fun _ => ?_)
    refine And.intro (sk_87 m.1.1) (hC _ _ _ _ (w_low (by decide) m hi9 ?_))
    refine And.intro (fun c => ?_) (fun c => ?_)
    · have c : ¬ nI (gLo g i) = if nI v < nI u then nI v else nI u := c
      rw [emn] at c
      exact hK _ _ _ _ (next _ _ ⟨rfl, rfl, skip fun q => c (by rw [q.1])⟩)
    · have c : nI (gLo g i) = if nI v < nI u then nI v else nI u := Classical.not_not.mp c
      rw [emn] at c
      have c := (nI_eq (by omega) (by omega)).mp c
      refine And.intro (sk_87 m.1.1) (hC _ _ _ _ (w_high (by decide) m hi9 ?_))
      refine And.intro (fun c2 => ?_) (fun c2 => ?_)
      · have c2 : ¬ nI (gHi g i) = if nI u < nI v then nI v else nI u := c2
        rw [emx] at c2
        exact hK _ _ _ _ (next _ _ ⟨rfl, rfl, skip fun q => c2 (by rw [q.2])⟩)
      · have c2 : nI (gHi g i) = if nI u < nI v then nI v else nI u := Classical.not_not.mp c2
        rw [emx] at c2
        have c2 := (nI_eq (by omega) (by omega)).mp c2
        refine And.intro (Or.inr rfl) (hQ _ _ ?_)
        rw [show joins (gM g) (gLo g) (gHi g) u v = true from decide_eq_true ⟨i, hi9, c, c2⟩] at HQ
        exact HQ
  · rintro L h' ⟨rfl, rfl, hno⟩
    refine am_go (fun p => p == 2) (fun K cal Q' hK hC hQ => ?_)
    refine And.intro (sk_87 m.1.1) (hC _ _ _ _ (w_edges (by decide) m ?_))
    refine And.intro (fun _ => And.intro (Or.inl rfl) (hQ _ _ ?_)) (fun c => absurd (nI_le (Nat.le_refl _) (by omega)) c)
    rw [show joins (gM g) (gLo g) (gHi g) u v = false from decide_eq_false fun ⟨e, z1, z2⟩ => hno e z1 z2] at HQ
    exact HQ
set_option maxHeartbeats 8000000 in
theorem q_addEdge (hd : 4 ≤ d) (I : MI h st) (a b wt : Int32) (HX : ∀ k h', sAdd st.1 a b wt = k → k ≠ 0 → MI h' st → moF h h' → am_i h' 87 0 = nI k → Q (.inl (some (.int 0))) h')
    (HQ : ∀ h' u v j, a = nI u → b = nI v → u < gN st.1 → v < gN st.1 → wt = nI j → sAdd st.1 a b wt = 0 → MI h' (stC st (gAdd st.1 u v j)) → moF h h' → am_i h' 87 0 = nI 0 → Q (.inl (some (.int (nI (gM st.1))))) h') : am_C xs am_P0 d m_Mo_addEdge [.ref 87, .int a, .int b, .int wt] h Q := by
  obtain ⟨w, I⟩ := I
  have I0 := MIw_0 I (nI 0)
  have s0 := s00 (h := h) (nI 0)
  have e0 := i0_0 h (nI 0)
  have hm := mg_m20 I.1
  have hn := mg_n9 I.1
  refine am_C_le hd (am_enter (d := 3) ap_Mo_addEdge rfl ?_) (fun _ _ k => k)
  refine am_go (fun p => p == 44) (fun K cal Q' hK hC hQ => ?_)
  refine And.intro (sk_87 I.1.1.1) ?_
  show am_k (am_pi h 87 0 (nI 0)) 87 = _ ∧ _
  generalize am_pi h 87 0 (nI 0) = h0 at I0 s0 e0
  have m := I0.1
  have hk := sk_87 m.1.1
  have bad : ∀ k, sAdd st.1 a b wt = k → k ≠ 0 → Q' (.inl (some (.int 0))) (am_pi h0 87 0 (nI k)) := fun k q1 q2 => hQ _ _ (HX k _ q1 q2 (MIw_I (MIw_0 I0 _)) (sfc_F (sfc_q (sfq_thr s0 _))) (i0_0 _ _))
  refine And.intro hk (hC _ _ _ _ (w_isVertex (by decide) m e0 (fun u u1 u2 => ?_) (fun z => ?_)))
  rotate_left
  · exact And.intro (fun _ => And.intro trivial (bad 1 (by unfold sAdd; rw [if_neg (fun q => by rw [z] at q; cases q.1)]) (by decide))) (fun z => absurd rfl z)
  subst u2
  refine And.intro (fun z => absurd z q_n1) (fun _ => ?_)
  refine And.intro hk (hC _ _ _ _ (w_isVertex (by decide) m e0 (fun v v1 v2 => ?_) (fun z => ?_)))
  rotate_left
  · exact And.intro (fun _ => And.intro trivial (bad 1 (by unfold sAdd; rw [if_neg (fun q => by rw [z] at q; cases q.2)]) (by decide))) (fun z => absurd rfl z)
  subst v2
  refine And.intro (fun z => absurd z q_n1) (fun _ => ?_)
  have hvv : vin (gN st.1) (nI u) = true ∧ vin (gN st.1) (nI v) = true := ⟨vin_nI u1 (by omega), vin_nI v1 (by omega)⟩
  have rest : ∀ p : Bool, p = decide (nI u ≠ nI v ∧ decide (nI 1 ≤ wt ∧ wt ≤ nI 99) = true) → am_W xs (am_code at_Mo_addEdge) (am_hd ah_Mo_addEdge) (am_C xs am_P0 3) Q 44 [.ref 87, .int (nI u), .int (nI v), .int wt, am_J] [.int (bI p), .ref 87] h0 := by
    intro p hp
    have bad : ∀ k, sAdd st.1 (nI u) (nI v) wt = k → k ≠ 0 → Q (.inl (some (.int 0))) (am_pi h0 87 0 (nI k)) := fun k q1 q2 => HX k _ q1 q2 (MIw_I (MIw_0 I0 _)) (sfc_F (sfc_q (sfq_thr s0 _))) (i0_0 _ _)
    refine am_go (fun p => p == 75) (fun K cal Q' hK hC hQ => ?_)
    refine And.intro hk (hC _ _ _ _ (w_right (by decide) hk e0 (by decide) (by decide) (fun q => ?_) (fun q => ?_)))
    rotate_left
    · rw [hp] at q
      exact And.intro (fun _ => And.intro trivial (hQ _ _ (bad 2 (by unfold sAdd; rw [if_pos hvv, if_neg (of_decide_eq_false q)]) (by decide)))) (fun z => absurd rfl z)
    rw [hp] at q
    have q9 := of_decide_eq_true q
    obtain ⟨j, j1, j2, rfl⟩ := q_in_of (by decide) (by decide) q9.2
    have huv : u ≠ v := fun z => q9.1 (congrArg nI z)
    refine And.intro (fun z => absurd z q_n1) (fun _ => ?_)
    have no : ¬ (gM st.1 < 20 ∧ joins (gM st.1) (gLo st.1) (gHi st.1) u v = false) → Q (.inl (some (.int 0))) (am_pi h0 87 0 (nI 3)) := fun q => bad 3 (by unfold sAdd; rw [if_pos hvv, if_pos q9, if_neg (by rw [q_cl (by omega), q_cl (by omega)]; exact q)]) (by decide)
    have yes : (gM st.1 < 20 ∧ joins (gM st.1) (gLo st.1) (gHi st.1) u v = false) → sAdd st.1 (nI u) (nI v) (nI j) = 0 := fun q => by unfold sAdd; rw [if_pos hvv, if_pos q9, if_pos (by rw [q_cl (by omega), q_cl (by omega)]; exact q)]
    have rest2 : ∀ p : Bool, p = decide (gM st.1 < 20 ∧ joins (gM st.1) (gLo st.1) (gHi st.1) u v = false) → am_W xs (am_code at_Mo_addEdge) (am_hd ah_Mo_addEdge) (am_C xs am_P0 3) Q 75 [.ref 87, .int (nI u), .int (nI v), .int (nI j), am_J] [.int (bI p), .ref 87] h0 := by
      intro p hp
      refine am_go (fun _ => false) (fun K cal Q' hK hC hQ => ?_)
      refine And.intro hk (hC _ _ _ _ (w_right (by decide) hk e0 (by decide) (by decide) (fun q => ?_) (fun q => ?_)))
      rotate_left
      · rw [hp] at q
        exact And.intro (fun z => absurd rfl z) (fun _ => And.intro trivial (hQ _ _ (no (of_decide_eq_false q))))
      rw [hp] at q
      have q8 := of_decide_eq_true q
      refine And.intro (fun _ => ?_) (fun z => absurd q_n1 z)
      refine And.intro hk (hC _ _ _ _ (w_change (by decide) I0 fun h1 s1 I1 => ?_))
      have m1 : mg h1 ((w + 1) % 9) st.1 := I1.1
      have hk1 := sk_87 m1.1.1
      refine And.intro hk1 (hC _ _ _ _ (w_edges (by decide) m1 ?_))
      have eX : nI 15 + nI 3 * nI (gM st.1) = nI (15 + 3 * gM st.1) := by rw [pk_mul, nI_add]
      generalize (w + 1) % 9 = w2 at I1 m1
      refine And.intro hk1 (hC _ _ _ _ (w_put (by decide) m1.1 (k := 15 + 3 * gM st.1) eX (by omega) ?_))
      have sp : ∀ (hh : am_H) (k : Nat) (v : Int32), mw hh w2 → mw (am_pi hh 88 k v) w2 := fun hh k v q => ⟨q.1, q.2.1, (congrFun (i_pi_ne (by decide)) 3).trans q.2.2⟩
      have m2 := sp h1 (1472 * w2 + (15 + 3 * gM st.1)) (if nI v < nI u then nI v else nI u) m1.1
      refine And.intro hk1 (hC _ _ _ _ (w_put (by decide) m2 (k := 15 + 3 * gM st.1 + 1) (by rw [eX, nI_add]) (by omega) ?_))
      have m3 := sp _ (1472 * w2 + (15 + 3 * gM st.1 + 1)) (if nI u < nI v then nI v else nI u) m2
      refine And.intro hk1 (hC _ _ _ _ (w_put (by decide) m3 (k := 15 + 3 * gM st.1 + 2) (by rw [eX, nI_add]) (by omega) ?_))
      have m4 := sp _ (1472 * w2 + (15 + 3 * gM st.1 + 2)) (nI j) m3
      refine And.intro hk1 (hC _ _ _ _ (w_put (by decide) m4 (k := 1) rfl (by decide) ?_))
      refine And.intro trivial (hQ _ _ ?_)
      have m20 : gM st.1 < 20 := q8.1
      have t9 : sf [88] [] h1 (am_pi (am_pi (am_pi (am_pi h1 88 (1472 * w2 + (15 + 3 * gM st.1)) (if nI v < nI u then nI v else nI u)) 88 (1472 * w2 + (15 + 3 * gM st.1 + 1)) (if nI u < nI v then nI v else nI u)) 88 (1472 * w2 + (15 + 3 * gM st.1 + 2)) (nI j)) 88 (1472 * w2 + 1) (nI (gM st.1) + nI 1)) := sf_pi (sf_pi (sf_pi (sf_pi sf_rf (by decide) (by decide)) (by decide) (by decide)) (by decide) (by decide)) (by decide) (by decide)
      have s9 := sf_mo (Y := 88 :: XQ) (J := KQ) t9 (subl_x (by decide)) (subl_x (by decide))
      have ek : ∀ k, am_i (am_pi (am_pi (am_pi (am_pi h1 88 (1472 * w2 + (15 + 3 * gM st.1)) (if nI v < nI u then nI v else nI u)) 88 (1472 * w2 + (15 + 3 * gM st.1 + 1)) (if nI u < nI v then nI v else nI u)) 88 (1472 * w2 + (15 + 3 * gM st.1 + 2)) (nI j)) 88 (1472 * w2 + 1) (nI (gM st.1) + nI 1)) 88 k = if k = 1472 * w2 + 1 then nI (gM st.1 + 1) else if k = 1472 * w2 + (15 + 3 * gM st.1 + 2) then nI j else if k = 1472 * w2 + (15 + 3 * gM st.1 + 1) then nI (Nat.max u v) else if k = 1472 * w2 + (15 + 3 * gM st.1) then nI (Nat.min u v) else am_i h1 88 k := fun k => by
        rw [i_pi_same, i_pi_same, i_pi_same, i_pi_same, q_mn (by omega) (by omega), q_mx (by omega) (by omega), nI_add]
      have I9 := MIw_row (g := gAdd st.1 u v j) I1 s9 (fun k hk => by rw [ek, if_neg (by omega), if_neg (by omega), if_neg (by omega), if_neg (by omega)]) (mrow_add m1.2 u1 v1 huv ⟨j1, j2⟩ m20 fun k hk => by
        rw [ek]
        have a1 : (1472 * w2 + k = 1472 * w2 + 1) ↔ k = 1 := by omega
        have a2 : ∀ x, (1472 * w2 + k = 1472 * w2 + x) ↔ k = x := fun x => by omega
        simp only [a1, a2])
      exact HQ _ u v j rfl rfl u1 v1 rfl (yes q8) (MIw_I I9) (sfc_F (sfc_t (sfc_t (sfc_q s0) s1 (by decide) (by decide)) s9 (by decide) (by decide))) ((t9.2 0 (by decide)).trans ((s1.2 0 (by decide)).trans e0))
    refine And.intro hk (hC _ _ _ _ (w_areJoined (by decide) m (by omega) (by omega) ?_))
    cases hj : joins (gM st.1) (gLo st.1) (gHi st.1) u v with
    | true =>
      refine And.intro (fun _ => hK _ _ _ _ (rest2 false ?_)) (fun z => absurd q_t1 z)
      rw [hj]
      exact (decide_eq_false fun z => by cases z.2).symm
    | false =>
      refine And.intro (fun z => absurd rfl z) (fun _ => ?_)
      refine And.intro hk (hC _ _ _ _ (w_edges (by decide) m ?_))
      refine And.intro (fun c => ?_) (fun c => ?_)
      · have c := (nI_leI (by omega) (by omega)).mp c
        exact hK _ _ _ _ (rest2 false (decide_eq_false fun z => by omega).symm)
      · have c := Nat.not_le.mp fun z => c (nI_le z (by omega))
        exact hK _ _ _ _ (rest2 true (decide_eq_true ⟨c, hj⟩).symm)
  refine And.intro (fun z => ?_) (fun z => ?_)
  · have z : nI u = nI v := z
    exact hK _ _ _ _ (rest false (decide_eq_false fun q => q.1 z).symm)
  · have z : nI u ≠ nI v := z
    refine And.intro trivial (hC _ _ _ _ (w_isIn (by decide) (q_in99 (a := 1) (b := 99) (by decide) (by decide)) ?_))
    cases e : decide (nI 1 ≤ wt ∧ wt ≤ nI 99) with
    | false =>
      rw [e] at rest
      exact And.intro (fun _ => hK _ _ _ _ (rest false (decide_eq_false fun q => by cases q.2).symm)) (fun z => absurd rfl z)
    | true =>
      rw [e] at rest
      exact And.intro (fun z => absurd z q_t1) (fun _ => hK _ _ _ _ (rest true (decide_eq_true ⟨z, rfl⟩).symm))
set_option maxHeartbeats 8000000 in
theorem q_removeEdge (hd : 4 ≤ d) (I : MI h st) (e : Int32) (HX : ∀ h', vin (gM st.1) e = false → MI h' st → moF h h' → am_i h' 87 0 = nI 1 → Q (.inl (some (.int 0))) h')
    (HQ : ∀ h' k, e = nI k → k < gM st.1 → MI h' (stC st (gRem st.1 k)) → moF h h' → am_i h' 87 0 = nI 0 → Q (.inl (some (.int (nI (gM st.1 - 1))))) h') : am_C xs am_P0 d m_Mo_removeEdge [.ref 87, .int e] h Q := by
  obtain ⟨w, I⟩ := I
  have I0 := MIw_0 I (nI 0)
  have s0 := s00 (h := h) (nI 0)
  have e0 := i0_0 h (nI 0)
  have hm := mg_m20 I.1
  refine am_C_le hd (am_enter (d := 3) ap_Mo_removeEdge rfl ?_) (fun _ _ k => k)
  refine am_go (fun p => p == 28) (fun K cal Q' hK hC hQ => ?_)
  refine And.intro (sk_87 I.1.1.1) (hC _ _ _ _ (w_isEdge (by decide) I.1 (fun x x1 x2 => ?_) (fun q => ?_)))
  rotate_left
  · exact And.intro (fun z => absurd rfl z) (fun _ => And.intro trivial (hQ _ _ (HX _ q (MIw_I (MIw_0 I0 _)) (sfc_F (sfc_q (sfq_thr s0 _))) (i0_0 _ _))))
  subst x2
  refine And.intro (fun _ => ?_) (fun z => absurd q_n1 z)
  generalize am_pi h 87 0 (nI 0) = h0 at I0 s0 e0
  have hk := sk_87 I0.1.1.1
  refine And.intro hk (hC _ _ _ _ (w_change (by decide) I0 fun h1 s1 I1 => ?_))
  have m1 : mg h1 ((w + 1) % 9) st.1 := I1.1
  have hk1 := sk_87 m1.1.1
  generalize (w + 1) % 9 = w2 at I1 m1
  have eP : nI (gM st.1) - nI 1 = nI (gM st.1 - 1) := pk_sub (by omega)
  refine And.intro hk1 (hC _ _ _ _ (w_edges (by decide) m1 (hK _ _ _ _ ?_)))
  have eX : nI 15 + nI 3 * nI x = nI (15 + 3 * x) := by rw [pk_mul, nI_add]
  have eL : nI 15 + nI 3 * nI (gM st.1 - 1) = nI (15 + 3 * (gM st.1 - 1)) := by rw [pk_mul, nI_add]
  have F1 : sfc h h1 := sfc_t (sfc_q s0) s1 (by decide) (by decide)
  have e1 := (s1.2 0 (by decide)).trans e0
  refine am_for (3 * (gM st.1 - 1 - x)) (fun i L h' => L = [.ref 87, .int (nI x), .int (nI (gM st.1 - 1)), .int (nI (15 + 3 * x + i))] ∧ sf [88] [] h1 h' ∧ ∀ k, am_i h' 88 k = if 1472 * w2 + (15 + 3 * x) ≤ k ∧ k < 1472 * w2 + (15 + 3 * x) + i then am_i h1 88 (k + 3) else am_i h1 88 k) ?_ ?_ 0 (Nat.zero_le _) _ _ ⟨by rw [show 15 + 3 * x + 0 = 15 + 3 * x from rfl, ← eP, ← eX]; rfl, sf_rf, fun k => by rw [if_neg (by omega)]⟩
  · rintro i hi9 L h' ⟨rfl, s, hk'⟩ next
    have mw' : mw h' w2 := ⟨s.1.sh m1.1.1, m1.1.2.1, (s.2 3 (by decide)).trans m1.1.2.2⟩
    have eI : am_inc (nI (15 + 3 * x + i)) (Int.ofNat 1) = nI (15 + 3 * x + (i + 1)) := nI_1 _
    rw [← eI] at next
    refine am_go (fun p => p == 28) (fun K cal Q' hK hC hQ => ?_)
    refine And.intro (fun c => ?_) (fun _ => ?_)
    · have c : nI 15 + nI 3 * nI (gM st.1 - 1) ≤ nI (15 + 3 * x + i) := c
      rw [eL] at c
      have c := (nI_leI (by omega) (by omega)).mp c
      omega
    refine And.intro (sk_87 mw'.1) (hC _ _ _ _ (w_get (by decide) mw' (k := 15 + 3 * x + i + 3) (by rw [nI_add]) (by omega) rfl ?_))
    refine And.intro (sk_87 mw'.1) (hC _ _ _ _ (w_put (by decide) mw' (k := 15 + 3 * x + i) rfl (by omega) ?_))
    refine hK _ _ _ _ (next _ _ ⟨rfl, sf_pi s (by decide) (by decide), fun k => ?_⟩)
    rw [i_pi_same]
    by_cases q : k = 1472 * w2 + (15 + 3 * x + i)
    · rw [if_pos q, if_pos (by omega), hk', if_neg (by omega)]
      congr 1
      omega
    · rw [if_neg q, hk']
      have : (1472 * w2 + (15 + 3 * x) ≤ k ∧ k < 1472 * w2 + (15 + 3 * x) + i) ↔ (1472 * w2 + (15 + 3 * x) ≤ k ∧ k < 1472 * w2 + (15 + 3 * x) + (i + 1)) := by omega
      simp only [this]
  · rintro L h' ⟨rfl, s, hk'⟩
    have mw' : mw h' w2 := ⟨s.1.sh m1.1.1, m1.1.2.1, (s.2 3 (by decide)).trans m1.1.2.2⟩
    refine am_go (fun p => p == 28) (fun K cal Q' hK hC hQ => ?_)
    refine And.intro (fun _ => ?_) (fun c => absurd ?_ c)
    rotate_left
    · show nI 15 + nI 3 * nI (gM st.1 - 1) ≤ nI (15 + 3 * x + 3 * (gM st.1 - 1 - x))
      rw [eL]
      exact nI_le (by omega) (by omega)
    refine And.intro (sk_87 mw'.1) (hC _ _ _ _ (w_put (by decide) mw' (k := 1) rfl (by decide) ?_))
    refine And.intro trivial (hQ _ _ ?_)
    have t9 : sf [88] [] h1 (am_pi h' 88 (1472 * w2 + 1) (nI (gM st.1 - 1))) := sf_pi s (by decide) (by decide)
    have s9 := sf_mo (Y := 88 :: XQ) (J := KQ) t9 (subl_x (by decide)) (subl_x (by decide))
    have ek : ∀ k, am_i (am_pi h' 88 (1472 * w2 + 1) (nI (gM st.1 - 1))) 88 k = if k = 1472 * w2 + 1 then nI (gM st.1 - 1) else if 1472 * w2 + (15 + 3 * x) ≤ k ∧ k < 1472 * w2 + (15 + 3 * x) + 3 * (gM st.1 - 1 - x) then am_i h1 88 (k + 3) else am_i h1 88 k := fun k => by rw [i_pi_same, hk']
    have I9 := MIw_row (g := gRem st.1 x) I1 s9 (fun k hk => by rw [ek, if_neg (by omega), if_neg (by omega)]) (mrow_rem m1.2 x1 fun k hk => by
      rw [ek]
      have a1 : (1472 * w2 + k = 1472 * w2 + 1) ↔ k = 1 := by omega
      have a2 : (1472 * w2 + (15 + 3 * x) ≤ 1472 * w2 + k ∧ 1472 * w2 + k < 1472 * w2 + (15 + 3 * x) + 3 * (gM st.1 - 1 - x)) ↔ (15 + 3 * x ≤ k ∧ k < 15 + 3 * (gM st.1 - 1)) := by omega
      simp only [a1, a2]
      rfl)
    exact HQ _ x rfl x1 (MIw_I I9) (sfc_F (sfc_t F1 s9 (by decide) (by decide))) ((t9.2 0 (by decide)).trans e1)
end

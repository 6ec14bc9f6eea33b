/-! THE MODEL'S CHANGES, 2: labels, weights -/
theorem mrow_lab {h : am_H} {b : Nat} {g : gD} (r : mrow h b g) {v : Nat} (hv : v < gN g) (t : Int32) : mrow (am_pi h 88 (b + (75 + v)) t) b (labV g v t) := by
  obtain ⟨⟨a0, a1, a2, a3⟩, r1, r2, r3, r4, ⟨hw, h690⟩⟩ := r
  obtain ⟨n9, m20, -⟩ := hw.1
  have o : ∀ k, k ≠ 75 + v → am_i (am_pi h 88 (b + (75 + v)) t) 88 (b + k) = am_i h 88 (b + k) := fun k hk => by rw [i_pi_same, if_neg (by omega)]
  refine ⟨⟨(o 0 (by omega)).trans a0, (o 1 (by omega)).trans a1, (o 2 (by omega)).trans a2, (o 3 (by omega)).trans a3⟩, fun u hu => (o _ (by have : u < gN g := hu; omega)).trans (r1 u hu), fun k hk => ?_, fun u hu => ?_, fun k hk => ?_, ⟨hw, h690⟩⟩
  · have hk : k < gM g := hk
    exact ⟨(o _ (by omega)).trans (r2 k hk).1, (o _ (by omega)).trans (r2 k hk).2.1, (o _ (by omega)).trans (r2 k hk).2.2⟩
  · show am_i (am_pi h 88 (b + (75 + v)) t) 88 (b + (75 + u)) = if u = v then t else gLab g u
    by_cases q : u = v
    · rw [if_pos q, q, i_pi_same, if_pos rfl]
    · rw [if_neg q]; exact (o _ (by omega)).trans (r3 u hu)
  · have z := r4 k hk
    rw [← o (84 + 2 * k) (by omega), ← o (84 + 2 * k + 1) (by omega)] at z
    exact z
theorem mrow_wt {h : am_H} {b : Nat} {g : gD} (r : mrow h b g) {e j : Nat} (he : e < gM g) (hj : 1 ≤ j ∧ j ≤ 99) : mrow (am_pi h 88 (b + (15 + 3 * e + 2)) (nI j)) b (gW g e j) := by
  obtain ⟨⟨a0, a1, a2, a3⟩, r1, r2, r3, r4, ⟨hw, h690⟩⟩ := r
  obtain ⟨n9, m20, hT⟩ := hw.1
  have o : ∀ k, k ≠ 15 + 3 * e + 2 → am_i (am_pi h 88 (b + (15 + 3 * e + 2)) (nI j)) 88 (b + k) = am_i h 88 (b + k) := fun k hk => by rw [i_pi_same, if_neg (by omega)]
  refine ⟨⟨(o 0 (by omega)).trans a0, (o 1 (by omega)).trans a1, (o 2 (by omega)).trans a2, (o 3 (by omega)).trans a3⟩, fun u hu => (o _ (by have : u < gN g := hu; omega)).trans (r1 u hu), fun k hk => ?_, fun u hu => (o _ (by omega)).trans (r3 u hu), fun k hk => ?_, ⟨⟨hw.1, hw.2.1, fun k hk => ?_, hw.2.2.2⟩, h690⟩⟩
  · have hk : k < gM g := hk
    refine ⟨(o _ (by omega)).trans (r2 k hk).1, (o _ (by omega)).trans (r2 k hk).2.1, ?_⟩
    show am_i (am_pi h 88 (b + (15 + 3 * e + 2)) (nI j)) 88 (b + (15 + 3 * k + 2)) = nI (if k = e then j else gWt g k)
    by_cases q : k = e
    · rw [if_pos q, q, i_pi_same, if_pos rfl]
    · rw [if_neg q]; exact (o _ (by omega)).trans (r2 k hk).2.2
  · have z := r4 k hk
    rw [← o (84 + 2 * k) (by omega), ← o (84 + 2 * k + 1) (by omega)] at z
    exact z
  · show 1 ≤ (if k = e then j else gWt g k) ∧ (if k = e then j else gWt g k) ≤ 99
    split
    · exact hj
    · exact hw.2.2.1 k hk
/-- a write in the row -/
theorem MIw_put {h : am_H} {w k : Nat} {v : Int32} {st : stD} {g : gD} (I : MIw h w st) (hk : k < 1472) (r : mrow (am_pi h 88 (1472 * w + k) v) (1472 * w) g) : MIw (am_pi h 88 (1472 * w + k) v) w (g, st.2) := MIw_row I (sf_pi sf_rf (by decide) (by decide)) (fun j hj => by rw [i_pi_same, if_neg (by omega)]) r
theorem stC_2 (st : stD) (g : gD) : (g, (stC st st.1).2) = stC st g := rfl
theorem sfc_pi {h h' : am_H} (s : sfc h h') (k : Nat) (v : Int32) : sfc h (am_pi h' 88 k v) := sf_pi s (by decide) (by decide)
theorem sfc_t {h h' : am_H} {X K : List Nat} {h2 : am_H} (s : sfc h h') (t : sf X K h' h2) (h1 : subl X (88 :: XQ) = true) (h3 : subl K (3 :: 4 :: KQ) = true) : sfc h h2 := sf_tr s (sf_mo t (subl_x h1) (subl_x h3))
section
variable {xs : am_X} {d : Nat} {h : am_H} {st : stD} {Q : am_Q}
set_option maxHeartbeats 8000000 in
theorem q_setLabel (hd : 5 ≤ d) (I : MI h st) (v t : Int32) (HX : ∀ k h', sSetLab st.1 v t = k → k ≠ 0 → MI h' st → moF h h' → am_i h' 87 0 = nI k → Q (.inl (some (.int 0))) h')
    (HQ : ∀ h', sSetLab st.1 v t = 0 → MI h' (stC st (labV st.1 v.toNatClampNeg t)) → moF h h' → am_i h' 87 0 = nI 0 → Q (.inl (some (.int (nI (gCost (labV st.1 v.toNatClampNeg t)))))) h') : am_C xs am_P0 d m_Mo_setLabel [.ref 87, .int v, .int t] h Q := by
  obtain ⟨w, I⟩ := I
  have I0 := MIw_0 I (nI 0)
  have s0 := s00 (h := h) (nI 0)
  have e0 := i0_0 h (nI 0)
  have hn := mg_n9 I.1
  refine am_C_le hd (am_enter (d := 4) ap_Mo_setLabel rfl ?_) (fun _ _ k => k)
  refine am_go (fun p => p == 39) (fun K cal Q' hK hC hQ => ?_)
  refine And.intro (sk_87 I.1.1.1) ?_
  show am_ev _ _ _ _ _ _ _ _ _ _ _ (am_pi h 87 0 (nI 0))
  generalize am_pi h 87 0 (nI 0) = h0 at I0 s0 e0
  have m := I0.1
  have hk := sk_87 m.1.1
  -- from pc 39 on
  have rest : ∀ b : Bool, b = decide (t = -nI 1 ∨ isT (gN st.1) (gT st.1) t = true) → am_W xs (am_code at_Mo_setLabel) (am_hd ah_Mo_setLabel) (am_C xs am_P0 4) Q 39 [.ref 87, .int v, .int t, am_J] [.int (bI b)] h0 := by
    intro b hb
    have gb : b = true ↔ (t = -nI 1 ∨ isT (gN st.1) (gT st.1) t = true) := by rw [hb, decide_eq_true_iff]
    unfold sSetLab at HX HQ
    refine am_go (fun _ => false) (fun K cal Q' hK hC hQ => ?_)
    refine And.intro hk (hC _ _ _ _ (w_isVertex (by decide) m e0 (fun k k1 k2 => ?_) (fun e => ?_)))
    · subst k2
      rw [vin_nI k1 (by omega), if_pos rfl, q_cl (by omega)] at HX HQ
      refine And.intro (fun z => absurd z q_n1) (fun _ => ?_)
      refine And.intro hk (hC _ _ _ _ (w_right (by decide) hk e0 (by decide) (by decide) (fun q => ?_) (fun q => ?_)))
      · rw [if_pos (gb.mp q)] at HX HQ
        refine And.intro (fun z => absurd z q_n1) (fun _ => ?_)
        refine And.intro hk (hC _ _ _ _ (w_isTerm (by decide) m (by omega) ?_))
        cases hTk : (gT st.1).testBit k with
        | true =>
          rw [hTk, if_pos rfl] at HX HQ
          refine And.intro (fun _ => ?_) (fun z => absurd q_t1 z)
          refine And.intro hk (hC _ _ _ _ (w_right (p := false) (by decide) hk e0 (by decide) (by decide) (fun q => absurd q (by decide)) (fun _ => ?_)))
          exact And.intro (fun z => absurd rfl z) (fun _ => And.intro trivial (hQ _ _ (HX 3 _ rfl (by decide) (MIw_I (MIw_0 I0 _)) (sfc_F (sfc_q (sfq_thr s0 _))) (i0_0 _ _))))
        | false =>
          rw [hTk, if_neg (by decide)] at HX HQ
          refine And.intro (fun z => absurd rfl z) (fun _ => ?_)
          refine And.intro hk (hC _ _ _ _ (w_right (p := true) (by decide) hk e0 (by decide) (by decide) (fun _ => ?_) (fun q => absurd q (by decide))))
          refine And.intro (fun _ => ?_) (fun z => absurd q_n1 z)
          refine And.intro hk (hC _ _ _ _ (w_change (by decide) I0 fun h1 s1 I1 => ?_))
          have m1 := I1.1
          have hk1 := sk_87 m1.1.1
          refine And.intro hk1 (hC _ _ _ _ (w_put (by decide) m1.1 (k := 75 + k) (by rw [← nI_add]) (by omega) ?_))
          have I2 := MIw_put I1 (by omega) (mrow_lab m1.2 k1 t)
          have s2 : sfc h (am_pi h1 88 (1472 * ((w + 1) % 9) + (75 + k)) t) := sfc_pi (sfc_t (sfc_q s0) s1 (by decide) (by decide)) _ _
          have e2 : am_i (am_pi h1 88 (1472 * ((w + 1) % 9) + (75 + k)) t) 87 0 = nI 0 := (congrFun (i_pi_ne (by decide)) 0).trans ((s1.2 0 (by decide)).trans e0)
          generalize am_pi h1 88 (1472 * ((w + 1) % 9) + (75 + k)) t = h2 at I2 s2 e2
          refine And.intro (sk_87 I2.1.1.1) (hC _ _ _ _ (w_costNow (by decide) I2.1 fun h3 s3 _ _ => ?_))
          exact And.intro trivial (hQ _ _ (HQ h3 rfl (MIw_I (MIw_q I2 (sfq_of s3 rfl rfl))) (sfc_F (sfc_t s2 s3 (by decide) (by decide))) ((s3.2 0 (by decide)).trans e2)))
      · have q2 : ¬ (t = -nI 1 ∨ isT (gN st.1) (gT st.1) t = true) := fun z => by rw [gb.mpr z] at q; cases q
        rw [if_neg q2] at HX HQ
        exact And.intro (fun _ => And.intro trivial (hQ _ _ (HX 2 _ rfl (by decide) (MIw_I (MIw_0 I0 _)) (sfc_F (sfc_q (sfq_thr s0 _))) (i0_0 _ _)))) (fun z => absurd rfl z)
    · rw [e] at HX HQ
      exact And.intro (fun _ => And.intro trivial (hQ _ _ (HX 1 _ rfl (by decide) (MIw_I (MIw_0 I0 _)) (sfc_F (sfc_q (sfq_thr s0 _))) (i0_0 _ _)))) (fun z => absurd rfl z)
  refine And.intro (fun z => ?_) (fun z => ?_)
  · have z : t = -nI 1 := z
    exact hK _ _ _ _ (rest true (decide_eq_true (Or.inl z)).symm)
  · have z : t ≠ -nI 1 := z
    refine And.intro hk (hC _ _ _ _ (w_count (by decide) m ?_))
    refine And.intro trivial (hC _ _ _ _ (w_isIn (by decide) (q_vin (n := gN st.1) (by omega) (q_pr (by omega))) ?_))
    cases e : vin (gN st.1) t with
    | false =>
      have e2 : isT (gN st.1) (gT st.1) t = false := by unfold isT; rw [show decide (0 ≤ t ∧ t < nI (gN st.1)) = false from e]; rfl
      refine And.intro (fun _ => hK _ _ _ _ (rest false ?_)) (fun z => absurd rfl z)
      rw [e2]
      exact (decide_eq_false fun q => by rcases q with q | q; exact z q; cases q).symm
    | true =>
      obtain ⟨k, k1, rfl⟩ := q_range_of (by omega) e
      refine And.intro (fun z => absurd z q_t1) (fun _ => ?_)
      refine And.intro hk (hC _ _ _ _ (w_isTerm (by decide) m (by omega) ?_))
      rw [isT_nI k1 (by omega)] at rest
      cases hTk : (gT st.1).testBit k with
      | false =>
        rw [hTk] at rest
        exact And.intro (fun _ => hK _ _ _ _ (rest false (decide_eq_false fun q => by rcases q with q | q; exact z q; cases q).symm)) (fun z => absurd rfl z)
      | true =>
        rw [hTk] at rest
        exact And.intro (fun z => absurd z q_t1) (fun _ => hK _ _ _ _ (rest true (decide_eq_true (Or.inr rfl)).symm))
theorem q_in99 {j : Int32} {a b : Nat} (ha : a < 2 ^ 31) (hb : b < 2 ^ 31) : decide (nI a ≤ j ∧ j ≤ nI b) = decide ((lN a).toInt ≤ j.toInt64.toInt ∧ j.toInt64.toInt ≤ (lN b).toInt) := by
  refine decide_eq_decide.mpr ?_
  rw [q_L, lN_toInt ha, lN_toInt hb, fa_le, fa_le, nI_toInt ha, nI_toInt hb]
theorem q_in_of {j : Int32} {a b : Nat} (ha : a < 2 ^ 31) (hb : b < 2 ^ 31) (h : decide (nI a ≤ j ∧ j ≤ nI b) = true) : ∃ k, a ≤ k ∧ k ≤ b ∧ j = nI k := by
  have h := of_decide_eq_true h
  rw [fa_le, fa_le, nI_toInt ha, nI_toInt hb] at h
  obtain ⟨k, k1, k2⟩ := nI_of (x := j) (by rw [fa_lt]; show ¬ j.toInt < 0; omega)
  rw [k2, nI_toInt k1] at h
  exact ⟨k, by omega, by omega, k2⟩
set_option maxHeartbeats 8000000 in
theorem q_setWeight (hd : 4 ≤ d) (I : MI h st) (e wt : Int32) (HX : ∀ k h', sSetW st.1 e wt = k → k ≠ 0 → MI h' st → moF h h' → am_i h' 87 0 = nI k → Q (.inl (some (.int 0))) h')
    (HQ : ∀ h' k j, e = nI k → k < gM st.1 → wt = nI j → sSetW st.1 e wt = 0 → MI h' (stC st (gW st.1 k j)) → moF h h' → am_i h' 87 0 = nI 0 → Q (.inl (some (.int (nI (gWt st.1 k))))) h') : am_C xs am_P0 d m_Mo_setWeight [.ref 87, .int e, .int wt] h Q := by
  obtain ⟨w, I⟩ := I
  have I0 := MIw_0 I (nI 0)
  have s0 := s00 (h := h) (nI 0)
  have e0 := i0_0 h (nI 0)
  have hm := mg_m20 I.1
  unfold sSetW at HX HQ
  refine am_C_le hd (am_enter (d := 3) ap_Mo_setWeight rfl ?_) (fun _ _ k => k)
  refine am_go (fun _ => false) (fun K cal Q' hK hC hQ => ?_)
  refine And.intro (sk_87 I.1.1.1) (hC _ _ _ _ (w_isEdge (by decide) I.1 (fun k k1 k2 => ?_) (fun q => ?_)))
  · subst k2
    rw [vin_nI k1 (by omega), if_pos rfl] at HX HQ
    refine And.intro (fun z => absurd z q_n1) (fun _ => ?_)
    generalize am_pi h 87 0 (nI 0) = h0 at I0 s0 e0
    have m := I0.1
    have hk := sk_87 m.1.1
    refine And.intro trivial (hC _ _ _ _ (w_isIn (by decide) (q_in99 (a := 1) (b := 99) (by decide) (by decide)) ?_))
    refine And.intro hk (hC _ _ _ _ (w_right (by decide) hk e0 (by decide) (by decide) (fun q => ?_) (fun q => ?_)))
    · rw [if_pos q] at HX HQ
      obtain ⟨j, j1, j2, rfl⟩ := q_in_of (by decide) (by decide) q
      refine And.intro (fun _ => ?_) (fun z => absurd q_n1 z)
      have eX : nI 15 + nI 3 * nI k + nI 2 = nI (15 + 3 * k + 2) := by rw [pk_mul, nI_add, nI_add]
      refine And.intro hk (hC _ _ _ _ (w_get (by decide) m.1 (k := 15 + 3 * k + 2) eX (by omega) (m.2.2.2.1 k k1).2.2 ?_))
      refine And.intro hk (hC _ _ _ _ (w_change (by decide) I0 fun h1 s1 I1 => ?_))
      have m1 := I1.1
      refine And.intro (sk_87 m1.1.1) (hC _ _ _ _ (w_put (by decide) m1.1 (k := 15 + 3 * k + 2) eX (by omega) ?_))
      have I2 := MIw_put I1 (by omega) (mrow_wt m1.2 k1 ⟨j1, j2⟩)
      exact And.intro trivial (hQ _ _ (HQ _ k j rfl k1 rfl rfl (MIw_I I2) (sfc_F (sfc_pi (sfc_t (sfc_q s0) s1 (by decide) (by decide)) _ _)) ((congrFun (i_pi_ne (by decide)) 0).trans ((s1.2 0 (by decide)).trans e0))))
    · rw [if_neg (by rw [q]; decide)] at HX HQ
      exact And.intro (fun z => absurd rfl z) (fun _ => And.intro trivial (hQ _ _ (HX 2 _ rfl (by decide) (MIw_I (MIw_0 I0 _)) (sfc_F (sfc_q (sfq_thr s0 _))) (i0_0 _ _))))
  · rw [q] at HX HQ
    exact And.intro (fun _ => And.intro trivial (hQ _ _ (HX 1 _ rfl (by decide) (MIw_I (MIw_0 I0 _)) (sfc_F (sfc_q (sfq_thr s0 _))) (i0_0 _ _)))) (fun z => absurd rfl z)
end

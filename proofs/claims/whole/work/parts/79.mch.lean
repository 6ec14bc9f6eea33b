/-! THE MODEL'S CHANGES: the next row; undo -/
theorem mrow_mvr {h h' : am_H} {b b' : Nat} {g : gD} (r : mrow h b g) (e : ∀ k, k < 1472 → am_i h' 88 (b' + k) = am_i h 88 (b + k)) : mrow h' b' g := by
  obtain ⟨⟨a0, a1, a2, a3⟩, r1, r2, r3, r4, ⟨hw, h690⟩⟩ := r
  obtain ⟨n9, m20, -⟩ := hw.1
  refine ⟨⟨(e 0 (by decide)).trans a0, (e 1 (by decide)).trans a1, (e 2 (by decide)).trans a2, (e 3 (by decide)).trans a3⟩, fun v hv => (e _ (by omega)).trans (r1 v hv), fun k hk => ⟨(e _ (by omega)).trans (r2 k hk).1, (e _ (by omega)).trans (r2 k hk).2.1, (e _ (by omega)).trans (r2 k hk).2.2⟩, fun v hv => (e _ (by omega)).trans (r3 v hv), fun k hk => ?_, ⟨hw, h690⟩⟩
  have z := r4 k hk
  rw [← e (84 + 2 * k) (by omega), ← e (84 + 2 * k + 1) (by omega)] at z
  exact z
def MIw (h : am_H) (w : Nat) (st : stD) : Prop := mg h w st.1 ∧ (am_i h 87 4 = nI st.2.1.length ∧ st.2.1.length ≤ 8 ∧ ∀ j g, st.2.1[j]? = some g → mrow h (1472 * ((w + 8 - j) % 9)) g) ∧ (st.2.2.1.1 ≤ 700 ∧ am_i h 87 7 = nI st.2.2.1.1 ∧ ∀ k, k < st.2.2.1.1 → am_i h 90 k = nI (st.2.2.1.2 k) ∧ st.2.2.1.2 k < 256) ∧ am_i h 87 8 = st.2.2.2
theorem MIw_I {h : am_H} {w : Nat} {st : stD} (I : MIw h w st) : MI h st := ⟨w, I⟩
/-- a change's trace -/
abbrev sfc (h h' : am_H) : Prop := sf (88 :: XQ) (3 :: 4 :: KQ) h h'
theorem sfc_F {h h' : am_H} (s : sfc h h') : moF h h' := s.1.mo (subl_x (by decide))
theorem sfc_q {h h' : am_H} (s : sfq h h') : sfc h h' := sf_mo s (subl_x (by decide)) (subl_x (by decide))
/-- writes in the row that the model looks at -/
theorem MIw_row {h h' : am_H} {w : Nat} {st : stD} {g : gD} (I : MIw h w st) (s : sf (88 :: XQ) KQ h h') (e : ∀ k, k < 1472 * w ∨ 1472 * w + 1472 ≤ k → am_i h' 88 k = am_i h 88 k) (r : mrow h' (1472 * w) g) : MIw h' w (g, st.2) := by
  obtain ⟨m, ⟨i1, i2, i3⟩, ⟨j1, j2, j3⟩, i4⟩ := I
  have hw := m.1.2.1
  refine ⟨⟨⟨s.1.sh m.1.1, hw, (s.2 3 (by decide)).trans m.1.2.2⟩, r⟩, ⟨(s.2 4 (by decide)).trans i1, i2, fun j g z => mrow_mvr (i3 j g z) fun k hk => e _ ?_⟩, ⟨j1, (s.2 7 (by decide)).trans j2, fun k hk => ⟨(s.1.i (by decide) k).trans (j3 k hk).1, (j3 k hk).2⟩⟩, (s.2 8 (by decide)).trans i4⟩
  have j8 : j < st.2.1.length := (List.getElem?_eq_some_iff.mp z).1
  have : (w + 8 - j) % 9 ≠ w := by omega
  omega
theorem MIw_q {h h' : am_H} {w : Nat} {st : stD} (I : MIw h w st) (s : sfq h h') : MIw h' w st := by
  have r : mrow h' (1472 * w) st.1 := mrow_mv I.1.2 fun k => s.1.i (by decide) k
  exact MIw_row I (sf_mo s (subl_x (by decide)) fun a ha => ha) (fun k _ => s.1.i (by decide) k) r
theorem q_nx9 : ∀ w, w < 9 → nI w + nI 1 - (nI w + nI 1) / nI 9 * nI 9 = nI ((w + 1) % 9) := by decide +kernel
theorem q_bk9 : ∀ w, w < 9 → nI w + nI 9 - nI 1 - (nI w + nI 9 - nI 1) / nI 9 * nI 9 = nI ((w + 8) % 9) := by decide +kernel
section
variable {xs : am_X} {d : Nat} {h : am_H} {st : stD} {Q : am_Q}
set_option maxHeartbeats 8000000 in
theorem w_change {w : Nat} (hd : 2 ≤ d) (I : MIw h w st) (HQ : ∀ h', sf [88] [3, 4] h h' → MIw h' ((w + 1) % 9) (stC st st.1) → Q (.inl none) h') : am_C xs am_P0 d m_Mo_change [.ref 87] h Q := by
  obtain ⟨m, ⟨i1, i2, i3⟩, ⟨j1, j2, j3⟩, i4⟩ := id I
  have hw := m.1.2.1
  refine am_C_le hd (am_enter (d := 1) ap_Mo_change rfl ?_) (fun _ _ k => k)
  refine am_go (fun p => p == 12) (fun K cal Q' hK hC hQ => ?_)
  have e1 : am_i h 87 3 + nI 1 - (am_i h 87 3 + nI 1) / nI 9 * nI 9 = nI ((w + 1) % 9) := by rw [m.1.2.2]; exact q_nx9 w hw
  refine And.intro (sk_87 m.1.1) (And.intro (show ¬ nI 9 = 0 by decide) (hK _ _ _ _ ?_))
  generalize hw2 : (w + 1) % 9 = w2 at *
  have w2l : w2 < 9 := by omega
  have w2n : w2 ≠ w := by omega
  refine am_for 1472 (fun i L h' => L = [.ref 87, .int (nI w2), .int (nI i)] ∧ sf [88] [] h h' ∧ ∀ k, am_i h' 88 k = if 1472 * w2 ≤ k ∧ k < 1472 * w2 + i then am_i h 88 (1472 * w + (k - 1472 * w2)) else am_i h 88 k) ?_ ?_ 0 (Nat.zero_le _) _ _ ⟨by rw [← e1]; rfl, sf_rf, fun k => by rw [if_neg (by omega)]⟩
  · rintro i hi9 L h' ⟨rfl, s, hk⟩ next
    have eI : am_inc (nI i) (Int.ofNat 1) = nI (i + 1) := nI_1 i
    rw [← eI] at next
    have mw' : mw h' w := ⟨s.1.sh m.1.1, hw, (s.2 3 (by decide)).trans m.1.2.2⟩
    refine am_go (fun p => p == 12) (fun K cal Q' hK hC hQ => ?_)
    refine And.intro (fun c => absurd c (nI_ge hi9 (by omega))) (fun _ => ?_)
    have eX : nI 1472 * nI w2 + nI i = nI (1472 * w2 + i) := by rw [pk_mul, nI_add]
    have r1 : am_r h' 87 1 = 88 := sr_87_1 mw'.1
    refine And.intro (sk_87 mw'.1) (And.intro (sk_87 mw'.1) (hC _ _ _ _ (w_get (by decide) mw' (k := i) rfl hi9 rfl ?_)))
    refine And.intro (ck_row r1 (sk_88 mw'.1) eX (by omega) (by omega)) ?_
    rw [show am_r h' 87 (577 % 64) = 88 from r1, eX, q_cl (by omega)]
    refine hK _ _ _ _ (next _ _ ⟨rfl, sf_pi s (by decide) (by decide), fun k => ?_⟩)
    rw [i_pi_same]
    by_cases q : k = 1472 * w2 + i
    · rw [if_pos q, hk, if_neg (by omega), if_pos (by omega)]
      congr 1
      omega
    · rw [if_neg q, hk]
      have : (1472 * w2 ≤ k ∧ k < 1472 * w2 + i) ↔ (1472 * w2 ≤ k ∧ k < 1472 * w2 + (i + 1)) := by omega
      simp only [this]
  · rintro L h' ⟨rfl, s, hk⟩
    have hs := s.1.sh m.1.1
    refine am_go (fun _ => false) (fun K cal Q' hK hC hQ => ?_)
    refine And.intro (fun _ => ?_) (fun c => absurd (nI_le (Nat.le_refl _) (by decide)) c)
    have s2 : sf [88] [3, 4] h (am_pi h' 87 3 (nI w2)) := sf_pf (sf_mo s (fun a ha => ha) (fun a ha => absurd ha List.not_mem_nil)) (by decide)
    have e4 : am_i (am_pi h' 87 3 (nI w2)) 87 4 = nI st.2.1.length := by rw [i_pi_same, if_neg (by decide), s.2 4 (by decide)]; exact i1
    have fin : ∀ c : Nat, c = ((st.1 :: st.2.1).take 8).length → Q (.inl none) (am_pi (am_pi h' 87 3 (nI w2)) 87 4 (nI c)) := fun c hc => by
      have ek : ∀ k, am_i (am_pi (am_pi h' 87 3 (nI w2)) 87 4 (nI c)) 88 k = if 1472 * w2 ≤ k ∧ k < 1472 * w2 + 1472 then am_i h 88 (1472 * w + (k - 1472 * w2)) else am_i h 88 k := fun k => by
        rw [i_pi_ne (by decide), i_pi_ne (by decide)]; exact hk k
      have s3 : sf [88] [3, 4] h (am_pi (am_pi h' 87 3 (nI w2)) 87 4 (nI c)) := sf_pf s2 (by decide)
      generalize hh2 : am_pi (am_pi h' 87 3 (nI w2)) 87 4 (nI c) = h2 at *
      have v3 : am_i h2 87 3 = nI w2 := by rw [← hh2, i_pi_same, if_neg (by decide), i_pi_same, if_pos rfl]
      have v4 : am_i h2 87 4 = nI c := by rw [← hh2, i_pi_same, if_pos rfl]
      refine HQ h2 s3 ⟨⟨⟨s3.1.sh m.1.1, w2l, v3⟩, mrow_mvr m.2 fun k hk => ?_⟩, ⟨by rw [v4, hc]; rfl, (by show ((st.1 :: st.2.1).take 8).length ≤ 8; rw [List.length_take]; exact Nat.min_le_left _ _), fun j g z => ?_⟩, ⟨j1, (s3.2 7 (by decide)).trans j2, fun k hk => ⟨(s3.1.i (by decide) k).trans (j3 k hk).1, (j3 k hk).2⟩⟩, (s3.2 8 (by decide)).trans i4⟩
      · rw [ek, if_pos (by omega)]
        congr 1
        omega
      · have z : ((st.1 :: st.2.1).take 8)[j]? = some g := z
        have j8 : j < 8 := by
          have := (List.getElem?_eq_some_iff.mp z).1
          rw [List.length_take] at this
          omega
        rw [List.getElem?_take, if_pos j8] at z
        rcases j with _ | j
        · have z : st.1 = g := Option.some.inj z
          subst z
          refine mrow_mvr m.2 fun k hk => ?_
          have : (w2 + 8 - 0) % 9 = w := by omega
          rw [this, ek, if_neg (by omega)]
        · have z : st.2.1[j]? = some g := z
          refine mrow_mvr (i3 j g z) fun k hk => ?_
          have e9 : (w2 + 8 - (j + 1)) % 9 = (w + 8 - j) % 9 := by omega
          have : (w + 8 - j) % 9 ≠ w2 := by omega
          rw [e9, ek, if_neg (by omega)]
    have ln : ((st.1 :: st.2.1).take 8).length = min 8 (st.2.1.length + 1) := by rw [List.length_take]; rfl
    refine And.intro (sk_87 hs) (And.intro (sk_87 hs) (And.intro (fun z => ?_) (fun z => ?_)))
    · have z : nI 8 ≤ am_i (am_pi h' 87 3 (nI w2)) 87 4 := z
      rw [e4] at z
      have z := (nI_leI (by decide) (by omega)).mp z
      refine And.intro (sk_87 hs) (And.intro (sk_87 hs) (And.intro trivial (hQ _ _ ?_)))
      rw [show am_i (am_pi h' 87 3 (nI w2)) 87 (580 % 64) = nI st.2.1.length from e4]
      exact fin _ (by rw [ln]; omega)
    · have z : ¬ nI 8 ≤ am_i (am_pi h' 87 3 (nI w2)) 87 4 := z
      rw [e4] at z
      have z := Nat.not_le.mp fun q => z ((nI_leI (by decide) (by omega)).mpr q)
      refine And.intro (sk_87 hs) (And.intro (sk_87 hs) (And.intro trivial (hQ _ _ ?_)))
      rw [show am_i (am_pi h' 87 3 (nI w2)) 87 (580 % 64) = nI st.2.1.length from e4, nI_add]
      exact fin _ (by rw [ln]; omega)
theorem MIw_0 {w : Nat} (I : MIw h w st) (v : Int32) : MIw (am_pi h 87 0 v) w st := MIw_q I (s00 v)
set_option maxHeartbeats 4000000 in
theorem q_undo (hd : 1 ≤ d) (I : MI h st) (H0 : st.2.1 = [] → ∀ h', MI h' st → moF h h' → Q (.inl (some (.int (-nI 1)))) h') (HQ : ∀ g t h', st.2.1 = g :: t → MI h' (g, t, st.2.2) → moF h h' → Q (.inl (some (.int (nI t.length)))) h') : am_C xs am_P0 d m_Mo_undo [.ref 87] h Q := by
  obtain ⟨w, I⟩ := I
  have I0 := MIw_0 I (nI 0)
  have s0 := s00 (h := h) (nI 0)
  refine am_C_le hd (am_enter (d := 0) ap_Mo_undo rfl ?_) (fun _ _ k => k)
  refine am_go (fun _ => false) (fun K cal Q' hK hC hQ => ?_)
  refine And.intro (sk_87 I.1.1.1) ?_
  show am_k (am_pi h 87 0 (nI 0)) 87 = _ ∧ _
  generalize am_pi h 87 0 (nI 0) = h0 at I0 s0
  obtain ⟨m, ⟨i1, i2, i3⟩, ⟨j1, j2, j3⟩, i4⟩ := id I0
  have hw := m.1.2.1
  have hk := sk_87 m.1.1
  cases hl : st.2.1 with
  | nil =>
    have e : am_i h0 87 4 = nI 0 := by rw [i1, hl]; rfl
    exact And.intro hk (And.intro (fun z => absurd e z) (fun _ => And.intro trivial (hQ _ _ (H0 hl h0 (MIw_I I0) (sfq_I s0 (MIw_I I)).2))))
  | cons g t =>
    have e : am_i h0 87 4 = nI (t.length + 1) := by rw [i1, hl]; rfl
    have t7 : t.length + 1 ≤ 8 := by have := i2; rw [hl] at this; exact this
    refine And.intro hk (And.intro (fun _ => ?_) (fun z => absurd (e.symm.trans (Classical.not_not.mp z)) (nI_ne0 (by omega) (by omega))))
    have eA : am_i h0 87 (580 % 64) - nI 1 = nI t.length := by rw [show am_i h0 87 (580 % 64) = nI (t.length + 1) from e]; exact nI_pred _
    refine And.intro hk (And.intro hk ?_)
    have e3 : ∀ v : Int32, am_i (am_pi h0 87 4 v) 87 3 = nI w := fun v => by rw [i_pi_same, if_neg (by decide)]; exact m.1.2.2
    refine And.intro hk (And.intro (show ¬ nI 9 = 0 by decide) (And.intro hk (And.intro hk (And.intro trivial (hQ _ _ ?_)))))
    rw [eA]
    have eB : am_i (am_pi h0 87 (580 % 64) (nI t.length)) 87 (579 % 64) + nI 9 - nI 1 - (am_i (am_pi h0 87 (580 % 64) (nI t.length)) 87 (579 % 64) + nI 9 - nI 1) / nI 9 * nI 9 = nI ((w + 8) % 9) := by
      rw [show am_i (am_pi h0 87 (580 % 64) (nI t.length)) 87 (579 % 64) = nI w from e3 _]
      exact q_bk9 w hw
    rw [eB]
    show Q (.inl (some (.int (am_i (am_pi (am_pi h0 87 4 (nI t.length)) 87 3 (nI ((w + 8) % 9))) 87 4)))) (am_pi (am_pi h0 87 4 (nI t.length)) 87 3 (nI ((w + 8) % 9)))
    have s3 : sf [] [3, 4] h0 (am_pi (am_pi h0 87 4 (nI t.length)) 87 3 (nI ((w + 8) % 9))) := sf_pf (sf_pf sf_rf (by decide)) (by decide)
    have v4 : am_i (am_pi (am_pi h0 87 4 (nI t.length)) 87 3 (nI ((w + 8) % 9))) 87 4 = nI t.length := by rw [i_pi_same, if_neg (by decide), i_pi_same, if_pos rfl]
    have v3 : am_i (am_pi (am_pi h0 87 4 (nI t.length)) 87 3 (nI ((w + 8) % 9))) 87 3 = nI ((w + 8) % 9) := by rw [i_pi_same, if_pos rfl]
    rw [v4]
    generalize am_pi (am_pi h0 87 4 (nI t.length)) 87 3 (nI ((w + 8) % 9)) = h3 at *
    have e88 : ∀ k, am_i h3 88 k = am_i h0 88 k := fun k => s3.1.i (by decide) k
    refine HQ g t h3 hl ⟨(w + 8) % 9, ⟨⟨s3.1.sh m.1.1, by omega, v3⟩, mrow_mv (i3 0 g (by rw [hl]; rfl)) e88⟩, ⟨v4, by show t.length ≤ 8; omega, fun j g' z => ?_⟩, ⟨j1, (s3.2 7 (by decide)).trans j2, fun k hk => ⟨(s3.1.i (by decide) k).trans (j3 k hk).1, (j3 k hk).2⟩⟩, (s3.2 8 (by decide)).trans i4⟩ ?_
    · have z : t[j]? = some g' := z
      have j7 : j < t.length := (List.getElem?_eq_some_iff.mp z).1
      have := mrow_mv (i3 (j + 1) g' (by rw [hl]; exact z)) e88
      rw [show ((w + 8) % 9 + 8 - j) % 9 = (w + 8 - (j + 1)) % 9 by omega]
      exact this
    · exact sm.tr (sfq_I s0 (MIw_I I)).2 (s3.1.mo (subl_x (by decide)))
end

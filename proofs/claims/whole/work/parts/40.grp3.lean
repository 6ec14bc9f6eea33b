/-! ROUNDS, the run -/
theorem i_sm {X : List Nat} {h h' : am_H} (s : sm X h h') {a k : Nat} {v : Int32} (ha : a ∉ X) (e : am_i h a k = v) : am_i h' a k = v := (s.i ha k).trans e
set_option maxHeartbeats 4000000 in
theorem c_Gp_run {xs : am_X} {d : Nat} {h : am_H} {n m T : Nat} {lo hi co : Nat → Nat} (hd : 5 ≤ d) (hs : sh h) (hg : cg h 3 n m T lo hi) (hc : cco h 3 m co) {Q : am_Q}
    (HQ : ∀ h' R, sm [78, 79] h h' → am_i h' 78 0 = nI R → isR n T (cutc m lo hi co) R → (∀ v, v < 9 → am_i h' 79 v = nI (grs n T (cutc m lo hi co) R v)) → Q (.inl none) h') : am_C xs am_P0 d m_Gp_run [.ref 78, .ref 3] h Q := by
  obtain ⟨⟨hk, -⟩, ⟨h0, h1, h2⟩, he, ⟨hn, hm, hT⟩, hw⟩ := id hg
  refine am_C_le hd (am_enter (d := 4) ap_Gp_run rfl ?_) (fun _ _ k => k)
  refine am_go (fun p => p == 7) (fun K cal Q' hK hC hQ => ?_)
  refine And.intro (sk_78 hs) (hK _ _ _ _ ?_)
  generalize hcc : cutc m lo hi co = c at HQ
  refine am_for 9 (fun i L h' => L = [.ref 78, .ref 3, .int (nI i)] ∧ sm [78, 79] h h' ∧ am_i h' 78 0 = nI 0 ∧ ∀ v, v < i → am_i h' 79 v = nI (grs n T c 0 v)) ?_ ?_ 0 (Nat.zero_le _) _ _ ⟨rfl, sm.rf.pi (by decide), i_pi_at, fun v z => absurd z (Nat.not_lt_zero _)⟩
  · rintro i hi9 L h' ⟨rfl, s, hm0, hv⟩ next
    have hs' := s.sh hs
    have hg' := hg.mv s (by decide) (by decide) (by decide)
    have eI : am_inc (nI i) (Int.ofNat 1) = nI (i + 1) := nI_1 i
    rw [← eI] at next
    have fin : ∀ x : Nat, x = grs n T c 0 i → am_W xs (am_code at_Gp_run) (am_hd ah_Gp_run) (am_C xs am_P0 4) Q 7 [.ref 78, .ref 3, .int (am_inc (nI i) (Int.ofNat 1))] [] (am_pi h' (am_r h' 78 1) (nI i).toNatClampNeg (nI x)) := by
      intro x hx
      rw [sr_78_1 hs', q_cl (by omega)]
      refine next _ _ ⟨rfl, s.pi (by decide), (by rw [i_pi_ne (by decide)]; exact hm0), fun v z => ?_⟩
      rw [i_pi_same]
      by_cases w : v = i
      · rw [if_pos w, w, hx]
      · rw [if_neg w]; exact hv v (by omega)
    refine am_go (fun p => p == 7) (fun K cal Q' hK hC hQ => ?_)
    refine And.intro (fun z => absurd z (q_ge rfl hi9 (by omega))) (fun _ => ?_)
    refine And.intro (sk_78 hs') (And.intro hg'.1.1 (hC _ _ _ _ (c_isTerminal (by decide) hg' _ ?_)))
    have eB : nI 1 <<< (nI i &&& 31) = nI (2 ^ i) := q_shl i (by omega)
    cases hTi : isT n T (nI i) with
    | false =>
      refine And.intro (fun _ => ?_) (fun z => absurd rfl z)
      refine And.intro (ck_row (sr_78_1 hs') (sk_79 hs') rfl hi9 (by omega)) (hK _ _ _ _ (fin 0 ?_))
      show 0 = if T.testBit i then 2 ^ i else 0
      rw [if_neg]
      intro w
      rw [isT_nI (q_T_lt hT w) (by omega), w] at hTi
      cases hTi
    | true =>
      refine And.intro (fun z => absurd z q_t1) (fun _ => ?_)
      refine And.intro (ck_row (sr_78_1 hs') (sk_79 hs') rfl hi9 (by omega)) (hK _ _ _ _ ?_)
      have hTT : T.testBit i = true := by
        unfold isT at hTi
        rw [q_cl (by omega)] at hTi
        simp at hTi
        exact hTi.2
      have := fin (2 ^ i) (by show _ = if T.testBit i then 2 ^ i else 0; rw [if_pos hTT])
      rw [← eB] at this
      exact this
  · rintro L h' ⟨rfl, s, hm0, hv⟩
    have hs' := s.sh hs
    have hg' := hg.mv s (by decide) (by decide) (by decide)
    have W : am_W xs (am_code at_Gp_run) (am_hd ah_Gp_run) (am_C xs am_P0 4) Q 53 [.ref 78, .ref 3, .int (bI (decide (T ≠ 0)))] [] h' := by
      refine am_while (fun k L h9 => ∃ (j : Nat) (b : Bool), j ≤ 9 ∧ k = 9 - j ∧ L = [.ref 78, .ref 3, .int (bI b)] ∧ sm [78, 79] h h9 ∧ am_i h9 78 0 = nI j ∧ (∀ v, v < 9 → am_i h9 79 v = nI (grs n T c j v)) ∧ (∀ i, i + 1 < j → chg n T c i) ∧ (b = true ↔ T ≠ 0 ∧ (j = 0 ∨ chg n T c (j - 1))) ∧ (T = 0 → j = 0)) ?_ 9 _ _ ⟨0, decide (T ≠ 0), by omega, rfl, rfl, s, hm0, hv, fun i z => by omega, by simp, fun _ => rfl⟩
      rintro k L h9 ⟨j, b, hj9, rfl, rfl, s9, hj, hv9, hch, hb, hT0⟩ next
      have hs9 := s9.sh hs
      have hg9 := hg.mv s9 (by decide) (by decide) (by decide)
      have hc9 := hc.mv s9 (by decide)
      refine am_go (fun p => p == 53) (fun K cal Q' hK hC hQ => ?_)
      cases b with
      | false =>
        refine And.intro (fun _ => ?_) (fun z => absurd rfl z)
        refine And.intro trivial (hQ _ _ (HQ _ j s9 hj ?_ hv9))
        by_cases t0 : T = 0
        · exact Or.inl ⟨t0, hT0 t0⟩
        · have nb := fun q => Bool.false_ne_true (hb.mpr ⟨t0, q⟩)
          exact Or.inr ⟨t0, Nat.pos_of_ne_zero fun q => nb (Or.inl q), hj9, hch, fun q => nb (Or.inr q)⟩
      | true =>
        obtain ⟨t0, hor⟩ := hb.mp rfl
        have hall : ∀ i, i < j → chg n T c i := fun i z => by
          by_cases w : i + 1 < j
          · exact hch i w
          · rcases hor with q | q
            · omega
            · rw [show i = j - 1 by omega]; exact q
        have hj8 : j < 9 := Nat.lt_of_le_of_ne hj9 fun q => chg_no (c := c) hn hT t0 (by rw [q] at hall; exact hall)
        refine And.intro (fun z => absurd z q_t1) (fun _ => ?_)
        refine And.intro (sk_78 hs9) (And.intro (fun z => absurd z ?_) (fun _ => ?_))
        · show ¬ nI 9 ≤ am_i h9 78 0
          rw [hj]
          exact nI_ge hj8 (by omega)
        · refine And.intro (sk_78 hs9) (hC _ _ _ _ (c_makeRound (by decide) hs9 hg9 hc9 (grs_GI hT j) hv9 (fun h10 b10 s10 hv10 hb10 => ?_)))
          rw [hcc] at hv10 hb10
          have hs10 := s10.sh hs9
          refine And.intro (sk_78 hs10) (And.intro (sk_78 hs10) ?_)
          have e5 : am_i h10 78 0 = nI j := i_sm s10 (by decide) hj
          have e6 : am_i h10 78 0 + 1 = nI (j + 1) := by rw [e5]; exact nI_1 j
          refine hK _ _ _ _ (next (9 - (j + 1)) _ _ (by omega) ⟨j + 1, b10, by omega, rfl, rfl, (s9.tr (s10.mo (by decide))).pi (by decide), ?_, fun v z => ?_, fun i z => hall i (by omega), ?_, fun z => absurd z t0⟩)
          · exact i_pi_at.trans e6
          · rw [i_pi_ne (by decide)]; exact hv10 v z
          · rw [hb10]
            exact ⟨fun q => ⟨t0, Or.inr q⟩, fun q => q.2.elim (fun w => by omega) id⟩
    refine am_go (fun p => p == 53 || p == 7) (fun K cal Q' hK hC hQ => ?_)
    refine And.intro (fun _ => ?_) (fun z => absurd (q_le rfl (by omega)) z)
    refine And.intro hg'.1.1 (And.intro (fun z => ?_) (fun z => ?_))
    · have z : nI T = nI 0 := hg'.2.1.2.2.symm.trans z
      have z := (nI_eq (by have := pow_le9 hn; omega) (by omega)).mp z
      rw [show decide (T ≠ 0) = false by simp [z]] at W
      exact hK _ _ _ _ W
    · have z : T ≠ 0 := fun q => z (by show am_i h' 3 2 = 0; rw [hg'.2.1.2.2, q]; rfl)
      rw [show decide (T ≠ 0) = true by simp [z]] at W
      exact hK _ _ _ _ W

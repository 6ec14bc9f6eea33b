/-! GRAPH: writes, 2 -/
set_option maxHeartbeats 4000000 in
theorem c_startTerminal {xs : am_X} {d : Nat} {h : am_H} {a T v : Nat} (hd : 1 ≤ d) (hg : gs h a) (hT : am_i h a 2 = nI T) (hv : v < 9) {Q : am_Q}
    (HQ : ∀ h', sm [a, a + 2] h h' → (∀ k, am_i h' a k = if k = 2 then nI (T ||| 2 ^ v) else am_i h a k) → (∀ k, am_i h' (a + 2) k = if k = v then nI v else am_i h (a + 2) k) → Q (.inl none) h') : am_C xs am_P0 d m_Gr_startTerminal [.ref a, .int (nI v)] h Q := by
  obtain ⟨hk, ⟨k1, k2, k3, k4, k5, k6⟩, r3, r4, r5, r6, r7, r8⟩ := hg
  refine am_C_le hd (am_enter (d := 0) ap_Gr_startTerminal rfl ?_) (fun _ _ k => k)
  refine am_go (fun _ => false) (fun K cal Q' hK hC hQ => ?_)
  have e1 : am_i h a (130 % 64) ||| (nI 1 <<< (nI v &&& 31)) = nI (T ||| 2 ^ v) := by rw [show am_i h a (130 % 64) = nI T from hT]; exact q_orb (by omega)
  refine And.intro hk (And.intro hk (And.intro hk (And.intro (ck_row r4 k2 rfl hv (by omega)) (And.intro trivial (hQ _ _ ?_)))))
  rw [e1, show am_r (am_pi h a (130 % 64) (nI (T ||| 2 ^ v))) a (132 % 64) = a + 2 from r4, q_cl (by omega)]
  refine HQ _ ((sm.rf.pi (by simp)).pi (by simp)) (fun k => ?_) (fun k => ?_)
  · rw [i_pi_ne (by omega), i_pi_same]
  · rw [i_pi_same, i_pi_ne (by omega)]
set_option maxHeartbeats 4000000 in
theorem c_endTerminal {xs : am_X} {d : Nat} {h : am_H} {a n T v : Nat} (hd : 1 ≤ d) (hg : gs h a) (hn : am_i h a 0 = nI n) (hn9 : n ≤ 9) (hT : am_i h a 2 = nI T) (hv : v < 9) {Q : am_Q}
    (HQ : ∀ h', sm [a, a + 2] h h' → (∀ k, am_i h' a k = if k = 2 then nI (andn T (2 ^ v)) else am_i h a k) → (∀ k, k < n → am_i h' (a + 2) k = if am_i h (a + 2) k = nI v then -nI 1 else am_i h (a + 2) k) → Q (.inl none) h') : am_C xs am_P0 d m_Gr_endTerminal [.ref a, .int (nI v)] h Q := by
  obtain ⟨hk, ⟨k1, k2, k3, k4, k5, k6⟩, r3, r4, r5, r6, r7, r8⟩ := hg
  refine am_C_le hd (am_enter (d := 0) ap_Gr_endTerminal rfl ?_) (fun _ _ k => k)
  refine am_go (fun p => p == 16) (fun K cal Q' hK hC hQ => ?_)
  have e1 : am_i h a (130 % 64) &&& ((nI 1 <<< (nI v &&& 31)) ^^^ -nI 1) = nI (andn T (2 ^ v)) := by rw [show am_i h a (130 % 64) = nI T from hT, q_shl v (by omega)]; exact q_andn _ _
  refine And.intro hk (And.intro hk ?_)
  rw [e1]
  refine hK _ _ _ _ ?_
  have s0 : sm [a, a + 2] h (am_pi h a (130 % 64) (nI (andn T (2 ^ v)))) := sm.rf.pi (by simp)
  have h20 : ∀ k, am_i (am_pi h a (130 % 64) (nI (andn T (2 ^ v)))) (a + 2) k = am_i h (a + 2) k := fun k => by rw [i_pi_ne (by omega)]
  refine am_for n (fun i L h' => L = [.ref a, .int (nI v), .int (nI i)] ∧ sm [a, a + 2] h h' ∧ (∀ k, am_i h' a k = if k = 2 then nI (andn T (2 ^ v)) else am_i h a k) ∧ ∀ k, am_i h' (a + 2) k = if k < i ∧ am_i h (a + 2) k = nI v then -nI 1 else am_i h (a + 2) k) ?_ ?_ 0 (Nat.zero_le _) _ _ ⟨rfl, s0, fun k => by rw [i_pi_same], fun k => by rw [h20, if_neg fun q => absurd q.1 (Nat.not_lt_zero _)]⟩
  · rintro i hi9 L h' ⟨rfl, s, hA, hv9⟩ next
    have eI : am_inc (nI i) (Int.ofNat 1) = nI (i + 1) := nI_1 i
    rw [← eI] at next
    have r4' : am_r h' a 4 = a + 2 := (s.r a 4).trans r4
    have k2' := (s.k (a + 2)).trans k2
    have hk' := (s.k a).trans hk
    have hn' : am_i h' a 0 = nI n := by rw [hA, if_neg (by decide)]; exact hn
    have hcur : am_i h' (am_r h' a 4) (nI i).toNatClampNeg = am_i h (a + 2) i := by rw [r4', q_cl (by omega), hv9, if_neg fun q => absurd q.1 (Nat.lt_irrefl _)]
    refine am_go (fun p => p == 16) (fun K cal Q' hK hC hQ => ?_)
    refine And.intro hk' (And.intro (fun z => absurd z (q_ge hn' hi9 (by omega))) (fun _ => ?_))
    refine And.intro hk' (And.intro (ck_row r4' k2' rfl (by omega) (by omega)) ?_)
    refine And.intro (fun z => ?_) (fun z => ?_)
    · have z : ¬ am_i h (a + 2) i = nI v := fun q => z (hcur.trans q)
      refine hK _ _ _ _ (next _ _ ⟨rfl, s, hA, fun k => ?_⟩)
      rw [hv9]
      by_cases w : k = i
      · rw [w, if_neg fun q => z q.2, if_neg fun q => z q.2]
      · have : (k < i + 1) ↔ (k < i) := by omega
        simp only [this]
    · have z : am_i h (a + 2) i = nI v := hcur.symm.trans (Classical.not_not.mp z)
      refine And.intro hk' (And.intro (ck_row r4' k2' rfl (by omega) (by omega)) ?_)
      rw [show am_r h' a (132 % 64) = a + 2 from r4', q_cl (by omega)]
      refine hK _ _ _ _ (next _ _ ⟨rfl, s.pi (by simp), fun k => by rw [i_pi_ne (by omega)]; exact hA k, fun k => ?_⟩)
      rw [i_pi_same, hv9]
      by_cases w : k = i
      · rw [if_pos w, w, if_pos ⟨by omega, z⟩]
      · rw [if_neg w]
        have : (k < i + 1) ↔ (k < i) := by omega
        simp only [this]
  · rintro L h' ⟨rfl, s, hA, hv9⟩
    have hn' : am_i h' a 0 = nI n := by rw [hA, if_neg (by decide)]; exact hn
    refine am_go (fun p => p == 16) (fun K cal Q' hK hC hQ => ?_)
    refine And.intro ((s.k a).trans hk) (And.intro (fun _ => And.intro trivial (hQ _ _ (HQ _ s hA fun k z => ?_))) (fun z => absurd (q_le hn' (by omega)) z))
    rw [hv9]
    simp only [z, true_and]
set_option maxHeartbeats 4000000 in
theorem c_takeLabels {xs : am_X} {d : Nat} {h : am_H} {a n b : Nat} (hd : 1 ≤ d) (hg : gs h a) (hn : am_i h a 0 = nI n) (hn9 : n ≤ 9) (hb : am_k h b = (2, 9)) (hba : b ≠ a + 2) {Q : am_Q}
    (HQ : ∀ h', sm [a + 2] h h' → (∀ k, k < n → am_i h' (a + 2) k = am_i h b k) → Q (.inl none) h') : am_C xs am_P0 d m_Gr_takeLabels [.ref a, .ref b] h Q := by
  obtain ⟨hk, ⟨k1, k2, k3, k4, k5, k6⟩, r3, r4, r5, r6, r7, r8⟩ := hg
  refine am_C_le hd (am_enter (d := 0) ap_Gr_takeLabels rfl ?_) (fun _ _ k => k)
  refine am_go (fun p => p == 2) (fun K cal Q' hK hC hQ => hK _ _ _ _ ?_)
  have na : a ∉ [a + 2] := fun z => by have := List.mem_singleton.mp z; omega
  have nb : b ∉ [a + 2] := fun z => hba (List.mem_singleton.mp z)
  refine am_for n (fun i L h' => L = [.ref a, .ref b, .int (nI i)] ∧ sm [a + 2] h h' ∧ ∀ k, k < i → am_i h' (a + 2) k = am_i h b k) ?_ ?_ 0 (Nat.zero_le _) _ _ ⟨rfl, sm.rf, fun k z => absurd z (Nat.not_lt_zero _)⟩
  · rintro i hi9 L h' ⟨rfl, s, hv9⟩ next
    have eI : am_inc (nI i) (Int.ofNat 1) = nI (i + 1) := nI_1 i
    rw [← eI] at next
    have r4' : am_r h' a 4 = a + 2 := (s.r a 4).trans r4
    have k2' := (s.k (a + 2)).trans k2
    have hk' := (s.k a).trans hk
    have hb' := (s.k b).trans hb
    have hn' : am_i h' a 0 = nI n := (s.i na 0).trans hn
    refine am_go (fun p => p == 2) (fun K cal Q' hK hC hQ => ?_)
    refine And.intro hk' (And.intro (fun z => absurd z (q_ge hn' hi9 (by omega))) (fun _ => ?_))
    refine And.intro ⟨by rw [hb']; exact Nat.le_refl 2, by rw [hb']; exact (by decide : 2 ≤ 6)⟩ (And.intro (fun z => absurd z ?_) (fun _ => ?_))
    · show ¬ nI (am_k h' b).2 ≤ nI i
      rw [hb']
      exact nI_ge (show i < 9 by omega) (by omega)
    · refine And.intro hk' (And.intro (ck_arr hb' rfl (by omega) (by omega)) (And.intro (ck_row r4' k2' rfl (by omega) (by omega)) ?_))
      rw [show am_r h' a (132 % 64) = a + 2 from r4', q_cl (by omega), s.i nb]
      refine hK _ _ _ _ (next _ _ ⟨rfl, s.pi (by simp), fun k z => ?_⟩)
      rw [i_pi_same]
      by_cases w : k = i
      · rw [if_pos w, w]
      · rw [if_neg w]; exact hv9 k (by omega)
  · rintro L h' ⟨rfl, s, hv9⟩
    have hn' : am_i h' a 0 = nI n := (s.i na 0).trans hn
    refine am_go (fun p => p == 2) (fun K cal Q' hK hC hQ => ?_)
    exact And.intro ((s.k a).trans hk) (And.intro (fun _ => And.intro trivial (hQ _ _ (HQ _ s hv9))) (fun z => absurd (q_le hn' (by omega)) z))

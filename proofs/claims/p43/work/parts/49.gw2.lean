set_option maxHeartbeats 4000000 in
theorem c_takeLabels {xs : am_X} {d : Nat} {h : am_H} {a n b : Nat} (hd : 1 ≤ d) (hg : gs h a) (hn : am_i h a 0 = nI n) (hn9 : n ≤ 9) (hb : am_k h b = (2, 9)) (hba : b ≠ a + 2) {Q : am_Q}
    (HQ : ∀ h', sm [a + 2] h h' → (∀ k, k < n → am_i h' (a + 2) k = am_i h b k) → Q (.inl none) h') : am_C xs am_P0 d m_Gr_takeLabels [.ref a, .ref b] h Q := by
  obtain ⟨hk, ⟨k1, k2, k3, k4, k5, k6⟩, r3, r4, r5, r6, r7, r8⟩ := hg
  refine am_C_le hd (am_enter (d := 0) ap_Gr_takeLabels rfl ?_) (fun _ _ k => k)
  refine am_go (fun p => p == 2) (fun K cal Q' hK hC hQ => hK _ _ _ _ ?_)
  have na : a ∉ [a + 2] := fun z => by have := List.mem_singleton.mp z; omega
  have nb : b ∉ [a + 2] := fun z => hba (List.mem_singleton.mp z)
  refine am_for n (fun i L h' => L = [.ref a, .ref b, .int (nI i)] ∧ sm [a + 2] h h' ∧ ∀ k, k < i → am_i h' (a + 2) k = am_i h b k) ?_ ?_ 0 (Nat.zero_le _) _ _ ⟨rfl, sm.rf, fun k z => absurd z (Nat.not_lt_zero _)⟩
  · rintro i hi9 L h' ⟨rfl, s, hv9⟩ next
    have eI : am_inc (nI i) (Int.ofNat 1) = nI (i + 1) := nI_1 i
    rw [← eI] at next
    have r4' : am_r h' a 4 = a + 2 := (s.r a 4).trans r4
    have k2' := (s.k (a + 2)).trans k2
    have hk' := (s.k a).trans hk
    have hb' := (s.k b).trans hb
    have hn' : am_i h' a 0 = nI n := (s.i na 0).trans hn
    refine am_go (fun p => p == 2) (fun K cal Q' hK hC hQ => ?_)
    refine And.intro hk' (And.intro (fun z => absurd z (q_ge hn' hi9 (by omega))) (fun _ => ?_))
    refine And.intro ⟨by rw [hb']; exact Nat.le_refl 2, by rw [hb']; exact (by decide : 2 ≤ 6)⟩ (And.intro (fun z => absurd z ?_) (fun _ => ?_))
    · show ¬ nI (am_k h' b).2 ≤ nI i
      rw [hb']
      exact nI_ge (show i < 9 by omega) (by omega)
    · refine And.intro hk' (And.intro (ck_arr hb' rfl (by omega) (by omega)) (And.intro (ck_row r4' k2' rfl (by omega) (by omega)) ?_))
      rw [show am_r h' a (132 % 64) = a + 2 from r4', q_cl (by omega), s.i nb]
      refine hK _ _ _ _ (next _ _ ⟨rfl, s.pi (by simp), fun k z => ?_⟩)
      rw [i_pi_same]
      by_cases w : k = i
      · rw [if_pos w, w]
      · rw [if_neg w]; exact hv9 k (by omega)
  · rintro L h' ⟨rfl, s, hv9⟩
    have hn' : am_i h' a 0 = nI n := (s.i na 0).trans hn
    refine am_go (fun p => p == 2) (fun K cal Q' hK hC hQ => ?_)
    exact And.intro ((s.k a).trans hk) (And.intro (fun _ => And.intro trivial (hQ _ _ (HQ _ s hv9))) (fun z => absurd (q_le hn' (by omega)) z))

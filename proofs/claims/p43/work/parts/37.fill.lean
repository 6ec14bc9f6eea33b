/-! FILL, LABELS BY SETS -/
theorem cg.mv {X : List Nat} {h h' : am_H} {a n m T : Nat} {lo hi : Nat → Nat} (hg : cg h a n m T lo hi) (s : sm X h h') (h0 : a ∉ X) (h3 : a + 3 ∉ X) (h4 : a + 4 ∉ X) : cg h' a n m T lo hi := by
  obtain ⟨g, ⟨a0, a1, a2⟩, he, hw⟩ := hg
  exact ⟨s.gx g, ⟨(s.i h0 _).trans a0, (s.i h0 _).trans a1, (s.i h0 _).trans a2⟩, fun e z => ⟨(s.i h3 _).trans (he e z).1, (s.i h4 _).trans (he e z).2⟩, hw⟩
theorem cco.mv {X : List Nat} {h h' : am_H} {a m : Nat} {co : Nat → Nat} (hc : cco h a m co) (s : sm X h h') (h6 : a + 6 ∉ X) : cco h' a m co := fun e z => ⟨(s.i h6 _).trans (hc e z).1, (hc e z).2⟩
theorem i_pi_at {h : am_H} {a k : Nat} {v : Int32} : am_i (am_pi h a k v) a k = v := by rw [i_pi_same, if_pos rfl]
theorem i_pi_k {h : am_H} {a k j : Nat} {v : Int32} (hj : j ≠ k) : am_i (am_pi h a k v) a j = am_i h a j := by rw [i_pi_same, if_neg hj]
set_option maxHeartbeats 4000000 in
theorem c_fill {xs : am_X} {d : Nat} {h : am_H} {b N : Nat} (hd : 1 ≤ d) (hk : am_k h b = (2, N)) (hN : N < 1000) (v : Int32) {Q : am_Q} (HQ : ∀ h', sm [b] h h' → (∀ k, k < N → am_i h' b k = v) → Q (.inl none) h') : am_C xs am_P0 d m_JA_fill [.ref b, .int v] h Q := by
  refine am_C_le hd (am_enter (d := 0) ap_JA_fill rfl ?_) (fun _ _ k => k)
  refine am_go (fun p => p == 5) (fun K cal Q' hK hC hQ => ?_)
  refine And.intro ⟨by rw [hk]; exact Nat.le_refl 2, by rw [hk]; exact (by decide : 2 ≤ 6)⟩ ?_
  have e1 : nI (am_k h b).2 = nI N := by rw [hk]
  refine hK _ _ _ _ ?_
  refine am_for N (fun i L h' => L = [.ref b, .int v, .int (nI i), .int (nI N)] ∧ sm [b] h h' ∧ ∀ k, k < i → am_i h' b k = v) ?_ ?_ 0 (Nat.zero_le _) _ _ ⟨by rw [← e1]; rfl, sm.rf, fun k z => absurd z (Nat.not_lt_zero _)⟩
  · rintro i hi9 L h' ⟨rfl, s, hv⟩ next
    have eI : am_inc (nI i) (Int.ofNat 1) = nI (i + 1) := nI_1 i
    rw [← eI] at next
    refine am_go (fun p => p == 5) (fun K cal Q' hK hC hQ => ?_)
    refine And.intro (fun z => absurd z (q_ge rfl hi9 (by omega))) (fun _ => ?_)
    refine And.intro (ck_arr ((s.k b).trans hk) rfl hi9 (by omega)) ?_
    refine hK _ _ _ _ (next _ _ ⟨rfl, s.pi (List.mem_singleton.mpr rfl), fun k z => ?_⟩)
    rw [q_cl (by omega), i_pi_same]
    by_cases q : k = i
    · rw [if_pos q]
    · rw [if_neg q]; exact hv k (by omega)
  · rintro L h' ⟨rfl, s, hv⟩
    refine am_go (fun p => p == 5) (fun K cal Q' hK hC hQ => ?_)
    exact And.intro (fun _ => And.intro trivial (hQ _ _ (HQ _ s hv))) (fun z => absurd (q_le rfl (by omega)) z)
/-- labels by the isolating sets of the terminals other than o, the later over the earlier -/
def lun (T : Nat) (S : Nat → Nat) (o : Option Nat) : Nat → Nat → Int32
  | 0, _ => oI o
  | t + 1, v => if T.testBit t = true ∧ o ≠ some t ∧ (S t).testBit v = true then nI t else lun T S o t v

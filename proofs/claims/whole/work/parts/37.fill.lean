/-! FILL, LABELS BY SETS -/
theorem cg.mv {X : List Nat} {h h' : am_H} {a n m T : Nat} {lo hi : Nat → Nat} (hg : cg h a n m T lo hi) (s : sm X h h') (h0 : a ∉ X) (h3 : a + 3 ∉ X) (h4 : a + 4 ∉ X) : cg h' a n m T lo hi := by
  obtain ⟨g, ⟨a0, a1, a2⟩, he, hw⟩ := hg
  exact ⟨s.gx g, ⟨(s.i h0 _).trans a0, (s.i h0 _).trans a1, (s.i h0 _).trans a2⟩, fun e z => ⟨(s.i h3 _).trans (he e z).1, (s.i h4 _).trans (he e z).2⟩, hw⟩
theorem cco.mv {X : List Nat} {h h' : am_H} {a m : Nat} {co : Nat → Nat} (hc : cco h a m co) (s : sm X h h') (h6 : a + 6 ∉ X) : cco h' a m co := fun e z => ⟨(s.i h6 _).trans (hc e z).1, (hc e z).2⟩
theorem i_pi_at {h : am_H} {a k : Nat} {v : Int32} : am_i (am_pi h a k v) a k = v := by rw [i_pi_same, if_pos rfl]
theorem i_pi_k {h : am_H} {a k j : Nat} {v : Int32} (hj : j ≠ k) : am_i (am_pi h a k v) a j = am_i h a j := by rw [i_pi_same, if_neg hj]
set_option maxHeartbeats 4000000 in
theorem c_fill {xs : am_X} {d : Nat} {h : am_H} {b N : Nat} (hd : 1 ≤ d) (hk : am_k h b = (2, N)) (hN : N < 1000) (v : Int32) {Q : am_Q} (HQ : ∀ h', sm [b] h h' → (∀ k, k < N → am_i h' b k = v) → Q (.inl none) h') : am_C xs am_P0 d m_JA_fill [.ref b, .int v] h Q := by
  refine am_C_le hd (am_enter (d := 0) ap_JA_fill rfl ?_) (fun _ _ k => k)
  refine am_go (fun p => p == 5) (fun K cal Q' hK hC hQ => ?_)
  refine And.intro ⟨by rw [hk]; exact Nat.le_refl 2, by rw [hk]; exact (by decide : 2 ≤ 6)⟩ ?_
  have e1 : nI (am_k h b).2 = nI N := by rw [hk]
  refine hK _ _ _ _ ?_
  refine am_for N (fun i L h' => L = [.ref b, .int v, .int (nI i), .int (nI N)] ∧ sm [b] h h' ∧ ∀ k, k < i → am_i h' b k = v) ?_ ?_ 0 (Nat.zero_le _) _ _ ⟨by rw [← e1]; rfl, sm.rf, fun k z => absurd z (Nat.not_lt_zero _)⟩
  · rintro i hi9 L h' ⟨rfl, s, hv⟩ next
    have eI : am_inc (nI i) (Int.ofNat 1) = nI (i + 1) := nI_1 i
    rw [← eI] at next
    refine am_go (fun p => p == 5) (fun K cal Q' hK hC hQ => ?_)
    refine And.intro (fun z => absurd z (q_ge rfl hi9 (by omega))) (fun _ => ?_)
    refine And.intro (ck_arr ((s.k b).trans hk) rfl hi9 (by omega)) ?_
    refine hK _ _ _ _ (next _ _ ⟨rfl, s.pi (List.mem_singleton.mpr rfl), fun k z => ?_⟩)
    rw [q_cl (by omega), i_pi_same]
    by_cases q : k = i
    · rw [if_pos q]
    · rw [if_neg q]; exact hv k (by omega)
  · rintro L h' ⟨rfl, s, hv⟩
    refine am_go (fun p => p == 5) (fun K cal Q' hK hC hQ => ?_)
    exact And.intro (fun _ => And.intro trivial (hQ _ _ (HQ _ s hv))) (fun z => absurd (q_le rfl (by omega)) z)
set_option maxHeartbeats 4000000 in
theorem c_labelSet {xs : am_X} {d : Nat} {h : am_H} {a n m T : Nat} {lo hi : Nat → Nat} (hd : 1 ≤ d) (hg : cg h a n m T lo hi) {S : Nat} (hS : S < 2 ^ 31) (t : Int32) {Q : am_Q} (HQ : ∀ h', sm [a + 2] h h' → (∀ k, k < n → am_i h' (a + 2) k = if S.testBit k then t else am_i h (a + 2) k) → Q (.inl none) h') : am_C xs am_P0 d m_Cu_labelSet [.ref a, .int (nI S), .int t] h Q := by
  have hg0 := hg
  obtain ⟨⟨hk, ⟨k1, k2, k3, k4, k5, k6⟩, r3, r4, r5, r6, r7, r8⟩, ⟨h0, h1, h2⟩, he, ⟨hn, hm, hT⟩, hw⟩ := hg
  refine am_C_le hd (am_enter (d := 0) ap_Cu_labelSet rfl ?_) (fun _ _ k => k)
  refine am_go (fun p => p == 2) (fun K cal Q' hK hC hQ => hK _ _ _ _ ?_)
  have na : a ∉ [a + 2] := fun z => by have := List.mem_singleton.mp z; omega
  refine am_for n (fun i L h' => L = [.ref a, .int (nI S), .int t, .int (nI i)] ∧ sm [a + 2] h h' ∧ ∀ k, k < n → am_i h' (a + 2) k = if k < i ∧ S.testBit k = true then t else am_i h (a + 2) k) ?_ ?_ 0 (Nat.zero_le _) _ _ ⟨rfl, sm.rf, fun k z => by rw [if_neg (fun q => absurd q.1 (Nat.not_lt_zero _))]⟩
  · rintro i hi9 L h' ⟨rfl, s, hv⟩ next
    have eI : am_inc (nI i) (Int.ofNat 1) = nI (i + 1) := nI_1 i
    rw [← eI] at next
    refine am_go (fun p => p == 2) (fun K cal Q' hK hC hQ => ?_)
    refine And.intro ((s.k a).trans hk) (And.intro (fun z => absurd z (q_ge ((s.i na 0).trans h0) hi9 (by omega))) (fun _ => ?_))
    have eA : (nI S >>> (nI i &&& 31)) &&& nI 1 = bI (S.testBit i) := q_bit hS (by omega)
    refine And.intro (fun z => ?_) (fun z => ?_)
    · have z := (bI_0 _).mp (eA.symm.trans z)
      refine hK _ _ _ _ (next _ _ ⟨rfl, s, fun k q => ?_⟩)
      rw [hv k q]
      by_cases w : k = i
      · subst w; rw [z, if_neg (by simp), if_neg (by simp)]
      · have : (k < i + 1) ↔ (k < i) := by omega
        simp only [this]
    · have z : S.testBit i = true := by
        cases e : S.testBit i with
        | true => rfl
        | false => rw [e] at eA; exact absurd eA z
      refine And.intro ((s.k a).trans hk) (And.intro (ck_row ((s.r a 4).trans r4) ((s.k _).trans k2) rfl (by omega) (by omega)) ?_)
      refine hK _ _ _ _ (next _ _ ⟨rfl, ?_, fun k q => ?_⟩)
      · rw [show am_r h' a (132 % 64) = a + 2 from (s.r a 4).trans r4]
        exact s.pi (List.mem_singleton.mpr rfl)
      · rw [show am_r h' a (132 % 64) = a + 2 from (s.r a 4).trans r4, q_cl (by omega), i_pi_same]
        by_cases w : k = i
        · rw [if_pos w, if_pos ⟨by omega, by rw [w]; exact z⟩]
        · rw [if_neg w, hv k q]
          have : (k < i + 1) ↔ (k < i) := by omega
          simp only [this]
  · rintro L h' ⟨rfl, s, hv⟩
    refine am_go (fun p => p == 2) (fun K cal Q' hK hC hQ => ?_)
    refine And.intro ((s.k a).trans hk) (And.intro (fun _ => And.intro trivial (hQ _ _ (HQ _ s fun k q => ?_))) (fun z => absurd (q_le ((s.i na 0).trans h0) (by omega)) z))
    rw [hv k q]
    simp only [q, true_and]
/-- labels by the isolating sets of the terminals other than o, the later over the earlier -/
def lun (T : Nat) (S : Nat → Nat) (o : Option Nat) : Nat → Nat → Int32
  | 0, _ => oI o
  | t + 1, v => if T.testBit t = true ∧ o ≠ some t ∧ (S t).testBit v = true then nI t else lun T S o t v
set_option maxHeartbeats 4000000 in
theorem c_labelByUnion {xs : am_X} {d : Nat} {h : am_H} {a n m T : Nat} {lo hi co : Nat → Nat} (hd : 7 ≤ d) (hg : cg h a n m T lo hi) (hc : cco h a m co) {Q : am_Q} (HQ : ∀ h', sm [a + 2] h h' → (∀ k, k < n → am_i h' (a + 2) k = lun T (iso n (cutc m lo hi co) T) (dea (isv n m T lo hi co) T n) n k) → Q (.inl none) h') : am_C xs am_P0 d m_Cu_labelByUnion [.ref a] h Q := by
  have hg0 := hg
  obtain ⟨⟨hk, ⟨k1, k2, k3, k4, k5, k6⟩, r3, r4, r5, r6, r7, r8⟩, ⟨h0, h1, h2⟩, he, ⟨hn, hm, hT⟩, hw⟩ := hg
  have na : ∀ j, j ≠ 2 → a + j ∉ [a + 2] := fun j hj z => by have := List.mem_singleton.mp z; omega
  refine am_C_le hd (am_enter (d := 6) ap_Cu_labelByUnion rfl ?_) (fun _ _ k => k)
  refine am_go (fun p => p == 15) (fun K cal Q' hK hC hQ => ?_)
  refine And.intro trivial (hC _ _ _ _ (c_dearestOf (by decide) hg0 hc ?_))
  generalize ho : dea (isv n m T lo hi co) T n = o at HQ
  have hob : ∀ b, o = some b → b < 1000 := fun b e => by have := (dea_lt (ho.trans e)).1; omega
  refine And.intro hk ?_
  refine And.intro trivial ?_
  show cal 217 [.ref (am_r h a 4), .int (oI o)] h _
  rw [r4]
  refine hC _ _ _ _ (c_fill (by decide) k2 (by omega) _ (fun h1' s1 hv1 => hK _ _ _ _ ?_))
  refine am_for n (fun i L h' => L = [.ref a, .int (oI o), .int (nI i)] ∧ sm [a + 2] h h' ∧ ∀ k, k < n → am_i h' (a + 2) k = lun T (iso n (cutc m lo hi co) T) o i k) ?_ ?_ 0 (Nat.zero_le _) _ _ ⟨rfl, s1, fun k z => hv1 k (by omega)⟩
  · rintro i hi9 L h' ⟨rfl, s, hv⟩ next
    have eI : am_inc (nI i) (Int.ofNat 1) = nI (i + 1) := nI_1 i
    rw [← eI] at next
    have hg' := hg0.mv s (na 0 (by decide)) (na 3 (by decide)) (na 4 (by decide))
    have hc' := hc.mv s (na 6 (by decide))
    refine am_go (fun p => p == 15) (fun K cal Q' hK hC hQ => ?_)
    refine And.intro ((s.k a).trans hk) (And.intro (fun z => absurd z (q_ge ((s.i (na 0 (by decide)) 0).trans h0) hi9 (by omega))) (fun _ => ?_))
    refine And.intro ((s.k a).trans hk) (hC _ _ _ _ (c_isTerminal (by decide) hg' _ ?_))
    rw [isT_nI hi9 (by omega)]
    cases hTi : T.testBit i with
    | false =>
      refine And.intro (fun z => ?_) (fun z => absurd rfl z)
      refine hK _ _ _ _ (next _ _ ⟨rfl, s, fun k q => ?_⟩)
      rw [hv k q, lun, if_neg (fun w => by rw [hTi] at w; cases w.1)]
    | true =>
      refine And.intro (fun z => absurd z q_t1) (fun _ => ?_)
      refine And.intro (fun z => ?_) (fun z => ?_)
      · have z := (oI_eq (by omega) hob).mp z
        refine hK _ _ _ _ (next _ _ ⟨rfl, s, fun k q => ?_⟩)
        rw [hv k q, lun, if_neg (fun w => w.2.1 z)]
      · have z : o ≠ some i := fun q => z ((oI_eq (by omega) hob).mpr q)
        refine And.intro trivial (hC _ _ _ _ (c_setOf (by decide) hg' hc' hi9 hTi ?_))
        refine And.intro trivial (hC _ _ _ _ (c_labelSet (by decide) hg' (Nat.lt_trans (iso_lt hi9) (pow_le31 (by omega))) _ (fun h2' s2 hv2 => ?_)))
        refine hK _ _ _ _ (next _ _ ⟨rfl, s.tr s2, fun k q => ?_⟩)
        rw [hv2 k q, lun, hv k q]
        simp only [hTi, z, true_and, ne_eq, not_false_eq_true]
  · rintro L h' ⟨rfl, s, hv⟩
    refine am_go (fun p => p == 15) (fun K cal Q' hK hC hQ => ?_)
    exact And.intro ((s.k a).trans hk) (And.intro (fun _ => And.intro trivial (hQ _ _ (HQ _ s hv))) (fun z => absurd (q_le ((s.i (na 0 (by decide)) 0).trans h0) (by omega)) z))

/-! ROUNDS, on the machine -/
set_option maxHeartbeats 4000000 in
theorem c_grouped {xs : am_X} {d : Nat} {h : am_H} (hd : 1 ≤ d) (hs : sh h) {G : Nat → Nat} (hG : ∀ v, v < 9 → am_i h 79 v = nI (G v)) {Q : am_Q} (HQ : Q (.inl (some (.int (nI (orF G 9))))) h) : am_C xs am_P0 d m_Gp_grouped [.ref 78] h Q := by
  refine am_C_le hd (am_enter (d := 0) ap_Gp_grouped rfl ?_) (fun _ _ k => k)
  refine am_go (fun p => p == 4) (fun K cal Q' hK hC hQ => hK _ _ _ _ ?_)
  refine am_for 9 (fun i L h' => h' = h ∧ L = [.ref 78, .int (nI (orF G i)), .int (nI i)]) ?_ ?_ 0 (Nat.zero_le _) _ _ ⟨rfl, rfl⟩
  · rintro i hi9 L h' ⟨rfl, rfl⟩ next
    refine am_go (fun p => p == 4) (fun K cal Q' hK hC hQ => ?_)
    refine And.intro (fun z => absurd z (q_ge rfl hi9 (by omega))) (fun _ => ?_)
    refine And.intro (sk_78 hs) (And.intro (ck_row (sr_78_1 hs) (sk_79 hs) rfl hi9 (by omega)) ?_)
    have e1 : am_i h' (am_r h' 78 1) (nI i).toNatClampNeg = nI (G i) := by rw [sr_78_1 hs, q_cl (by omega), hG i hi9]
    exact hK _ _ _ _ (next _ _ ⟨rfl, by rw [orF, ← fa_or, ← e1, ← nI_1 i]; rfl⟩)
  · rintro L h' ⟨rfl, rfl⟩
    refine am_go (fun p => p == 4) (fun K cal Q' hK hC hQ => ?_)
    exact And.intro (fun _ => And.intro trivial (hQ _ _ HQ)) (fun z => absurd (q_le rfl (by omega)) z)
set_option maxHeartbeats 4000000 in
theorem c_ownerOf {xs : am_X} {d : Nat} {h : am_H} (hd : 1 ≤ d) (hs : sh h) {G : Nat → Nat} (hG : ∀ v, v < 9 → am_i h 79 v = nI (G v)) (hGl : ∀ v, G v < 2 ^ 31) {v : Nat} (hv : v < 9) {Q : am_Q} (HQ : Q (.inl (some (.int (oI (fnd (fun t => (G t).testBit v) 9))))) h) : am_C xs am_P0 d m_Gp_ownerOf [.ref 78, .int (nI v)] h Q := by
  refine am_C_le hd (am_enter (d := 0) ap_Gp_ownerOf rfl ?_) (fun _ _ k => k)
  refine am_go (fun p => p == 2) (fun K cal Q' hK hC hQ => hK _ _ _ _ ?_)
  refine am_for 9 (fun i L h' => h' = h ∧ L = [.ref 78, .int (nI v), .int (nI i)] ∧ ∀ k, k < i → (G k).testBit v = false) ?_ ?_ 0 (Nat.zero_le _) _ _ ⟨rfl, rfl, fun k z => absurd z (Nat.not_lt_zero _)⟩
  · rintro i hi9 L h' ⟨rfl, rfl, hno⟩ next
    refine am_go (fun p => p == 2) (fun K cal Q' hK hC hQ => ?_)
    refine And.intro (fun z => absurd z (q_ge rfl hi9 (by omega))) (fun _ => ?_)
    refine And.intro (sk_78 hs) (And.intro (ck_row (sr_78_1 hs) (sk_79 hs) rfl hi9 (by omega)) ?_)
    have e1 : (am_i h' (am_r h' 78 1) (nI i).toNatClampNeg >>> (nI v &&& 31)) &&& nI 1 = bI ((G i).testBit v) := by rw [sr_78_1 hs, q_cl (by omega), hG i hi9]; exact q_bit (hGl i) (by omega)
    refine And.intro (fun z => ?_) (fun z => ?_)
    · have z := (bI_0 _).mp (e1.symm.trans z)
      refine hK _ _ _ _ (next _ _ ⟨rfl, by rw [← nI_1 i]; rfl, fun k q => ?_⟩)
      by_cases w : k = i
      · rw [w]; exact z
      · exact hno k (by omega)
    · have z : (G i).testBit v = true := by
        cases e : (G i).testBit v with
        | true => rfl
        | false => rw [e] at e1; exact absurd e1 z
      refine And.intro trivial (hQ _ _ ?_)
      rw [fnd_hit (p := fun t => (G t).testBit v) hno z hi9] at HQ
      exact HQ
  · rintro L h' ⟨rfl, rfl, hno⟩
    refine am_go (fun p => p == 2) (fun K cal Q' hK hC hQ => ?_)
    refine And.intro (fun _ => And.intro trivial (hQ _ _ ?_)) (fun z => absurd (q_le rfl (by omega)) z)
    rw [fnd_no (p := fun t => (G t).testBit v) hno] at HQ
    exact HQ
theorem bool_ne_t {b : Bool} (h : ¬ b = true) : b = false := by cases b; rfl; exact absurd rfl h
set_option maxHeartbeats 4000000 in
theorem c_makeRound {xs : am_X} {d : Nat} {h : am_H} {n m T : Nat} {lo hi co : Nat → Nat} (hd : 4 ≤ d) (hs : sh h) (hg : cg h 3 n m T lo hi) (hc : cco h 3 m co) {G : Nat → Nat} (hGI : GI n T G) (hG : ∀ v, v < 9 → am_i h 79 v = nI (G v)) {Q : am_Q}
    (HQ : ∀ h' b, sm [79] h h' → (∀ v, v < 9 → am_i h' 79 v = nI (gro n T (cutc m lo hi co) G n v)) → (b = true ↔ ∃ t, t < n ∧ gro n T (cutc m lo hi co) G n t ≠ G t) → Q (.inl (some (.int (bI b)))) h') : am_C xs am_P0 d m_Gp_makeRound [.ref 78, .ref 3] h Q := by
  obtain ⟨⟨hk, -⟩, ⟨h0, h1, h2⟩, he, ⟨hn, hm, hT⟩, hw⟩ := id hg
  refine am_C_le hd (am_enter (d := 3) ap_Gp_makeRound rfl ?_) (fun _ _ k => k)
  refine am_go (fun p => p == 4) (fun K cal Q' hK hC hQ => hK _ _ _ _ ?_)
  generalize hcc : cutc m lo hi co = c at HQ
  -- what a place holds before and behind its own turn
  have old : ∀ k t, k ≤ t → gro n T c G k t = G t := by
    intro k
    induction k with
    | zero => intro t _; rfl
    | succ k ih => intro t ht; show gst n T c k (gro n T c G k) t = _; unfold gst; rw [if_neg fun q => by omega]; exact ih t (by omega)
  have new : ∀ k j t, t < k → gro n T c G (k + j) t = gro n T c G k t := by
    intro k j
    induction j with
    | zero => intro t _; rfl
    | succ j ih => intro t ht; show gst n T c (k + j) (gro n T c G (k + j)) t = _; unfold gst; rw [if_neg fun q => by omega]; exact ih t ht
  refine am_for n (fun i L h' => ∃ b v4 v5, L = [.ref 78, .ref 3, .int (bI b), .int (nI i), v4, v5] ∧ sm [79] h h' ∧ (∀ v, v < 9 → am_i h' 79 v = nI (gro n T c G i v)) ∧ (b = true ↔ ∃ t, t < i ∧ gro n T c G i t ≠ G t)) ?_ ?_ 0 (Nat.zero_le _) _ _ ⟨false, am_J, am_J, rfl, sm.rf, hG, fun z => absurd z (by decide), fun ⟨t, z, _⟩ => absurd z (Nat.not_lt_zero _)⟩
  · rintro i hi9 L h' ⟨b, v4, v5, rfl, s, hv, hb⟩ next
    have hs' := s.sh hs
    have hg' := hg.mv s (by decide) (by decide) (by decide)
    have hc' := hc.mv s (by decide)
    have hGi := (gro_GI (c := c) hT hGI i).1
    have eI : am_inc (nI i) (Int.ofNat 1) = nI (i + 1) := nI_1 i
    rw [← eI] at next
    refine am_go (fun p => p == 4) (fun K cal Q' hK hC hQ => ?_)
    refine And.intro hg'.1.1 (And.intro (fun z => absurd z (q_ge hg'.2.1.1 hi9 (by omega))) (fun _ => ?_))
    refine And.intro hg'.1.1 (hC _ _ _ _ (c_isTerminal (by decide) hg' _ ?_))
    rw [isT_nI hi9 (by omega)]
    cases hTi : T.testBit i with
    | false =>
      refine And.intro (fun z => absurd rfl z) (fun _ => ?_)
      have e9 : gro n T c G (i + 1) = gro n T c G i := by
        show gst n T c i (gro n T c G i) = _
        funext v
        unfold gst
        rw [if_neg fun q => by rw [hTi] at q; cases q.2]
      refine hK _ _ _ _ (next _ _ ⟨b, v4, v5, rfl, s, by rw [e9]; exact hv, ?_⟩)
      rw [e9, hb]
      refine ⟨fun ⟨t, z1, z2⟩ => ⟨t, by omega, z2⟩, fun ⟨t, z1, z2⟩ => ⟨t, Nat.lt_of_le_of_ne (by omega) fun q => ?_, z2⟩⟩
      rw [q] at z2
      exact z2 (old i i (Nat.le_refl _))
    | true =>
      refine And.intro (fun _ => ?_) (fun z => absurd q_t1 z)
      refine And.intro hg'.1.1 (hC _ _ _ _ (c_allVertices (by decide) hg'.1.1 hg'.2.1.1 hn ?_))
      refine And.intro (sk_78 hs') (hC _ _ _ _ (c_grouped (by decide) hs' hv ?_))
      refine And.intro (sk_78 hs') (And.intro (ck_row (sr_78_1 hs') (sk_79 hs') rfl (by omega) (by omega)) ?_)
      refine And.intro trivial ?_
      have e1 : am_i h' (am_r h' 78 1) (nI i).toNatClampNeg = nI (gro n T c G i i) := by rw [sr_78_1 hs', q_cl (by omega), hv i (by omega)]
      have e2 : nI (2 ^ n - 1) &&& (nI (orF (gro n T c G i) 9) ^^^ -nI 1) = nI (andn (2 ^ n - 1) (orF (gro n T c G i) 9)) := q_andn _ _
      show cal 2 [.ref 3, .int (am_i h' (am_r h' 78 1) (nI i).toNatClampNeg), .int (nI (2 ^ n - 1) &&& (nI (orF (gro n T c G i) 9) ^^^ -nI 1)), .int (bI true)] h' _
      rw [e1, e2]
      refine hC _ _ _ _ (c_cheapestSet (X := oth n T (gro n T c G i) i) (by decide) hg' hc' true (hGi.2.1 i) (fun j => ?_) (fun j z => ?_) ?_)
      · rw [andn_bit, q_all_bit, Bool.and_assoc]
        congr 1
        have e3 : (orF (gro n T c G i) 9).testBit j = true ↔ ((gro n T c G i i).testBit j = true ∨ (oth n T (gro n T c G i) i).testBit j = true) := by
          rw [orF_bit, oth_bit]
          constructor
          · rintro ⟨o, o1, o2⟩
            by_cases w : o = i
            · rw [w] at o2; exact Or.inl o2
            · have hTo : T.testBit o = true := by
                cases e : T.testBit o with
                | true => rfl
                | false => rw [hGi.1 o e, Nat.zero_testBit] at o2; cases o2
              exact Or.inr ⟨o, q_T_lt hT hTo, w, hTo, o2⟩
          · rintro (w | ⟨o, o1, o2, o3, o4⟩)
            · exact ⟨i, by omega, w⟩
            · exact ⟨o, by omega, o4⟩
        cases e4 : (orF (gro n T c G i) 9).testBit j <;> cases e5 : (gro n T c G i i).testBit j <;> cases e6 : (oth n T (gro n T c G i) i).testBit j <;> rw [e4, e5, e6] at e3 <;> (clear e4 e5 e6; revert e3; decide)
      · obtain ⟨o, o1, o2, o3, o4⟩ := (oth_bit _ _ _ _ _).mp z
        exact hGi.2.2 o i j o2 o4
      · have hlt := (hGi.new (c := c) i).1
        have hlt2 := hGi.2.1 i
        have hp := Nat.lt_of_lt_of_le hlt (pow_le9 hn)
        have hp2 := Nat.lt_of_lt_of_le hlt2 (pow_le9 hn)
        rw [hcc]
        have e9 : ∀ v, gro n T c G (i + 1) v = if v = i then bset n c true (gro n T c G i i) (oth n T (gro n T c G i) i) else gro n T c G i v := by
          intro v
          show gst n T c i (gro n T c G i) v = _
          unfold gst
          by_cases w : v = i
          · rw [if_pos ⟨w, hTi⟩, if_pos w]
          · rw [if_neg fun q => w q.1, if_neg w]
        have hB : am_i h' (am_r h' 78 1) (nI i).toNatClampNeg = nI (G i) := by rw [e1, old i i (Nat.le_refl _)]
        -- both ways come to the same end
        have fin : ∀ b', (b' = true ↔ (b = true ∨ bset n c true (gro n T c G i i) (oth n T (gro n T c G i) i) ≠ G i)) → ∀ L, L = [.ref 78, .ref 3, .int (bI b'), .int (am_inc (nI i) (Int.ofNat 1)), .int (nI (andn (2 ^ n - 1) (orF (gro n T c G i) 9))), .int (nI (bset n c true (gro n T c G i i) (oth n T (gro n T c G i) i)))] →
            am_W xs (am_code at_Gp_makeRound) (am_hd ah_Gp_makeRound) (am_C xs am_P0 3) Q 4 L [] (am_pi h' (am_r h' 78 1) (nI i).toNatClampNeg (nI (bset n c true (gro n T c G i i) (oth n T (gro n T c G i) i)))) := by
          intro b' hb' L hL
          rw [sr_78_1 hs', q_cl (by omega)]
          refine next _ _ ⟨b', _, _, hL, s.pi (by decide), fun v hv9 => ?_, ?_⟩
          · rw [i_pi_same, e9]
            by_cases w : v = i
            · rw [if_pos w, if_pos w]
            · rw [if_neg w, if_neg w]; exact hv v hv9
          · rw [hb', hb]
            constructor
            · rintro (⟨t, z1, z2⟩ | z)
              · exact ⟨t, by omega, by rw [e9, if_neg (by omega)]; exact z2⟩
              · exact ⟨i, by omega, by rw [e9, if_pos rfl]; exact z⟩
            · rintro ⟨t, z1, z2⟩
              rw [e9] at z2
              by_cases w : t = i
              · rw [if_pos w, w] at z2; exact Or.inr z2
              · rw [if_neg w] at z2; exact Or.inl ⟨t, by omega, z2⟩
        cases b with
        | true =>
          refine And.intro (fun _ => ?_) (fun z => absurd q_t1 z)
          refine And.intro (sk_78 hs') (And.intro (ck_row (sr_78_1 hs') (sk_79 hs') rfl (by omega) (by omega)) ?_)
          exact hK _ _ _ _ (fin true (by simp) _ rfl)
        | false =>
          refine And.intro (fun z => absurd rfl z) (fun _ => ?_)
          refine And.intro (sk_78 hs') (And.intro (ck_row (sr_78_1 hs') (sk_79 hs') rfl (by omega) (by omega)) ?_)
          refine And.intro (fun z => ?_) (fun z => ?_)
          · have z := (nI_eq (by omega) (by rw [old i i (Nat.le_refl _)] at hp2; omega)).mp (Eq.trans z hB)
            refine And.intro (sk_78 hs') (And.intro (ck_row (sr_78_1 hs') (sk_79 hs') rfl (by omega) (by omega)) ?_)
            exact hK _ _ _ _ (fin false (by simp [z]) _ rfl)
          · have z : ¬ bset n c true (gro n T c G i i) (oth n T (gro n T c G i) i) = G i := fun q => z (Eq.trans (congrArg nI q) hB.symm)
            refine And.intro (sk_78 hs') (And.intro (ck_row (sr_78_1 hs') (sk_79 hs') rfl (by omega) (by omega)) ?_)
            exact hK _ _ _ _ (fin true (by simp [z]) _ rfl)
  · rintro L h' ⟨b, v4, v5, rfl, s, hv, hb⟩
    have hg' := hg.mv s (by decide) (by decide) (by decide)
    refine am_go (fun p => p == 4) (fun K cal Q' hK hC hQ => ?_)
    exact And.intro hg'.1.1 (And.intro (fun _ => And.intro (bI_01 b) (hQ _ _ (HQ _ b s hv hb))) (fun z => absurd (q_le hg'.2.1.1 (by omega)) z))

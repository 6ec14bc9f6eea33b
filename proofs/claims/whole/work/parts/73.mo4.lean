/-! THE MODEL: the costs laid, the isolating sets laid, the dearest -/
section
variable {xs : am_X} {d : Nat} {h : am_H} {w : Nat} {g : gD} {Q : am_Q}
set_option maxHeartbeats 4000000 in
theorem w_laysCosts (hd : 3 ≤ d) (m : mg h w g) (HQ : ∀ h', sf [92, 93] [] h h' → mco h' g → Q (.inl none) h') : am_C xs am_P0 d m_Mo_laysCosts [.ref 87] h Q := by
  have hm := mg_m20 m
  refine am_C_le hd (am_enter (d := 2) ap_Mo_laysCosts rfl ?_) (fun _ _ k => k)
  refine am_go (fun p => p == 2) (fun K cal Q' hK hC hQ => hK _ _ _ _ ?_)
  refine am_for (gM g) (fun i L h' => L = [.ref 87, .int (nI i)] ∧ sf [92, 93] [] h h' ∧ ∀ e, e < i → am_i h' 93 e = nI (gCo g e)) ?_ ?_ 0 (Nat.zero_le _) _ _ ⟨rfl, sf_rf, fun e he => absurd he (Nat.not_lt_zero e)⟩
  · rintro i hi9 L h' ⟨rfl, s, hl⟩ next
    have m' := sf_mg s m rfl (by decide)
    refine am_go (fun p => p == 2) (fun K cal Q' hK hC hQ => ?_)
    refine And.intro (sk_87 m'.1.1) (hC _ _ _ _ (w_edges (by decide) m' ?_))
    refine And.intro (fun c => absurd c (nI_ge hi9 (by omega))) (fun _ => ?_)
    refine And.intro (sk_87 m'.1.1) (And.intro (sk_87 m'.1.1) (hC _ _ _ _ (w_costOf (by decide) m' hi9 fun h2 s2 => ?_)))
    have s2' := sf_tr s (sf_mo s2 (fun a ha => List.mem_cons.mpr (Or.inl (List.mem_singleton.mp ha))) (fun a ha => ha))
    have r1 : am_r h' 87 17 = 93 := sr_87_17 m'.1.1
    have k2 := sk_93 (sf_mg s2 m' rfl (by decide)).1.1
    refine And.intro (ck_row r1 k2 rfl (by omega) (by omega)) ?_
    have eI : am_inc (nI i) (Int.ofNat 1) = nI (i + 1) := nI_1 i
    rw [← eI] at next
    refine hK _ _ _ _ (next _ _ ⟨rfl, ?_, fun e he => ?_⟩)
    · rw [show am_r h' 87 (593 % 64) = 93 from r1]
      exact sf_pi s2' (by decide) (by decide)
    · rw [show am_r h' 87 (593 % 64) = 93 from r1, q_cl (by omega), i_pi_same]
      by_cases q : e = i
      · rw [if_pos q, q]
      · rw [if_neg q, s2.1.i (by decide) e]
        exact hl e (by omega)
  · rintro L h' ⟨rfl, s, hl⟩
    have m' := sf_mg s m rfl (by decide)
    refine am_go (fun p => p == 2) (fun K cal Q' hK hC hQ => ?_)
    refine And.intro (sk_87 m'.1.1) (hC _ _ _ _ (w_edges (by decide) m' ?_))
    exact And.intro (fun _ => And.intro trivial (hQ _ _ (HQ h' s hl))) (fun c => absurd (nI_le (Nat.le_refl _) (by omega)) c)
theorem gIS_isb {t : Nat} (ht : t < gN g) : isb (skey (gCC g) false) (cnd (gN g) (2 ^ t) (andn (gT g) (2 ^ t))) (gIS g t) := iso_isb ht
set_option maxHeartbeats 4000000 in
theorem w_isolating (hd : 5 ≤ d) (m : mg h w g) (hc : mco h g) {t : Nat} (ht : t < gN g) (HQ : ∀ h', sf [] [18] h h' → am_i h' 87 18 = nI (gIV g t) → Q (.inl (some (.int (nI (gIS g t))))) h') : am_C xs am_P0 d m_Mo_isolating [.ref 87, .int (nI t)] h Q := by
  have hn := mg_n9 m
  have hT := mg_T31 m
  refine am_C_le hd (am_enter (d := 4) ap_Mo_isolating rfl ?_) (fun _ _ k => k)
  refine am_go (fun _ => false) (fun K cal Q' hK hC hQ => ?_)
  refine And.intro (sk_87 m.1.1) (hC _ _ _ _ (w_get (by decide) m.1 (k := 2) rfl (by decide) m.2.1.2.2.1 ?_))
  have e1 : nI 1 <<< (nI t &&& 31) = nI (2 ^ t) := q_shl t (by omega)
  have e2 : nI (gT g) &&& ((nI 1 <<< (nI t &&& 31)) ^^^ -nI 1) = nI (andn (gT g) (2 ^ t)) := by rw [e1, q_andn]
  refine And.intro (sk_87 m.1.1) ?_
  show cal 157 [.ref 87, .int (nI 1 <<< (nI t &&& 31)), .int (nI (gT g) &&& ((nI 1 <<< (nI t &&& 31)) ^^^ -nI 1)), .int (nI 1)] h _
  rw [e2, e1]
  have h2 : (2 : Nat) ^ t < 2 ^ 31 := Nat.pow_lt_pow_right (by decide) (by omega)
  refine hC _ _ _ _ (w_bestSet (l := false) (by decide) m hc h2 (andn_lt _ hT) (iso_ex ht) fun b h' B s hv => ?_)
  have e := isb.one B (gIS_isb ht)
  subst e
  exact And.intro trivial (hQ _ _ (HQ h' s hv))
def mis (h : am_H) (g : gD) (i : Nat) : Prop := ∀ t, t < i → (gT g).testBit t = true → am_i h 95 t = nI (gIS g t) ∧ am_i h 94 t = nI (gIV g t)
set_option maxHeartbeats 4000000 in
theorem w_laysIsolating (hd : 6 ≤ d) (m : mg h w g) (HQ : ∀ h', sf [92, 93, 94, 95] [18] h h' → mco h' g → mis h' g (gN g) → Q (.inl none) h') : am_C xs am_P0 d m_Mo_laysIsolating [.ref 87] h Q := by
  have hn := mg_n9 m
  refine am_C_le hd (am_enter (d := 5) ap_Mo_laysIsolating rfl ?_) (fun _ _ k => k)
  refine am_go (fun p => p == 6) (fun K cal Q' hK hC hQ => ?_)
  refine And.intro (sk_87 m.1.1) (hC _ _ _ _ (w_laysCosts (by decide) m fun h1 s1 c1 => hK _ _ _ _ ?_))
  have s1' : sf [92, 93, 94, 95] [18] h h1 := sf_mo s1 (fun a ha => by simp at ha ⊢; omega) (fun a ha => absurd ha List.not_mem_nil)
  refine am_for (gN g) (fun i L h' => L = [.ref 87, .int (nI i)] ∧ sf [92, 93, 94, 95] [18] h h' ∧ mco h' g ∧ mis h' g i) ?_ ?_ 0 (Nat.zero_le _) _ _ ⟨rfl, s1', c1, fun e he => absurd he (Nat.not_lt_zero e)⟩
  · rintro i hi9 L h' ⟨rfl, s, hc, hl⟩ next
    have m' := sf_mg s m rfl (by decide)
    have eI : am_inc (nI i) (Int.ofNat 1) = nI (i + 1) := nI_1 i
    rw [← eI] at next
    refine am_go (fun p => p == 6) (fun K cal Q' hK hC hQ => ?_)
    refine And.intro (sk_87 m'.1.1) (hC _ _ _ _ (w_count (by decide) m' ?_))
    refine And.intro (fun c => absurd c (nI_ge hi9 (by omega))) (fun _ => ?_)
    refine And.intro (sk_87 m'.1.1) (hC _ _ _ _ (w_isTerm (by decide) m' (by omega) ?_))
    cases hTi : (gT g).testBit i with
    | false =>
      refine And.intro (fun z => absurd rfl z) (fun _ => ?_)
      refine hK _ _ _ _ (next _ _ ⟨rfl, s, hc, fun t ht hTt => hl t (Nat.lt_of_le_of_ne (by omega) fun q => ?_) hTt⟩)
      rw [q, hTi] at hTt
      cases hTt
    | true =>
      refine And.intro (fun _ => ?_) (fun z => absurd q_t1 z)
      refine And.intro (sk_87 m'.1.1) (And.intro (sk_87 m'.1.1) (hC _ _ _ _ (w_isolating (by decide) m' hc hi9 fun h2 s2 hv => ?_)))
      have s2' : sf [92, 93, 94, 95] [18] h h2 := sf_tr s (sf_mo s2 (fun a ha => absurd ha List.not_mem_nil) (fun a ha => ha))
      have m2 := sf_mg s2 m' rfl (by decide)
      have r1 : am_r h' 87 20 = 95 := sr_87_20 m'.1.1
      have r2 : am_r h2 87 19 = 94 := sr_87_19 m2.1.1
      refine And.intro (ck_row r1 (sk_95 m2.1.1) rfl (by omega) (by omega)) ?_
      refine And.intro (sk_87 m2.1.1) (And.intro (sk_87 m2.1.1) (And.intro (ck_row r2 (sk_94 m2.1.1) rfl (by omega) (by omega)) ?_))
      refine hK _ _ _ _ (next _ _ ⟨rfl, ?_, ?_, ?_⟩)
      · rw [show am_r h' 87 (596 % 64) = 95 from r1]
        show sf _ _ h (am_pi (am_pi h2 95 _ _) (am_r h2 87 19) _ _)
        rw [r2]
        exact sf_pi (sf_pi s2' (by decide) (by decide)) (by decide) (by decide)
      · rw [show am_r h' 87 (596 % 64) = 95 from r1]
        show mco (am_pi (am_pi h2 95 _ _) (am_r h2 87 19) _ _) g
        rw [r2]
        intro e he
        rw [i_pi_ne (by decide), i_pi_ne (by decide), s2.1.i (by decide) e]
        exact hc e he
      · rw [show am_r h' 87 (596 % 64) = 95 from r1]
        show mis (am_pi (am_pi h2 95 (nI i).toNatClampNeg _) (am_r h2 87 19) (nI i).toNatClampNeg (am_i (am_pi h2 95 (nI i).toNatClampNeg _) 87 18)) g (i + 1)
        rw [r2, q_cl (by omega), i_pi_ne (show (87 : Nat) ≠ 95 by decide), hv]
        intro t ht hTt
        rw [i_pi_ne (show (95 : Nat) ≠ 94 by decide), i_pi_same, i_pi_same]
        by_cases q : t = i
        · rw [if_pos q, if_pos q, q]; exact ⟨rfl, rfl⟩
        · rw [if_neg q, if_neg q, i_pi_ne (show (94 : Nat) ≠ 95 by decide), s2.1.i (by decide) t, s2.1.i (by decide) t]
          exact hl t (by omega) hTt
  · rintro L h' ⟨rfl, s, hc, hl⟩
    have m' := sf_mg s m rfl (by decide)
    refine am_go (fun p => p == 6) (fun K cal Q' hK hC hQ => ?_)
    refine And.intro (sk_87 m'.1.1) (hC _ _ _ _ (w_count (by decide) m' ?_))
    exact And.intro (fun _ => And.intro trivial (hQ _ _ (HQ h' s hc hl))) (fun c => absurd (nI_le (Nat.le_refl _) (by omega)) c)
theorem gIV_le (m : mg h w g) (t : Nat) : gIV g t ≤ 20 * 9999 := gCC_le m _
set_option maxHeartbeats 4000000 in
theorem w_dearestNow (hd : 3 ≤ d) (m : mg h w g) (hl : mis h g (gN g)) (HQ : Q (.inl (some (.int (oI (gDe g))))) h) : am_C xs am_P0 d m_Mo_dearestNow [.ref 87] h Q := by
  have hn := mg_n9 m
  refine am_C_le hd (am_enter (d := 2) ap_Mo_dearestNow rfl ?_) (fun _ _ k => k)
  refine am_go (fun p => p == 4) (fun K cal Q' hK hC hQ => hK _ _ _ _ ?_)
  refine am_for (gN g) (fun i L h' => h' = h ∧ L = [.ref 87, .int (oI (dea (gIV g) (gT g) i)), .int (nI i)]) ?_ ?_ 0 (Nat.zero_le _) _ _ ⟨rfl, rfl⟩
  · rintro i hi9 L h' ⟨rfl, rfl⟩ next
    have eI : am_inc (nI i) (Int.ofNat 1) = nI (i + 1) := nI_1 i
    rw [← eI] at next
    refine am_go (fun p => p == 4) (fun K cal Q' hK hC hQ => ?_)
    refine And.intro (sk_87 m.1.1) (hC _ _ _ _ (w_count (by decide) m ?_))
    refine And.intro (fun c => absurd c (nI_ge hi9 (by omega))) (fun _ => ?_)
    refine And.intro (sk_87 m.1.1) (hC _ _ _ _ (w_isTerm (by decide) m (by omega) ?_))
    have st : dea (gIV g) (gT g) (i + 1) = if (gT g).testBit i then (match dea (gIV g) (gT g) i with
      | none => some i
      | some b => if gIV g b < gIV g i then some i else some b) else dea (gIV g) (gT g) i := rfl
    cases hTi : (gT g).testBit i with
    | false =>
      rw [hTi] at st
      refine And.intro (fun _ => ?_) (fun z => absurd rfl z)
      exact hK _ _ _ _ (next _ _ ⟨rfl, by rw [st]; rfl⟩)
    | true =>
      rw [hTi, if_pos rfl] at st
      refine And.intro (fun z => absurd z q_t1) (fun _ => ?_)
      cases hde : dea (gIV g) (gT g) i with
      | none =>
        rw [hde] at st
        refine And.intro (fun _ => ?_) (fun z => absurd rfl z)
        exact hK _ _ _ _ (next _ _ ⟨rfl, by rw [st]; rfl⟩)
      | some b =>
        rw [hde] at st
        obtain ⟨hb, hTb⟩ := dea_lt hde
        refine And.intro (fun z => absurd z (nI_neg1 (by omega))) (fun _ => ?_)
        refine And.intro (sk_87 m.1.1) (And.intro (ck_row (sr_87_19 m.1.1) (sk_94 m.1.1) rfl (by omega) (by omega)) ?_)
        refine And.intro (sk_87 m.1.1) (And.intro (ck_row (sr_87_19 m.1.1) (sk_94 m.1.1) (e := b) rfl (by omega) (by omega)) ?_)
        have v1 : am_i h' (am_r h' 87 19) (nI i).toNatClampNeg = nI (gIV g i) := by rw [sr_87_19 m.1.1, q_cl (by omega)]; exact (hl i hi9 hTi).2
        have v2 : am_i h' (am_r h' 87 19) (nI b).toNatClampNeg = nI (gIV g b) := by rw [sr_87_19 m.1.1, q_cl (by omega)]; exact (hl b (by omega) hTb).2
        have l1 := gIV_le m i
        have l2 := gIV_le m b
        refine And.intro (fun z => ?_) (fun z => ?_)
        · have z : am_i h' (am_r h' 87 19) (nI i).toNatClampNeg ≤ am_i h' (am_r h' 87 19) (nI b).toNatClampNeg := z
          rw [v1, v2] at z
          have z := (nI_leI (by omega) (by omega)).mp z
          exact hK _ _ _ _ (next _ _ ⟨rfl, by rw [st]; simp only; rw [if_neg (by omega)]; rfl⟩)
        · have z : ¬ am_i h' (am_r h' 87 19) (nI i).toNatClampNeg ≤ am_i h' (am_r h' 87 19) (nI b).toNatClampNeg := z
          rw [v1, v2] at z
          have z := Nat.not_le.mp fun q => z ((nI_leI (by omega) (by omega)).mpr q)
          exact hK _ _ _ _ (next _ _ ⟨rfl, by rw [st]; simp only; rw [if_pos (by omega)]; rfl⟩)
  · rintro L h' ⟨rfl, rfl⟩
    refine am_go (fun p => p == 4) (fun K cal Q' hK hC hQ => ?_)
    refine And.intro (sk_87 m.1.1) (hC _ _ _ _ (w_count (by decide) m ?_))
    exact And.intro (fun _ => And.intro trivial (hQ _ _ HQ)) (fun c => absurd (nI_le (Nat.le_refl _) (by omega)) c)
end

/-! THE MODEL: rounds -/
theorem gro_hi {n T : Nat} {c : Nat → Nat} {G : Nat → Nat} : ∀ {i v : Nat}, i ≤ v → gro n T c G i v = G v
  | 0, _, _ => rfl
  | i + 1, v, h => by
    show (if v = i ∧ T.testBit i = true then _ else gro n T c G i v) = G v
    rw [if_neg fun z => by omega]
    exact gro_hi (by omega)
theorem gro_no {n T : Nat} {c : Nat → Nat} {G : Nat → Nat} {i : Nat} (h : T.testBit i = false) : gro n T c G (i + 1) = gro n T c G i := by
  funext v
  show (if v = i ∧ T.testBit i = true then _ else gro n T c G i v) = _
  rw [if_neg fun z => by rw [h] at z; cases z.2]
theorem gro_ne {n T : Nat} {c : Nat → Nat} {G : Nat → Nat} {i v : Nat} (h : v ≠ i) : gro n T c G (i + 1) v = gro n T c G i v := if_neg fun z => h z.1
theorem gro_at {n T : Nat} {c : Nat → Nat} {G : Nat → Nat} {i : Nat} (h : T.testBit i = true) : gro n T c G (i + 1) i = bset n c true (gro n T c G i i) (oth n T (gro n T c G i) i) := if_pos ⟨rfl, h⟩
section
variable {xs : am_X} {d : Nat} {h : am_H} {w : Nat} {g : gD} {Q : am_Q}
set_option maxHeartbeats 4000000 in
theorem w_othersOf (hd : 3 ≤ d) (m : mg h w g) {G : Nat → Nat} (hG : ∀ v, v < gN g → am_i h 96 v = nI (G v)) {t : Nat} (ht : t < 9) (HQ : Q (.inl (some (.int (nI (oth (gN g) (gT g) G t))))) h) : am_C xs am_P0 d m_Mo_othersOf [.ref 87, .int (nI t)] h Q := by
  have hn := mg_n9 m
  refine am_C_le hd (am_enter (d := 2) ap_Mo_othersOf rfl ?_) (fun _ _ k => k)
  refine am_go (fun p => p == 4) (fun K cal Q' hK hC hQ => hK _ _ _ _ ?_)
  refine am_for (gN g) (fun i L h' => h' = h ∧ L = [.ref 87, .int (nI t), .int (nI (oth i (gT g) G t)), .int (nI i)]) ?_ ?_ 0 (Nat.zero_le _) _ _ ⟨rfl, rfl⟩
  · rintro i hi9 L h' ⟨rfl, rfl⟩ next
    have eI : am_inc (nI i) (Int.ofNat 1) = nI (i + 1) := nI_1 i
    rw [← eI] at next
    have st : oth (i + 1) (gT g) G t = oth i (gT g) G t ||| (if i ≠ t ∧ (gT g).testBit i = true then G i else 0) := rfl
    refine am_go (fun p => p == 4) (fun K cal Q' hK hC hQ => ?_)
    refine And.intro (sk_87 m.1.1) (hC _ _ _ _ (w_count (by decide) m ?_))
    refine And.intro (fun c => absurd c (nI_ge hi9 (by omega))) (fun _ => ?_)
    refine And.intro (fun z => ?_) (fun z => ?_)
    · have z := (nI_eq (by omega) (by omega)).mp z
      rw [if_neg (by omega), Nat.or_zero] at st
      exact hK _ _ _ _ (next _ _ ⟨rfl, by rw [st]; rfl⟩)
    · have z : i ≠ t := fun q => z (by rw [q]; rfl)
      refine And.intro (sk_87 m.1.1) (hC _ _ _ _ (w_isTerm (by decide) m (by omega) ?_))
      cases hTi : (gT g).testBit i with
      | false =>
        rw [if_neg (by rw [hTi]; exact fun q => absurd q.2 (by decide)), Nat.or_zero] at st
        refine And.intro (fun _ => ?_) (fun z => absurd rfl z)
        exact hK _ _ _ _ (next _ _ ⟨rfl, by rw [st]; rfl⟩)
      | true =>
        rw [if_pos ⟨z, hTi⟩] at st
        refine And.intro (fun z => absurd z q_t1) (fun _ => ?_)
        refine And.intro (sk_87 m.1.1) (And.intro (ck_row (sr_87_21 m.1.1) (sk_96 m.1.1) rfl (by omega) (by omega)) ?_)
        have v1 : am_i h' (am_r h' 87 21) (nI i).toNatClampNeg = nI (G i) := by rw [sr_87_21 m.1.1, q_cl (by omega)]; exact hG i hi9
        exact hK _ _ _ _ (next _ _ ⟨rfl, by rw [st, ← fa_or, ← v1]; rfl⟩)
  · rintro L h' ⟨rfl, rfl⟩
    refine am_go (fun p => p == 4) (fun K cal Q' hK hC hQ => ?_)
    refine And.intro (sk_87 m.1.1) (hC _ _ _ _ (w_count (by decide) m ?_))
    exact And.intro (fun _ => And.intro trivial (hQ _ _ HQ)) (fun c => absurd (nI_le (Nat.le_refl _) (by omega)) c)
theorem oth_lt {n T : Nat} {G : Nat → Nat} {b : Nat} (hG : ∀ t, G t < 2 ^ b) (t : Nat) : oth n T G t < 2 ^ b := orF_lt (fun o => by
  split
  · exact hG o
  · exact Nat.two_pow_pos b) n
set_option maxHeartbeats 8000000 in
theorem w_goesRound (hd : 5 ≤ d) (m : mg h w g) (hc : mco h g) {G : Nat → Nat} (hGI : GI (gN g) (gT g) G) (hG : ∀ v, v < gN g → am_i h 96 v = nI (G v))
    (HQ : ∀ h' b, sf [96] [18] h h' → (∀ v, v < gN g → am_i h' 96 v = nI (gro (gN g) (gT g) (gCC g) G (gN g) v)) → (b = true ↔ ∃ t, t < gN g ∧ gro (gN g) (gT g) (gCC g) G (gN g) t ≠ G t) → Q (.inl (some (.int (bI b)))) h') : am_C xs am_P0 d m_Mo_goesRound [.ref 87] h Q := by
  have hn := mg_n9 m
  have p31 : (2 : Nat) ^ gN g < 2 ^ 31 := Nat.pow_lt_pow_right (by decide) (by omega)
  refine am_C_le hd (am_enter (d := 4) ap_Mo_goesRound rfl ?_) (fun _ _ k => k)
  refine am_go (fun p => p == 4) (fun K cal Q' hK hC hQ => hK _ _ _ _ ?_)
  refine am_for (gN g) (fun i L h' => ∃ b v3, L = [.ref 87, .int (bI b), .int (nI i), v3] ∧ sf [96] [18] h h' ∧ (∀ v, v < gN g → am_i h' 96 v = nI (gro (gN g) (gT g) (gCC g) G i v)) ∧ (b = true ↔ ∃ t, t < i ∧ gro (gN g) (gT g) (gCC g) G i t ≠ G t)) ?_ ?_ 0 (Nat.zero_le _) _ _ ⟨false, _, rfl, sf_rf, hG, fun z => absurd z (by decide), fun ⟨t, z, _⟩ => absurd z (Nat.not_lt_zero t)⟩
  · rintro i hi9 L h' ⟨b, v3, rfl, s, hv, hb⟩ next
    have m' := sf_mg s m rfl (by decide)
    have c' := sf_mco s hc (by decide)
    have eI : am_inc (nI i) (Int.ofNat 1) = nI (i + 1) := nI_1 i
    rw [← eI] at next
    refine am_go (fun p => p == 4) (fun K cal Q' hK hC hQ => ?_)
    refine And.intro (sk_87 m'.1.1) (hC _ _ _ _ (w_count (by decide) m' ?_))
    refine And.intro (fun c => absurd c (nI_ge hi9 (by omega))) (fun _ => ?_)
    refine And.intro (sk_87 m'.1.1) (hC _ _ _ _ (w_isTerm (by decide) m' (by omega) ?_))
    cases hTi : (gT g).testBit i with
    | false =>
      rw [gro_no hTi] at next
      refine And.intro (fun z => absurd rfl z) (fun _ => ?_)
      refine hK _ _ _ _ (next _ _ ⟨b, v3, rfl, s, hv, hb.trans ⟨fun ⟨t, t1, t2⟩ => ⟨t, by omega, t2⟩, fun ⟨t, t1, t2⟩ => ⟨t, Nat.lt_of_le_of_ne (by omega) fun q => ?_, t2⟩⟩⟩)
      subst q
      exact t2 (gro_hi (Nat.le_refl _))
    | true =>
      refine And.intro (fun _ => ?_) (fun z => absurd q_t1 z)
      have r96 : am_r h' 87 21 = 96 := sr_87_21 m'.1.1
      have k96 : am_arr h' (am_r h' 87 21) 2 (nI i) := ck_row r96 (sk_96 m'.1.1) rfl (by omega) (by omega)
      refine And.intro (sk_87 m'.1.1) (And.intro k96 ?_)
      have v1 : am_i h' (am_r h' 87 21) (nI i).toNatClampNeg = nI (gro (gN g) (gT g) (gCC g) G i i) := by rw [r96, q_cl (by omega)]; exact hv i hi9
      have gGI := (gro_GI (c := gCC g) (mg_T m) hGI i).1
      refine And.intro (sk_87 m'.1.1) (hC _ _ _ _ (w_othersOf (by decide) m' hv (by omega) ?_))
      refine And.intro (sk_87 m'.1.1) ?_
      show cal 157 [.ref 87, .int (am_i h' (am_r h' 87 21) (nI i).toNatClampNeg), .int (nI (oth (gN g) (gT g) (gro (gN g) (gT g) (gCC g) G i) i)), .int (nI 0)] h' _
      rw [v1]
      refine hC _ _ _ _ (w_bestSet (l := true) (by decide) m' c' (Nat.lt_trans (gGI.2.1 i) p31) (Nat.lt_trans (oth_lt gGI.2.1 i) p31) ⟨_, gGI.cn i⟩ fun x h2 B s2 hx => ?_)
      have ex : x = gro (gN g) (gT g) (gCC g) G (i + 1) i := by
        rw [gro_at hTi]
        exact isb.one B (bset_isb ⟨_, gGI.cn i⟩)
      have s2' : sf [96] [18] h h2 := sf_tr s (sf_mo s2 (fun a ha => absurd ha List.not_mem_nil) (fun a ha => ha))
      have m2 := sf_mg s2 m' rfl (by decide)
      have r2 : am_r h2 87 21 = 96 := sr_87_21 m2.1.1
      have k2 : am_arr h2 (am_r h2 87 21) 2 (nI i) := ck_row r2 (sk_96 m2.1.1) rfl (by omega) (by omega)
      have v2 : am_i h2 (am_r h2 87 21) (nI i).toNatClampNeg = nI (G i) := by rw [r2, q_cl (by omega), s2.1.i (by decide), hv i hi9, gro_hi (Nat.le_refl _)]
      have xl : x < 2 ^ 31 := Nat.lt_trans B.1.1 p31
      have gl : G i < 2 ^ 31 := Nat.lt_trans (hGI.2.1 i) p31
      have fin : ∀ (b' : Bool), (b' = true ↔ b = true ∨ x ≠ G i) → K 4 [.ref 87, .int (bI b'), .int (am_inc (nI i) (Int.ofNat 1)), .int (nI x)] [] (am_pi h2 (am_r h2 87 21) (nI i).toNatClampNeg (nI x)) := fun b' hb' => by
        rw [r2, q_cl (by omega)]
        refine hK _ _ _ _ (next _ _ ⟨b', _, rfl, sf_pi s2' (by decide) (by decide), fun v hvn => ?_, hb'.trans ?_⟩)
        · rw [i_pi_same]
          by_cases q : v = i
          · rw [if_pos q, q, ex]
          · rw [if_neg q, gro_ne q, s2.1.i (by decide) v]
            exact hv v hvn
        · rw [hb, ex]
          constructor
          · rintro (⟨t, t1, t2⟩ | z)
            · exact ⟨t, by omega, by rw [gro_ne (by omega)]; exact t2⟩
            · exact ⟨i, by omega, z⟩
          · rintro ⟨t, t1, t2⟩
            by_cases q : t = i
            · subst q; exact Or.inr t2
            · rw [gro_ne q] at t2
              exact Or.inl ⟨t, by omega, t2⟩
      refine And.intro (fun z => ?_) (fun z => ?_)
      rotate_left
      · have z := (bI_0 _).mp (Classical.not_not.mp z)
        refine And.intro (sk_87 m2.1.1) (And.intro k2 ?_)
        refine And.intro (fun z2 => ?_) (fun z2 => ?_)
        · have z2 : nI x = am_i h2 (am_r h2 87 21) (nI i).toNatClampNeg := z2
          rw [v2] at z2
          have z2 := (nI_eq xl gl).mp z2
          exact And.intro (sk_87 m2.1.1) (And.intro k2 (fin false ⟨fun q => absurd q (by decide), fun q => by rcases q with q | q; rw [z] at q; cases q; exact absurd z2 q⟩))
        · have z2 : ¬ nI x = am_i h2 (am_r h2 87 21) (nI i).toNatClampNeg := z2
          rw [v2] at z2
          exact And.intro (sk_87 m2.1.1) (And.intro k2 (fin true ⟨fun _ => Or.inr fun q => z2 (by rw [q]), fun _ => rfl⟩))
      · have z : b = true := by
          cases e : b with
          | true => rfl
          | false => rw [e] at z; exact absurd rfl z
        exact And.intro (sk_87 m2.1.1) (And.intro k2 (fin true ⟨fun _ => Or.inl z, fun _ => rfl⟩))
  · rintro L h' ⟨b, v3, rfl, s, hv, hb⟩
    have m' := sf_mg s m rfl (by decide)
    refine am_go (fun p => p == 4) (fun K cal Q' hK hC hQ => ?_)
    refine And.intro (sk_87 m'.1.1) (hC _ _ _ _ (w_count (by decide) m' ?_))
    exact And.intro (fun _ => And.intro (bI_01 b) (hQ _ _ (HQ h' b s hv hb))) (fun c => absurd (nI_le (Nat.le_refl _) (by omega)) c)
set_option maxHeartbeats 8000000 in
theorem w_laysGroups (hd : 6 ≤ d) (m : mg h w g)
    (HQ : ∀ h' R, sf [92, 93, 96] [18, 22] h h' → am_i h' 87 22 = nI R → isR (gN g) (gT g) (gCC g) R → (∀ v, v < gN g → am_i h' 96 v = nI (grs (gN g) (gT g) (gCC g) R v)) → Q (.inl none) h') : am_C xs am_P0 d m_Mo_laysGroups [.ref 87] h Q := by
  have hn := mg_n9 m
  have hT := mg_T m
  refine am_C_le hd (am_enter (d := 5) ap_Mo_laysGroups rfl ?_) (fun _ _ k => k)
  refine am_go (fun p => p == 11) (fun K cal Q' hK hC hQ => ?_)
  refine And.intro (sk_87 m.1.1) (hC _ _ _ _ (w_laysCosts (by decide) m fun h1 s1 c1 => ?_))
  have s1' : sf [92, 93, 96] [18, 22] h h1 := sf_mo s1 (fun a ha => by simp at ha ⊢; omega) (fun a ha => absurd ha List.not_mem_nil)
  refine And.intro (sk_87 (sf_mg s1' m rfl (by decide)).1.1) (hK _ _ _ _ ?_)
  refine am_for (gN g) (fun i L h' => L = [.ref 87, .int (nI i)] ∧ sf [92, 93, 96] [18, 22] h h' ∧ mco h' g ∧ am_i h' 87 22 = nI 0 ∧ ∀ v, v < i → am_i h' 96 v = nI (grs (gN g) (gT g) (gCC g) 0 v)) ?_ ?_ 0 (Nat.zero_le _) _ _ ⟨rfl, sf_pf s1' (by decide), fun e he => (congrFun (i_pi_ne (by decide)) e).trans (c1 e he), by rw [i_pi_same]; rfl, fun v hv => absurd hv (Nat.not_lt_zero v)⟩
  · rintro i hi9 L h' ⟨rfl, s, hc, h0, hv⟩ next
    have m' := sf_mg s m rfl (by decide)
    have eI : am_inc (nI i) (Int.ofNat 1) = nI (i + 1) := nI_1 i
    rw [← eI] at next
    refine am_go (fun p => p == 11) (fun K cal Q' hK hC hQ => ?_)
    refine And.intro (sk_87 m'.1.1) (hC _ _ _ _ (w_count (by decide) m' ?_))
    refine And.intro (fun c => absurd c (nI_ge hi9 (by omega))) (fun _ => ?_)
    have r96 : am_r h' 87 21 = 96 := sr_87_21 m'.1.1
    have k96 : am_arr h' (am_r h' 87 21) 2 (nI i) := ck_row r96 (sk_96 m'.1.1) rfl (by omega) (by omega)
    have fin : ∀ x : Int32, x = nI (grs (gN g) (gT g) (gCC g) 0 i) → K 11 [.ref 87, .int (am_inc (nI i) (Int.ofNat 1))] [] (am_pi h' (am_r h' 87 21) (nI i).toNatClampNeg x) := fun x hx => by
      rw [r96, q_cl (by omega)]
      refine hK _ _ _ _ (next _ _ ⟨rfl, sf_pi s (by decide) (by decide), fun e he => (congrFun (i_pi_ne (by decide)) e).trans (hc e he), (congrFun (i_pi_ne (by decide)) 22).trans h0, fun v hvi => ?_⟩)
      rw [i_pi_same]
      by_cases q : v = i
      · rw [if_pos q, q, hx]
      · rw [if_neg q]; exact hv v (by omega)
    refine And.intro (sk_87 m'.1.1) (And.intro (sk_87 m'.1.1) (hC _ _ _ _ (w_isTerm (by decide) m' (by omega) ?_)))
    have e0 : grs (gN g) (gT g) (gCC g) 0 i = if (gT g).testBit i then 2 ^ i else 0 := rfl
    cases hTi : (gT g).testBit i with
    | false =>
      rw [hTi] at e0
      exact And.intro (fun _ => And.intro k96 (fin _ (by rw [e0]; rfl))) (fun z => absurd rfl z)
    | true =>
      rw [hTi] at e0
      exact And.intro (fun z => absurd z q_t1) (fun _ => And.intro k96 (fin _ (by rw [e0]; exact q_shl i (by omega))))
  · rintro L h' ⟨rfl, s, hc, h0, hv⟩
    have m' := sf_mg s m rfl (by decide)
    refine am_go (fun p => p == 57) (fun K cal Q' hK hC hQ => ?_)
    refine And.intro (sk_87 m'.1.1) (hC _ _ _ _ (w_count (by decide) m' ?_))
    refine And.intro (fun _ => ?_) (fun c => absurd (nI_le (Nat.le_refl _) (by omega)) c)
    refine And.intro (sk_87 m'.1.1) (hC _ _ _ _ (w_get (by decide) m'.1 (k := 2) rfl (by decide) m'.2.1.2.2.1 ?_))
    refine And.intro (fun z => ?_) (fun z => ?_)
    rotate_left
    · have z : nI (gT g) = nI 0 := Classical.not_not.mp z
      have z := (nI_eq (mg_T31 m) (by decide)).mp z
      exact And.intro trivial (hQ _ _ (HQ h' 0 s h0 (Or.inl ⟨z, rfl⟩) hv))
    · have z : gT g ≠ 0 := fun q => z (by rw [q]; rfl)
      refine hK _ _ _ _ ?_
      refine am_while (fun q L h' => ∃ k more, L = [.ref 87, .int (bI more)] ∧ sf [92, 93, 96] [18, 22] h h' ∧ mco h' g ∧ am_i h' 87 22 = nI k ∧ (∀ v, v < gN g → am_i h' 96 v = nI (grs (gN g) (gT g) (gCC g) k v)) ∧ k ≤ 9 ∧ (more = true → (∀ j, j < k → chg (gN g) (gT g) (gCC g) j) ∧ q = 10 - k) ∧ (more = false → isR (gN g) (gT g) (gCC g) k)) ?_ 10 _ _ ⟨0, true, rfl, s, hc, h0, hv, by decide, fun _ => ⟨fun j hj => absurd hj (Nat.not_lt_zero j), rfl⟩, fun q => absurd q (by decide)⟩
      rintro q L h' ⟨k, more, rfl, s, hc, h0, hv, hk9, hmore, hend⟩ next
      have m' := sf_mg s m rfl (by decide)
      refine am_go (fun p => p == 57) (fun K cal Q' hK hC hQ => ?_)
      cases more with
      | false => exact And.intro (fun _ => And.intro trivial (hQ _ _ (HQ h' k s h0 (hend rfl) hv))) (fun z => absurd rfl z)
      | true =>
        refine And.intro (fun z => absurd z q_t1) (fun _ => ?_)
        obtain ⟨hch, hq⟩ := hmore rfl
        have k8 : k + 1 ≤ 9 := Nat.le_trans (chg_all hn hT z k hch) (pcn_le _)
        refine And.intro (sk_87 m'.1.1) (hC _ _ _ _ (w_goesRound (by decide) m' hc (grs_GI hT k) hv fun h2 b s2 hv2 hb => ?_))
        have m2 := sf_mg s2 m' rfl (by decide)
        have h02 : am_i h2 87 22 = nI k := (s2.2 22 (by decide)).trans h0
        refine And.intro (sk_87 m2.1.1) (And.intro (sk_87 m2.1.1) ?_)
        have s2' : sf [92, 93, 96] [18, 22] h h2 := sf_tr s (sf_mo s2 (fun a ha => by simp at ha ⊢; omega) (fun a ha => by simp at ha ⊢; omega))
        have bt : b = true ↔ chg (gN g) (gT g) (gCC g) k := hb
        refine hK _ _ _ _ (next (if b = true then 10 - (k + 1) else 0) _ _ ?_ ⟨k + 1, b, rfl, sf_pf s2' (by decide), fun e he => (congrFun (i_pi_ne (by decide)) e).trans (sf_mco s2 hc (by decide) e he), ?_, fun v hvn => (congrFun (i_pi_ne (by decide)) v).trans (hv2 v hvn), k8, fun q1 => ⟨fun j hj => ?_, if_pos q1⟩, fun q1 => ?_⟩)
        · split <;> omega
        · show am_i (am_pi h2 87 22 (am_i h2 87 22 + nI 1)) 87 22 = _
          rw [i_pi_same, if_pos rfl, h02, nI_add]
        · by_cases e : j = k
          · rw [e]; exact bt.mp q1
          · exact hch j (by omega)
        · refine Or.inr ⟨z, by omega, k8, fun j hj => hch j (by omega), fun q2 => ?_⟩
          rw [bt.mpr q2] at q1
          cases q1
end

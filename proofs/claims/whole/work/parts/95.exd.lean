/-! THE EXACT ASSIGNMENT: the model's search -/
def fsA (T k0 : Nat) : Nat → Nat := fun v => if T.testBit v = true then v else k0
theorem fsA_valid {n T km : Nat} {kd : Nat → Nat} (K : kdn n T km kd) (h0 : 0 < km) : avalid n T (fsA T (kd 0)) := fun v hv => by
  unfold fsA
  by_cases c : T.testBit v = true
  · rw [if_pos c]; exact ⟨c, fun _ => rfl⟩
  · rw [if_neg c]; exact ⟨(K.1 0 h0).1, fun z => absurd z c⟩
theorem fsA_min {n T km : Nat} {kd : Nat → Nat} (hT : T < 2 ^ n) (K : kdn n T km kd) {C : Nat → Nat} (hC : avalid n T C) : ¬ llt n C (fsA T (kd 0)) := by
  rintro ⟨u, u1, u2, u3⟩
  unfold fsA at u3
  by_cases c : T.testBit u = true
  · rw [if_pos c, (hC u u1).2 c] at u3; exact absurd u3 (Nat.lt_irrefl _)
  · rw [if_neg c] at u3
    obtain ⟨j, j1, j2⟩ := K.2.1 (C u) (q_T_lt hT (hC u u1).1) (hC u u1).1
    have := kdn_le K (Nat.zero_le j) j1
    omega
theorem xbt_first {n m T km : Nat} {lo hi co kd : Nat → Nat} (hw : ∀ e, e < m → lo e < hi e ∧ hi e < n) (hT : T < 2 ^ n) (K : kdn n T km kd) (h0 : 0 < km) : xbt n m T lo hi co (fsA T (kd 0)) (fsA T (kd 0)) := by
  refine ⟨fsA_valid K h0, fun C hC hc => ?_, fun C hC hc => absurd hc (fsA_min hT K hC), fun ⟨u, _, _, u3⟩ => absurd u3 (Nat.lt_irrefl _)⟩
  rcases llt_tri (fsA T (kd 0)) C n with z | z | z
  · exact absurd z hc
  · rw [acost_lag hw z]; exact Nat.le_refl _
  · exact absurd z (fsA_min hT K hC)
theorem acost_dif {n m T : Nat} {lo hi co : Nat → Nat} (hn : n ≤ 9) (hT : T < 2 ^ n) (hw : ∀ e, e < m → lo e < hi e ∧ hi e < n) {A : Nat → Nat} (hA : avalid n T A) : sumE co (dif lo hi fun v => nI (A v)) m = acost m lo hi co A n := sumE_cong fun e he => by
  obtain ⟨w1, w2⟩ := hw e he
  have a := q_T_lt hT (hA (lo e) (by omega)).1
  have b := q_T_lt hT (hA (hi e) w2).1
  unfold dif
  rw [decide_eq_true w2, Bool.true_and]
  exact decide_eq_decide.mpr (not_congr (nI_eq (by omega) (by omega)))
section
variable {xs : am_X} {d : Nat} {h : am_H} {w : Nat} {g : gD} {Q : am_Q}
set_option maxHeartbeats 16000000 in
theorem w_laysExact (hd : 4 ≤ d) (m : mg h w g) (hc : mco h g) {T : Nat} (hT : T < 2 ^ gN g) (HQ : ∀ h', sf [97, 98, 99] [26, 27] h h' → (∀ v, v < gN g → am_i h' 98 v = eL g T v) → Q (.inl (some (.int (nI (eC g T))))) h') : am_C xs am_P0 d m_Mo_laysExact [.ref 87, .int (nI T)] h Q := by
  have hn := mg_n9 m
  have hm := mg_m20 m
  have hw9 := (mg_wf m).2.1
  have hc9 : ∀ e, e < gM g → gCo g e ≤ 9999 := fun e he => (mg_co m he).2
  have hT31 : T < 2 ^ 31 := Nat.lt_trans hT (Nat.pow_lt_pow_right (by decide) (by omega))
  refine am_C_le hd (am_enter (d := 3) ap_Mo_laysExact rfl ?_) (fun _ _ k => k)
  refine am_go (fun p => p == 7) (fun K cal Q' hK hC hQ => ?_)
  refine And.intro (sk_87 m.1.1) (hK _ _ _ _ ?_)
  refine am_for (gN g) (fun i L h' => ∃ km kd v3, L = [.ref 87, .int (nI T), .int (nI i), v3] ∧ sf [97, 98, 99] [26, 27] h h' ∧ mkd h' km kd ∧ kdn i T km kd ∧ km ≤ i) ?_ ?_ 0 (Nat.zero_le _) _ _ ⟨0, fun _ => 0, _, rfl, sf_pf sf_rf (by decide), ⟨by rw [i_pi_same]; rfl, fun k z => absurd z (Nat.not_lt_zero k)⟩, ⟨fun k z => absurd z (Nat.not_lt_zero k), fun t z => absurd z (Nat.not_lt_zero t), fun i j _ z => absurd z (Nat.not_lt_zero j)⟩, Nat.le_refl 0⟩
  · rintro i hi9 L h' ⟨km, kd, v3, rfl, s, hk, K9, kmi⟩ next
    have m' := sf_mg s m rfl (by decide)
    have eI : am_inc (nI i) (Int.ofNat 1) = nI (i + 1) := nI_1 i
    rw [← eI] at next
    refine am_go (fun p => p == 7) (fun K cal Q' hK hC hQ => ?_)
    refine And.intro (sk_87 m'.1.1) (hC _ _ _ _ (w_count (by decide) m' ?_))
    refine And.intro (fun c => absurd c (nI_ge hi9 (by omega))) (fun _ => ?_)
    refine And.intro trivial (hC _ _ _ _ (w_has (by decide) hT31 (by omega) ?_))
    cases hb : T.testBit i with
    | false =>
      refine And.intro (fun z => absurd rfl z) (fun _ => ?_)
      refine hK _ _ _ _ (next _ _ ⟨km, kd, v3, rfl, s, hk, ⟨fun k z => ⟨(K9.1 k z).1, by have := (K9.1 k z).2; omega⟩, fun t ht hTt => K9.2.1 t (Nat.lt_of_le_of_ne (by omega) fun q => ?_) hTt, K9.2.2⟩, by omega⟩)
      rw [q, hb] at hTt
      cases hTt
    | true =>
      refine And.intro (fun _ => ?_) (fun z => absurd q_t1 z)
      have r25 : am_r h' 87 25 = 99 := sr_87_25 m'.1.1
      refine And.intro (sk_87 m'.1.1) (And.intro (sk_87 m'.1.1) (And.intro (ck_row r25 (sk_99 m'.1.1) hk.1 (by omega) (by omega)) ?_))
      rw [show am_r h' 87 (601 % 64) = 99 from r25, show am_i h' 87 (602 % 64) = nI km from hk.1, q_cl (show km < 2 ^ 31 by omega)]
      refine And.intro (sk_87 m'.1.1) (And.intro (sk_87 m'.1.1) ?_)
      have e26 : am_i (am_pi h' 99 km (nI i)) 87 (602 % 64) + nI 1 = nI (km + 1) := by rw [show am_i (am_pi h' 99 km (nI i)) 87 (602 % 64) = nI km from (congrFun (i_pi_ne (by decide)) 26).trans hk.1, nI_add]
      rw [e26]
      refine hK _ _ _ _ (next _ _ ⟨km + 1, fun k => if k = km then i else kd k, v3, rfl, sf_pf (sf_pi s (by decide) (by decide)) (by decide), ⟨by rw [i_pi_same]; rfl, fun k hk9 => ?_⟩, ⟨fun k hk9 => ?_, fun t ht hTt => ?_, fun a b hab hbk => ?_⟩, by omega⟩)
      · rw [i_pi_ne (by decide), i_pi_same]
        show _ = nI (if k = km then i else kd k)
        by_cases q : k = km
        · rw [if_pos q, if_pos q]
        · rw [if_neg q, if_neg q]; exact hk.2 k (by omega)
      · show T.testBit (if k = km then i else kd k) = true ∧ (if k = km then i else kd k) < i + 1
        by_cases q : k = km
        · rw [if_pos q]; exact ⟨hb, Nat.lt_succ_self i⟩
        · rw [if_neg q]; have := K9.1 k (by omega); exact ⟨this.1, by omega⟩
      · by_cases q : t = i
        · exact ⟨km, Nat.lt_succ_self km, by show (if km = km then i else kd km) = t; rw [if_pos rfl, q]⟩
        · obtain ⟨k, k1, k2⟩ := K9.2.1 t (by omega) hTt
          exact ⟨k, by omega, by show (if k = km then i else kd k) = t; rw [if_neg (by omega)]; exact k2⟩
      · show (if a = km then i else kd a) < (if b = km then i else kd b)
        rw [if_neg (show a ≠ km by omega)]
        by_cases q : b = km
        · rw [if_pos q]; exact (K9.1 a (by omega)).2
        · rw [if_neg q]; exact K9.2.2 a b hab (by omega)
  · rintro L h' ⟨km, kd, v3, rfl, s, hk, K9, kmi⟩
    have m' := sf_mg s m rfl (by decide)
    have hz : km = 0 ↔ T = 0 := by
      constructor
      · intro q
        refine Nat.eq_of_testBit_eq fun t => ?_
        rw [Nat.zero_testBit]
        cases hb : T.testBit t with
        | false => rfl
        | true => obtain ⟨k, k1, _⟩ := K9.2.1 t (q_T_lt hT hb) hb; omega
      · intro q
        subst q
        refine Nat.eq_zero_of_not_pos fun z => ?_
        have := (K9.1 0 z).1
        rw [Nat.zero_testBit] at this
        cases this
    refine am_go (fun p => p == 54) (fun K cal Q' hK hC hQ => ?_)
    refine And.intro (sk_87 m'.1.1) (hC _ _ _ _ (w_count (by decide) m' ?_))
    refine And.intro (fun _ => hK _ _ _ _ ?_) (fun c => absurd (nI_le (Nat.le_refl _) (by omega)) c)
    refine am_for (gN g) (fun i L h2 => L = [.ref 87, .int (nI T), .int (nI i), v3] ∧ sf [97, 98, 99] [26, 27] h h2 ∧ mkd h2 km kd ∧ ∀ v, v < i → am_i h2 97 v = (if km = 0 then -nI 1 else nI (fsA T (kd 0) v)) ∧ am_i h2 98 v = (if km = 0 then -nI 1 else nI (fsA T (kd 0) v))) ?_ ?_ 0 (Nat.zero_le _) _ _ ⟨rfl, s, hk, fun v z => absurd z (Nat.not_lt_zero v)⟩
    · rintro i hi9 L h2 ⟨rfl, s2, hk2, hv⟩ next
      have m2 := sf_mg s2 m rfl (by decide)
      have eI : am_inc (nI i) (Int.ofNat 1) = nI (i + 1) := nI_1 i
      rw [← eI] at next
      have r23 : am_r h2 87 23 = 97 := sr_87_23 m2.1.1
      have r24 : am_r h2 87 24 = 98 := sr_87_24 m2.1.1
      have r25 : am_r h2 87 25 = 99 := sr_87_25 m2.1.1
      have kT : am_arr h2 (am_r h2 87 23) 2 (nI i) := ck_row r23 (sk_97 m2.1.1) rfl (by omega) (by omega)
      have kE : am_arr h2 (am_r h2 87 24) 2 (nI i) := ck_row r24 (sk_98 m2.1.1) rfl (by omega) (by omega)
      refine am_go (fun p => p == 54) (fun K cal Q' hK hC hQ => ?_)
      have fin : ∀ x : Int32, x = (if km = 0 then -nI 1 else nI (fsA T (kd 0) i)) → am_arr h2 (am_r h2 87 23) 2 (nI i) ∧ am_k h2 87 = (1, 9) ∧ am_k h2 87 = (1, 9) ∧ am_arr h2 (am_r h2 87 23) 2 (nI i) ∧ am_arr h2 (am_r h2 87 24) 2 (nI i) ∧ K 54 [.ref 87, .int (nI T), .int (am_inc (nI i) (Int.ofNat 1)), v3] [] (am_pi (am_pi h2 (am_r h2 87 23) (nI i).toNatClampNeg x) (am_r h2 87 24) (nI i).toNatClampNeg (am_i (am_pi h2 (am_r h2 87 23) (nI i).toNatClampNeg x) (am_r h2 87 23) (nI i).toNatClampNeg)) := fun x hx => by
        refine ⟨kT, sk_87 m2.1.1, sk_87 m2.1.1, kT, kE, ?_⟩
        rw [r23, r24, q_cl (by omega), i_pi_same, if_pos rfl, hx]
        refine hK _ _ _ _ (next _ _ ⟨rfl, sf_pi (sf_pi s2 (by decide) (by decide)) (by decide) (by decide), ⟨?_, fun k z => ?_⟩, fun v hvi => ?_⟩)
        · rw [i_pi_ne (by decide), i_pi_ne (by decide)]; exact hk2.1
        · rw [i_pi_ne (by decide), i_pi_ne (by decide)]; exact hk2.2 k z
        · rw [i_pi_ne (show (97 : Nat) ≠ 98 by decide), i_pi_same, i_pi_same]
          by_cases q : v = i
          · rw [if_pos q, if_pos q, q]; exact ⟨rfl, rfl⟩
          · rw [if_neg q, if_neg q, i_pi_ne (show (98 : Nat) ≠ 97 by decide)]; exact hv v (by omega)
      refine And.intro (sk_87 m2.1.1) (hC _ _ _ _ (w_count (by decide) m2 ?_))
      refine And.intro (fun c => absurd c (nI_ge hi9 (by omega))) (fun _ => ?_)
      refine And.intro (sk_87 m2.1.1) (And.intro (sk_87 m2.1.1) (And.intro (fun z => ?_) (fun z => ?_)))
      · have z : km ≠ 0 := fun q => z (by show am_i h2 87 26 = 0; rw [hk2.1, q]; rfl)
        rw [if_neg z] at fin
        refine And.intro trivial (hC _ _ _ _ (w_has (by decide) hT31 (by omega) ?_))
        unfold fsA at fin
        cases hb : T.testBit i with
        | true =>
          rw [hb, if_pos rfl] at fin
          exact And.intro (fun z => absurd z q_t1) (fun _ => fin _ rfl)
        | false =>
          rw [hb, if_neg (by decide)] at fin
          refine And.intro (fun _ => ?_) (fun z => absurd rfl z)
          refine And.intro (sk_87 m2.1.1) (And.intro (ck_row r25 (sk_99 m2.1.1) (e := 0) rfl (by omega) (by omega)) (fin _ ?_))
          show am_i h2 (am_r h2 87 25) (nI 0).toNatClampNeg = _
          rw [r25, q_cl (by decide)]
          exact hk2.2 0 (by omega)
      · have z : am_i h2 87 26 = nI 0 := Classical.not_not.mp z
        rw [hk2.1] at z
        have z := (nI_eq (by omega) (by omega)).mp z
        rw [if_pos z] at fin
        exact fin _ rfl
    · rintro L h2 ⟨rfl, s2, hk2, hv⟩
      have m2 := sf_mg s2 m rfl (by decide)
      have c2 := sf_mco s2 hc (by decide)
      have r23 : am_r h2 87 23 = 97 := sr_87_23 m2.1.1
      refine am_go (fun p => p == 139) (fun K cal Q' hK hC hQ => ?_)
      refine And.intro (sk_87 m2.1.1) (hC _ _ _ _ (w_count (by decide) m2 ?_))
      refine And.intro (fun _ => ?_) (fun c => absurd (nI_le (Nat.le_refl _) (by omega)) c)
      refine And.intro (sk_87 m2.1.1) (And.intro (sk_87 m2.1.1) ?_)
      show cal m_Mo_costBy [.ref 87, .ref (am_r h2 87 23)] h2 _
      rw [r23]
      refine hC _ _ _ _ (w_costBy (by decide) m2 c2 (sk_97 m2.1.1) (fun v hvn => (hv v hvn).1) ?_)
      refine And.intro (sk_87 m2.1.1) (And.intro (sk_87 m2.1.1) (And.intro (fun z => ?_) (fun z => ?_)))
      rotate_left
      · have z : am_i (am_pi h2 87 27 _) 87 26 = nI 0 := Classical.not_not.mp z
        rw [i_pi_same, if_neg (by decide), hk2.1] at z
        have z := (nI_eq (by omega) (by omega)).mp z
        have hT0 := hz.mp z
        have HQ := HQ (am_pi h2 87 27 (nI (sumE (gCo g) (dif (gLo g) (gHi g) fun v => if km = 0 then -nI 1 else nI (fsA T (kd 0) v)) (gM g)))) (sf_pf s2 (by decide)) (fun v hvn => by
          rw [i_pi_ne (by decide), (hv v hvn).2, if_pos z]
          unfold eL
          rw [if_pos hT0])
        refine And.intro (sk_87 m2.1.1) (And.intro trivial (hQ _ _ ?_))
        have e : eC g T = sumE (gCo g) (dif (gLo g) (gHi g) fun v => if km = 0 then -nI 1 else nI (fsA T (kd 0) v)) (gM g) := by
          unfold eC
          rw [if_pos hT0]
          refine Eq.symm (Nat.eq_zero_of_le_zero ?_)
          have := sumE_le (co := fun _ => 0) (p := fun _ => true) (m := gM g) (c := 0) (fun _ _ => Nat.le_refl 0)
          refine Nat.le_trans (Nat.le_of_eq ?_) (Nat.le_of_eq (Nat.mul_zero (gM g)))
          have zz : sumE (gCo g) (dif (gLo g) (gHi g) fun v => if km = 0 then -nI 1 else nI (fsA T (kd 0) v)) (gM g) = sumE (gCo g) (fun _ => false) (gM g) := sumE_cong fun e _ => by
            unfold dif
            exact decide_eq_false fun q => q (by simp only [if_pos z])
          rw [zz]
          have : ∀ k, sumE (gCo g) (fun _ => false) k = 0 := fun k => by
            induction k with
            | zero => rfl
            | succ k ih => rw [sumE_s, ih]; rfl
          rw [this, Nat.mul_zero]
        rw [e] at HQ
        show Q (.inl (some (.int (am_i (am_pi h2 87 27 _) 87 27)))) _
        rw [i_pi_same, if_pos rfl]
        exact HQ
      · have z : km ≠ 0 := fun q => z (by show am_i (am_pi h2 87 27 _) 87 26 = 0; rw [i_pi_same, if_neg (by decide), hk2.1, q]; rfl)
        have hT0 : T ≠ 0 := fun q => z (hz.mpr q)
        have h0 : 0 < km := by omega
        have A0 := fsA_valid K9 h0
        have cost0 : sumE (gCo g) (dif (gLo g) (gHi g) fun v => if km = 0 then -nI 1 else nI (fsA T (kd 0) v)) (gM g) = acost (gM g) (gLo g) (gHi g) (gCo g) (fsA T (kd 0)) (gN g) := by
          simp only [if_neg z]
          exact acost_dif hn hT hw9 A0
        rw [cost0]
        simp only [if_neg z] at hv
        have d9 : ∀ {A : Nat → Nat}, avalid (gN g) T A → ∀ v, v < gN g → A v < 10 := fun hA v hvn => by have := q_T_lt hT (hA v hvn).1; omega
        refine hK _ _ _ _ ?_
        refine am_while (fun q L h3 => ∃ A B v2 v3, L = [.ref 87, .int (nI T), v2, v3] ∧ sf [97, 98, 99] [26, 27] h h3 ∧ mkd h3 km kd ∧ avalid (gN g) T A ∧ mtr h3 (gN g) A ∧ (∀ v, v < gN g → am_i h3 98 v = nI (B v)) ∧ am_i h3 87 27 = nI (acost (gM g) (gLo g) (gHi g) (gCo g) B (gN g)) ∧ xbt (gN g) (gM g) T (gLo g) (gHi g) (gCo g) A B ∧ q = 1000000000 - lval A (gN g)) ?_ _ _ _ ⟨fsA T (kd 0), fsA T (kd 0), _, v3, rfl, sf_pf s2 (by decide), ⟨by rw [i_pi_same, if_neg (by decide)]; exact hk2.1, fun k zz => (congrFun (i_pi_ne (by decide)) k).trans (hk2.2 k zz)⟩, A0, fun v hvn => (congrFun (i_pi_ne (by decide)) v).trans (hv v hvn).1, fun v hvn => (congrFun (i_pi_ne (by decide)) v).trans (hv v hvn).2, by rw [i_pi_same, if_pos rfl], xbt_first hw9 hT K9 h0, rfl⟩
        rintro q L h3 ⟨A, B, v2, v3, rfl, s3, hk3, hA, ha3, hb3, h27, hx3, hq⟩ next
        have m3 := sf_mg s3 m rfl (by decide)
        have lB : acost (gM g) (gLo g) (gHi g) (gCo g) B (gN g) ≤ 20 * 9999 := acost_le hm hc9
        refine am_go (fun p => p == 139 || p == 174) (fun K cal Q' hK hC hQ => ?_)
        refine And.intro (sk_87 m3.1.1) (hC _ _ _ _ (w_goesOn (by decide) m3 hT K9 h0 hA hk3 ha3 fun h4 b s4 ht hf => ?_))
        have s4' : sf [97, 98, 99] [26, 27] h h4 := sf_tr s3 (sf_mo s4 (subl_x (by decide)) (subl_x (by decide)))
        have m4 := sf_mg s4' m rfl (by decide)
        have h274 : am_i h4 87 27 = nI (acost (gM g) (gLo g) (gHi g) (gCo g) B (gN g)) := (s4.2 27 (by decide)).trans h27
        have hb4 : ∀ v, v < gN g → am_i h4 98 v = nI (B v) := fun v hvn => (s4.1.i (by decide) v).trans (hb3 v hvn)
        have hk4 : mkd h4 km kd := ⟨(s4.2 26 (by decide)).trans hk3.1, fun k zz => (s4.1.i (by decide) k).trans (hk3.2 k zz)⟩
        cases b with
        | false =>
          refine And.intro (fun _ => ?_) (fun z => absurd rfl z)
          have fin := xbt_end hx3 (hf rfl)
          have lg := exA_eq fin
          have HQ := HQ h4 s4' (fun v hvn => by rw [hb4 v hvn]; unfold eL; rw [if_neg hT0, lg v hvn])
          refine And.intro (sk_87 m4.1.1) (And.intro trivial (hQ _ _ ?_))
          have e : eC g T = acost (gM g) (gLo g) (gHi g) (gCo g) B (gN g) := by
            unfold eC
            rw [if_neg hT0]
            exact (acost_lag hw9 lg).symm
          rw [e] at HQ
          rw [show am_i h4 87 (603 % 64) = _ from h274]
          exact HQ
        | true =>
          obtain ⟨A2, hA2, ha4, hlt, hnx⟩ := ht rfl
          refine And.intro (fun z => absurd z q_t1) (fun _ => ?_)
          have r23 : am_r h4 87 23 = 97 := sr_87_23 m4.1.1
          have c4 := sf_mco s4' hc (by decide)
          have lA : acost (gM g) (gLo g) (gHi g) (gCo g) A2 (gN g) ≤ 20 * 9999 := acost_le hm hc9
          have step := xbt_step hw9 hx3 hA2 hlt hnx
          have v1 := lval_lt (d9 hA) hlt
          have v2b := lval_b hn (d9 hA2)
          refine And.intro (sk_87 m4.1.1) (And.intro (sk_87 m4.1.1) ?_)
          show cal m_Mo_costBy [.ref 87, .ref (am_r h4 87 23)] h4 _
          rw [r23]
          refine hC _ _ _ _ (w_costBy (by decide) m4 c4 (sk_97 m4.1.1) (lab := fun v => nI (A2 v)) ha4 ?_)
          rw [acost_dif hn hT hw9 hA2]
          refine And.intro (sk_87 m4.1.1) (And.intro (fun c => ?_) (fun c => ?_))
          · have c : nI (acost (gM g) (gLo g) (gHi g) (gCo g) A2 (gN g)) < am_i h4 87 27 := c
            rw [h274] at c
            have c := (nI_ltI (by omega) (by omega)).mp c
            rw [if_pos c] at step
            refine And.intro (sk_87 m4.1.1) (hK _ _ _ _ ?_)
            refine am_for (gN g) (fun i L h5 => L = [.ref 87, .int (nI T), .int (nI (acost (gM g) (gLo g) (gHi g) (gCo g) A2 (gN g))), .int (nI i)] ∧ sf [97, 98, 99] [26, 27] h h5 ∧ mkd h5 km kd ∧ mtr h5 (gN g) A2 ∧ (∀ v, v < i → am_i h5 98 v = nI (A2 v)) ∧ am_i h5 87 27 = nI (acost (gM g) (gLo g) (gHi g) (gCo g) A2 (gN g))) ?_ ?_ 0 (Nat.zero_le _) _ _ ⟨rfl, sf_pf s4' (by decide), ⟨by rw [i_pi_same, if_neg (by decide)]; exact hk4.1, fun k zz => (congrFun (i_pi_ne (by decide)) k).trans (hk4.2 k zz)⟩, fun v hvn => (congrFun (i_pi_ne (by decide)) v).trans (ha4 v hvn), fun v zz => absurd zz (Nat.not_lt_zero v), by rw [i_pi_same, if_pos rfl]⟩
            · rintro i hi9 L h5 ⟨rfl, s5, hk5, ha5, hb5, h275⟩ next2
              have m5 := sf_mg s5 m rfl (by decide)
              have eI : am_inc (nI i) (Int.ofNat 1) = nI (i + 1) := nI_1 i
              rw [← eI] at next2
              have r23 : am_r h5 87 23 = 97 := sr_87_23 m5.1.1
              have r24 : am_r h5 87 24 = 98 := sr_87_24 m5.1.1
              refine am_go (fun p => p == 174) (fun K cal Q' hK hC hQ => ?_)
              refine And.intro (sk_87 m5.1.1) (hC _ _ _ _ (w_count (by decide) m5 ?_))
              refine And.intro (fun c => absurd c (nI_ge hi9 (by omega))) (fun _ => ?_)
              refine And.intro (sk_87 m5.1.1) (And.intro (sk_87 m5.1.1) (And.intro (ck_row r23 (sk_97 m5.1.1) rfl (by omega) (by omega)) (And.intro (ck_row r24 (sk_98 m5.1.1) rfl (by omega) (by omega)) ?_)))
              rw [show am_r h5 87 (600 % 64) = 98 from r24, show am_r h5 87 (599 % 64) = 97 from r23, q_cl (show i < 2 ^ 31 by omega), ha5 i hi9]
              refine hK _ _ _ _ (next2 _ _ ⟨rfl, sf_pi s5 (by decide) (by decide), ⟨(congrFun (i_pi_ne (by decide)) 26).trans hk5.1, fun k zz => (congrFun (i_pi_ne (by decide)) k).trans (hk5.2 k zz)⟩, fun v hvn => (congrFun (i_pi_ne (by decide)) v).trans (ha5 v hvn), fun v hvi => ?_, (congrFun (i_pi_ne (by decide)) 27).trans h275⟩)
              rw [i_pi_same]
              by_cases qq : v = i
              · rw [if_pos qq, qq]
              · rw [if_neg qq]; exact hb5 v (by omega)
            · rintro L h5 ⟨rfl, s5, hk5, ha5, hb5, h275⟩
              have m5 := sf_mg s5 m rfl (by decide)
              refine am_go (fun p => p == 139) (fun K cal Q' hK hC hQ => ?_)
              refine And.intro (sk_87 m5.1.1) (hC _ _ _ _ (w_count (by decide) m5 ?_))
              exact And.intro (fun _ => hK _ _ _ _ (next (1000000000 - lval A2 (gN g)) _ _ (by omega) ⟨A2, A2, _, _, rfl, s5, hk5, hA2, ha5, hb5, h275, step, rfl⟩)) (fun c => absurd (nI_le (Nat.le_refl _) (by omega)) c)
          · have c : ¬ nI (acost (gM g) (gLo g) (gHi g) (gCo g) A2 (gN g)) < am_i h4 87 27 := c
            rw [h274] at c
            rw [if_neg fun zz => c (nI_lt zz (by omega))] at step
            exact hK _ _ _ _ (next (1000000000 - lval A2 (gN g)) _ _ (by omega) ⟨A2, B, _, _, rfl, s4', hk4, hA2, ha4, hb4, h274, step, rfl⟩)
end

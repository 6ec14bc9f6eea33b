/-! THE MODEL: the cost of an edge -/
theorem lc_ge {x y : Int64} : 0 ≤ lg_cmp x y ↔ y.toInt ≤ x.toInt := by
  unfold lg_cmp
  by_cases a : x > y
  · rw [if_pos a]
    have a : y.toInt < x.toInt := (fa_lt64 _ _).mp a
    exact ⟨fun _ => by omega, fun _ => by decide⟩
  · rw [if_neg a]
    have a : ¬ y.toInt < x.toInt := fun z => a ((fa_lt64 _ _).mpr z)
    by_cases b : x = y
    · rw [if_pos b, b]
      exact ⟨fun _ => Int.le_refl _, fun _ => by decide⟩
    · rw [if_neg b]
      have b : x.toInt ≠ y.toInt := fun z => b ((fa_eq64 _ _).mpr z)
      exact ⟨fun z => absurd z (by decide), fun z => by omega⟩
theorem lc_le {x y : Int64} : lg_cmp x y ≤ 0 ↔ x.toInt ≤ y.toInt := by
  unfold lg_cmp
  by_cases a : x > y
  · rw [if_pos a]
    have a : y.toInt < x.toInt := (fa_lt64 _ _).mp a
    exact ⟨fun z => absurd z (by decide), fun z => by omega⟩
  · rw [if_neg a]
    have a : ¬ y.toInt < x.toInt := fun z => a ((fa_lt64 _ _).mpr z)
    by_cases b : x = y
    · rw [if_pos b, b]
      exact ⟨fun _ => Int.le_refl _, fun _ => by decide⟩
    · rw [if_neg b]
      exact ⟨fun _ => by omega, fun _ => by decide⟩
theorem lc_eq {x y : Int64} : lg_cmp x y = 0 ↔ x = y := by
  unfold lg_cmp
  by_cases a : x > y
  · rw [if_pos a]
    refine ⟨fun z => absurd z (by decide), fun z => ?_⟩
    rw [z] at a
    have a : y.toInt < y.toInt := (fa_lt64 _ _).mp a
    omega
  · rw [if_neg a]
    by_cases b : x = y
    · rw [if_pos b]; exact ⟨fun _ => b, fun _ => rfl⟩
    · rw [if_neg b]; exact ⟨fun z => absurd z (by decide), fun z => absurd z b⟩
theorem cW_num {c : Int} (h : 0 ≤ c) : cW c = 0 := if_pos h
theorem cV_num {c : Int} (h : 0 ≤ c) : cV c = c := if_pos h
theorem cW_var {c : Int} (h : c < 0) (h3 : -3 ≤ c) : cW c = 5 := by unfold cW; rw [if_neg (by omega), if_pos h3]
theorem cV_var {c : Int} (h : c < 0) (h3 : -3 ≤ c) : cV c = -1 - c := by unfold cV; rw [if_neg (by omega), if_pos h3]
theorem cW_op {c : Int} (h : c ≤ -4) : cW c = -3 - c := by unfold cW; rw [if_neg (by omega), if_neg (by omega)]
section
variable {xs : am_X} {d : Nat} {h : am_H} {w : Nat} {g : gD} {Q : am_Q}
set_option maxHeartbeats 4000000 in
theorem w_within (hd : 1 ≤ d) {x : Int64} {z : Int} (hx : x.toInt = z) (HQ : ∀ r : Int64, r.toInt = max (-1000000) (min 1000000 z) → Q (.inl (some (.long r))) h) : am_C xs am_P0 d m_Mo_within [.long x, .long (lN 1000000)] h Q := by
  have e1 : (lN 1000000).toInt = 1000000 := by decide +kernel
  have e2 : (-lN 1000000).toInt = -1000000 := by decide +kernel
  refine am_C_le hd (am_enter (d := 0) ap_Mo_within rfl ?_) (fun _ _ k => k)
  refine am_go (fun _ => false) (fun K cal Q' hK hC hQ => ?_)
  refine And.intro (fun c => ?_) (fun c => ?_)
  · have c := lc_ge.mp c
    rw [e2, hx] at c
    refine And.intro (fun c2 => ?_) (fun c2 => ?_)
    · have c2 := lc_le.mp c2
      rw [e1, hx] at c2
      exact And.intro trivial (hQ _ _ (HQ _ (by rw [hx]; omega)))
    · have c2 := Int.not_le.mp fun q => c2 (lc_le.mpr q)
      rw [e1, hx] at c2
      exact And.intro trivial (hQ _ _ (HQ _ (by rw [e1]; omega)))
  · have c := Int.not_le.mp fun q => c (lc_ge.mpr q)
    rw [e2, hx] at c
    exact And.intro trivial (hQ _ _ (HQ _ (by rw [e2]; omega)))
set_option maxHeartbeats 16000000 in
theorem w_costOf (hd : 2 ≤ d) (m : mg h w g) {e : Nat} (he : e < gM g) (HQ : ∀ h', sf [92] [] h h' → Q (.inl (some (.int (nI (gCo g e))))) h') : am_C xs am_P0 d m_Mo_costOf [.ref 87, .int (nI e)] h Q := by
  have hm := mg_m20 m
  have hn := mg_n9 m
  obtain ⟨w1, w2⟩ := mg_e m he
  have eR : nI 15 + nI 3 * nI e = nI (15 + 3 * e) := by rw [pk_mul, nI_add]
  have hwf := mg_wf m
  have h690 := m.2.2.2.2.2.2.2
  refine am_C_le hd (am_enter (d := 1) ap_Mo_costOf rfl ?_) (fun _ _ k => k)
  refine am_go (fun p => p == 28) (fun K cal Q' hK hC hQ => ?_)
  refine And.intro (sk_87 m.1.1) (hC _ _ _ _ (w_get (by decide) m.1 (k := 3) rfl (by decide) m.2.1.2.2.2 ?_))
  have gR : ∀ (h' : am_H) (q : Nat), q ≤ 2 → nI 15 + nI 3 * nI e + nI q = nI (15 + 3 * e + q) := fun _ q _ => by rw [eR, nI_add]
  cases hcs : gCs g with
  | none =>
    have e0 : ncs g = 0 := by unfold ncs; rw [hcs]
    rw [e0]
    refine And.intro (fun z => absurd rfl z) (fun _ => ?_)
    refine And.intro (sk_87 m.1.1) (hC _ _ _ _ (w_get (by decide) m.1 (k := 15 + 3 * e + 2) (gR h 2 (by decide)) (by omega) (m.2.2.2.1 e he).2.2 (And.intro trivial (hQ _ _ ?_))))
    have := HQ h sf_rf
    unfold gCo coF at this
    rw [hcs] at this
    exact this
  | some cs =>
    have e0 : ncs g = cs.length := by unfold ncs; rw [hcs]
    have eC : ∀ k, gcd g k = cs.getD k 0 := fun k => by unfold gcd; rw [hcs]
    obtain ⟨hok, hlen⟩ := hwf.2.2.2.2 cs hcs
    have hpos : 0 < cs.length := by
      rcases cs with _ | ⟨c, cs⟩
      · exact absurd (show 0 = 1 from hok) (by decide)
      · exact Nat.succ_pos _
    rw [e0] at h690
    rw [e0]
    refine And.intro (fun _ => hK _ _ _ _ ?_) (fun z => absurd (nI_ne0 hpos (by omega)) z)
    refine am_for cs.length (fun i L h' => ∃ (P : List Int) (v5 v6 v7 v8 v9 v10 : Value), L = [.ref 87, .int (nI e), .int (nI 15 + nI 3 * nI e), .int (nI P.length), .int (nI i), v5, v6, v7, v8, v9, v10] ∧ sf [92] [] h h' ∧ P.length ≤ 11 ∧ (∀ j, j < P.length → (am_l h' 92 j).toInt = pileAt P j) ∧ (∀ z ∈ P, -1000000 ≤ z ∧ z ≤ 1000000) ∧ foOk (cs.drop i) P.length 1 ∧ foRun (gWt g e) (gLd g (gLo g e)) (gLd g (gHi g e)) (cs.drop i) P = foRun (gWt g e) (gLd g (gLo g e)) (gLd g (gHi g e)) cs []) ?_ ?_ 0 (Nat.zero_le _) _ _ ⟨[], _, _, _, _, _, _, rfl, sf_rf, Nat.zero_le _, fun j hj => absurd hj (Nat.not_lt_zero j), fun z hz => absurd hz List.not_mem_nil, hok, rfl⟩
    · rintro i hi9 L h' ⟨P, v5, v6, v7, v8, v9, v10, rfl, s, hPl, hPw, hPb, hok9, hrun⟩ next
      have m' := sf_mg s m rfl (by decide)
      have hd9 : cs.drop i = cs.getD i 0 :: cs.drop (i + 1) := by
        rw [List.drop_eq_getElem_cons hi9]
        congr 1
        rw [List.getD_eq_getElem?_getD, List.getElem?_eq_getElem hi9]
        rfl
      rw [hd9] at hok9 hrun
      obtain ⟨hWh, hVh⟩ := m'.2.2.2.2.2.1 i (by rw [e0]; exact hi9)
      rw [eC] at hWh hVh
      generalize cs.getD i 0 = cv at hok9 hrun hWh hVh
      generalize hwv : am_i h' 88 (1472 * w + (84 + 2 * i)) = wv at hWh
      generalize hvv : am_i h' 88 (1472 * w + (84 + 2 * i + 1)) = vv at hVh
      have eI : am_inc (nI i) (Int.ofNat 1) = nI (i + 1) := nI_1 i
      rw [← eI] at next
      have rng := hok9.1
      refine am_go (fun p => p == 28) (fun K cal Q' hK hC hQ => ?_)
      refine And.intro (sk_87 m'.1.1) (hC _ _ _ _ (w_get (by decide) m'.1 (k := 3) rfl (by decide) m'.2.1.2.2.2 ?_))
      rw [e0]
      refine And.intro (fun z => absurd z (nI_ge hi9 (by omega))) (fun _ => ?_)
      refine And.intro (sk_87 m'.1.1) (hC _ _ _ _ (w_get (by decide) m'.1 (k := 84 + 2 * i) (by rw [← nI_add, ← pk_mul]) (by omega) hwv ?_))
      refine And.intro (sk_87 m'.1.1) (hC _ _ _ _ (w_get (by decide) m'.1 (k := 84 + 2 * i + 1) (by rw [← nI_add, ← nI_add, ← pk_mul]) (by omega) hvv ?_))
      have pR : am_r h' 87 16 = 92 := sr_87_16 m'.1.1
      have kP := sk_92 m'.1.1
      have e5 : (nI 5).toInt = 5 := by decide
      by_cases hop : cv ≤ -4
      · have hok2 := hok9.2
        rw [if_pos hop] at hok2
        obtain ⟨h2k, hok2⟩ := hok2
        rw [cW_op hop] at hWh
        have hstep : foStep (gWt g e) (gLd g (gLo g e)) (gLd g (gHi g e)) cv P = foPop (foOp cv) P := if_pos hop
        rcases P with _ | ⟨y, _ | ⟨x, P0⟩⟩
        · exact absurd h2k (show ¬ 2 ≤ 0 by decide)
        · exact absurd h2k (show ¬ 2 ≤ 1 by decide)
        · have by9 := hPb y (List.mem_cons_self)
          have bx9 := hPb x (List.mem_cons_of_mem _ List.mem_cons_self)
          have lP : (y :: x :: P0).length = P0.length + 2 := rfl
          rw [lP] at hPl hPw h2k hok2
          have eD : am_inc (nI (y :: x :: P0).length) (Int.negSucc 0) = nI (P0.length + 1) := nI_pred (P0.length + 1)
          have eD2 : am_inc (nI (y :: x :: P0).length) (Int.negSucc 0) - nI 1 = nI P0.length := by rw [eD]; exact nI_pred P0.length
          refine And.intro (fun z => absurd ((fa_eq _ _).mp z) (by rw [hWh]; show ¬ -3 - cv = 0; omega)) (fun _ => ?_)
          refine And.intro (fun _ => ?_) (fun z => absurd ((fa_eq _ _).mp (Classical.not_not.mp z)) (by rw [hWh, e5]; omega))
          refine And.intro (sk_87 m'.1.1) (And.intro (ck_row pR kP eD2 (by omega) (by omega)) ?_)
          refine And.intro (sk_87 m'.1.1) (And.intro (ck_row pR kP eD (by omega) (by omega)) ?_)
          refine And.intro (sk_87 m'.1.1) ?_
          have vx : (am_l h' (am_r h' 87 16) (am_inc (nI (y :: x :: P0).length) (Int.negSucc 0) - nI 1).toNatClampNeg).toInt = x := by
            rw [eD2, pR, q_cl (by omega), hPw _ (by omega), pileAt_cons (by rw [List.length_cons]; omega), if_neg (by rw [List.length_cons]; omega), pileAt_cons (by omega), if_pos rfl]
          have vy : (am_l h' (am_r h' 87 16) (am_inc (nI (y :: x :: P0).length) (Int.negSucc 0)).toNatClampNeg).toInt = y := by
            rw [eD, pR, q_cl (by omega), hPw _ (by omega), pileAt_cons (by rw [List.length_cons]; omega), if_pos (by rw [List.length_cons])]
          have fA : ∀ lx ly : Int64, lx.toInt = x → ly.toInt = y → (lx + ly).toInt = x + y := fun lx ly vx vy => by rw [fb_addL (by rw [vx, vy]; omega) (by rw [vx, vy]; omega), vx, vy]
          have fS : ∀ lx ly : Int64, lx.toInt = x → ly.toInt = y → (lx - ly).toInt = x - y := fun lx ly vx vy => by rw [fb_subL (by rw [vx, vy]; omega) (by rw [vx, vy]; omega), vx, vy]
          have hb : -1000000000000 ≤ x * y ∧ x * y ≤ 1000000000000 := q_mul6 bx9 by9
          have fM : ∀ lx ly : Int64, lx.toInt = x → ly.toInt = y → (lx * ly).toInt = x * y := fun lx ly vx vy => by rw [fb_mulL (by rw [vx, vy]; omega) (by rw [vx, vy]; omega), vx, vy]
          have fD : ∀ lx ly : Int64, lx.toInt = x → ly.toInt = y → (lx / ly).toInt = x.tdiv y := fun lx ly vx vy => by
            rw [Int64.toInt_div, vx, vy]
            have := Int.natAbs_tdiv_le_natAbs x y
            exact fb_bmodL (by omega) (by omega)
          have fin : ∀ (v7 v8 v9 v10 : Value) (r : Int64), r.toInt = foOp cv x y → K 28 [.ref 87, .int (nI e), .int (nI 15 + nI 3 * nI e), .int (am_inc (nI (y :: x :: P0).length) (Int.negSucc 0)), .int (am_inc (nI i) (Int.ofNat 1)), .int wv, .int vv, v7, v8, v9, v10] [] (am_pl h' (am_r h' 87 16) (am_inc (nI (y :: x :: P0).length) (Int.negSucc 0) - nI 1).toNatClampNeg r) := fun v7 v8 v9 v10 r hr => by
            refine hK _ _ _ _ (next _ _ ⟨foOp cv x y :: P0, .int wv, .int vv, v7, v8, v9, v10, ?_, ?_, ?_, ?_, ?_, ?_, ?_⟩)
            · rw [show (foOp cv x y :: P0).length = P0.length + 1 from rfl, ← eD]
            · rw [pR]; exact sf_pl s List.mem_cons_self
            · rw [List.length_cons]; omega
            · intro j hj
              rw [List.length_cons] at hj
              rw [pR, eD2, q_cl (by omega), l_pl_same, pileAt_cons (by omega)]
              by_cases q : j = P0.length
              · rw [if_pos q, if_pos q]; exact hr
              · rw [if_neg q, if_neg q, hPw j (by omega), pileAt_cons (by rw [List.length_cons]; omega), if_neg (by rw [List.length_cons]; omega), pileAt_cons (by omega), if_neg q]
            · intro z hz
              rcases List.mem_cons.mp hz with rfl | hz
              · exact foOp_rng _ _ _
              · exact hPb z (List.mem_cons_of_mem _ (List.mem_cons_of_mem _ hz))
            · rw [List.length_cons]; exact hok2
            · rw [← hrun]
              show foRun _ _ _ _ _ = foRun _ _ _ _ (foStep (gWt g e) (gLd g (gLo g e)) (gLd g (gHi g e)) cv (y :: x :: P0))
              rw [hstep]
              rfl
          unfold foOp at fin
          have e1 : (nI 1).toInt = 1 := by decide
          have e2 : (nI 2).toInt = 2 := by decide
          have e3 : (nI 3).toInt = 3 := by decide
          have fst : am_arr h' (am_r h' 87 16) 5 (am_inc (nI (y :: x :: P0).length) (Int.negSucc 0) - nI 1) := ck_row pR kP eD2 (by omega) (by omega)
          refine And.intro (fun z => ?_) (fun z => ?_)
          · have z : cv ≠ -4 := fun q => z ((fa_eq _ _).mpr (by rw [hWh, e1, q]; rfl))
            rw [if_neg z] at fin
            refine And.intro (fun z2 => ?_) (fun z2 => ?_)
            · have z2 : cv ≠ -5 := fun q => z2 ((fa_eq _ _).mpr (by rw [hWh, e2, q]; rfl))
              rw [if_neg z2] at fin
              refine And.intro (fun z3 => ?_) (fun z3 => ?_)
              · have z3 : cv ≠ -6 := fun q => z3 ((fa_eq _ _).mpr (by rw [hWh, e3, q]; rfl))
                rw [if_neg z3] at fin
                refine And.intro (fun z4 => ?_) (fun z4 => ?_)
                · have z5 : y ≠ 0 := fun q => z4 (lc_eq.mpr ((fa_eq64 _ _).mpr (vy.trans (by rw [q]; decide +kernel))))
                  rw [if_neg z5] at fin
                  exact And.intro (fun q => z4 (lc_eq.mpr q)) (And.intro trivial (hC _ _ _ _ (w_within (by decide) (fD _ _ vx vy) fun r hr => And.intro fst (fin _ _ _ _ r hr))))
                · have z5 : y = 0 := vy.symm.trans (((fa_eq64 _ _).mp (lc_eq.mp (Classical.not_not.mp z4))).trans (by decide +kernel))
                  rw [if_pos z5] at fin
                  exact And.intro trivial (hC _ _ _ _ (w_within (by decide) (z := 0) (by decide +kernel) fun r hr => And.intro fst (fin _ _ _ _ r hr)))
              · have z3 : cv = -6 := by have := (fa_eq _ _).mp (Classical.not_not.mp z3); rw [hWh, e3] at this; omega
                rw [if_pos z3] at fin
                exact And.intro trivial (hC _ _ _ _ (w_within (by decide) (fM _ _ vx vy) fun r hr => And.intro fst (fin _ _ _ _ r hr)))
            · have z2 : cv = -5 := by have := (fa_eq _ _).mp (Classical.not_not.mp z2); rw [hWh, e2] at this; omega
              rw [if_pos z2] at fin
              exact And.intro trivial (hC _ _ _ _ (w_within (by decide) (fS _ _ vx vy) fun r hr => And.intro fst (fin _ _ _ _ r hr)))
          · have z : cv = -4 := by have := (fa_eq _ _).mp (Classical.not_not.mp z); rw [hWh, e1] at this; omega
            rw [if_pos z] at fin
            exact And.intro trivial (hC _ _ _ _ (w_within (by decide) (fA _ _ vx vy) fun r hr => And.intro fst (fin _ _ _ _ r hr)))
      · have hok2 := hok9.2
        rw [if_neg hop] at hok2
        obtain ⟨hk11, hok2⟩ := hok2
        have hstep : foStep (gWt g e) (gLd g (gLo g e)) (gLd g (gHi g e)) cv P = foVal (gWt g e) (gLd g (gLo g e)) (gLd g (gHi g e)) cv :: P := if_neg hop
        have bw := hwf.2.2.1 e he
        have bl := hwf.2.2.2.1 (gLo g e) (by omega)
        have bg := hwf.2.2.2.1 (gHi g e) (by omega)
        have fst : am_arr h' (am_r h' 87 16) 5 (nI P.length) := ck_row pR kP rfl (by omega) (by omega)
        have fin : ∀ (r : Int64), r.toInt = foVal (gWt g e) (gLd g (gLo g e)) (gLd g (gHi g e)) cv → K 28 [.ref 87, .int (nI e), .int (nI 15 + nI 3 * nI e), .int (am_inc (nI P.length) (Int.ofNat 1)), .int (am_inc (nI i) (Int.ofNat 1)), .int wv, .int vv, v7, v8, v9, v10] [] (am_pl h' (am_r h' 87 16) (nI P.length).toNatClampNeg r) := fun r hr => by
          refine hK _ _ _ _ (next _ _ ⟨foVal (gWt g e) (gLd g (gLo g e)) (gLd g (gHi g e)) cv :: P, .int wv, .int vv, v7, v8, v9, v10, ?_, ?_, ?_, ?_, ?_, ?_, ?_⟩)
          · rw [List.length_cons, ← nI_1 P.length]; rfl
          · rw [pR]; exact sf_pl s List.mem_cons_self
          · rw [List.length_cons]; omega
          · intro j hj
            rw [List.length_cons] at hj
            rw [pR, q_cl (by omega), l_pl_same, pileAt_cons hj]
            by_cases q : j = P.length
            · rw [if_pos q, if_pos q]; exact hr
            · rw [if_neg q, if_neg q]; exact hPw j (by omega)
          · intro z hz
            rcases List.mem_cons.mp hz with rfl | hz
            · exact foVal_rng ⟨by omega, by omega⟩ ⟨by omega, by omega⟩ ⟨by omega, by omega⟩ ⟨by omega, by omega⟩
            · exact hPb z hz
          · rw [List.length_cons]; exact hok2
          · rw [← hrun]
            show foRun _ _ _ _ _ = foRun _ _ _ _ (foStep (gWt g e) (gLd g (gLo g e)) (gLd g (gHi g e)) cv P)
            rw [hstep]
        unfold foVal at fin
        by_cases hnum : 0 ≤ cv
        · rw [cW_num hnum] at hWh
          rw [cV_num hnum] at hVh
          rw [if_neg (by omega), if_neg (by omega), if_neg (by omega)] at fin
          have z0 : wv = 0 := (fa_eq _ _).mpr hWh
          refine And.intro (fun _ => ?_) (fun z => absurd z0 z)
          refine And.intro (sk_87 m'.1.1) (And.intro (fun z => absurd z0 z) (fun _ => ?_))
          exact And.intro fst (fin _ (by rw [q_L]; exact hVh))
        · rw [cW_var (by omega) (by omega)] at hWh
          rw [cV_var (by omega) (by omega)] at hVh
          have z0 : ¬ wv = 0 := fun z => absurd ((fa_eq _ _).mp z) (by rw [hWh]; decide)
          have z5 : wv = nI 5 := (fa_eq _ _).mpr (by rw [hWh]; rfl)
          refine And.intro (fun z => absurd z z0) (fun _ => ?_)
          refine And.intro (fun z => absurd z5 z) (fun _ => ?_)
          refine And.intro (sk_87 m'.1.1) (And.intro (fun _ => ?_) (fun z => absurd (Classical.not_not.mp z) z0))
          have hget : ∀ v, v < gN g → am_i h' 88 (1472 * w + (6 + v)) = nI (gLd g v) := m'.2.2.1
          rcases (show cv = -1 ∨ cv = -2 ∨ cv = -3 by omega) with q | q | q
          · rw [if_pos q] at fin
            have z1 : vv = 0 := (fa_eq _ _).mpr (by rw [hVh, q]; rfl)
            refine And.intro (fun z => absurd z1 z) (fun _ => ?_)
            refine And.intro (sk_87 m'.1.1) (hC _ _ _ _ (w_get (by decide) m'.1 (k := 15 + 3 * e + 2) (gR h 2 (by decide)) (by omega) (m'.2.2.2.1 e he).2.2 ?_))
            exact And.intro fst (fin _ (by rw [q_L, nI_toInt (by omega)]))
          · rw [if_neg (by omega), if_pos q] at fin
            have z1 : vv = nI 1 := (fa_eq _ _).mpr (by rw [hVh, q]; rfl)
            have z2 : ¬ vv = 0 := by rw [z1]; decide
            refine And.intro (fun _ => ?_) (fun z => absurd z2 z)
            refine And.intro (sk_87 m'.1.1) (hC _ _ _ _ (w_get (by decide) m'.1 (k := 15 + 3 * e) (by rw [z1, gR h 1 (by decide)]; exact nI_pred _) (by omega) (m'.2.2.2.1 e he).1 ?_))
            refine And.intro (sk_87 m'.1.1) (hC _ _ _ _ (w_get (by decide) m'.1 (k := 6 + gLo g e) (by rw [← nI_add]) (by omega) (hget _ (by omega)) ?_))
            exact And.intro fst (fin _ (by rw [q_L, nI_toInt (by omega)]))
          · rw [if_neg (by omega), if_neg (by omega), if_pos q] at fin
            have z1 : vv = nI 2 := (fa_eq _ _).mpr (by rw [hVh, q]; rfl)
            have z2 : ¬ vv = 0 := by rw [z1]; decide
            refine And.intro (fun _ => ?_) (fun z => absurd z2 z)
            refine And.intro (sk_87 m'.1.1) (hC _ _ _ _ (w_get (by decide) m'.1 (k := 15 + 3 * e + 1) (by rw [z1, gR h 2 (by decide)]; exact nI_pred _) (by omega) (m'.2.2.2.1 e he).2.1 ?_))
            refine And.intro (sk_87 m'.1.1) (hC _ _ _ _ (w_get (by decide) m'.1 (k := 6 + gHi g e) (by rw [← nI_add]) (by omega) (hget _ (by omega)) ?_))
            exact And.intro fst (fin _ (by rw [q_L, nI_toInt (by omega)]))
    · rintro L h' ⟨P, v5, v6, v7, v8, v9, v10, rfl, s, hPl, hPw, hPb, hok9, hrun⟩
      have m' := sf_mg s m rfl (by decide)
      rw [List.drop_length] at hok9 hrun
      have h1 : P.length = 1 := hok9
      obtain ⟨z, rfl⟩ := List.length_eq_one_iff.mp h1
      have pR : am_r h' 87 16 = 92 := sr_87_16 m'.1.1
      have kP := sk_92 m'.1.1
      have fst : am_arr h' (am_r h' 87 16) 5 (nI 0) := ck_row pR kP rfl (by decide) (by decide)
      have hz : (am_l h' (am_r h' 87 16) (nI 0).toNatClampNeg).toInt = z := by
        rw [pR, q_cl (by decide), hPw 0 Nat.one_pos]; rfl
      have e1 : (lN 1).toInt = 1 := by decide +kernel
      have e9 : (lN 9999).toInt = 9999 := by decide +kernel
      have HQ := HQ h' s
      have ev : gCo g e = (max 1 (min 9999 z)).toNat := by
        unfold gCo coF
        rw [hcs]
        show (max 1 (min 9999 (foEv cs _ _ _))).toNat = _
        unfold foEv
        rw [← hrun]
        rfl
      rw [ev] at HQ
      refine am_go (fun p => p == 28) (fun K cal Q' hK hC hQ => ?_)
      refine And.intro (sk_87 m'.1.1) (hC _ _ _ _ (w_get (by decide) m'.1 (k := 3) rfl (by decide) m'.2.1.2.2.2 ?_))
      rw [e0]
      refine And.intro (fun _ => ?_) (fun q => absurd (nI_le (Nat.le_refl _) (by omega)) q)
      refine And.intro (sk_87 m'.1.1) (And.intro fst ?_)
      refine And.intro (fun c => ?_) (fun c => ?_)
      · have c : (lN 1).toInt ≤ (am_l h' (am_r h' 87 16) (nI 0).toNatClampNeg).toInt := lc_ge.mp c
        rw [e1, hz] at c
        refine And.intro (sk_87 m'.1.1) (And.intro fst ?_)
        refine And.intro (fun c2 => ?_) (fun c2 => ?_)
        · have c2 : (am_l h' (am_r h' 87 16) (nI 0).toNatClampNeg).toInt ≤ (lN 9999).toInt := lc_le.mp c2
          rw [e9, hz] at c2
          refine And.intro (sk_87 m'.1.1) (And.intro fst (And.intro trivial (hQ _ _ ?_)))
          have e : (am_l h' (am_r h' 87 16) (nI 0).toNatClampNeg).toInt32 = nI (max 1 (min 9999 z)).toNat := by
            rw [fa_eq, Int64.toInt_toInt32, hz, nI_toInt (by omega)]
            refine (fb_bmod (by omega) (by omega)).trans ?_
            omega
          rw [← e] at HQ
          exact HQ
        · have c2 := Int.not_le.mp fun q => c2 (lc_le.mpr (show (am_l h' (am_r h' 87 16) (nI 0).toNatClampNeg).toInt ≤ (lN 9999).toInt from q))
          rw [e9, hz] at c2
          refine And.intro trivial (hQ _ _ ?_)
          rw [show max 1 (min 9999 z) = 9999 by omega] at HQ
          exact HQ
      · have c := Int.not_le.mp fun q => c (lc_ge.mpr (show (lN 1).toInt ≤ (am_l h' (am_r h' 87 16) (nI 0).toNatClampNeg).toInt from q))
        rw [e1, hz] at c
        refine And.intro trivial (hQ _ _ ?_)
        rw [show max 1 (min 9999 z) = 1 by omega] at HQ
        exact HQ
end

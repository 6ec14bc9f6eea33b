/-! THE COST EXPRESSION, on the machine -/
theorem q_L (x : Int32) : x.toInt64.toInt = x.toInt := Int32.toInt_toInt64 x
theorem q_clampL {z : Int64} : (if (if z < lN 1000000 then z else lN 1000000) < Int64.ofInt (Int.negSucc 999999) then Int64.ofInt (Int.negSucc 999999) else (if z < lN 1000000 then z else lN 1000000)).toInt32.toInt = max (-1000000) (min 1000000 z.toInt) := by
  have e1 : (lN 1000000).toInt = 1000000 := by decide +kernel
  have e2 : (Int64.ofInt (Int.negSucc 999999)).toInt = -1000000 := by decide +kernel
  rw [Int64.toInt_toInt32]
  have key : (if (if z < lN 1000000 then z else lN 1000000) < Int64.ofInt (Int.negSucc 999999) then Int64.ofInt (Int.negSucc 999999) else (if z < lN 1000000 then z else lN 1000000)).toInt = max (-1000000) (min 1000000 z.toInt) := by
    by_cases h : z < lN 1000000
    · rw [if_pos h]
      rw [fa_lt64, e1] at h
      by_cases h2 : z < Int64.ofInt (Int.negSucc 999999)
      · rw [if_pos h2, e2]; rw [fa_lt64, e2] at h2; omega
      · rw [if_neg h2]; rw [fa_lt64, e2] at h2; omega
    · rw [if_neg h]
      rw [fa_lt64, e1] at h
      rw [if_neg (by rw [fa_lt64, e1, e2]; omega), e1]
      omega
  rw [key]
  exact fb_bmod (by omega) (by omega)
set_option maxHeartbeats 4000000 in
theorem c_combine {xs : am_X} {d : Nat} {h : am_H} (hd : 1 ≤ d) {c x y : Int32} {ci xi yi : Int} (hc : c.toInt = ci) (hx : x.toInt = xi) (hy : y.toInt = yi) (bx : -1000000 ≤ xi ∧ xi ≤ 1000000) (by9 : -1000000 ≤ yi ∧ yi ≤ 1000000) {Q : am_Q} (HQ : ∀ r : Int32, r.toInt = foOp ci xi yi → Q (.inl (some (.int r))) h) : am_C xs am_P0 d m_Fo_combine [.int c, .int x, .int y] h Q := by
  have e4 : (-nI 4 : Int32).toInt = -4 := by decide
  have e5 : (-nI 5 : Int32).toInt = -5 := by decide
  have e6 : (-nI 6 : Int32).toInt = -6 := by decide
  refine am_C_le hd (am_enter (d := 0) ap_Fo_combine rfl ?_) (fun _ _ k => k)
  refine am_go (fun _ => false) (fun K cal Q' hK hC hQ => ?_)
  unfold foOp at HQ
  refine And.intro (fun z => ?_) (fun z => ?_)
  · have z : ci ≠ -4 := fun q => z ((fa_eq _ _).mpr (by rw [hc, e4, q]))
    rw [if_neg z] at HQ
    refine And.intro (fun z2 => ?_) (fun z2 => ?_)
    · have z2 : ci ≠ -5 := fun q => z2 ((fa_eq _ _).mpr (by rw [hc, e5, q]))
      rw [if_neg z2] at HQ
      refine And.intro (fun z3 => ?_) (fun z3 => ?_)
      · have z3 : ci ≠ -6 := fun q => z3 ((fa_eq _ _).mpr (by rw [hc, e6, q]))
        rw [if_neg z3] at HQ
        refine And.intro (fun z4 => ?_) (fun z4 => ?_)
        · have z4 : yi = 0 := by rw [← hy]; exact (fa_eq _ _).mp z4
          rw [if_pos z4] at HQ
          refine And.intro trivial (hQ _ _ (HQ _ ?_))
          exact q_clampL.trans rfl
        · have z4' : yi ≠ 0 := fun q => z4 ((fa_eq _ _).mpr (by rw [hy, q]; rfl))
          rw [if_neg z4'] at HQ
          refine And.intro z4 (And.intro trivial (hQ _ _ (HQ _ ?_)))
          refine q_clampL.trans ?_
          congr 2
          show (x / y).toInt64.toInt = _
          rw [q_L, Int32.toInt_div, hx, hy]
          have := Int.natAbs_tdiv_le_natAbs xi yi
          exact fb_bmod (by omega) (by omega)
      · have z3 : ci = -6 := by rw [← hc, ← e6]; exact (fa_eq _ _).mp (Classical.not_not.mp z3)
        rw [if_pos z3] at HQ
        refine And.intro trivial (hQ _ _ (HQ _ ?_))
        refine q_clampL.trans ?_
        congr 2
        have hb : -1000000000000 ≤ xi * yi ∧ xi * yi ≤ 1000000000000 := q_mul6 bx by9
        show (x.toInt64 * y.toInt64).toInt = _
        rw [fb_mulL (by rw [q_L, q_L, hx, hy]; omega) (by rw [q_L, q_L, hx, hy]; omega), q_L, q_L, hx, hy]
    · have z2 : ci = -5 := by rw [← hc, ← e5]; exact (fa_eq _ _).mp (Classical.not_not.mp z2)
      rw [if_pos z2] at HQ
      refine And.intro trivial (hQ _ _ (HQ _ ?_))
      refine q_clampL.trans ?_
      congr 2
      show (x.toInt64 - y.toInt64).toInt = _
      rw [fb_subL (by rw [q_L, q_L, hx, hy]; omega) (by rw [q_L, q_L, hx, hy]; omega), q_L, q_L, hx, hy]
  · have z : ci = -4 := by rw [← hc, ← e4]; exact (fa_eq _ _).mp (Classical.not_not.mp z)
    rw [if_pos z] at HQ
    refine And.intro trivial (hQ _ _ (HQ _ ?_))
    refine q_clampL.trans ?_
    congr 2
    show (x.toInt64 + y.toInt64).toInt = _
    rw [fb_addL (by rw [q_L, q_L, hx, hy]; omega) (by rw [q_L, q_L, hx, hy]; omega), q_L, q_L, hx, hy]
/-- a formula's cells: its codes -/
def fcs (h : am_H) (F : Nat) (cs : List Int) : Prop := am_k h F = (1, 1) ∧ am_r h F 0 = F + 1 ∧ am_r h F 1 = F + 2 ∧ am_k h (F + 1) = (2, cs.length) ∧ am_k h (F + 2) = (2, 11) ∧ (∀ k, k < cs.length → (am_i h (F + 1) k).toInt = cs.getD k 0) ∧ cs.length < 700
def foEv (cs : List Int) (w l g : Int) : Int := (foRun w l g cs []).headD 0
def pileAt (P : List Int) (j : Nat) : Int := P.getD (P.length - 1 - j) 0
theorem pileAt_cons {P : List Int} {v : Int} {j : Nat} (hj : j < P.length + 1) : pileAt (v :: P) j = if j = P.length then v else pileAt P j := by
  unfold pileAt
  rw [List.length_cons]
  by_cases e : j = P.length
  · rw [if_pos e, e]; simp
  · rw [if_neg e, show P.length + 1 - 1 - j = (P.length - 1 - j) + 1 by omega]; rfl
theorem foVal_rng {w l g c : Int} (hw : 0 ≤ w ∧ w ≤ 99) (hl : 0 ≤ l ∧ l ≤ 99) (hg : 0 ≤ g ∧ g ≤ 99) (hc : -4 < c ∧ c ≤ 9999) : -1000000 ≤ foVal w l g c ∧ foVal w l g c ≤ 1000000 := by
  unfold foVal
  split
  · omega
  · split
    · omega
    · split <;> omega
set_option maxHeartbeats 8000000 in
theorem c_evaluate {xs : am_X} {d : Nat} {h : am_H} {F : Nat} {cs : List Int} (hd : 2 ≤ d) (hF : fcs h F cs) (hok : foOk cs 0 1) {w l g : Int32} {wi li gi : Int} (hw : w.toInt = wi) (hl : l.toInt = li) (hg : g.toInt = gi) (bw : 0 ≤ wi ∧ wi ≤ 99) (bl : 0 ≤ li ∧ li ≤ 99) (bg : 0 ≤ gi ∧ gi ≤ 99) {Q : am_Q}
    (HQ : ∀ h' (r : Int32), sm [F + 2] h h' → r.toInt = foEv cs wi li gi → Q (.inl (some (.int r))) h') : am_C xs am_P0 d m_Fo_evaluate [.ref F, .int w, .int l, .int g] h Q := by
  obtain ⟨kF, rC, rW, kC, kW, hcs, hlen⟩ := hF
  refine am_C_le hd (am_enter (d := 1) ap_Fo_evaluate rfl ?_) (fun _ _ k => k)
  refine am_go (fun p => p == 6) (fun K cal Q' hK hC hQ => hK _ _ _ _ ?_)
  have nC : F + 1 ∉ [F + 2] := fun z => by have := List.mem_singleton.mp z; omega
  have nF : F ∉ [F + 2] := fun z => by have := List.mem_singleton.mp z; omega
  refine am_for cs.length (fun i L h' => ∃ (P : List Int) (v6 : Value), L = [.ref F, .int w, .int l, .int g, .int (nI P.length), .int (nI i), v6] ∧ sm [F + 2] h h' ∧ P.length ≤ 11 ∧ (∀ j, j < P.length → (am_i h' (F + 2) j).toInt = pileAt P j) ∧ (∀ z ∈ P, -1000000 ≤ z ∧ z ≤ 1000000) ∧ foOk (cs.drop i) P.length 1 ∧ foRun wi li gi (cs.drop i) P = foRun wi li gi cs []) ?_ ?_ 0 (Nat.zero_le _) _ _ ⟨[], am_J, rfl, sm.rf, Nat.zero_le _, fun j z => absurd z (Nat.not_lt_zero _), (fun z hz => absurd hz List.not_mem_nil), hok, rfl⟩
  · rintro i hi9 L h' ⟨P, v6, rfl, s, hPl, hPw, hPb, hok9, hrun⟩ next
    have kF' := (s.k F).trans kF
    have rC' := (s.r F 0).trans rC
    have rW' := (s.r F 1).trans rW
    have kC' := (s.k (F + 1)).trans kC
    have kW' := (s.k (F + 2)).trans kW
    have hd9 : cs.drop i = cs.getD i 0 :: cs.drop (i + 1) := by
      rw [List.drop_eq_getElem_cons hi9]
      congr 1
      rw [List.getD_eq_getElem?_getD, List.getElem?_eq_getElem hi9]
      rfl
    rw [hd9] at hok9 hrun
    have eI : am_inc (nI i) (Int.ofNat 1) = nI (i + 1) := nI_1 i
    rw [← eI] at next
    generalize hcv : cs.getD i 0 = cv at hok9 hrun
    have hcode : (am_i h' (am_r h' F 0) (nI i).toNatClampNeg).toInt = cv := by rw [rC', q_cl (by omega), s.i nC, hcs i hi9, hcv]
    have e4 : (-nI 4 : Int32).toInt = -4 := by decide
    refine am_go (fun p => p == 6) (fun K cal Q' hK hC hQ => ?_)
    refine And.intro kF' (And.intro ⟨by rw [rC', kC']; exact Nat.le_refl 2, by rw [rC', kC']; exact (by decide : 2 ≤ 6)⟩ ?_)
    have eN : nI (am_k h' (am_r h' F 0)).2 = nI cs.length := by rw [rC', kC']
    refine And.intro (fun z => absurd (show nI cs.length ≤ nI i from eN ▸ z) (nI_ge hi9 (by omega))) (fun _ => ?_)
    refine And.intro kF' (And.intro (ck_row rC' kC' rfl hi9 (by omega)) ?_)
    generalize am_i h' (am_r h' F 0) (nI i).toNatClampNeg = code at hcode
    have rng := hok9.1
    by_cases hop : cv ≤ -4
    · have hok2 := hok9.2
      rw [if_pos hop] at hok2
      obtain ⟨h2k, hok2⟩ := hok2
      have hstep : foStep wi li gi cv P = foPop (foOp cv) P := if_pos hop
      rcases P with _ | ⟨y, _ | ⟨x, P0⟩⟩
      · exact absurd h2k (show ¬ 2 ≤ 0 by decide)
      · exact absurd h2k (show ¬ 2 ≤ 1 by decide)
      · have by9 := hPb y (List.mem_cons_self)
        have bx9 := hPb x (List.mem_cons_of_mem _ List.mem_cons_self)
        have lP : (y :: x :: P0).length = P0.length + 2 := rfl
        rw [lP] at hPl hPw h2k hok2
        refine And.intro (fun z => absurd z ?_) (fun _ => ?_)
        · show ¬ (-nI 4 < code)
          rw [fa_lt, hcode, e4]; omega
        · refine And.intro (fun z => absurd z ?_) (fun _ => ?_)
          · show ¬ nI (P0.length + 2) < nI 2
            exact nI_nlt (by omega) (by omega)
          · refine And.intro kF' (And.intro kF' ?_)
            have eD : am_inc (nI (y :: x :: P0).length) (Int.negSucc 0) = nI (P0.length + 1) := nI_pred (P0.length + 1)
            have eD2 : am_inc (nI (y :: x :: P0).length) (Int.negSucc 0) - nI 1 = nI P0.length := by rw [eD]; exact nI_pred P0.length
            refine And.intro (ck_row rW' kW' eD2 (by omega) (by omega)) ?_
            refine And.intro kF' (And.intro (ck_row rW' kW' eD (by omega) (by omega)) ?_)
            refine And.intro trivial ?_
            have vx : (am_i h' (am_r h' F 1) (am_inc (nI (y :: x :: P0).length) (Int.negSucc 0) - nI 1).toNatClampNeg).toInt = x := by
              rw [eD2, rW', q_cl (by omega), hPw _ (by omega), pileAt_cons (by rw [List.length_cons]; omega), if_neg (by rw [List.length_cons]; omega), pileAt_cons (by omega), if_pos rfl]
            have vy : (am_i h' (am_r h' F 1) (am_inc (nI (y :: x :: P0).length) (Int.negSucc 0)).toNatClampNeg).toInt = y := by
              rw [eD, rW', q_cl (by omega), hPw _ (by omega), pileAt_cons (by rw [List.length_cons]; omega), if_pos (by rw [List.length_cons])]
            refine hC _ _ _ _ (c_combine (by decide) hcode vx vy bx9 by9 (fun r hr => ?_))
            refine And.intro (ck_row rW' kW' eD2 (by omega) (by omega)) ?_
            refine hK _ _ _ _ (next _ _ ⟨foOp cv x y :: P0, .int code, ?_, ?_, ?_, ?_, ?_, ?_, ?_⟩)
            · rw [show (foOp cv x y :: P0).length = P0.length + 1 from rfl, ← eD]; rfl
            · rw [show am_r h' F (65 % 64) = F + 2 from rW']; exact s.pi (List.mem_singleton.mpr rfl)
            · rw [List.length_cons]; omega
            · intro j hj
              rw [List.length_cons] at hj
              rw [show am_r h' F (65 % 64) = F + 2 from rW', eD2, q_cl (by omega), i_pi_same, pileAt_cons (by omega)]
              by_cases e : j = P0.length
              · rw [if_pos e, if_pos e]; exact hr
              · rw [if_neg e, if_neg e, hPw j (by omega), pileAt_cons (by rw [List.length_cons]; omega), if_neg (by rw [List.length_cons]; omega), pileAt_cons (by omega), if_neg e]
            · intro z hz
              rcases List.mem_cons.mp hz with rfl | hz
              · exact foOp_rng _ _ _
              · exact hPb z (List.mem_cons_of_mem _ (List.mem_cons_of_mem _ hz))
            · rw [List.length_cons]; exact hok2
            · rw [← hrun]
              show foRun _ _ _ _ _ = foRun _ _ _ _ (foStep wi li gi cv (y :: x :: P0))
              rw [hstep]
              rfl
    · have hok2 := hok9.2
      rw [if_neg hop] at hok2
      obtain ⟨hk11, hok2⟩ := hok2
      have hstep : foStep wi li gi cv P = foVal wi li gi cv :: P := if_neg hop
      refine And.intro (fun _ => ?_) (fun z => absurd ?_ z)
      rotate_left
      · show -nI 4 < code
        rw [fa_lt, hcode, e4]; omega
      refine And.intro (fun z => absurd z ?_) (fun _ => ?_)
      · show ¬ code ≤ -nI 4
        rw [fa_le, hcode, e4]; omega
      refine And.intro (fun z => absurd z (nI_ge hk11 (by omega))) (fun _ => ?_)
      refine And.intro kF' (And.intro trivial (hC _ _ _ _ (c_operand (by decide) hcode hw hl hg (fun r hr => ?_))))
      refine And.intro (ck_row rW' kW' rfl hk11 (by omega)) ?_
      refine hK _ _ _ _ (next _ _ ⟨foVal wi li gi cv :: P, .int code, ?_, ?_, ?_, ?_, ?_, ?_, ?_⟩)
      · rw [List.length_cons, ← nI_1 P.length]; rfl
      · rw [show am_r h' F (65 % 64) = F + 2 from rW']; exact s.pi (List.mem_singleton.mpr rfl)
      · rw [List.length_cons]; omega
      · intro j hj
        rw [List.length_cons] at hj
        rw [show am_r h' F (65 % 64) = F + 2 from rW', q_cl (by omega), i_pi_same, pileAt_cons hj]
        by_cases e : j = P.length
        · rw [if_pos e, if_pos e]; exact hr
        · rw [if_neg e, if_neg e]; exact hPw j (by omega)
      · intro z hz
        rcases List.mem_cons.mp hz with rfl | hz
        · exact foVal_rng bw bl bg ⟨by omega, by omega⟩
        · exact hPb z hz
      · rw [List.length_cons]; exact hok2
      · rw [← hrun]
        show foRun _ _ _ _ _ = foRun _ _ _ _ (foStep wi li gi cv P)
        rw [hstep]
  · rintro L h' ⟨P, v6, rfl, s, hPl, hPw, hPb, hok9, hrun⟩
    have kF' := (s.k F).trans kF
    have rC' := (s.r F 0).trans rC
    have rW' := (s.r F 1).trans rW
    have kC' := (s.k (F + 1)).trans kC
    have kW' := (s.k (F + 2)).trans kW
    rw [List.drop_length] at hok9 hrun
    have h1 : P.length = 1 := hok9
    have hP : ∃ z, P = [z] := List.length_eq_one_iff.mp h1
    obtain ⟨z, rfl⟩ := hP
    refine am_go (fun p => p == 6) (fun K cal Q' hK hC hQ => ?_)
    refine And.intro kF' (And.intro ⟨by rw [rC', kC']; exact Nat.le_refl 2, by rw [rC', kC']; exact (by decide : 2 ≤ 6)⟩ ?_)
    have eN : nI (am_k h' (am_r h' F 0)).2 = nI cs.length := by rw [rC', kC']
    refine And.intro (fun _ => ?_) (fun q => absurd (show nI (am_k h' (am_r h' F 0)).2 ≤ nI cs.length by rw [eN]; exact nI_le (Nat.le_refl _) (by omega)) q)
    refine And.intro kF' (And.intro (ck_row rW' kW' (e := 0) rfl (by decide) (by decide)) (And.intro trivial (hQ _ _ (HQ _ _ s ?_))))
    show (am_i h' (am_r h' F 1) (nI 0).toNatClampNeg).toInt = _
    rw [rW', q_cl (by decide), hPw 0 Nat.one_pos]
    unfold foEv
    rw [← hrun]
    rfl

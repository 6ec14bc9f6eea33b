/-! THE LAW: helpers -/
/-- a call of the class and what its answer is kept in -/
def clF2 (h h' : am_H) : Prop := (∀ a, a < am_n h ∨ am_n h' ≤ a → am_k h' a = am_k h a) ∧ (∀ a, 87 ≤ a → a ≤ 103 → am_i h' a = am_i h a) ∧ (am_n h ≤ am_n h' ∧ am_n h' ≤ am_n h + 3) ∧ am_cs h' ≤ am_cs h + 720
theorem clF2_of {h h' : am_H} (F : clF h h') : clF2 h h' := ⟨F.1, fun a h1 h2 => (F.2.1 a h1 (by omega)).1, F.2.2.1, F.2.2.2⟩
theorem clF2_out {h h' : am_H} (F : clF2 h h') (v : Int64) : clF2 h (am_pl h' 104 0 v) := F
theorem CI_out {h : am_H} {st : stD} (I : CI h st) (v : Int64) : CI (am_pl h 104 0 v) st := by
  obtain ⟨i1, i2, i3, ⟨i4, i5, i6⟩, i7⟩ := I
  have s : sm [104] h (am_pl h 104 0 v) := sm.rf.pl (by decide)
  exact ⟨s.sh i1, i2.mvs s (fun x hx => by have := List.mem_singleton.mp hx; omega) (fun x hx => by have := List.mem_singleton.mp hx; omega), i3.mvs s (fun x hx => by have := List.mem_singleton.mp hx; omega), ⟨i4, i5, i6⟩, i7⟩
theorem out_l (h : am_H) (v : Int64) : am_l (am_pl h 104 0 v) 104 0 = v := by rw [l_pl_same, if_pos rfl]
/-- the model behind a call of the class -/
theorem MI_cl {h h' : am_H} {st : stD} (M : MI h st) (hs : sh h') (F : clF2 h h') : MI h' st := by
  obtain ⟨w, m, ⟨i1, i2, i3⟩, ⟨j1, j2, j3⟩, i4⟩ := M
  have E : ∀ a, 87 ≤ a → a ≤ 103 → ∀ k, am_i h' a k = am_i h a k := fun a h1 h2 k => by rw [F.2.1 a h1 h2]
  have e88 : ∀ k, am_i h' 88 k = am_i h 88 k := E 88 (by decide) (by decide)
  have e87 : ∀ k, am_i h' 87 k = am_i h 87 k := E 87 (by decide) (by decide)
  exact ⟨w, ⟨⟨hs, m.1.2.1, (e87 3).trans m.1.2.2⟩, mrow_mv m.2 e88⟩, ⟨(e87 4).trans i1, i2, fun j g z => mrow_mv (i3 j g z) e88⟩, ⟨j1, (e87 7).trans j2, fun k hk => ⟨(E 90 (by decide) (by decide) k).trans (j3 k hk).1, (j3 k hk).2⟩⟩, (e87 8).trans i4⟩
theorem TN_cl {h h' : am_H} (T : TN h) (F : clF2 h h') : TN h' := fun a ha => (F.1 a (Or.inr ha)).trans (T a (by have := F.2.2.1.1; omega))
theorem mX_le : ∀ x, x ∈ (87 :: mX) → 87 ≤ x ∧ x ≤ 103 := by decide
/-- the class behind a call of the model -/
theorem CI_mo {h h' : am_H} {st : stD} (I : CI h st) (F : moF h h') : CI h' st := by
  obtain ⟨i1, i2, i3, ⟨i4, i5, i6⟩, i7⟩ := I
  have N : ∀ a, a < 87 → ∀ k, am_i h' a k = am_i h a k := fun a ha k => F.i (fun z => by have := mX_le a z; omega) k
  exact ⟨F.sh i1, i2.mvs F (fun x hx => by have := mX_le x hx; omega) (fun x hx => by have := mX_le x hx; omega), i3.mvs F (fun x hx => by have := mX_le x hx; omega), ⟨i4, (N 1 (by decide) 1).trans i5, fun k hk => ⟨(N 2 (by decide) k).trans (i6 k hk).1, (i6 k hk).2⟩⟩, (N 1 (by decide) 2).trans i7⟩
theorem TN_mo {h h' : am_H} (T : TN h) (F : moF h h') : TN h' := fun a ha => (F.k a).trans (T a (by rw [F.n] at ha; exact ha))
theorem out_mo {h h' : am_H} (F : moF h h') : am_l h' 104 0 = am_l h 104 0 := by rw [(F.2.2 104 (fun z => by have := mX_le 104 z; omega)).2]
theorem lg_same (x : Int64) : lg_cmp x x = 0 := by
  have h1 : 0 ≤ lg_cmp x x := lc_ge.mpr (Int.le_refl _)
  have h2 : lg_cmp x x ≤ 0 := lc_le.mpr (Int.le_refl _)
  rw [fa_le] at h1 h2
  rw [fa_eq]
  omega
section
variable {xs : am_X} {d : Nat} {h : am_H} {st : stD} {Q : am_Q}
set_option maxHeartbeats 4000000 in
theorem h_burden (hd : 4 ≤ d) (I : CI h st) (hN : topN h) (v : Int32) (HQ : ∀ h', CI h' st → clF2 h h' → ((sBurden st.1 v).1 = 0 → am_l h' 104 0 = (sBurden st.1 v).2.toInt64) → Q (.inl (some (.int (nI (sBurden st.1 v).1)))) h') : am_C xs am_P0 d m_La_burden [.ref 1, .int v, .ref 104] h Q := by
  have hc : (sBurden st.1 v).1 = 0 ∨ (sBurden st.1 v).1 = 1 := by
    unfold sBurden
    repeat' split
    all_goals first | exact Or.inl rfl | exact Or.inr rfl | exact Or.inr (Or.inl rfl) | exact Or.inr (Or.inr rfl)
  refine am_C_le hd (am_enter (d := 3) ap_La_burden rfl ?_) (fun _ _ k => k)
  refine am_go (fun _ => false) (fun K cal Q' hK hC hQ => ?_)
  refine And.intro (sk_1 I.1) (hC _ _ _ _ (k_burden (by decide) I hN v (fun h1 I1 F1 => ?_)))
  revert hc HQ
  generalize (sBurden st.1 v) = p
  obtain ⟨c, w⟩ := p
  intro HQ hc
  rcases hc with hc | hc
  · have hc : c = 0 := hc
    subst hc
    refine And.intro (ck_arr (sk_104 I1.1) (e := 0) rfl (by decide) (by decide)) (And.intro trivial (hQ _ _ ?_))
    exact HQ (am_pl h1 104 0 w.toInt64) (CI_out I1 _) (clF2_out (clF2_of F1) _) (fun _ => out_l _ _)
  · have hc : c = 1 := hc
    subst hc
    exact And.intro trivial (hQ _ _ (HQ h1 I1 (clF2_of F1) (fun z => absurd (show (1 : Nat) = 0 from z) (by decide))))
set_option maxHeartbeats 4000000 in
theorem h_cutCost (hd : 4 ≤ d) (I : CI h st) (hN : topN h) (v : Int32) (HQ : ∀ h', CI h' st → clF2 h h' → ((sCutCost st.1 v).1 = 0 → am_l h' 104 0 = (sCutCost st.1 v).2.toInt64) → Q (.inl (some (.int (nI (sCutCost st.1 v).1)))) h') : am_C xs am_P0 d m_La_cutCost [.ref 1, .int v, .ref 104] h Q := by
  have hc : (sCutCost st.1 v).1 = 0 ∨ (sCutCost st.1 v).1 = 1 := by
    unfold sCutCost
    repeat' split
    all_goals first | exact Or.inl rfl | exact Or.inr rfl | exact Or.inr (Or.inl rfl) | exact Or.inr (Or.inr rfl)
  refine am_C_le hd (am_enter (d := 3) ap_La_cutCost rfl ?_) (fun _ _ k => k)
  refine am_go (fun _ => false) (fun K cal Q' hK hC hQ => ?_)
  refine And.intro (sk_1 I.1) (hC _ _ _ _ (k_cutCost (by decide) I hN v (fun h1 I1 F1 => ?_)))
  revert hc HQ
  generalize (sCutCost st.1 v) = p
  obtain ⟨c, w⟩ := p
  intro HQ hc
  rcases hc with hc | hc
  · have hc : c = 0 := hc
    subst hc
    refine And.intro (ck_arr (sk_104 I1.1) (e := 0) rfl (by decide) (by decide)) (And.intro trivial (hQ _ _ ?_))
    exact HQ (am_pl h1 104 0 w.toInt64) (CI_out I1 _) (clF2_out (clF2_of F1) _) (fun _ => out_l _ _)
  · have hc : c = 1 := hc
    subst hc
    exact And.intro trivial (hQ _ _ (HQ h1 I1 (clF2_of F1) (fun z => absurd (show (1 : Nat) = 0 from z) (by decide))))
set_option maxHeartbeats 4000000 in
theorem h_isolatingValue (hd : 7 ≤ d) (I : CI h st) (hN : topN h) (v : Int32) (HQ : ∀ h', CI h' st → clF2 h h' → ((sIsoV st.1 v).1 = 0 → am_l h' 104 0 = (sIsoV st.1 v).2.toInt64) → Q (.inl (some (.int (nI (sIsoV st.1 v).1)))) h') : am_C xs am_P0 d m_La_isolatingValue [.ref 1, .int v, .ref 104] h Q := by
  have hc : (sIsoV st.1 v).1 = 0 ∨ (sIsoV st.1 v).1 = 1 := by
    unfold sIsoV
    repeat' split
    all_goals first | exact Or.inl rfl | exact Or.inr rfl | exact Or.inr (Or.inl rfl) | exact Or.inr (Or.inr rfl)
  refine am_C_le hd (am_enter (d := 6) ap_La_isolatingValue rfl ?_) (fun _ _ k => k)
  refine am_go (fun _ => false) (fun K cal Q' hK hC hQ => ?_)
  refine And.intro (sk_1 I.1) (hC _ _ _ _ (k_isolatingValue (by decide) I hN v (fun h1 I1 F1 => ?_)))
  revert hc HQ
  generalize (sIsoV st.1 v) = p
  obtain ⟨c, w⟩ := p
  intro HQ hc
  rcases hc with hc | hc
  · have hc : c = 0 := hc
    subst hc
    refine And.intro (ck_arr (sk_104 I1.1) (e := 0) rfl (by decide) (by decide)) (And.intro trivial (hQ _ _ ?_))
    exact HQ (am_pl h1 104 0 w.toInt64) (CI_out I1 _) (clF2_out (clF2_of F1) _) (fun _ => out_l _ _)
  · have hc : c = 1 := hc
    subst hc
    exact And.intro trivial (hQ _ _ (HQ h1 I1 (clF2_of F1) (fun z => absurd (show (1 : Nat) = 0 from z) (by decide))))
set_option maxHeartbeats 4000000 in
theorem h_isolatingSet (hd : 6 ≤ d) (I : CI h st) (hN : topN h) (v : Int32) (HQ : ∀ h', CI h' st → clF2 h h' → ((sIsoS st.1 v).1 = 0 → am_l h' 104 0 = (sIsoS st.1 v).2.toInt64) → Q (.inl (some (.int (nI (sIsoS st.1 v).1)))) h') : am_C xs am_P0 d m_La_isolatingSet [.ref 1, .int v, .ref 104] h Q := by
  have hc : (sIsoS st.1 v).1 = 0 ∨ (sIsoS st.1 v).1 = 1 := by
    unfold sIsoS
    repeat' split
    all_goals first | exact Or.inl rfl | exact Or.inr rfl | exact Or.inr (Or.inl rfl) | exact Or.inr (Or.inr rfl)
  refine am_C_le hd (am_enter (d := 5) ap_La_isolatingSet rfl ?_) (fun _ _ k => k)
  refine am_go (fun _ => false) (fun K cal Q' hK hC hQ => ?_)
  refine And.intro (sk_1 I.1) (hC _ _ _ _ (k_isolatingSet (by decide) I hN v (fun h1 I1 F1 => ?_)))
  revert hc HQ
  generalize (sIsoS st.1 v) = p
  obtain ⟨c, w⟩ := p
  intro HQ hc
  rcases hc with hc | hc
  · have hc : c = 0 := hc
    subst hc
    refine And.intro (ck_arr (sk_104 I1.1) (e := 0) rfl (by decide) (by decide)) (And.intro trivial (hQ _ _ ?_))
    exact HQ (am_pl h1 104 0 w.toInt64) (CI_out I1 _) (clF2_out (clF2_of F1) _) (fun _ => out_l _ _)
  · have hc : c = 1 := hc
    subst hc
    exact And.intro trivial (hQ _ _ (HQ h1 I1 (clF2_of F1) (fun z => absurd (show (1 : Nat) = 0 from z) (by decide))))
set_option maxHeartbeats 4000000 in
theorem h_fixed (hd : 7 ≤ d) (I : CI h st) (hN : topN h) (v : Int32) (HQ : ∀ h', CI h' st → clF2 h h' → ((sFixed st.1 v).1 = 0 → am_l h' 104 0 = (sFixed st.1 v).2.toInt64) → Q (.inl (some (.int (nI (sFixed st.1 v).1)))) h') : am_C xs am_P0 d m_La_fixed [.ref 1, .int v, .ref 104] h Q := by
  have hc : (sFixed st.1 v).1 = 0 ∨ (sFixed st.1 v).1 = 1 := by
    unfold sFixed
    repeat' split
    all_goals first | exact Or.inl rfl | exact Or.inr rfl | exact Or.inr (Or.inl rfl) | exact Or.inr (Or.inr rfl)
  refine am_C_le hd (am_enter (d := 6) ap_La_fixed rfl ?_) (fun _ _ k => k)
  refine am_go (fun _ => false) (fun K cal Q' hK hC hQ => ?_)
  refine And.intro (sk_1 I.1) (hC _ _ _ _ (k_fixed (by decide) I hN v (fun h1 I1 F1 => ?_)))
  revert hc HQ
  generalize (sFixed st.1 v) = p
  obtain ⟨c, w⟩ := p
  intro HQ hc
  rcases hc with hc | hc
  · have hc : c = 0 := hc
    subst hc
    refine And.intro (ck_arr (sk_104 I1.1) (e := 0) rfl (by decide) (by decide)) (And.intro trivial (hQ _ _ ?_))
    exact HQ (am_pl h1 104 0 w.toInt64) (CI_out I1 _) (clF2_out (clF2_of F1) _) (fun _ => out_l _ _)
  · have hc : c = 1 := hc
    subst hc
    exact And.intro trivial (hQ _ _ (HQ h1 I1 (clF2_of F1) (fun z => absurd (show (1 : Nat) = 0 from z) (by decide))))
set_option maxHeartbeats 4000000 in
theorem h_exact (hd : 14 ≤ d) (I : CI h st) (hN : topN h) (v : Int32) (HQ : ∀ h', CI h' st → clF2 h h' → ((sEx st.1 v).1 = 0 → am_l h' 104 0 = (sEx st.1 v).2.toInt64) → Q (.inl (some (.int (nI (sEx st.1 v).1)))) h') : am_C xs am_P0 d m_La_exact [.ref 1, .int v, .ref 104] h Q := by
  have hc : (sEx st.1 v).1 = 0 ∨ (sEx st.1 v).1 = 1 := by
    unfold sEx
    repeat' split
    all_goals first | exact Or.inl rfl | exact Or.inr rfl | exact Or.inr (Or.inl rfl) | exact Or.inr (Or.inr rfl)
  refine am_C_le hd (am_enter (d := 13) ap_La_exact rfl ?_) (fun _ _ k => k)
  refine am_go (fun _ => false) (fun K cal Q' hK hC hQ => ?_)
  refine And.intro (sk_1 I.1) (hC _ _ _ _ (k_exact (by decide) I hN v (fun h1 I1 F1 => ?_)))
  revert hc HQ
  generalize (sEx st.1 v) = p
  obtain ⟨c, w⟩ := p
  intro HQ hc
  rcases hc with hc | hc
  · have hc : c = 0 := hc
    subst hc
    refine And.intro (ck_arr (sk_104 I1.1) (e := 0) rfl (by decide) (by decide)) (And.intro trivial (hQ _ _ ?_))
    exact HQ (am_pl h1 104 0 w.toInt64) (CI_out I1 _) (clF2_out (clF2_of F1) _) (fun _ => out_l _ _)
  · have hc : c = 1 := hc
    subst hc
    exact And.intro trivial (hQ _ _ (HQ h1 I1 (clF2_of F1) (fun z => absurd (show (1 : Nat) = 0 from z) (by decide))))
set_option maxHeartbeats 4000000 in
theorem h_price (hd : 14 ≤ d) (I : CI h st) (hN : topN h) (v : Int32) (HQ : ∀ h', CI h' st → clF2 h h' → ((sPrice st.1 v).1 = 0 → am_l h' 104 0 = (sPrice st.1 v).2.toInt64) → Q (.inl (some (.int (nI (sPrice st.1 v).1)))) h') : am_C xs am_P0 d m_La_price [.ref 1, .int v, .ref 104] h Q := by
  have hc : (sPrice st.1 v).1 = 0 ∨ (sPrice st.1 v).1 = 1 := by
    unfold sPrice
    repeat' split
    all_goals first | exact Or.inl rfl | exact Or.inr rfl | exact Or.inr (Or.inl rfl) | exact Or.inr (Or.inr rfl)
  refine am_C_le hd (am_enter (d := 13) ap_La_price rfl ?_) (fun _ _ k => k)
  refine am_go (fun _ => false) (fun K cal Q' hK hC hQ => ?_)
  refine And.intro (sk_1 I.1) (hC _ _ _ _ (k_price (by decide) I hN v (fun h1 I1 F1 => ?_)))
  revert hc HQ
  generalize (sPrice st.1 v) = p
  obtain ⟨c, w⟩ := p
  intro HQ hc
  rcases hc with hc | hc
  · have hc : c = 0 := hc
    subst hc
    refine And.intro (ck_arr (sk_104 I1.1) (e := 0) rfl (by decide) (by decide)) (And.intro trivial (hQ _ _ ?_))
    exact HQ (am_pl h1 104 0 w.toInt64) (CI_out I1 _) (clF2_out (clF2_of F1) _) (fun _ => out_l _ _)
  · have hc : c = 1 := hc
    subst hc
    exact And.intro trivial (hQ _ _ (HQ h1 I1 (clF2_of F1) (fun z => absurd (show (1 : Nat) = 0 from z) (by decide))))
set_option maxHeartbeats 4000000 in
theorem h_nearest (hd : 5 ≤ d) (I : CI h st) (hN : topN h) (v : Int32) (HQ : ∀ h', CI h' st → clF2 h h' → ((sNear st.1 v).1 = 0 → am_l h' 104 0 = (sNear st.1 v).2.toInt64) → Q (.inl (some (.int (nI (sNear st.1 v).1)))) h') : am_C xs am_P0 d m_La_nearest [.ref 1, .int v, .ref 104] h Q := by
  have hc : (sNear st.1 v).1 = 0 ∨ (sNear st.1 v).1 = 1 := by
    unfold sNear
    repeat' split
    all_goals first | exact Or.inl rfl | exact Or.inr rfl | exact Or.inr (Or.inl rfl) | exact Or.inr (Or.inr rfl)
  refine am_C_le hd (am_enter (d := 4) ap_La_nearest rfl ?_) (fun _ _ k => k)
  refine am_go (fun _ => false) (fun K cal Q' hK hC hQ => ?_)
  refine And.intro (sk_1 I.1) (hC _ _ _ _ (k_nearest (by decide) I hN v (fun h1 I1 F1 => ?_)))
  revert hc HQ
  generalize (sNear st.1 v) = p
  obtain ⟨c, w⟩ := p
  intro HQ hc
  rcases hc with hc | hc
  · have hc : c = 0 := hc
    subst hc
    refine And.intro (ck_arr (sk_104 I1.1) (e := 0) rfl (by decide) (by decide)) (And.intro trivial (hQ _ _ ?_))
    exact HQ (am_pl h1 104 0 w.toInt64) (CI_out I1 _) (clF2_out (clF2_of F1) _) (fun _ => out_l _ _)
  · have hc : c = 1 := hc
    subst hc
    exact And.intro trivial (hQ _ _ (HQ h1 I1 (clF2_of F1) (fun z => absurd (show (1 : Nat) = 0 from z) (by decide))))
set_option maxHeartbeats 4000000 in
theorem h_distance (hd : 5 ≤ d) (I : CI h st) (hN : topN h) (v : Int32) (HQ : ∀ h', CI h' st → clF2 h h' → ((sDist st.1 v).1 = 0 → am_l h' 104 0 = (sDist st.1 v).2.toInt64) → Q (.inl (some (.int (nI (sDist st.1 v).1)))) h') : am_C xs am_P0 d m_La_distance [.ref 1, .int v, .ref 104] h Q := by
  have hc : (sDist st.1 v).1 = 0 ∨ (sDist st.1 v).1 = 1 := by
    unfold sDist
    repeat' split
    all_goals first | exact Or.inl rfl | exact Or.inr rfl | exact Or.inr (Or.inl rfl) | exact Or.inr (Or.inr rfl)
  refine am_C_le hd (am_enter (d := 4) ap_La_distance rfl ?_) (fun _ _ k => k)
  refine am_go (fun _ => false) (fun K cal Q' hK hC hQ => ?_)
  refine And.intro (sk_1 I.1) (hC _ _ _ _ (k_distance (by decide) I hN v (fun h1 I1 F1 => ?_)))
  revert hc HQ
  generalize (sDist st.1 v) = p
  obtain ⟨c, w⟩ := p
  intro HQ hc
  rcases hc with hc | hc
  · have hc : c = 0 := hc
    subst hc
    refine And.intro (ck_arr (sk_104 I1.1) (e := 0) rfl (by decide) (by decide)) (And.intro trivial (hQ _ _ ?_))
    exact HQ (am_pl h1 104 0 w.toInt64) (CI_out I1 _) (clF2_out (clF2_of F1) _) (fun _ => out_l _ _)
  · have hc : c = 1 := hc
    subst hc
    exact And.intro trivial (hQ _ _ (HQ h1 I1 (clF2_of F1) (fun z => absurd (show (1 : Nat) = 0 from z) (by decide))))
set_option maxHeartbeats 4000000 in
theorem h_label (hd : 4 ≤ d) (I : CI h st) (hN : topN h) (v : Int32) (HQ : ∀ h', CI h' st → clF2 h h' → ((sLabel st.1 v).1 = 0 → am_l h' 104 0 = (sLabel st.1 v).2.toInt64) → Q (.inl (some (.int (nI (sLabel st.1 v).1)))) h') : am_C xs am_P0 d m_La_label [.ref 1, .int v, .ref 104] h Q := by
  have hc : (sLabel st.1 v).1 = 0 ∨ (sLabel st.1 v).1 = 1 := by
    unfold sLabel
    repeat' split
    all_goals first | exact Or.inl rfl | exact Or.inr rfl | exact Or.inr (Or.inl rfl) | exact Or.inr (Or.inr rfl)
  refine am_C_le hd (am_enter (d := 3) ap_La_label rfl ?_) (fun _ _ k => k)
  refine am_go (fun _ => false) (fun K cal Q' hK hC hQ => ?_)
  refine And.intro (sk_1 I.1) (hC _ _ _ _ (k_label (by decide) I hN v (fun h1 I1 F1 => ?_)))
  revert hc HQ
  generalize (sLabel st.1 v) = p
  obtain ⟨c, w⟩ := p
  intro HQ hc
  rcases hc with hc | hc
  · have hc : c = 0 := hc
    subst hc
    refine And.intro (ck_arr (sk_104 I1.1) (e := 0) rfl (by decide) (by decide)) (And.intro trivial (hQ _ _ ?_))
    exact HQ (am_pl h1 104 0 w.toInt64) (CI_out I1 _) (clF2_out (clF2_of F1) _) (fun _ => out_l _ _)
  · have hc : c = 1 := hc
    subst hc
    exact And.intro trivial (hQ _ _ (HQ h1 I1 (clF2_of F1) (fun z => absurd (show (1 : Nat) = 0 from z) (by decide))))
set_option maxHeartbeats 4000000 in
theorem h_bestMove (hd : 6 ≤ d) (I : CI h st) (hN : topN h) (v : Int32) (HQ : ∀ h', CI h' st → clF2 h h' → ((sMove st.1 v).1 = 0 → am_l h' 104 0 = (sMove st.1 v).2.toInt64) → Q (.inl (some (.int (nI (sMove st.1 v).1)))) h') : am_C xs am_P0 d m_La_bestMove [.ref 1, .int v, .ref 104] h Q := by
  have hc : (sMove st.1 v).1 = 0 ∨ (sMove st.1 v).1 = 1 := by
    unfold sMove
    repeat' split
    all_goals first | exact Or.inl rfl | exact Or.inr rfl | exact Or.inr (Or.inl rfl) | exact Or.inr (Or.inr rfl)
  refine am_C_le hd (am_enter (d := 5) ap_La_bestMove rfl ?_) (fun _ _ k => k)
  refine am_go (fun _ => false) (fun K cal Q' hK hC hQ => ?_)
  refine And.intro (sk_1 I.1) (hC _ _ _ _ (k_bestMove (by decide) I hN v (fun h1 I1 F1 => ?_)))
  revert hc HQ
  generalize (sMove st.1 v) = p
  obtain ⟨c, w⟩ := p
  intro HQ hc
  rcases hc with hc | hc
  · have hc : c = 0 := hc
    subst hc
    refine And.intro (ck_arr (sk_104 I1.1) (e := 0) rfl (by decide) (by decide)) (And.intro trivial (hQ _ _ ?_))
    exact HQ (am_pl h1 104 0 w.toInt64) (CI_out I1 _) (clF2_out (clF2_of F1) _) (fun _ => out_l _ _)
  · have hc : c = 1 := hc
    subst hc
    exact And.intro trivial (hQ _ _ (HQ h1 I1 (clF2_of F1) (fun z => absurd (show (1 : Nat) = 0 from z) (by decide))))
set_option maxHeartbeats 4000000 in
theorem h_dearest (hd : 8 ≤ d) (I : CI h st) (hN : topN h) (HQ : ∀ h', CI h' st → clF2 h h' → ((sDear st.1).1 = 0 → am_l h' 104 0 = (sDear st.1).2.toInt64) → Q (.inl (some (.int (nI (sDear st.1).1)))) h') : am_C xs am_P0 d m_La_dearest [.ref 1, .ref 104] h Q := by
  have hc : (sDear st.1).1 = 0 ∨ (sDear st.1).1 = 1 := by
    unfold sDear
    repeat' split
    all_goals first | exact Or.inl rfl | exact Or.inr rfl | exact Or.inr (Or.inl rfl) | exact Or.inr (Or.inr rfl)
  refine am_C_le hd (am_enter (d := 7) ap_La_dearest rfl ?_) (fun _ _ k => k)
  refine am_go (fun _ => false) (fun K cal Q' hK hC hQ => ?_)
  refine And.intro (sk_1 I.1) (hC _ _ _ _ (k_dearest (by decide) I hN (fun h1 I1 F1 => ?_)))
  revert hc HQ
  generalize (sDear st.1) = p
  obtain ⟨c, w⟩ := p
  intro HQ hc
  rcases hc with hc | hc
  · have hc : c = 0 := hc
    subst hc
    refine And.intro (ck_arr (sk_104 I1.1) (e := 0) rfl (by decide) (by decide)) (And.intro trivial (hQ _ _ ?_))
    exact HQ (am_pl h1 104 0 w.toInt64) (CI_out I1 _) (clF2_out (clF2_of F1) _) (fun _ => out_l _ _)
  · have hc : c = 1 := hc
    subst hc
    exact And.intro trivial (hQ _ _ (HQ h1 I1 (clF2_of F1) (fun z => absurd (show (1 : Nat) = 0 from z) (by decide))))
set_option maxHeartbeats 4000000 in
theorem h_unionCut (hd : 9 ≤ d) (I : CI h st) (hN : topN h) (HQ : ∀ h', CI h' st → clF2 h h' → ((sUni st.1).1 = 0 → am_l h' 104 0 = (sUni st.1).2.toInt64) → Q (.inl (some (.int (nI (sUni st.1).1)))) h') : am_C xs am_P0 d m_La_unionCut [.ref 1, .ref 104] h Q := by
  have hc : (sUni st.1).1 = 0 ∨ (sUni st.1).1 = 1 := by
    unfold sUni
    repeat' split
    all_goals first | exact Or.inl rfl | exact Or.inr rfl | exact Or.inr (Or.inl rfl) | exact Or.inr (Or.inr rfl)
  refine am_C_le hd (am_enter (d := 8) ap_La_unionCut rfl ?_) (fun _ _ k => k)
  refine am_go (fun _ => false) (fun K cal Q' hK hC hQ => ?_)
  refine And.intro (sk_1 I.1) (hC _ _ _ _ (k_unionCut (by decide) I hN (fun h1 I1 F1 => ?_)))
  revert hc HQ
  generalize (sUni st.1) = p
  obtain ⟨c, w⟩ := p
  intro HQ hc
  rcases hc with hc | hc
  · have hc : c = 0 := hc
    subst hc
    refine And.intro (ck_arr (sk_104 I1.1) (e := 0) rfl (by decide) (by decide)) (And.intro trivial (hQ _ _ ?_))
    exact HQ (am_pl h1 104 0 w.toInt64) (CI_out I1 _) (clF2_out (clF2_of F1) _) (fun _ => out_l _ _)
  · have hc : c = 1 := hc
    subst hc
    exact And.intro trivial (hQ _ _ (HQ h1 I1 (clF2_of F1) (fun z => absurd (show (1 : Nat) = 0 from z) (by decide))))
set_option maxHeartbeats 4000000 in
theorem h_unionCost (hd : 9 ≤ d) (I : CI h st) (hN : topN h) (HQ : ∀ h', CI h' st → clF2 h h' → ((sUniC st.1).1 = 0 → am_l h' 104 0 = (sUniC st.1).2.toInt64) → Q (.inl (some (.int (nI (sUniC st.1).1)))) h') : am_C xs am_P0 d m_La_unionCost [.ref 1, .ref 104] h Q := by
  have hc : (sUniC st.1).1 = 0 ∨ (sUniC st.1).1 = 1 := by
    unfold sUniC
    repeat' split
    all_goals first | exact Or.inl rfl | exact Or.inr rfl | exact Or.inr (Or.inl rfl) | exact Or.inr (Or.inr rfl)
  refine am_C_le hd (am_enter (d := 8) ap_La_unionCost rfl ?_) (fun _ _ k => k)
  refine am_go (fun _ => false) (fun K cal Q' hK hC hQ => ?_)
  refine And.intro (sk_1 I.1) (hC _ _ _ _ (k_unionCost (by decide) I hN (fun h1 I1 F1 => ?_)))
  revert hc HQ
  generalize (sUniC st.1) = p
  obtain ⟨c, w⟩ := p
  intro HQ hc
  rcases hc with hc | hc
  · have hc : c = 0 := hc
    subst hc
    refine And.intro (ck_arr (sk_104 I1.1) (e := 0) rfl (by decide) (by decide)) (And.intro trivial (hQ _ _ ?_))
    exact HQ (am_pl h1 104 0 w.toInt64) (CI_out I1 _) (clF2_out (clF2_of F1) _) (fun _ => out_l _ _)
  · have hc : c = 1 := hc
    subst hc
    exact And.intro trivial (hQ _ _ (HQ h1 I1 (clF2_of F1) (fun z => absurd (show (1 : Nat) = 0 from z) (by decide))))
set_option maxHeartbeats 4000000 in
theorem h_edge (hd : 3 ≤ d) (I : CI h st) (hN : topN h) (e v : Int32) (HQ : ∀ h', CI h' st → clF2 h h' → ((sEdge st.1 e v).1 = 0 → am_l h' 104 0 = (sEdge st.1 e v).2.toInt64) → Q (.inl (some (.int (nI (sEdge st.1 e v).1)))) h') : am_C xs am_P0 d m_La_edge [.ref 1, .int e, .int v, .ref 104] h Q := by
  have hc : (sEdge st.1 e v).1 = 0 ∨ (sEdge st.1 e v).1 = 1 ∨ (sEdge st.1 e v).1 = 2 := by
    unfold sEdge
    repeat' split
    all_goals first | exact Or.inl rfl | exact Or.inr rfl | exact Or.inr (Or.inl rfl) | exact Or.inr (Or.inr rfl)
  refine am_C_le hd (am_enter (d := 2) ap_La_edge rfl ?_) (fun _ _ k => k)
  refine am_go (fun _ => false) (fun K cal Q' hK hC hQ => ?_)
  refine And.intro (sk_1 I.1) (hC _ _ _ _ (k_edge (by decide) I hN e v (fun h1 I1 F1 => ?_)))
  revert hc HQ
  generalize (sEdge st.1 e v) = p
  obtain ⟨c, w⟩ := p
  intro HQ hc
  rcases hc with hc | hc | hc
  · have hc : c = 0 := hc
    subst hc
    refine And.intro (ck_arr (sk_104 I1.1) (e := 0) rfl (by decide) (by decide)) (And.intro trivial (hQ _ _ ?_))
    exact HQ (am_pl h1 104 0 w.toInt64) (CI_out I1 _) (clF2_out (clF2_of F1) _) (fun _ => out_l _ _)
  · have hc : c = 1 := hc
    subst hc
    exact And.intro trivial (hQ _ _ (HQ h1 I1 (clF2_of F1) (fun z => absurd (show (1 : Nat) = 0 from z) (by decide))))
  · have hc : c = 2 := hc
    subst hc
    exact And.intro trivial (hQ _ _ (HQ h1 I1 (clF2_of F1) (fun z => absurd (show (2 : Nat) = 0 from z) (by decide))))
theorem sSep_b (g : gD) (s : Int32) : ((sSep g s).1 = 0 ∧ ∃ b, (sSep g s).2 = bI b) ∨ (sSep g s).1 = 1 := by
  unfold sSep
  split
  · exact Or.inl ⟨rfl, _, rfl⟩
  · exact Or.inr rfl
set_option maxHeartbeats 4000000 in
theorem h_separates (hd : 5 ≤ d) (I : CI h st) (hN : topN h) (v : Int32) (HQ : ∀ h', CI h' st → clF2 h h' → ((sSep st.1 v).1 = 0 → am_l h' 104 0 = if (sSep st.1 v).2 = 0 then lN 0 else lN 1) → Q (.inl (some (.int (nI (sSep st.1 v).1)))) h') : am_C xs am_P0 d m_La_separates [.ref 1, .int v, .ref 104] h Q := by
  have hc := sSep_b st.1 v
  refine am_C_le hd (am_enter (d := 4) ap_La_separates rfl ?_) (fun _ _ k => k)
  refine am_go (fun _ => false) (fun K cal Q' hK hC hQ => ?_)
  refine And.intro (sk_1 I.1) (hC _ _ _ _ (k_separates (by decide) I hN v (fun h1 I1 F1 => ?_)))
  revert hc HQ
  generalize sSep st.1 v = p
  obtain ⟨c, w⟩ := p
  intro HQ hc
  rcases hc with ⟨hc, b, hb⟩ | hc
  · have hc : c = 0 := hc
    have hb : w = bI b := hb
    subst hc hb
    refine And.intro (fun z => ?_) (fun z => ?_)
    · refine And.intro (ck_arr (sk_104 I1.1) (e := 0) rfl (by decide) (by decide)) (And.intro trivial (hQ _ _ ?_))
      exact HQ (am_pl h1 104 0 (lN 0)) (CI_out I1 _) (clF2_out (clF2_of F1) _) (fun _ => by rw [out_l]; exact (if_pos (show bI b = 0 from z)).symm)
    · refine And.intro (ck_arr (sk_104 I1.1) (e := 0) rfl (by decide) (by decide)) (And.intro trivial (hQ _ _ ?_))
      exact HQ (am_pl h1 104 0 (lN 1)) (CI_out I1 _) (clF2_out (clF2_of F1) _) (fun _ => by rw [out_l]; exact (if_neg (show ¬ bI b = 0 from z)).symm)
  · have hc : c = 1 := hc
    subst hc
    exact And.intro trivial (hQ _ _ (HQ h1 I1 (clF2_of F1) (fun z => absurd (show (1 : Nat) = 0 from z) (by decide))))
set_option maxHeartbeats 4000000 in
theorem h_load (hd : 22 ≤ d) (I : CI h st) (hT : TN h) (hN : am_n h < 899000) (v : Int32) (HX : ∀ h', vin (st.2.2.1.1 + 1) v = false → CI h' st → clF2 h h' → Q (.inl (some (.int (nI 1)))) h')
    (H0 : ∀ k e h', k ≤ st.2.2.1.1 → v = nI k → pText (tOf st k) = .inl e → CI h' (stF st (nI e.2)) → clF2 h h' → am_l h' 104 0 = (-nI e.1).toInt64 → Q (.inl (some (.int (nI 0)))) h')
    (H1 : ∀ k s h', k ≤ st.2.2.1.1 → v = nI k → pText (tOf st k) = .inr s → CI h' (stL st (gFin s.2.1)) → clF2 h h' → am_l h' 104 0 = (nI (gM s.2.1)).toInt64 → Q (.inl (some (.int (nI 0)))) h') : am_C xs am_P0 d m_La_load [.ref 1, .int v, .ref 104] h Q := by
  refine am_C_le hd (am_enter (d := 21) ap_La_load rfl ?_) (fun _ _ k => k)
  refine am_go (fun _ => false) (fun K cal Q' hK hC hQ => ?_)
  refine And.intro (sk_1 I.1) (hC _ _ _ _ (k_load (by decide) I hT hN v (fun z => ?_) (fun k e h1 a b c I1 F1 => ?_) (fun k s h1 a b c I1 F1 => ?_)))
  · exact And.intro trivial (hQ _ _ (HX _ z I.thr.1 (clF2_of I.thr.2)))
  · refine And.intro (ck_arr (sk_104 I1.1) (e := 0) rfl (by decide) (by decide)) (And.intro trivial (hQ _ _ ?_))
    exact H0 k e (am_pl h1 104 0 _) a b c (CI_out I1 _) (clF2_out (clF2_of F1) _) (out_l _ _)
  · refine And.intro (ck_arr (sk_104 I1.1) (e := 0) rfl (by decide) (by decide)) (And.intro trivial (hQ _ _ ?_))
    exact H1 k s (am_pl h1 104 0 _) a b c (CI_out I1 _) (clF2_out (clF2_of F1) _) (out_l _ _)
theorem sSetLab_c (g : gD) (v t : Int32) : sSetLab g v t = 0 ∨ sSetLab g v t = 1 ∨ sSetLab g v t = 2 ∨ sSetLab g v t = 3 := by
  unfold sSetLab
  repeat' split
  all_goals first | exact Or.inl rfl | exact Or.inr (Or.inl rfl) | exact Or.inr (Or.inr (Or.inl rfl)) | exact Or.inr (Or.inr (Or.inr rfl))
theorem sSetW_c (g : gD) (v t : Int32) : sSetW g v t = 0 ∨ sSetW g v t = 1 ∨ sSetW g v t = 2 := by
  unfold sSetW
  repeat' split
  all_goals first | exact Or.inl rfl | exact Or.inr (Or.inl rfl) | exact Or.inr (Or.inr rfl)
theorem sTer_c (g : gD) (v : Int32) (b : Bool) : sTer g v b = 0 ∨ sTer g v b = 1 ∨ sTer g v b = 2 := by
  unfold sTer
  repeat' split
  all_goals first | exact Or.inl rfl | exact Or.inr (Or.inl rfl) | exact Or.inr (Or.inr rfl)
theorem sAdd_c (g : gD) (a b w : Int32) : sAdd g a b w = 0 ∨ sAdd g a b w = 1 ∨ sAdd g a b w = 2 ∨ sAdd g a b w = 3 := by
  unfold sAdd
  repeat' split
  all_goals first | exact Or.inl rfl | exact Or.inr (Or.inl rfl) | exact Or.inr (Or.inr (Or.inl rfl)) | exact Or.inr (Or.inr (Or.inr rfl))
set_option maxHeartbeats 4000000 in
theorem h_setLabel (hd : 5 ≤ d) (I : CI h st) (hN : topN h) (v t : Int32) (HX : ∀ k h', sSetLab st.1 v t = k → k ≠ 0 → CI h' st → clF2 h h' → Q (.inl (some (.int (nI k)))) h')
    (HQ : ∀ h', sSetLab st.1 v t = 0 → CI h' (stC st (labV st.1 v.toNatClampNeg t)) → clF2 h h' → am_l h' 104 0 = (nI (gCost (labV st.1 v.toNatClampNeg t))).toInt64 → Q (.inl (some (.int (nI 0)))) h') : am_C xs am_P0 d m_La_setLabel [.ref 1, .int v, .int t, .ref 104] h Q := by
  refine am_C_le hd (am_enter (d := 4) ap_La_setLabel rfl ?_) (fun _ _ k => k)
  refine am_go (fun _ => false) (fun K cal Q' hK hC hQ => ?_)
  refine And.intro (sk_1 I.1) (hC _ _ _ _ (k_setLabel (by decide) I hN v t (fun k h1 e z I1 F1 => ?_) (fun h1 e I1 F1 => ?_)))
  · have hc := sSetLab_c st.1 v t
    rw [e] at hc
    rcases hc with rfl | rfl | rfl | rfl
    · exact absurd rfl z
    · exact And.intro trivial (hQ _ _ (HX 1 h1 e z I1 (clF2_of F1)))
    · exact And.intro trivial (hQ _ _ (HX 2 h1 e z I1 (clF2_of F1)))
    · exact And.intro trivial (hQ _ _ (HX 3 h1 e z I1 (clF2_of F1)))
  · refine And.intro (ck_arr (sk_104 I1.1) (e := 0) rfl (by decide) (by decide)) (And.intro trivial (hQ _ _ ?_))
    exact HQ (am_pl h1 104 0 _) e (CI_out I1 _) (clF2_out (clF2_of F1) _) (out_l _ _)
set_option maxHeartbeats 4000000 in
theorem h_useUnion (hd : 9 ≤ d) (I : CI h st) (hN : topN h) (HX : ∀ h', gT st.1 = 0 → CI h' st → clF2 h h' → Q (.inl (some (.int (nI 1)))) h')
    (HQ : ∀ h', gT st.1 ≠ 0 → CI h' (stC st (gUseU st.1)) → clF2 h h' → am_l h' 104 0 = (nI (gCost (gUseU st.1))).toInt64 → Q (.inl (some (.int (nI 0)))) h') : am_C xs am_P0 d m_La_useUnion [.ref 1, .ref 104] h Q := by
  refine am_C_le hd (am_enter (d := 8) ap_La_useUnion rfl ?_) (fun _ _ k => k)
  refine am_go (fun _ => false) (fun K cal Q' hK hC hQ => ?_)
  refine And.intro (sk_1 I.1) (hC _ _ _ _ (k_useUnion (by decide) I hN (fun h1 e I1 F1 => ?_) (fun h1 e I1 F1 => ?_)))
  · exact And.intro trivial (hQ _ _ (HX h1 e I1 (clF2_of F1)))
  · refine And.intro (ck_arr (sk_104 I1.1) (e := 0) rfl (by decide) (by decide)) (And.intro trivial (hQ _ _ ?_))
    exact HQ (am_pl h1 104 0 _) e (CI_out I1 _) (clF2_out (clF2_of F1) _) (out_l _ _)
set_option maxHeartbeats 4000000 in
theorem h_improve (hd : 7 ≤ d) (I : CI h st) (hN : topN h) (mo : Int32) (HX : ∀ h', decide (nI 1 ≤ mo ∧ mo ≤ nI 20) = false → CI h' st → clF2 h h' → Q (.inl (some (.int (nI 1)))) h')
    (HQ : ∀ h' k, k ≤ 20 → mo = nI k → 1 ≤ k → CI h' (stC st (gImps k st.1).1) → clF2 h h' → am_l h' 104 0 = (nI (gImps k st.1).2).toInt64 → Q (.inl (some (.int (nI 0)))) h') : am_C xs am_P0 d m_La_improve [.ref 1, .int mo, .ref 104] h Q := by
  refine am_C_le hd (am_enter (d := 6) ap_La_improve rfl ?_) (fun _ _ k => k)
  refine am_go (fun _ => false) (fun K cal Q' hK hC hQ => ?_)
  refine And.intro (sk_1 I.1) (hC _ _ _ _ (k_improve (by decide) I hN mo (fun h1 e I1 F1 => ?_) (fun h1 k a b c I1 F1 => ?_)))
  · exact And.intro trivial (hQ _ _ (HX h1 e I1 (clF2_of F1)))
  · refine And.intro (ck_arr (sk_104 I1.1) (e := 0) rfl (by decide) (by decide)) (And.intro trivial (hQ _ _ ?_))
    exact HQ (am_pl h1 104 0 _) k a b c (CI_out I1 _) (clF2_out (clF2_of F1) _) (out_l _ _)
set_option maxHeartbeats 4000000 in
theorem h_setWeight (hd : 5 ≤ d) (I : CI h st) (hN : topN h) (e w : Int32) (HX : ∀ k h', sSetW st.1 e w = k → k ≠ 0 → CI h' st → clF2 h h' → Q (.inl (some (.int (nI k)))) h')
    (HQ : ∀ h' k j, e = nI k → k < gM st.1 → w = nI j → sSetW st.1 e w = 0 → CI h' (stC st (gW st.1 k j)) → clF2 h h' → am_l h' 104 0 = (nI (gWt st.1 k)).toInt64 → Q (.inl (some (.int (nI 0)))) h') : am_C xs am_P0 d m_La_setWeight [.ref 1, .int e, .int w, .ref 104] h Q := by
  refine am_C_le hd (am_enter (d := 4) ap_La_setWeight rfl ?_) (fun _ _ k => k)
  refine am_go (fun _ => false) (fun K cal Q' hK hC hQ => ?_)
  refine And.intro (sk_1 I.1) (hC _ _ _ _ (k_setWeight (by decide) I hN e w (fun k h1 e1 z I1 F1 => ?_) (fun h1 k j a b c e1 I1 F1 => ?_)))
  · have hc := sSetW_c st.1 e w
    rw [e1] at hc
    rcases hc with rfl | rfl | rfl
    · exact absurd rfl z
    · exact And.intro trivial (hQ _ _ (HX 1 h1 e1 z I1 (clF2_of F1)))
    · exact And.intro trivial (hQ _ _ (HX 2 h1 e1 z I1 (clF2_of F1)))
  · refine And.intro (ck_arr (sk_104 I1.1) (e := 0) rfl (by decide) (by decide)) (And.intro trivial (hQ _ _ ?_))
    exact HQ (am_pl h1 104 0 _) k j a b c e1 (CI_out I1 _) (clF2_out (clF2_of F1) _) (out_l _ _)
set_option maxHeartbeats 4000000 in
theorem h_addEdge (hd : 5 ≤ d) (I : CI h st) (hN : topN h) (a b w : Int32) (HX : ∀ k h', sAdd st.1 a b w = k → k ≠ 0 → CI h' st → clF2 h h' → Q (.inl (some (.int (nI k)))) h')
    (HQ : ∀ h' u v j, a = nI u → b = nI v → u < gN st.1 → v < gN st.1 → w = nI j → sAdd st.1 a b w = 0 → CI h' (stC st (gAdd st.1 u v j)) → clF2 h h' → am_l h' 104 0 = (nI (gM st.1)).toInt64 → Q (.inl (some (.int (nI 0)))) h') : am_C xs am_P0 d m_La_addEdge [.ref 1, .int a, .int b, .int w, .ref 104] h Q := by
  refine am_C_le hd (am_enter (d := 4) ap_La_addEdge rfl ?_) (fun _ _ k => k)
  refine am_go (fun _ => false) (fun K cal Q' hK hC hQ => ?_)
  refine And.intro (sk_1 I.1) (hC _ _ _ _ (k_addEdge (by decide) I hN a b w (fun k h1 e1 z I1 F1 => ?_) (fun h1 u v j x1 x2 x3 x4 x5 e1 I1 F1 => ?_)))
  · have hc := sAdd_c st.1 a b w
    rw [e1] at hc
    rcases hc with rfl | rfl | rfl | rfl
    · exact absurd rfl z
    · exact And.intro trivial (hQ _ _ (HX 1 h1 e1 z I1 (clF2_of F1)))
    · exact And.intro trivial (hQ _ _ (HX 2 h1 e1 z I1 (clF2_of F1)))
    · exact And.intro trivial (hQ _ _ (HX 3 h1 e1 z I1 (clF2_of F1)))
  · refine And.intro (ck_arr (sk_104 I1.1) (e := 0) rfl (by decide) (by decide)) (And.intro trivial (hQ _ _ ?_))
    exact HQ (am_pl h1 104 0 _) u v j x1 x2 x3 x4 x5 e1 (CI_out I1 _) (clF2_out (clF2_of F1) _) (out_l _ _)
set_option maxHeartbeats 4000000 in
theorem h_removeEdge (hd : 4 ≤ d) (I : CI h st) (hN : topN h) (e : Int32) (HX : ∀ h', vin (gM st.1) e = false → CI h' st → clF2 h h' → Q (.inl (some (.int (nI 1)))) h')
    (HQ : ∀ h' k, e = nI k → k < gM st.1 → CI h' (stC st (gRem st.1 k)) → clF2 h h' → am_l h' 104 0 = (nI (gM st.1 - 1)).toInt64 → Q (.inl (some (.int (nI 0)))) h') : am_C xs am_P0 d m_La_removeEdge [.ref 1, .int e, .ref 104] h Q := by
  refine am_C_le hd (am_enter (d := 3) ap_La_removeEdge rfl ?_) (fun _ _ k => k)
  refine am_go (fun _ => false) (fun K cal Q' hK hC hQ => ?_)
  refine And.intro (sk_1 I.1) (hC _ _ _ _ (k_removeEdge (by decide) I hN e (fun h1 z I1 F1 => ?_) (fun h1 k a b I1 F1 => ?_)))
  · exact And.intro trivial (hQ _ _ (HX h1 z I1 (clF2_of F1)))
  · refine And.intro (ck_arr (sk_104 I1.1) (e := 0) rfl (by decide) (by decide)) (And.intro trivial (hQ _ _ ?_))
    exact HQ (am_pl h1 104 0 _) k a b (CI_out I1 _) (clF2_out (clF2_of F1) _) (out_l _ _)
set_option maxHeartbeats 4000000 in
theorem h_setTerminal (hd : 5 ≤ d) (I : CI h st) (hN : topN h) (v : Int32) (b : Bool) (HX : ∀ k h', sTer st.1 v b = k → k ≠ 0 → CI h' st → clF2 h h' → Q (.inl (some (.int (nI k)))) h')
    (HQ : ∀ h' k, v = nI k → k < gN st.1 → sTer st.1 v b = 0 → CI h' (stC st (gTer st.1 k b)) → clF2 h h' → am_l h' 104 0 = (nI (pcn (gT (gTer st.1 k b)))).toInt64 → Q (.inl (some (.int (nI 0)))) h') : am_C xs am_P0 d m_La_setTerminal [.ref 1, .int v, .int (bI b), .ref 104] h Q := by
  refine am_C_le hd (am_enter (d := 4) ap_La_setTerminal rfl ?_) (fun _ _ k => k)
  refine am_go (fun _ => false) (fun K cal Q' hK hC hQ => ?_)
  refine And.intro (sk_1 I.1) (hC _ _ _ _ (k_setTerminal (by decide) I hN v b (fun k h1 e1 z I1 F1 => ?_) (fun h1 k x1 x2 e1 I1 F1 => ?_)))
  · have hc := sTer_c st.1 v b
    rw [e1] at hc
    rcases hc with rfl | rfl | rfl
    · exact absurd rfl z
    · exact And.intro trivial (hQ _ _ (HX 1 h1 e1 z I1 (clF2_of F1)))
    · exact And.intro trivial (hQ _ _ (HX 2 h1 e1 z I1 (clF2_of F1)))
  · refine And.intro (ck_arr (sk_104 I1.1) (e := 0) rfl (by decide) (by decide)) (And.intro trivial (hQ _ _ ?_))
    exact HQ (am_pl h1 104 0 _) k x1 x2 e1 (CI_out I1 _) (clF2_out (clF2_of F1) _) (out_l _ _)
end

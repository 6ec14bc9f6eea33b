/-! THE LAW: its loop, its start -/
def swL : List Nat := [216, 289, 345, 358, 371, 384, 397, 453, 521, 577, 640, 696, 752, 765, 809, 853, 897, 910, 966, 979, 1035, 1091, 1147, 1203, 1259, 1272, 1285, 1328, 1371, 1427, 1495, 1508, 1552, 1565, 1621, 1689, 1769, 1825, 1909, 1922]
def swp (k : Nat) : Nat := if k < 40 then swL.getD k 0 else 1936
theorem sw_tsw : ∀ k, k < 64 → am_tsw (Int.ofNat 1936) (Int.ofNat 0) (Int.ofNat 39) #[Int.ofNat 216, Int.ofNat 289, Int.ofNat 345, Int.ofNat 358, Int.ofNat 371, Int.ofNat 384, Int.ofNat 397, Int.ofNat 453, Int.ofNat 521, Int.ofNat 577, Int.ofNat 640, Int.ofNat 696, Int.ofNat 752, Int.ofNat 765, Int.ofNat 809, Int.ofNat 853, Int.ofNat 897, Int.ofNat 910, Int.ofNat 966, Int.ofNat 979, Int.ofNat 1035, Int.ofNat 1091, Int.ofNat 1147, Int.ofNat 1203, Int.ofNat 1259, Int.ofNat 1272, Int.ofNat 1285, Int.ofNat 1328, Int.ofNat 1371, Int.ofNat 1427, Int.ofNat 1495, Int.ofNat 1508, Int.ofNat 1552, Int.ofNat 1565, Int.ofNat 1621, Int.ofNat 1689, Int.ofNat 1769, Int.ofNat 1825, Int.ofNat 1909, Int.ofNat 1922] (nI k) = swp k := by decide +kernel
theorem sw_and (x : Int32) : ∃ k, k < 64 ∧ x &&& nI 63 = nI k := by
  refine ⟨x.toBitVec.toNat % 64, Nat.mod_lt _ (by decide), ?_⟩
  have h : x = nI x.toBitVec.toNat := Int32.toBitVec_inj.mp (by show _ = BitVec.ofNat 32 _; simp)
  have h2 := fa_mask x.toBitVec.toNat 6
  rw [← h] at h2
  exact h2
section
variable {xs : am_X} {d i : Nat} {h : am_H} {st : stD} {Q : am_Q}
theorem l_sw {k : Nat} (hk : k < 64) {L : List Value} (H : LW xs d Q (swp k) L [] h) : LW xs d Q 40 L [.int (nI k)] h := am_W_fold (am_C_mono d) (by
  rw [← sw_tsw k hk] at H
  exact H)
theorem l_call (C : Lc xs d Q i h st) (v5 v6 v7 v8 : Value) : ∀ k, k < 64 → LW xs d Q (swp k) (lL i v5 v6 v7 v8) [] h := by
  intro k hk
  by_cases h40 : k < 40
  · have : k = 0 ∨ k = 1 ∨ k = 2 ∨ k = 3 ∨ k = 4 ∨ k = 5 ∨ k = 6 ∨ k = 7 ∨ k = 8 ∨ k = 9 ∨ k = 10 ∨ k = 11 ∨ k = 12 ∨ k = 13 ∨ k = 14 ∨ k = 15 ∨ k = 16 ∨ k = 17 ∨ k = 18 ∨ k = 19 ∨ k = 20 ∨ k = 21 ∨ k = 22 ∨ k = 23 ∨ k = 24 ∨ k = 25 ∨ k = 26 ∨ k = 27 ∨ k = 28 ∨ k = 29 ∨ k = 30 ∨ k = 31 ∨ k = 32 ∨ k = 33 ∨ k = 34 ∨ k = 35 ∨ k = 36 ∨ k = 37 ∨ k = 38 ∨ k = 39 := by omega
    rcases this with rfl | rfl | rfl | rfl | rfl | rfl | rfl | rfl | rfl | rfl | rfl | rfl | rfl | rfl | rfl | rfl | rfl | rfl | rfl | rfl | rfl | rfl | rfl | rfl | rfl | rfl | rfl | rfl | rfl | rfl | rfl | rfl | rfl | rfl | rfl | rfl | rfl | rfl | rfl | rfl
    · exact l_append C v5 v6 v7 v8
    · exact l_load C v5 v6 v7 v8
    · exact l_errorOffset C v5 v6 v7 v8
    · exact l_size C v5 v6 v7 v8
    · exact l_edgeCount C v5 v6 v7 v8
    · exact l_terminals C v5 v6 v7 v8
    · exact l_burden C v5 v6 v7 v8
    · exact l_edge C v5 v6 v7 v8
    · exact l_cutCost C v5 v6 v7 v8
    · exact l_separates C v5 v6 v7 v8
    · exact l_isolatingValue C v5 v6 v7 v8
    · exact l_isolatingSet C v5 v6 v7 v8
    · exact l_lowerBound C v5 v6 v7 v8
    · exact l_dearest C v5 v6 v7 v8
    · exact l_unionCut C v5 v6 v7 v8
    · exact l_unionCost C v5 v6 v7 v8
    · exact l_rounds C v5 v6 v7 v8
    · exact l_fixed C v5 v6 v7 v8
    · exact l_exactCost C v5 v6 v7 v8
    · exact l_exact C v5 v6 v7 v8
    · exact l_price C v5 v6 v7 v8
    · exact l_nearest C v5 v6 v7 v8
    · exact l_distance C v5 v6 v7 v8
    · exact l_label C v5 v6 v7 v8
    · exact l_cost C v5 v6 v7 v8
    · exact l_cut C v5 v6 v7 v8
    · exact l_ratio C v5 v6 v7 v8
    · exact l_meanCost C v5 v6 v7 v8
    · exact l_bestMove C v5 v6 v7 v8
    · exact l_setLabel C v5 v6 v7 v8
    · exact l_useNearest C v5 v6 v7 v8
    · exact l_useUnion C v5 v6 v7 v8
    · exact l_useExact C v5 v6 v7 v8
    · exact l_improve C v5 v6 v7 v8
    · exact l_setWeight C v5 v6 v7 v8
    · exact l_addEdge C v5 v6 v7 v8
    · exact l_removeEdge C v5 v6 v7 v8
    · exact l_setTerminal C v5 v6 v7 v8
    · exact l_undo C v5 v6 v7 v8
    · exact l_checksum C v5 v6 v7 v8
  · unfold swp
    rw [if_neg h40]
    exact C.2.2 h st v5 v6 v7 v8 C.2.1.1 C.2.1.2.1 C.2.1.2.2.1 (by omega) (by omega)
set_option maxHeartbeats 8000000 in
theorem law_loop (hd : 22 ≤ d) (hx : xs.1 ≤ 3072) (HQ : ∀ h', am_n h' ≤ 1700 → am_cs h' ≤ 400000 → Q (.inl (some (.int 1))) h') : LW xs d Q 23 (lL 0 am_J am_J am_J am_J) [] iF := by
  refine am_for (xs.1 / 6) (fun i L h' => ∃ st v5 v6 v7 v8, L = lL i v5 v6 v7 v8 ∧ CI h' st ∧ MI h' st ∧ TN h' ∧ am_n h' ≤ 105 + 3 * i ∧ am_cs h' ≤ 30000 + 720 * i) ?_ ?_ 0 (Nat.zero_le _) _ _ ⟨st0, am_J, am_J, am_J, am_J, rfl, CI_F, MI_F, TN_F, Nat.le_of_eq iF_n, iF_cs⟩
  · rintro i hi9 L h' ⟨st, v5, v6, v7, v8, rfl, I, M, T, n1, c1⟩ next
    have C : Lc xs d Q i h' st := by
      refine ⟨⟨hd, by omega, hx⟩, ⟨I, M, T, by omega⟩, fun h2 st2 w5 w6 w7 w8 I2 M2 T2 n2 c2 => ?_⟩
      have n3 : am_n h2 ≤ 105 + 3 * (i + 1) := by omega
      have c3 : am_cs h2 ≤ 30000 + 720 * (i + 1) := Nat.le_trans c2 (by rw [Nat.mul_add, ← Nat.add_assoc]; exact Nat.add_le_add_right c1 720)
      refine am_go (fun p => p == 23) (fun K cal Q' hK hC hQ => hK _ _ _ _ ?_)
      refine next _ _ ⟨st2, w5, w6, w7, w8, ?_, I2, M2, T2, n3, c3⟩
      show [Value.ref am_scr, .ref 1, .ref 87, .ref 104, .int (nI (6 * i) + nI 6), w5, w6, w7, w8] = _
      rw [nI_add, show 6 * i + 6 = 6 * (i + 1) by omega]
    refine am_go (fun p => p == 40) (fun K cal Q' hK hC hQ => ?_)
    refine And.intro rfl (And.intro (fun z => absurd z ?_) (fun _ => ?_))
    · show ¬ nI xs.1 - nI 6 < nI (6 * i)
      rw [fa_lt, pk_sub_toInt (by omega) (by decide), nI_toInt (by omega)]
      omega
    · refine And.intro ⟨rfl, vp_in_nI (by omega) (by omega)⟩ (hK _ _ _ _ ?_)
      obtain ⟨k, hk, ek⟩ := sw_and (xs.2 (nI (6 * i)).toNatClampNeg)
      show LW xs d Q 40 (lL i v5 v6 v7 v8) [.int (xs.2 (nI (6 * i)).toNatClampNeg &&& nI 63)] h'
      rw [ek]
      exact l_sw hk (l_call C v5 v6 v7 v8 k hk)
  · rintro L h' ⟨st, v5, v6, v7, v8, rfl, I, M, T, n1, c1⟩
    refine am_go (fun _ => false) (fun K cal Q' hK hC hQ => ?_)
    refine And.intro rfl (And.intro (fun _ => And.intro (Or.inr rfl) (hQ _ _ (HQ h' (by omega) (by omega)))) (fun z => absurd ?_ z))
    show nI xs.1 - nI 6 < nI (6 * (xs.1 / 6))
    rw [fa_lt, pk_sub_toInt (by omega) (by decide), nI_toInt (by omega)]
    omega
set_option maxHeartbeats 8000000 in
theorem law_run (hd : 22 ≤ d) (hx : xs.1 ≤ 3072) (HQ : ∀ h', am_n h' ≤ 1700 → am_cs h' ≤ 400000 → Q (.inl (some (.int 1))) h') : LW xs d Q 0 (am_loc [.ref am_scr] 9) [] i0 := by
  refine am_go (fun p => p == 23) (fun K cal Q' hK hC hQ => ?_)
  refine And.intro (by decide) (And.intro (by decide +kernel) ?_)
  refine hC m_Mc_init [.ref 1] i1 _ (am_C_le (d := 3) (by omega) (c_Mc_init (Nat.le_refl _) ?_) (fun _ _ k => k))
  show am_n i15 < am_top ∧ _
  refine And.intro (by decide +kernel) (And.intro (by decide +kernel) ?_)
  refine hC m_Mo_init [.ref 87] i16 _ (am_C_le (d := 1) (by omega) (c_Mo_init (Nat.le_refl _) ?_) (fun _ _ k => k))
  show (am_n i20 < am_top ∧ _) ∧ _
  refine And.intro ⟨by decide +kernel, by decide, by decide⟩ (hK _ _ _ _ ?_)
  exact law_loop hd hx HQ
end

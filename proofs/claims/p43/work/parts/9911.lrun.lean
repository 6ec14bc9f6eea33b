/-! THE LAW, 8: labels set, its end, the whole -/
section
variable {xs : am_X} {d : Nat} {h h' : am_H} {Q : am_Q} {n T a f F m : Nat} {C : Nat → Nat → Nat} {A : Nat → Nat} {st : stD}
set_option maxHeartbeats 8000000 in
theorem l_set (hd : 22 ≤ d) (hx : xs.1 ≤ 1000) (hn : 3 ≤ n ∧ n ≤ 6) {f10 : Nat} (M : lwN h 328310 3101000 st n T C) (R : lwL h f10 n st) (G : gok st.1 n T C) (h7 : fo7 st) (eE : ∀ v, v < n → eL st.1 T v = nI (A v)) {v6 : Int32} {x8 v11 : Value}
    (K0 : ∀ h' st' v11 v12 v13, lwN h' 328330 3104000 st' n T C → gok st'.1 n T C → (∀ v, v < n → eL st'.1 T v = nI (A v)) → LW xs d Q 815 (lL n a f (.int v6) (.int (nI m)) x8 (.ref F) (.ref f10) v11 v12 v13) [] h') :
    LW xs d Q 715 (lL n a f (.int v6) (.int (nI m)) x8 (.ref F) (.ref f10) v11 am_J am_J) [] h := by
  have hp6 : 2 ^ n ≤ 64 := Nat.pow_le_pow_right (n := 2) (by decide) hn.2
  refine am_go (fun p => p == 718) (fun K cal Q' hK hC hQ => hK _ _ _ _ ?_)
  refine am_for 3 (fun k L h' => ∃ st' v12 v13, lwN h' (328310 + 3 * k) (3101000 + 720 * k) st' n T C ∧ lwL h' f10 n st' ∧ (gok st'.1 n T C ∧ fo7 st' ∧ ∀ v, v < n → eL st'.1 T v = nI (A v)) ∧ L = lL n a f (.int v6) (.int (nI m)) x8 (.ref F) (.ref f10) (.int (nI k)) v12 v13) ?_ ?_ 0 (Nat.zero_le _) _ _ ⟨st, am_J, am_J, M, R, ⟨G, h7, eE⟩, rfl⟩
  · rintro k hk L h' ⟨st', v12, v13, M, R, ⟨G, h7, eE⟩, rfl⟩ next
    obtain ⟨I, hTN, m', ⟨bn, bc⟩⟩ := id M
    have hT := m'.2.1.2
    have fin : ∀ h2 st2 v12 v13, lwN h2 (328310 + 3 * (k + 1)) (3101000 + 720 * (k + 1)) st2 n T C → lwL h2 f10 n st2 → (gok st2.1 n T C ∧ fo7 st2 ∧ ∀ v, v < n → eL st2.1 T v = nI (A v)) → LW xs d Q 809 (lL n a f (.int v6) (.int (nI m)) x8 (.ref F) (.ref f10) (.int (nI k)) v12 v13) [] h2 := by
      intro h2 st2 v12 v13 M2 R2 G2
      refine am_go (fun p => p == 718) (fun K cal Q' hK hC hQ => hK _ _ _ _ (next _ _ ⟨st2, v12, v13, M2, R2, G2, ?_⟩))
      rw [← nI_1 k]
      rfl
    have stay : ∀ v12 v13, LW xs d Q 809 (lL n a f (.int v6) (.int (nI m)) x8 (.ref F) (.ref f10) (.int (nI k)) v12 v13) [] h' := fun v12 v13 => fin h' st' v12 v13 (M.mo (by omega) (by omega)) R ⟨G, h7, eE⟩
    refine am_go (fun p => p == 756) (fun K cal Q' hK hC hQ => ?_)
    refine And.intro (fun c => absurd c (nI_ge hk (by omega))) (fun _ => ?_)
    refine And.intro trivial ?_
    show cal m_La_cell [.ref am_scr, .int (nI 11 + nI k)] h' _
    rw [nI_add]
    refine hC _ _ _ _ (c_La_cell (by omega) (by omega) hx ?_)
    refine And.intro trivial (hC _ _ _ _ (c_La_bound (by omega) (by omega) (by omega) ?_))
    refine And.intro trivial ?_
    show cal m_La_cell [.ref am_scr, .int (nI 11 + nI k)] h' _
    rw [nI_add]
    refine hC _ _ _ _ (c_La_cell (by omega) (by omega) hx ?_)
    refine And.intro trivial (hC _ _ _ _ (c_La_bound (by omega) (by omega) (by omega) (hK _ _ _ _ ?_)))
    have hv := bd_lt (cel xs (11 + k)) (show 0 < n by omega)
    have ht := bd_lt (cel xs (11 + k) >>> (nI 3 &&& 31)) (show 0 < n by omega)
    show LW xs d Q 756 (lL n a f (.int v6) (.int (nI m)) x8 (.ref F) (.ref f10) (.int (nI k)) (.int (nI (bd (cel xs (11 + k)) n))) (.int (nI (bd (cel xs (11 + k) >>> (nI 3 &&& 31)) n)))) [] h'
    generalize bd (cel xs (11 + k)) n = v at hv
    generalize bd (cel xs (11 + k) >>> (nI 3 &&& 31)) n = t at ht
    refine am_go (fun p => p == 809) (fun K cal Q' hK hC hQ => ?_)
    refine And.intro (sk_87 I.1) (And.intro trivial ?_)
    show cal m_La_in [.int (am_i h' 87 1), .int (nI v)] h' _
    rw [m'.1.2]
    refine hC _ _ _ _ (c_La_in (by omega) (by omega) (by omega) ?_)
    refine And.intro (fun _ => hK _ _ _ _ (stay _ _)) (fun c => ?_)
    have hTv : T.testBit v = false := (bI_0 _).mp (Classical.not_not.mp c)
    refine And.intro (sk_87 I.1) (And.intro trivial ?_)
    show cal m_La_in [.int (am_i h' 87 1), .int (nI t)] h' _
    rw [m'.1.2]
    refine hC _ _ _ _ (c_La_in (by omega) (by omega) (by omega) ?_)
    refine And.intro (fun c => ?_) (fun _ => hK _ _ _ _ (stay _ _))
    have hTt : T.testBit t = true := by
      cases q : T.testBit t with
      | true => rfl
      | false => rw [q] at c; exact absurd rfl c
    obtain ⟨⟨r1, r2⟩, r3, r4⟩ := R
    refine And.intro (ck_arr r3 rfl hv (by omega)) ?_
    rw [q_cl (by omega : v < 2 ^ 31)]
    have I1 : CI (am_pi h' f10 v (nI t)) st' := CI_lab I h7 r1 r3 hn.2
    have s1 : ∀ x, x ≠ f10 → am_i (am_pi h' f10 v (nI t)) x = am_i h' x := fun x hx => i_pi_ne hx
    have m1 : mlO (am_pi h' f10 v (nI t)) n T C := ⟨⟨by rw [s1 87 (by omega)]; exact m'.1.1, by rw [s1 87 (by omega)]; exact m'.1.2⟩, m'.2.1, fun a ha b hb => by rw [s1 (89 + a) (by omega)]; exact m'.2.2 a ha b hb⟩
    have M1 : lwN (am_pi h' f10 v (nI t)) (328310 + 3 * k) (3101000 + 720 * k) st' n T C := ⟨I1, hTN, m1, ⟨bn, bc⟩⟩
    have l1 : ∀ w, w < n → am_i (am_pi h' f10 v (nI t)) f10 w = if w = v then nI t else gLab st'.1 w := fun w hw => by
      rw [i_pi_same]
      by_cases e : w = v
      · rw [if_pos e, if_pos e]
      · rw [if_neg e, if_neg e]; exact r4 w hw
    have k1 : am_k (am_pi h' f10 v (nI t)) f10 = (2, n) := r3
    have n1 : f10 < am_n (am_pi h' f10 v (nI t)) := r2
    generalize am_pi h' f10 v (nI t) = h1 at I1 M1 l1 k1 n1
    have code : sSetLab st'.1 (nI v) (nI t) = 0 := by
      unfold sSetLab
      rw [G.1, G.2.1, if_pos (vin_nI hv (by omega)), if_pos (Or.inr (by rw [isT_nI ht (by omega)]; exact hTt)), q_cl (by omega), if_neg (by rw [hTv]; decide)]
    refine And.intro (sk_1 I1.1) (hC _ _ _ _ (k_setLabel (by omega) I1 (by show am_n h1 < 900000; have := M1.2.2.2.1; omega) (nI v) (nI t) (fun k' h2 e1 e2 _ _ => absurd (e1.symm.trans code) e2) (fun h2 _ I2 F2 => ?_)))
    have F2 := cff_of F2
    have M2 := M1.cff F2 I2
    rw [q_cl (by omega : v < 2 ^ 31)] at I2 M2 ⊢
    have G2 : gok (stC st' (labV st'.1 v (nI t))).1 n T C := G
    have R2 : lwL h2 f10 n (stC st' (labV st'.1 v (nI t))) := ⟨⟨r1, by have := F2.2.2.1.1; omega⟩, (F2.1 _ (Or.inl n1)).trans k1, fun w hw => by rw [(F2.2.1 f10 (by omega) n1).1]; exact l1 w hw⟩
    have h72 : fo7 (stC st' (labV st'.1 v (nI t))) := ⟨h7.1, fun g hg => by
      have hg : g ∈ (st'.1 :: st'.2.1).take 8 := hg
      rcases List.mem_cons.mp (List.mem_of_mem_take hg) with e | e
      · rw [e]; exact h7.1
      · exact h7.2 g e⟩
    refine And.intro (sk_87 I2.1) (hC _ _ _ _ (c_La_cost (by omega) I2.1 M2.2.2.1 R2.2.1 ⟨Nat.le_refl _, by omega⟩ R2.2.2 ?_))
    refine And.intro (fun _ => hK _ _ _ _ (fin h2 _ _ _ (M2.mo (by omega) (by omega)) R2 ⟨G2, h72, eE⟩)) (fun c => absurd ?_ c)
    show nI (gCost (stC st' (labV st'.1 v (nI t))).1) = nI (lCost n C (gLab (stC st' (labV st'.1 v (nI t))).1))
    rw [gCost_eq G2]
  · rintro L h' ⟨st', v12, v13, M, R, ⟨G, h7, eE⟩, rfl⟩
    refine am_go (fun p => p == 815) (fun K cal Q' hK hC hQ => ?_)
    exact And.intro (fun _ => hK _ _ _ _ (K0 h' st' _ _ _ (M.mo (by omega) (by omega)) G eE)) (fun c => absurd (nI_le (Nat.le_refl 3) (by decide)) c)
set_option maxHeartbeats 8000000 in
theorem l_end (hd : 22 ≤ d) (M : lwN h 328330 3104000 st n T C) (G : gok st.1 n T C) (eE : ∀ v, v < n → eL st.1 T v = nI (A v)) {v6 v7 v9 v10 v11 v12 v13 : Value} (HQ : ∀ h', am_n h' ≤ 600000 → am_cs h' ≤ 7000000 → Q (.inl (some (.int 1))) h') :
    LW xs d Q 815 (lL n a f v6 v7 (.int (nI (cfo n C A))) v9 v10 v11 v12 v13) [] h := by
  have eU : gCost (gUseE st.1) = cfo n C A := by
    rw [gCost_eq (show gok (gUseE st.1) n T C from G)]
    refine lCost_cg fun v hv => ?_
    show eL st.1 (gT st.1) v = nI (A v)
    rw [G.2.1]
    exact eE v hv
  obtain ⟨I, hTN, m', ⟨bn, bc⟩⟩ := id M
  refine am_go (fun _ => false) (fun K cal Q' hK hC hQ => ?_)
  refine And.intro (sk_1 I.1) (hC _ _ _ _ (k_useExact (by omega) I (fun h1 I1 F1 => ?_)))
  rw [eU]
  refine And.intro (fun c => absurd rfl c) (fun _ => ?_)
  have q1 := (cff_of F1).2.2
  refine And.intro (sk_1 I1.1) (hC _ _ _ _ (k_cost (by omega) I1 (fun h2 I2 F2 => ?_)))
  have q2 := (cff_of F2).2.2
  have e2 : gCost (stC st (gUseE st.1)).1 = cfo n C A := eU
  rw [e2]
  refine And.intro (fun c => absurd rfl c) (fun _ => And.intro (Or.inr rfl) (hQ _ _ (HQ h2 (by omega) (by omega))))
theorem law_run (hd : 22 ≤ d) (hx : xs.1 ≤ 1000) (HQ : ∀ h', am_n h' ≤ 600000 → am_cs h' ≤ 7000000 → Q (.inl (some (.int 1))) h') : LW xs d Q 0 (am_loc [.ref am_scr] 14) [] i0 := by
  refine l_head hd hx (fun n h1 a b cap f v6 hn W e6 => ?_)
  refine l_loads hd hx hn W e6 (fun h2 b2 cap2 tx2 g2 L2 ld v6 W2 R2 G2 l2 h8 => ?_)
  refine l_ters hd hx hn W2 R2 G2 l2 (fun h3 b3 cap3 tx3 g3 L3 T x6 v7 v8 W3 R3 G3 l3 hT0 => ?_)
  refine l_edges hd hx hn h8 W3 R3 G3 l3 (fun h4 m C b4 cap4 tx4 g4 v8 v9 v10 v11 E4 hm => ?_)
  refine l_mid hd hn h8 hm hT0 E4 (fun h5 st F A M5 G5 f7 eG _ eT eE => ?_)
  refine l_ex hd hn M5 G5 eE (fun h6 v10 M6 => ?_)
  refine l_price hd hn M6 G5 eT (fun h7 v10 M7 => ?_)
  refine l_lab hd hn ⟨M7.1, M7.2.1, M7.2.2.1, M7.2.2.2.1⟩ G5 eG rfl (fun h8 f10 v11 M8 R8 => ?_)
  refine l_set hd hx hn M8 R8 G5 f7 eE (fun h9 st' v11 v12 v13 M9 G9 eE9 => ?_)
  exact l_end hd M9 G9 eE9 HQ
end

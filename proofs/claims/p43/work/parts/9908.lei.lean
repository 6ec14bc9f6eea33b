/-! THE LAW, 5: the edges' loops -/
section
variable {xs : am_X} {d : Nat} {h : am_H} {Q : am_Q} {c n T a b cap f : Nat} {C : Nat → Nat → Nat} {tx : List Nat} {ld : Nat → Nat} {g : gD} {L : Nat}
def eS (h : am_H) (n T a f : Nat) (ld : Nat → Nat) (L : Nat) (u w m : Nat) (C : Nat → Nat → Nat) (b cap : Nat) (tx : List Nat) (g : gD) : Prop := lwS h (60 + 20 * m) n T C a b cap tx f ld ∧ rdOK n tx g L ∧ eI g n m T ld C ∧ tx.length ≤ 96 + 12 * m ∧ ∀ i j, i < j → (u < i ∨ (i = u ∧ w ≤ j)) → C i j = 0
set_option maxHeartbeats 8000000 in
/-- an edge is written and told -/
theorem w_edge (hd : 22 ≤ d) {u w m y : Nat} {z : Int32} {v6 : Int32} (hn : n ≤ 6) (hu : u < w) (hw : w < n) (hm : m < 15) (h8 : ∀ v, ld v < 8) (hy : 1 ≤ y ∧ y ≤ 12) (E : eS h n T a f ld L u w m C b cap tx g)
    (K0 : ∀ h' b' cap' tx' g' C' v10 v11, eS h' n T a f ld L u (w + 1) (m + 1) C' b' cap' tx' g' → LW xs d Q 481 (lL n a f (.int v6) (.int (nI (m + 1))) (.int (nI u)) (.int (nI w)) v10 v11 am_J am_J) [] h') :
    LW xs d Q 316 (lL n a f (.int v6) (.int (nI m)) (.int (nI u)) (.int (nI w)) (.int z) (.int (nI y)) am_J am_J) [] h := by
  obtain ⟨W, R, I, hl, h0⟩ := E
  have hC0 : C u w = 0 := h0 u w hu (Or.inr ⟨rfl, Nat.le_refl _⟩)
  have I2 := eI_add (p := u) (q := w) (y := y) I hu hw hC0 hy (Or.inl ⟨rfl, rfl⟩)
  have I3 := eI_add (p := w) (q := u) (y := y) I hu hw hC0 hy (Or.inr ⟨rfl, rfl⟩)
  refine w_put hd W hu hw hy h8 (fun h1 W1 => ?_)
  have hC1 : ∀ i j, i < j → (u < i ∨ (i = u ∧ w + 1 ≤ j)) → mput C u w (cst y (ld u) (ld w)) i j = 0 := fun i j hij hq => by
    unfold mput
    rw [if_neg (by omega)]
    exact h0 i j hij (by omega)
  generalize mput C u w (cst y (ld u) (ld w)) = C1 at W1 hC1 I2 I3
  have hN1 := W1.1.1
  -- the text
  have tell : ∀ p q, ((p = u ∧ q = w) ∨ (p = w ∧ q = u)) → eI (gAdd g p q y) n (m + 1) T ld C1 → ∀ h' s bs, ext 8 h1 h' → stO h' s bs (am_strs.getD 12 [] ++ dec2 p ++ am_strs.getD 13 [] ++ dec2 q) → am_n h1 ≤ s ∧ am_n h1 ≤ bs → LW xs d Q 459 (lL n a f (.int v6) (.int (nI m)) (.int (nI u)) (.int (nI w)) (.int z) (.int (nI y)) am_J am_J) [.ref s, .ref a] h' := by
    intro p q hpq I2 h' s bs E S hsb
    have W2 := W1.ext E
    have hN2 := W2.1.1
    obtain ⟨wa, wb, wf, wf2⟩ := W2.2.2.2.1
    have w9 := W1.2.2.2.2.1.1
    have lt : (am_strs.getD 12 [] ++ dec2 p ++ am_strs.getD 13 [] ++ dec2 q).length = 8 := by
      rw [List.length_append, List.length_append, List.length_append, dec2_len, dec2_len, if_pos (by omega), if_pos (by omega)]
      rfl
    have R2 := rdOK_ed (v := p) (x := q) (y := y) R (by omega) (by omega) (by omega) (by rw [I.1.1]; omega) (by rw [I.1.1]; omega) (by rw [I.1.2.1]; omega) (by omega) (by
      have nj := eI_nj I hu hC0
      rcases hpq with ⟨rfl, rfl⟩ | ⟨rfl, rfl⟩
      · exact nj.1
      · exact nj.2)
    refine am_go (fun p => p == 481) (fun K cal Q' hK hC hQ => ?_)
    refine And.intro W2.ka (hC _ _ _ _ (c_Sb_appS (by omega) W2.2.2.2.2.1 (by omega) (by omega) (fun h'' J => (stO_jf S J ⟨by omega, by omega⟩ ⟨by omega, by omega⟩).is (by have := J.1.2.1; omega)) (by rw [lt]; omega) (fun h3 b3 cap3 S3 J3 hb3 => ?_)))
    have W3 := W2.jf J3 (by decide) S3 hb3
    have n3 : (tx ++ (am_strs.getD 12 [] ++ dec2 p ++ am_strs.getD 13 [] ++ dec2 q)).length = tx.length + 8 := by rw [List.length_append, lt]
    refine And.intro W3.ka (hC _ _ _ _ (l_appC (by omega) W3 (by omega) (j := 32) (by decide) (by omega) (fun h4 b4 cap4 W4 => ?_)))
    have n4 : (tx ++ (am_strs.getD 12 [] ++ dec2 p ++ am_strs.getD 13 [] ++ dec2 q) ++ [32]).length = tx.length + 9 := by rw [List.length_append, n3]; rfl
    refine And.intro W4.ka (hC _ _ _ _ (l_appI (by omega) W4 (by omega) (j := y) (by omega) (by omega) (fun h5 b5 cap5 W5 => ?_)))
    have n5 : (tx ++ (am_strs.getD 12 [] ++ dec2 p ++ am_strs.getD 13 [] ++ dec2 q) ++ [32] ++ dec2 y).length ≤ tx.length + 11 := by
      rw [List.length_append, n4, dec2_len]
      split <;> omega
    refine And.intro W5.ka (hC _ _ _ _ (l_appC (by omega) W5 (by omega) (j := 59) (by decide) (by omega) (fun h6 b6 cap6 W6 => hK _ _ _ _ ?_)))
    have n6 : (tx ++ (am_strs.getD 12 [] ++ dec2 p ++ am_strs.getD 13 [] ++ dec2 q) ++ [32] ++ dec2 y ++ [59]).length ≤ tx.length + 12 := by
      rw [List.length_append]
      exact Nat.succ_le_succ n5
    have eI : am_inc (nI m) (Int.ofNat 1) = nI (m + 1) := nI_1 m
    have G := K0 h6 b6 cap6 _ _ C1 (.int z) (.int (nI y)) ⟨W6.mo (by omega), R2, I2, by omega, hC1⟩
    rw [← eI] at G
    exact G
  refine am_go (fun p => p == 396 || p == 429) (fun K cal Q' hK hC hQ => ?_)
  refine And.intro (fun _ => hK _ _ _ _ ?_) (fun _ => hK _ _ _ _ ?_)
  · exact w_tmp2 hd (by omega) (by omega) (by omega) (fun h' s bs E S hsb => tell w u (Or.inr ⟨rfl, rfl⟩) I3 h' s bs E S hsb) (by have := W1.2.1.1.2.2; omega)
  · exact w_tmp1 hd (by omega) (by omega) (by omega) (fun h' s bs E S hsb => tell u w (Or.inl ⟨rfl, rfl⟩) I2 h' s bs E S hsb) (by have := W1.2.1.1.2.2; omega)
set_option maxHeartbeats 8000000 in
theorem l_edges (hd : 22 ≤ d) (hx : xs.1 ≤ 1000) (hn : 3 ≤ n ∧ n ≤ 6) (h8 : ∀ v, ld v < 8) (W : lwS h 60 n T (fun _ _ => 0) a b cap tx f ld) (R : rdOK n tx g L) (G : gI g n 0 T ld) (hl : tx.length ≤ 96) {v6 : Int32} {v7 v8 : Value}
    (K0 : ∀ h' m C b' cap' tx' g' v8 v9 v10 v11, eS h' n T a f ld L n n m C b' cap' tx' g' → m ≤ 15 → LW xs d Q 493 (lL n a f (.int v6) (.int (nI m)) v8 v9 v10 v11 am_J am_J) [] h') :
    LW xs d Q 244 (lL n a f (.int v6) v7 v8 am_J am_J am_J am_J am_J) [] h := by
  refine am_go (fun p => p == 250) (fun K cal Q' hK hC hQ => hK _ _ _ _ ?_)
  have I0 : eI g n 0 T ld (fun _ _ => 0) := ⟨G, mrl_0 n _ _ _, fun e he => absurd he (Nat.not_lt_zero _)⟩
  refine am_for n (fun u M h' => ∃ m C b' cap' tx' g' v9 v10 v11, eS h' n T a f ld L u (u + 1) m C b' cap' tx' g' ∧ m ≤ tri u ∧ M = lL n a f (.int v6) (.int (nI m)) (.int (nI u)) v9 v10 v11 am_J am_J) ?_ ?_ 0 (Nat.zero_le _) _ _ ⟨0, fun _ _ => 0, b, cap, tx, g, am_J, am_J, am_J, ⟨W, R, I0, hl, fun _ _ _ _ => rfl⟩, Nat.zero_le _, rfl⟩
  · rintro u hu M h' ⟨m, C, b', cap', tx', g', v9, v10, v11, E, hm, rfl⟩ next
    have ht1 := tri_le (u + 1) (by omega)
    have ht2 : tri (u + 1) = tri u + (5 - u) := rfl
    refine am_go (fun p => p == 262) (fun K cal Q' hK hC hQ => ?_)
    refine And.intro (fun c => absurd c (nI_ge hu (by omega))) (fun _ => hK _ _ _ _ ?_)
    show LW xs d Q 262 (lL n a f (.int v6) (.int (nI m)) (.int (nI u)) (.int (nI u + nI 1)) v10 v11 am_J am_J) [] h'
    rw [nI_add]
    refine am_for n (fun w M h2 => ∃ m C b' cap' tx' g' v10 v11, eS h2 n T a f ld L u w m C b' cap' tx' g' ∧ m ≤ tri u + (w - (u + 1)) ∧ u < w ∧ M = lL n a f (.int v6) (.int (nI m)) (.int (nI u)) (.int (nI w)) v10 v11 am_J am_J) ?_ ?_ (u + 1) hu _ _ ⟨m, C, b', cap', tx', g', v10, v11, E, by omega, Nat.lt_succ_self u, rfl⟩
    · rintro w hw M h2 ⟨m, C, b', cap', tx', g', v10, v11, E, hm, huw, rfl⟩ next2
      have fin : ∀ h3 m C b' cap' tx' g' v10 v11, eS h3 n T a f ld L u (w + 1) m C b' cap' tx' g' → m ≤ tri u + (w + 1 - (u + 1)) → LW xs d Q 481 (lL n a f (.int v6) (.int (nI m)) (.int (nI u)) (.int (nI w)) v10 v11 am_J am_J) [] h3 := by
        intro h3 m C b' cap' tx' g' v10 v11 E hm
        refine am_go (fun p => p == 262) (fun K cal Q' hK hC hQ => hK _ _ _ _ (next2 _ _ ⟨m, C, b', cap', tx', g', v10, v11, E, hm, by omega, ?_⟩))
        rw [← nI_1 w]
        rfl
      refine am_go (fun p => p == 293) (fun K cal Q' hK hC hQ => ?_)
      refine And.intro (fun c => absurd c (nI_ge hw (by omega))) (fun _ => ?_)
      refine And.intro (by decide) (And.intro trivial ?_)
      show cal m_La_cell [.ref am_scr, .int (nI 3 + (nI 7 * nI u + nI w - (nI 7 * nI u + nI w) / nI 8 * nI 8))] h2 _
      rw [pk_mul, nI_add, pk_rem (by omega) (by decide) (by decide), nI_add]
      refine hC _ _ _ _ (c_La_cell (by omega) (by omega) hx (hK _ _ _ _ ?_))
      show LW xs d Q 293 (lL n a f (.int v6) (.int (nI m)) (.int (nI u)) (.int (nI w)) (.int (cel xs (3 + (7 * u + w) % 8) >>> ((nI u + nI w) &&& 31))) v11 am_J am_J) [] h2
      generalize cel xs (3 + (7 * u + w) % 8) >>> ((nI u + nI w) &&& 31) = z
      refine am_go (fun p => p == 303 || p == 481) (fun K cal Q' hK hC hQ => ?_)
      refine And.intro (fun _ => hK _ _ _ _ ?_) (fun _ => hK _ _ _ _ ?_)
      · refine am_go (fun p => p == 316) (fun K cal Q' hK hC hQ => ?_)
        refine And.intro trivial (hC _ _ _ _ (c_La_bound (by omega) (by decide) (by decide) (hK _ _ _ _ ?_)))
        show LW xs d Q 316 (lL n a f (.int v6) (.int (nI m)) (.int (nI u)) (.int (nI w)) (.int z) (.int (nI 1 + nI (bd (z >>> (nI 2 &&& 31)) 12))) am_J am_J) [] h2
        have hb := bd_lt (z >>> (nI 2 &&& 31)) (show 0 < 12 by decide)
        rw [nI_add]
        exact w_edge hd (by omega) huw hw (by omega) h8 ⟨by omega, by omega⟩ E (fun h3 b3 cap3 tx3 g3 C3 v10 v11 E3 => fin h3 (m + 1) C3 b3 cap3 tx3 g3 v10 v11 E3 (by omega))
      · obtain ⟨W2, R2, I2, hl2, h02⟩ := E
        exact fin h2 m C b' cap' tx' g' _ _ ⟨W2, R2, I2, hl2, fun i j hij hq => h02 i j hij (by omega)⟩ (by omega)
    · rintro M h2 ⟨m, C, b', cap', tx', g', v10, v11, E, hm, huw, rfl⟩
      refine am_go (fun p => p == 250) (fun K cal Q' hK hC hQ => ?_)
      refine And.intro (fun _ => hK _ _ _ _ (next _ _ ⟨m, C, b', cap', tx', g', .int (nI n), v10, v11, ?_, by omega, ?_⟩)) (fun c => absurd (nI_le (Nat.le_refl n) (by omega)) c)
      · obtain ⟨W2, R2, I2, hl2, h02⟩ := E
        exact ⟨W2, R2, I2, hl2, fun i j hij hq => h02 i j hij (by omega)⟩
      · rw [← nI_1 u]
        rfl
  · rintro M h' ⟨m, C, b', cap', tx', g', v9, v10, v11, E, hm, rfl⟩
    have ht1 := tri_le n (by omega)
    refine am_go (fun p => p == 493) (fun K cal Q' hK hC hQ => ?_)
    refine And.intro (fun _ => hK _ _ _ _ (K0 h' m C b' cap' tx' g' _ _ _ _ ?_ (by omega))) (fun c => absurd (nI_le (Nat.le_refl n) (by omega)) c)
    obtain ⟨W2, R2, I2, hl2, h02⟩ := E
    exact ⟨W2, R2, I2, hl2, fun i j hij hq => h02 i j hij (by omega)⟩
end

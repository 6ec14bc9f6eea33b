/-! THE JDK'S OWN METHODS THAT THE LAW'S TEXT NEEDS, 3: StringBuilder's append -/
theorem gd_app {tx t2 : List Nat} {j : Nat} (hj : j < (tx ++ t2).length) : (j < tx.length ∧ (tx ++ t2).getD j 0 = tx.getD j 0) ∨ (tx.length ≤ j ∧ j - tx.length < t2.length ∧ (tx ++ t2).getD j 0 = t2.getD (j - tx.length) 0) := by
  rw [List.length_append] at hj
  simp only [List.getD_eq_getElem?_getD]
  by_cases h : j < tx.length
  · left
    exact ⟨h, by rw [List.getElem?_append_left h]⟩
  · right
    exact ⟨by omega, by omega, by rw [List.getElem?_append_right (by omega)]⟩
/-- a natural below 100 as text -/
def dec2 (v : Nat) : List Nat := if v < 10 then [48 + v] else [48 + v / 10, 48 + v % 10]
theorem dec2_len (v : Nat) : (dec2 v).length = if v < 10 then 1 else 2 := by unfold dec2; split <;> rfl
theorem zb_byte : ∀ c, c < 128 → vp_nar .byte (nI c).toInt8.toInt32 = nI c := by decide +kernel
theorem zb_byte1 : ∀ c, c < 128 → vp_nar .byte (nI c) = nI c := by decide +kernel
/-- the letters t2 behind the letters tx -/
theorem sbO.add {h h1 : am_H} {a b cap : Nat} {tx t2 : List Nat} (S : sbO h a b cap tx) (hn : am_n h1 = am_n h) (hk : ∀ x, am_k h1 x = am_k h x) (i1 : am_i h1 a 1 = am_i h a 1) (i3 : am_i h1 a 3 = nI (tx.length + t2.length)) (r0 : am_r h1 a 0 = am_r h a 0) (hc : tx.length + t2.length ≤ cap)
    (lo : ∀ j, j < tx.length → am_i h1 b j = am_i h b j) (hi : ∀ j, j < t2.length → am_i h1 b (tx.length + j) = nI (t2.getD j 0) ∧ t2.getD j 0 < 128) : sbO h1 a b cap (tx ++ t2) := by
  obtain ⟨⟨n1, n2⟩, ka, ⟨j1, j3, q0⟩, kb, ⟨l1, l2⟩, hx⟩ := S
  refine ⟨⟨by rw [hn]; exact n1, by rw [hn]; exact n2⟩, (hk a).trans ka, ⟨i1.trans j1, by rw [List.length_append]; exact i3, r0.trans q0⟩, (hk b).trans kb, ⟨by rw [List.length_append]; exact hc, l2⟩, fun j hj => ?_⟩
  rcases gd_app hj with ⟨h1', e⟩ | ⟨h1', h2', e⟩
  · rw [e, lo j h1']
    exact hx j h1'
  · rw [e]
    have := hi (j - tx.length) h2'
    rw [show tx.length + (j - tx.length) = j by omega] at this
    exact this
section
variable {xs : am_X} {d : Nat} {h : am_H} {Q : am_Q} {a b cap : Nat} {tx : List Nat}
set_option maxHeartbeats 4000000 in
theorem c_As_appS (hd : 4 ≤ d) (S : sbO h a b cap tx) (hN : am_n h < 900000) {s : Nat} {t2 : List Nat} (hs0 : s ≠ 0) (S2 : ∀ h', jf a b 1 2000 h h' → isS h' s t2) (hm : tx.length + t2.length ≤ 900)
    (HQ : ∀ h' b' cap', sbO h' a b' cap' (tx ++ t2) → jf a b 1 2000 h h' → (b' = b ∨ am_n h ≤ b') → Q (.inl (some (.ref a))) h') : am_C xs am_P0 d m_As_appS [.ref a, .ref s] h Q := by
  have i3 := S.2.2.1.2.1
  refine am_C_le hd (am_enter (d := 3) ap_As_appS rfl ?_) (fun _ _ k => k)
  refine am_go (fun p => p == 24) (fun K cal Q' hK hC hQ => ?_)
  refine And.intro (fun _ => ?_) (fun z => absurd hs0 z)
  refine And.intro (S2 h jf.rf).1 (hC _ _ _ _ (c_St_length (by decide) (S2 h jf.rf) ?_))
  refine And.intro S.2.1 (And.intro S.2.1 ?_)
  show cal m_As_ensure [.ref a, .int (am_i h a 3 + nI t2.length)] h _
  rw [i3, nI_add]
  refine hC _ _ _ _ (c_As_ensure (by decide) S hN hm (fun h1 b1 cap1 S1 hc1 J1 hb1 => ?_))
  refine hK _ _ _ _ ?_
  show am_W _ _ _ _ _ 24 [.ref a, .ref s, .int (nI t2.length)] [] h1
  have T1 := S2 h1 J1
  obtain ⟨⟨n1, n2⟩, ka, ⟨i1, i3', r0⟩, kb, ⟨l1, l2⟩, hx⟩ := id S1
  have hab := S1.ne
  refine am_go (fun _ => false) (fun K cal Q' hK hC hQ => ?_)
  refine And.intro ka (And.intro ka ?_)
  show cal m_As_putStr [.ref a, .int (am_i h1 a 3), .ref s] h1 _
  rw [i3']
  refine hC _ _ _ _ (c_As_putStr (by decide) ka i1 r0 kb (by omega) T1 hc1 ?_)
  refine And.intro ka (And.intro ka (And.intro trivial (hQ _ _ ?_)))
  have eI : am_i (am_cp2 h1 (am_r2 h1 s) 0 b1 tx.length t2.length) a = am_i h1 a := i_cp2_ne hab
  show Q (.inl (some (.ref a))) (am_pi (am_cp2 h1 (am_r2 h1 s) 0 b1 tx.length t2.length) a 3 (am_i (am_cp2 h1 (am_r2 h1 s) 0 b1 tx.length t2.length) a 3 + nI t2.length))
  rw [eI, i3', nI_add]
  have Ib : ∀ x, x ≠ a → am_i (am_pi (am_cp2 h1 (am_r2 h1 s) 0 b1 tx.length t2.length) a 3 (nI (tx.length + t2.length))) x = am_i (am_cp2 h1 (am_r2 h1 s) 0 b1 tx.length t2.length) x := fun x hx => i_pi_ne hx
  refine HQ _ b1 cap1 (S1.add rfl (fun _ => rfl) ?_ ?_ rfl hc1 (fun j hj => ?_) (fun j hj => ?_)) ⟨J1.1, J1.2.1, fun x hx ha hb => ?_⟩ hb1
  · rw [i_pi_same, if_neg (by decide), eI]
  · rw [i_pi_same, if_pos rfl]
  · rw [Ib b1 (Ne.symm hab), i_cp2, if_neg (by omega)]
  · rw [Ib b1 (Ne.symm hab), i_cp2, if_pos ⟨rfl, by omega, by omega⟩, show 0 + (tx.length + j - tx.length) = j by omega]
    exact T1.2.2.2.2 j hj
  · have hxb : x ≠ b1 := by rcases hb1 with e | e <;> omega
    refine ⟨?_, (J1.2.2 x hx ha hb).2⟩
    rw [Ib x ha, i_cp2_ne hxb]
    exact (J1.2.2 x hx ha hb).1
set_option maxHeartbeats 4000000 in
theorem c_As_appC (hd : 4 ≤ d) (S : sbO h a b cap tx) (hN : am_n h < 900000) {c : Nat} (hc : c < 128) (hm : tx.length + 1 ≤ 900)
    (HQ : ∀ h' b' cap', sbO h' a b' cap' (tx ++ [c]) → jf a b 1 2000 h h' → (b' = b ∨ am_n h ≤ b') → Q (.inl (some (.ref a))) h') : am_C xs am_P0 d m_As_appC [.ref a, .int (nI c)] h Q := by
  have i3 := S.2.2.1.2.1
  refine am_C_le hd (am_enter (d := 3) ap_As_appC rfl ?_) (fun _ _ k => k)
  refine am_go (fun p => p == 10) (fun K cal Q' hK hC hQ => ?_)
  refine And.intro S.2.1 (And.intro S.2.1 ?_)
  show cal m_As_ensure [.ref a, .int (am_i h a 3 + nI 1)] h _
  rw [i3, nI_add]
  refine hC _ _ _ _ (c_As_ensure (by decide) S hN hm (fun h1 b1 cap1 S1 hc1 J1 hb1 => ?_))
  refine hK _ _ _ _ ?_
  show am_W _ _ _ _ _ 10 [.ref a, .int (nI c)] [] h1
  obtain ⟨⟨n1, n2⟩, ka, ⟨i1, i3', r0⟩, kb, ⟨l1, l2⟩, hx⟩ := id S1
  have hab := S1.ne
  refine am_go (fun _ => false) (fun K cal Q' hK hC hQ => ?_)
  refine And.intro ka (hC _ _ _ _ (c_As_isLatin1 (by decide) ka i1 ?_))
  refine And.intro (fun z => absurd (show nI 1 = 0 from z) (by decide)) (fun _ => ?_)
  refine And.intro trivial (hC _ _ _ _ (c_L1_canEncode (by decide) hc ?_))
  refine And.intro (fun z => absurd (show nI 1 = 0 from z) (by decide)) (fun _ => ?_)
  refine And.intro ka (And.intro ka (And.intro ka ?_))
  have e3 : am_i h1 a 3 + nI 1 = nI (tx.length + 1) := by rw [i3', nI_add]
  refine And.intro ?_ ?_
  · show am_arr (am_pi h1 a 3 (am_i h1 a 3 + nI 1)) (am_r h1 a 0) 3 (am_i h1 a 3)
    exact ck_row r0 kb i3' (by omega) (by omega)
  · refine And.intro trivial (hQ _ _ ?_)
    show Q (.inl (some (.ref a))) (am_pi (am_pi h1 a 3 (am_i h1 a 3 + nI 1)) (am_r h1 a 0) (am_i h1 a 3).toNatClampNeg (vp_nar .byte (nI c).toInt8.toInt32))
    rw [e3, i3', r0, q_cl (by omega), zb_byte c hc]
    have Ia : am_i (am_pi (am_pi h1 a 3 (nI (tx.length + 1))) b1 tx.length (nI c)) a = am_i (am_pi h1 a 3 (nI (tx.length + 1))) a := i_pi_ne hab
    refine HQ _ b1 cap1 (S1.add rfl (fun _ => rfl) ?_ ?_ rfl hc1 (fun j hj => ?_) (fun j hj => ?_)) ⟨J1.1, J1.2.1, fun x hx ha hb => ?_⟩ hb1
    · rw [Ia, i_pi_same, if_neg (by decide)]
    · rw [Ia, i_pi_same, if_pos rfl]; rfl
    · rw [i_pi_same, if_neg (by omega), i_pi_ne (Ne.symm hab)]
    · have hj0 : j = 0 := by have : j < 1 := hj; omega
      subst hj0
      rw [i_pi_same, if_pos (Nat.add_zero _)]
      exact ⟨rfl, hc⟩
    · have hxb : x ≠ b1 := by rcases hb1 with e | e <;> omega
      refine ⟨?_, (J1.2.2 x hx ha hb).2⟩
      rw [i_pi_ne hxb, i_pi_ne ha]
      exact (J1.2.2 x hx ha hb).1
set_option maxHeartbeats 4000000 in
theorem c_JI_stringSize (hd : 1 ≤ d) {v : Nat} (hv : v < 100) (HQ : Q (.inl (some (.int (nI (if v < 10 then 1 else 2))))) h) : am_C xs am_P0 d m_JI_stringSize [.int (nI v)] h Q := by
  have e10 : nI 10 * -nI 10 = -nI 100 := by decide
  refine am_C_le hd (am_enter (d := 0) ap_JI_stringSize rfl ?_) (fun _ _ k => k)
  refine am_go (fun p => p == 31) (fun K cal Q' hK hC hQ => ?_)
  refine And.intro (fun z => absurd (show nI v < 0 from z) (nI_pos (by omega))) (fun _ => ?_)
  refine And.intro (fun z => absurd (show nI 10 ≤ nI 1 from z) (by decide)) (fun _ => ?_)
  refine And.intro (fun z => hK _ _ _ _ ?_) (fun z => ?_)
  · have z : -nI v ≤ -nI 10 := z
    have hv10 := (sb_nle (by omega) (by omega)).mp z
    show am_W _ _ _ _ _ 31 [.int (-nI v), .int (nI 0), .int (-nI 10), .int (nI 1)] [] h
    refine am_go (fun _ => false) (fun K cal Q' hK hC hQ => ?_)
    refine And.intro (fun z => absurd (show nI 10 ≤ nI 1 + nI 1 from z) (by decide)) (fun _ => ?_)
    refine And.intro (fun z => absurd (show -nI v ≤ nI 10 * -nI 10 from z) ?_) (fun _ => ?_)
    · rw [e10]
      exact fun q => absurd ((sb_nle (by omega) (by omega)).mp q) (by omega)
    · refine And.intro trivial (hQ _ _ ?_)
      show Q (.inl (some (.int (nI 1 + nI 1 + nI 0)))) h
      rw [if_neg (by omega)] at HQ
      exact HQ
  · have z : ¬ -nI v ≤ -nI 10 := z
    have hv10 : v < 10 := by
      rcases Nat.lt_or_ge v 10 with q | q
      · exact q
      · exact absurd ((sb_nle (by omega) (by omega)).mpr q) z
    refine And.intro trivial (hQ _ _ ?_)
    show Q (.inl (some (.int (nI 1 + nI 0)))) h
    rw [if_pos hv10] at HQ
    exact HQ
/-- Integer.getChars of a natural below 100, its letters end ahead of p -/
def gch (h : am_H) (b p v : Nat) : am_H := if v < 10 then am_pi h b (p - 1) (nI (48 + v % 10)) else am_pi (am_pi h b (p - 1) (nI (48 + v % 10))) b (p - 1 - 1) (nI (48 + v / 10))
theorem tab_ones (h : am_H) (v : Nat) : am_i2 h (am_S0 + 2000) v = nI (48 + v % 10) := by
  unfold am_i2
  rw [if_neg (by decide), if_neg (by decide), if_neg (by decide), if_pos (by decide)]
theorem tab_tens (h : am_H) (v : Nat) : am_i2 h (am_S0 + 2001) v = nI (48 + v / 10) := by
  unfold am_i2
  rw [if_neg (by decide), if_neg (by decide), if_neg (by decide), if_neg (by decide)]
theorem tab_k0 (h : am_H) : am_k2 h (am_S0 + 2000) = (3, 100) := by
  unfold am_k2
  rw [if_neg (by decide), if_neg (by decide), if_neg (by decide), if_pos (Or.inl (by decide))]
theorem tab_k1 (h : am_H) : am_k2 h (am_S0 + 2001) = (3, 100) := by
  unfold am_k2
  rw [if_neg (by decide), if_neg (by decide), if_neg (by decide), if_pos (Or.inr (by decide))]
theorem am_dec1 (p : Nat) (hp : 0 < p) : am_inc (nI p) (Int.negSucc 0) = nI (p - 1) := pk_sub (a := p) (b := 1) hp
set_option maxHeartbeats 4000000 in
theorem c_JI_getChars (hd : 1 ≤ d) {v p : Nat} (hv : v < 100) (kb : am_k h b = (3, cap)) (hc : cap < 100000) (hp : p ≤ cap) (hp2 : (dec2 v).length ≤ p) (HQ : ∀ w, Q (.inl (some (.int w))) (gch h b p v)) : am_C xs am_P0 d m_JI_getChars [.int (nI v), .int (nI p), .ref b] h Q := by
  rw [dec2_len] at hp2
  have hp1 : 0 < p := by split at hp2 <;> omega
  refine am_C_le hd (am_enter (d := 0) ap_JI_getChars rfl ?_) (fun _ _ k => k)
  refine am_go (fun p => p == 72 || p == 85 || p == 104) (fun K cal Q' hK hC hQ => ?_)
  refine And.intro (fun _ => ?_) (fun z => absurd (show 0 ≤ nI v from nI_pos' (by omega)) z)
  refine And.intro (fun z => absurd rfl (show ¬ nI 0 = 0 from z)) (fun _ => ?_)
  refine And.intro (fun _ => hK _ _ _ _ ?_) (fun z => absurd (show -nI 100 < -nI v from (sb_nlt (by omega) (by omega)).mpr hv) z)
  show am_W _ _ _ _ _ 72 [.int (-nI v), .int (nI p), .ref b, am_J, am_J, .int (nI p), .int (nI 0)] [] h
  have en : -(-nI v) = nI v := Int32.neg_neg
  -- behind the digits
  have fin : ∀ (h' : am_H) (w : Nat), (∀ w, Q (.inl (some (.int w))) h') → am_W xs (am_code at_JI_getChars) (am_hd ah_JI_getChars) (am_C xs am_P0 0) Q 104 [.int (-nI v), .int (nI p), .ref b, am_J, am_J, .int (nI w), .int (nI 0)] [] h' := fun h' w HQ => by
    refine am_go (fun _ => false) (fun K cal Q' hK hC hQ => ?_)
    exact And.intro (fun _ => And.intro trivial (hQ _ _ (HQ _))) (fun z => absurd rfl (show ¬ nI 0 = 0 from z))
  refine am_go (fun p => p == 85) (fun K cal Q' hK hC hQ => ?_)
  refine And.intro ⟨congrArg Prod.fst (tab_k0 h), ?_⟩ (And.intro ?_ (hK _ _ _ _ ?_))
  · show vp_in (-(-nI v)) (am_k2 h (am_S0 + 2000)).2
    rw [en, tab_k0]
    exact vp_in_nI hv (by decide)
  · exact ck_arr kb (am_dec1 p hp1) (by omega) (by omega)
  show am_W _ _ _ _ _ 85 [.int (-nI v), .int (nI p), .ref b, am_J, am_J, .int (am_inc (nI p) (Int.negSucc 0)), .int (nI 0)] [] (am_pi h b (am_inc (nI p) (Int.negSucc 0)).toNatClampNeg (vp_nar .byte (am_i2 h (am_S0 + 2000) (-(-nI v)).toNatClampNeg)))
  rw [en, am_dec1 p hp1, q_cl (by omega), q_cl (by omega), tab_ones, zb_byte1 _ (by omega)]
  refine am_go (fun p => p == 104) (fun K cal Q' hK hC hQ => ?_)
  refine And.intro (fun z => ?_) (fun z => ?_)
  · have z : -nI 9 ≤ -nI v := z
    have hv9 : v < 10 := by have := (sb_nle (by omega) (by omega)).mp z; omega
    refine hK _ _ _ _ (fin _ _ fun w => ?_)
    have := HQ w
    unfold gch at this
    rw [if_pos hv9] at this
    exact this
  · have z : ¬ -nI 9 ≤ -nI v := z
    have hv9 : ¬ v < 10 := fun q => z ((sb_nle (by omega) (by omega)).mpr (by omega))
    rw [if_neg hv9] at hp2
    refine And.intro ⟨congrArg Prod.fst (tab_k1 _), ?_⟩ (And.intro ?_ (hK _ _ _ _ ?_))
    · show vp_in (-(-nI v)) (am_k2 _ (am_S0 + 2001)).2
      rw [en, tab_k1]
      exact vp_in_nI hv (by decide)
    · exact ck_arr (show am_k (am_pi h b (p - 1) (nI (48 + v % 10))) b = (3, cap) from kb) (am_dec1 (p - 1) (by omega)) (by omega) (by omega)
    show am_W _ _ _ _ _ 104 [.int (-nI v), .int (nI p), .ref b, am_J, am_J, .int (am_inc (nI (p - 1)) (Int.negSucc 0)), .int (nI 0)] [] (am_pi (am_pi h b (p - 1) (nI (48 + v % 10))) b (am_inc (nI (p - 1)) (Int.negSucc 0)).toNatClampNeg (vp_nar .byte (am_i2 (am_pi h b (p - 1) (nI (48 + v % 10))) (am_S0 + 2001) (-(-nI v)).toNatClampNeg)))
    rw [en, am_dec1 (p - 1) (by omega), q_cl (by omega), q_cl (by omega), tab_tens, zb_byte1 _ (by omega)]
    refine fin _ _ fun w => ?_
    have := HQ w
    unfold gch at this
    rw [if_neg hv9] at this
    exact this
set_option maxHeartbeats 4000000 in
theorem c_As_appI (hd : 4 ≤ d) (S : sbO h a b cap tx) (hN : am_n h < 900000) {v : Nat} (hv : v < 100) (hm : tx.length + 2 ≤ 900)
    (HQ : ∀ h' b' cap', sbO h' a b' cap' (tx ++ dec2 v) → jf a b 1 2000 h h' → (b' = b ∨ am_n h ≤ b') → Q (.inl (some (.ref a))) h') : am_C xs am_P0 d m_As_appI [.ref a, .int (nI v)] h Q := by
  have i3 := S.2.2.1.2.1
  have hl : (dec2 v).length ≤ 2 := by rw [dec2_len]; split <;> omega
  refine am_C_le hd (am_enter (d := 3) ap_As_appI rfl ?_) (fun _ _ k => k)
  refine am_go (fun p => p == 17) (fun K cal Q' hK hC hQ => ?_)
  refine And.intro S.2.1 (And.intro trivial (hC _ _ _ _ (c_JI_stringSize (by decide) hv ?_)))
  rw [← dec2_len]
  refine And.intro S.2.1 ?_
  have e3 : am_i h a 3 + nI (dec2 v).length = nI (tx.length + (dec2 v).length) := by rw [i3, nI_add]
  show cal m_As_ensure [.ref a, .int (am_i h a 3 + nI (dec2 v).length)] h _
  rw [e3]
  refine hC _ _ _ _ (c_As_ensure (by decide) S hN (by omega) (fun h1 b1 cap1 S1 hc1 J1 hb1 => ?_))
  refine hK _ _ _ _ ?_
  show am_W _ _ _ _ _ 17 [.ref a, .int (nI v), .int (am_i h a 3), .int (nI (tx.length + (dec2 v).length))] [] h1
  obtain ⟨⟨n1, n2⟩, ka, ⟨i1, i3', r0⟩, kb, ⟨l1, l2⟩, hx⟩ := id S1
  have hab := S1.ne
  refine am_go (fun _ => false) (fun K cal Q' hK hC hQ => ?_)
  refine And.intro ka (hC _ _ _ _ (c_As_isLatin1 (by decide) ka i1 ?_))
  refine And.intro (fun z => absurd (show nI 1 = 0 from z) (by decide)) (fun _ => ?_)
  refine And.intro ka (And.intro trivial ?_)
  show cal m_JI_getChars [.int (nI v), .int (nI (tx.length + (dec2 v).length)), .ref (am_r h1 a 0)] h1 _
  rw [r0]
  refine hC _ _ _ _ (c_JI_getChars (by decide) hv kb (by omega) hc1 (by omega) (fun w => ?_))
  have kG : ∀ x, am_k (gch h1 b1 (tx.length + (dec2 v).length) v) x = am_k h1 x := fun x => by unfold gch; split <;> rfl
  have rG : ∀ x, am_r (gch h1 b1 (tx.length + (dec2 v).length) v) x = am_r h1 x := fun x => by unfold gch; split <;> rfl
  have nG : am_n (gch h1 b1 (tx.length + (dec2 v).length) v) = am_n h1 := by unfold gch; split <;> rfl
  have cG : am_cs (gch h1 b1 (tx.length + (dec2 v).length) v) = am_cs h1 := by unfold gch; split <;> rfl
  have iG : ∀ x, x ≠ b1 → am_i (gch h1 b1 (tx.length + (dec2 v).length) v) x = am_i h1 x := fun x hx => by
    unfold gch
    split
    · exact i_pi_ne hx
    · rw [i_pi_ne hx, i_pi_ne hx]
  have lG : ∀ j, j < tx.length → am_i (gch h1 b1 (tx.length + (dec2 v).length) v) b1 j = am_i h1 b1 j := fun j hj => by
    rw [dec2_len]
    unfold gch
    by_cases q : v < 10
    · rw [if_pos q, if_pos q, i_pi_same, if_neg (by omega)]
    · rw [if_neg q, if_neg q, i_pi_same, if_neg (by omega), i_pi_same, if_neg (by omega)]
  have hG : ∀ j, j < (dec2 v).length → am_i (gch h1 b1 (tx.length + (dec2 v).length) v) b1 (tx.length + j) = nI ((dec2 v).getD j 0) ∧ (dec2 v).getD j 0 < 128 := fun j hj => by
    rw [dec2_len] at hj ⊢
    unfold gch dec2
    by_cases q : v < 10
    · rw [if_pos q] at hj
      rw [if_pos q, if_pos q, if_pos q, show j = 0 by omega, i_pi_same, if_pos (by omega)]
      refine ⟨?_, ?_⟩
      · show _ = nI (48 + v); rw [Nat.mod_eq_of_lt q]
      · show 48 + v < 128; omega
    · rw [if_neg q] at hj
      rw [if_neg q, if_neg q, if_neg q]
      rcases (show j = 0 ∨ j = 1 by omega) with rfl | rfl
      · rw [i_pi_same, if_pos (by omega)]
        exact ⟨rfl, by show 48 + v / 10 < 128; omega⟩
      · rw [i_pi_same, if_neg (by omega), i_pi_same, if_pos (by omega)]
        exact ⟨rfl, by show 48 + v % 10 < 128; omega⟩
  generalize gch h1 b1 (tx.length + (dec2 v).length) v = h2 at kG rG nG cG iG lG hG ⊢
  refine And.intro ((kG a).trans ka) (And.intro trivial (hQ _ _ ?_))
  refine HQ (am_pi h2 a 3 (nI (tx.length + (dec2 v).length))) b1 cap1 (S1.add nG kG ?_ ?_ (congrFun (rG a) 0) hc1 (fun j hj => ?_) (fun j hj => ?_)) ⟨⟨?_, ?_, ?_⟩, fun x hx' => ?_, fun x hx ha hb => ?_⟩ hb1
  · rw [i_pi_same, if_neg (by decide), iG a hab]
  · rw [i_pi_same, if_pos rfl]
  · rw [i_pi_ne (Ne.symm hab)]; exact lG j hj
  · rw [i_pi_ne (Ne.symm hab)]; exact hG j hj
  · show am_n h ≤ am_n h2; rw [nG]; exact J1.1.1
  · show am_n h2 ≤ _; rw [nG]; exact J1.1.2.1
  · show am_cs h2 ≤ _; rw [cG]; exact J1.1.2.2
  · exact (kG x).trans (J1.2.1 x (by rcases hx' with q | q; exact Or.inl q; exact Or.inr (by have q : am_n h2 ≤ x := q; rw [nG] at q; exact q)))
  · have hxb : x ≠ b1 := by rcases hb1 with e | e <;> omega
    refine ⟨?_, (rG x).trans (J1.2.2 x hx ha hb).2⟩
    rw [i_pi_ne ha, iG x hxb]
    exact (J1.2.2 x hx ha hb).1
theorem c_Sb_appS (hd : 5 ≤ d) (S : sbO h a b cap tx) (hN : am_n h < 900000) {s : Nat} {t2 : List Nat} (hs0 : s ≠ 0) (S2 : ∀ h', jf a b 1 2000 h h' → isS h' s t2) (hm : tx.length + t2.length ≤ 900)
    (HQ : ∀ h' b' cap', sbO h' a b' cap' (tx ++ t2) → jf a b 1 2000 h h' → (b' = b ∨ am_n h ≤ b') → Q (.inl (some (.ref a))) h') : am_C xs am_P0 d m_Sb_appS [.ref a, .ref s] h Q := by
  refine am_C_le hd (am_enter (d := 4) ap_Sb_appS rfl ?_) (fun _ _ k => k)
  refine am_go (fun _ => false) (fun K cal Q' hK hC hQ => ?_)
  exact And.intro S.2.1 (hC _ _ _ _ (c_As_appS (by decide) S hN hs0 S2 hm (fun h' b' cap' S' J hb => And.intro trivial (hQ _ _ (HQ h' b' cap' S' J hb)))))
theorem c_Sb_appA (hd : 6 ≤ d) (S : sbO h a b cap tx) (hN : am_n h < 900000) {s : Nat} {t2 : List Nat} (hs0 : s ≠ 0) (S2 : ∀ h', jf a b 1 2000 h h' → isS h' s t2) (hm : tx.length + t2.length ≤ 900)
    (HQ : ∀ h' b' cap', sbO h' a b' cap' (tx ++ t2) → jf a b 1 2000 h h' → (b' = b ∨ am_n h ≤ b') → Q (.inl (some (.ref a))) h') : am_C xs am_P0 d m_Sb_appA [.ref a, .ref s] h Q := by
  refine am_C_le hd (am_enter (d := 5) ap_Sb_appA rfl ?_) (fun _ _ k => k)
  refine am_go (fun _ => false) (fun K cal Q' hK hC hQ => ?_)
  exact And.intro S.2.1 (hC _ _ _ _ (c_Sb_appS (by decide) S hN hs0 S2 hm (fun h' b' cap' S' J hb => And.intro trivial (hQ _ _ (HQ h' b' cap' S' J hb)))))
theorem c_Sb_appC (hd : 5 ≤ d) (S : sbO h a b cap tx) (hN : am_n h < 900000) {c : Nat} (hc : c < 128) (hm : tx.length + 1 ≤ 900)
    (HQ : ∀ h' b' cap', sbO h' a b' cap' (tx ++ [c]) → jf a b 1 2000 h h' → (b' = b ∨ am_n h ≤ b') → Q (.inl (some (.ref a))) h') : am_C xs am_P0 d m_Sb_appC [.ref a, .int (nI c)] h Q := by
  refine am_C_le hd (am_enter (d := 4) ap_Sb_appC rfl ?_) (fun _ _ k => k)
  refine am_go (fun _ => false) (fun K cal Q' hK hC hQ => ?_)
  exact And.intro S.2.1 (hC _ _ _ _ (c_As_appC (by decide) S hN hc hm (fun h' b' cap' S' J hb => And.intro trivial (hQ _ _ (HQ h' b' cap' S' J hb)))))
theorem c_Sb_appI (hd : 5 ≤ d) (S : sbO h a b cap tx) (hN : am_n h < 900000) {v : Nat} (hv : v < 100) (hm : tx.length + 2 ≤ 900)
    (HQ : ∀ h' b' cap', sbO h' a b' cap' (tx ++ dec2 v) → jf a b 1 2000 h h' → (b' = b ∨ am_n h ≤ b') → Q (.inl (some (.ref a))) h') : am_C xs am_P0 d m_Sb_appI [.ref a, .int (nI v)] h Q := by
  refine am_C_le hd (am_enter (d := 4) ap_Sb_appI rfl ?_) (fun _ _ k => k)
  refine am_go (fun _ => false) (fun K cal Q' hK hC hQ => ?_)
  exact And.intro S.2.1 (hC _ _ _ _ (c_As_appI (by decide) S hN hv hm (fun h' b' cap' S' J hb => And.intro trivial (hQ _ _ (HQ h' b' cap' S' J hb)))))
end

/-! THE JDK'S OWN METHODS THAT THE LAW'S TEXT NEEDS, 1: String's reads. Began as no one's text. -/
theorem i_cp2 (h : am_H) (b sp a dp n x w : Nat) : am_i (am_cp2 h b sp a dp n) x w = if x = a ∧ dp ≤ w ∧ w < dp + n then am_i2 h b (sp + (w - dp)) else am_i h x w := by
  show va_up h.2.1 a (va_cpy (am_i2 h b) (h.2.1 a) sp dp n) x w = _
  unfold va_up va_cpy
  by_cases e : x = a
  · subst e
    rw [if_pos rfl]
    by_cases c : dp ≤ w ∧ w < dp + n
    · rw [if_pos c, if_pos ⟨rfl, c⟩]
    · rw [if_neg c, if_neg (fun z => c z.2)]; rfl
  · rw [if_neg e, if_neg (fun z => e z.1)]; rfl
theorem i_cp2_ne {h : am_H} {b sp a dp n x : Nat} (hx : x ≠ a) : am_i (am_cp2 h b sp a dp n) x = am_i h x := by
  funext w
  rw [i_cp2, if_neg (fun z => hx z.1)]
theorem i_new_ne {h : am_H} {t n w x : Nat} (hx : x ≠ am_n h) : am_i (am_new h t n w) x = am_i h x := by
  funext k
  rw [i_new, if_neg hx]
theorem r_new_ne {h : am_H} {t n w x : Nat} (hx : x ≠ am_n h) : am_r (am_new h t n w) x = am_r h x := by
  funext k
  rw [r_new, if_neg hx]
theorem r_pr_ne {h : am_H} {a k v x : Nat} (hx : x ≠ a) : am_r (am_pr h a k v) x = am_r h x := by
  funext j
  rw [r_pr, if_neg hx]
theorem k2_lo {h : am_H} {a : Nat} (ha : a < am_S0) : am_k2 h a = am_k h a := if_pos ha
theorem i2_lo {h : am_H} {a : Nat} (ha : a < am_S0) : am_i2 h a = am_i h a := by
  funext k
  exact if_pos ha
theorem r2_lo {h : am_H} {a : Nat} (ha : a < am_S0) : am_r2 h a = am_r h a 0 := if_pos ha
/-- a String of the letters tx, a constant or one that was made -/
def isS (h : am_H) (s : Nat) (tx : List Nat) : Prop := am_k2 h s = (1, 10) ∧ am_i2 h s 1 = 0 ∧ am_k2 h (am_r2 h s) = (3, tx.length) ∧ tx.length < 1000 ∧ ∀ j, j < tx.length → am_i2 h (am_r2 h s) j = nI (tx.getD j 0) ∧ tx.getD j 0 < 128
/-- one that was made: its bytes at b -/
def stO (h : am_H) (s b : Nat) (tx : List Nat) : Prop := (s < am_n h ∧ b < am_n h) ∧ am_k h s = (1, 10) ∧ am_i h s 1 = 0 ∧ am_r h s 0 = b ∧ am_k h b = (3, tx.length) ∧ tx.length < 1000 ∧ ∀ j, j < tx.length → am_i h b j = nI (tx.getD j 0) ∧ tx.getD j 0 < 128
theorem stO.is {h : am_H} {s b : Nat} {tx : List Nat} (S : stO h s b tx) (hN : am_n h < 1000000) : isS h s tx := by
  obtain ⟨⟨n1, n2⟩, k1, k2, k3, k4, k5, k6⟩ := S
  have e0 : am_S0 = 2000000 := rfl
  have h1 : s < am_S0 := by omega
  have h2 : b < am_S0 := by omega
  have er : am_r2 h s = b := (r2_lo h1).trans k3
  refine ⟨(k2_lo h1).trans k1, by rw [i2_lo h1]; exact k2, ?_, k5, fun j hj => ?_⟩
  · rw [er, k2_lo h2]; exact k4
  · rw [er, i2_lo h2]; exact k6 j hj
theorem strs_len : ∀ j, j < 15 → (am_strs.getD j []).length < 1000 := by decide +kernel
theorem strs_asc : ∀ j, j < 15 → ∀ k, k < (am_strs.getD j []).length → (am_strs.getD j []).getD k 0 < 128 := by decide +kernel
theorem isS_c (h : am_H) {j : Nat} (hj : j < 15) : isS h (am_S0 + j) (am_strs.getD j []) := by
  have e0 : am_S0 = 2000000 := rfl
  have er : am_r2 h (am_S0 + j) = am_S0 + j + 1000 := if_neg (by omega)
  refine ⟨?_, ?_, ?_, strs_len j hj, fun k hk => ⟨?_, strs_asc j hj k hk⟩⟩
  · unfold am_k2
    rw [if_neg (by omega), if_pos (by omega)]
  · unfold am_i2
    rw [if_neg (by omega), if_pos (by omega)]
  · rw [er]
    unfold am_k2
    rw [if_neg (by omega), if_neg (by omega), if_pos (by omega), show am_S0 + j + 1000 - am_S0 - 1000 = j by omega]
  · rw [er]
    unfold am_i2
    rw [if_neg (by omega), if_neg (by omega), if_pos (by omega), show am_S0 + j + 1000 - am_S0 - 1000 = j by omega]
theorem zb_char : ∀ c, c < 128 → ((nI c &&& nI 255).toUInt32 % 65536).toInt32 = nI c := by decide +kernel
section
variable {xs : am_X} {d : Nat} {h : am_H} {Q : am_Q} {s : Nat} {tx : List Nat}
theorem c_St_coder (hd : 1 ≤ d) (S : isS h s tx) (HQ : Q (.inl (some (.int 0))) h) : am_C xs am_P0 d m_St_coder [.ref s] h Q := by
  refine am_C_le hd (am_enter (d := 0) ap_St_coder rfl ?_) (fun _ _ k => k)
  refine am_go (fun _ => false) (fun K cal Q' hK hC hQ => ?_)
  refine And.intro (fun z => absurd (show nI 1 = 0 from z) (by decide)) (fun _ => ?_)
  refine And.intro S.1 ?_
  refine And.intro (Or.inl S.2.1) (hQ _ _ ?_)
  show Q (.inl (some (.int (am_i2 h s 1)))) h
  rw [S.2.1]
  exact HQ
theorem c_St_isLatin1 (hd : 1 ≤ d) (S : isS h s tx) (HQ : Q (.inl (some (.int (nI 1)))) h) : am_C xs am_P0 d m_St_isLatin1 [.ref s] h Q := by
  refine am_C_le hd (am_enter (d := 0) ap_St_isLatin1 rfl ?_) (fun _ _ k => k)
  refine am_go (fun _ => false) (fun K cal Q' hK hC hQ => ?_)
  refine And.intro (fun z => absurd (show nI 1 = 0 from z) (by decide)) (fun _ => ?_)
  refine And.intro S.1 ?_
  refine And.intro (fun z => absurd S.2.1 (show ¬ am_i2 h s 1 = 0 from z)) (fun _ => ?_)
  exact And.intro (Or.inr rfl) (hQ _ _ HQ)
theorem c_St_length (hd : 2 ≤ d) (S : isS h s tx) (HQ : Q (.inl (some (.int (nI tx.length)))) h) : am_C xs am_P0 d m_St_length [.ref s] h Q := by
  refine am_C_le hd (am_enter (d := 1) ap_St_length rfl ?_) (fun _ _ k => k)
  refine am_go (fun _ => false) (fun K cal Q' hK hC hQ => ?_)
  refine And.intro S.1 (And.intro (congrArg Prod.fst S.2.2.1) (And.intro S.1 (hC _ _ _ _ (c_St_coder (by decide) S ?_))))
  refine And.intro trivial (hQ _ _ ?_)
  show Q (.inl (some (.int (nI (am_k2 h (am_r2 h s)).2 >>> ((0 : Int32) &&& 31))))) h
  rw [S.2.2.1, sb_shr0]
  exact HQ
theorem c_L1_charAt (hd : 1 ≤ d) {b n c j : Nat} (hk : am_k2 h b = (3, n)) (hj : j < n) (hn : n < 1000) (hi : am_i2 h b j = nI c) (hc : c < 128) (HQ : Q (.inl (some (.int (nI c)))) h) : am_C xs am_P0 d m_L1_charAt [.ref b, .int (nI j)] h Q := by
  refine am_C_le hd (am_enter (d := 0) ap_L1_charAt rfl ?_) (fun _ _ k => k)
  refine am_go (fun _ => false) (fun K cal Q' hK hC hQ => ?_)
  refine And.intro (congrArg Prod.fst hk) (And.intro ⟨nI_pos (by omega), ?_⟩ (And.intro ⟨congrArg Prod.fst hk, ?_⟩ ?_))
  · show nI j < nI (am_k2 h b).2
    rw [hk]
    exact nI_lt hj (by omega)
  · rw [hk]
    exact vp_in_nI hj (by omega)
  · have e : ((am_i2 h b (nI j).toNatClampNeg &&& nI 255).toUInt32 % 65536).toInt32 = nI c := by
      rw [q_cl (by omega), hi]
      exact zb_char c hc
    refine And.intro ?_ (hQ _ _ ?_)
    · show 0 ≤ ((am_i2 h b (nI j).toNatClampNeg &&& nI 255).toUInt32 % 65536).toInt32 ∧ ((am_i2 h b (nI j).toNatClampNeg &&& nI 255).toUInt32 % 65536).toInt32 < 65536
      rw [e]
      exact ⟨nI_pos' (by omega), nI_lt (b := 65536) (by omega) (by decide)⟩
    · show Q (.inl (some (.int ((am_i2 h b (nI j).toNatClampNeg &&& nI 255).toUInt32 % 65536).toInt32))) h
      rw [e]
      exact HQ
theorem c_St_charAt (hd : 2 ≤ d) (S : isS h s tx) {j : Nat} (hj : j < tx.length) (HQ : Q (.inl (some (.int (nI (tx.getD j 0))))) h) : am_C xs am_P0 d m_St_charAt [.ref s, .int (nI j)] h Q := by
  refine am_C_le hd (am_enter (d := 1) ap_St_charAt rfl ?_) (fun _ _ k => k)
  refine am_go (fun _ => false) (fun K cal Q' hK hC hQ => ?_)
  refine And.intro S.1 (hC _ _ _ _ (c_St_isLatin1 (by decide) S ?_))
  refine And.intro (fun z => absurd (show nI 1 = 0 from z) (by decide)) (fun _ => ?_)
  refine And.intro S.1 (And.intro trivial (hC _ _ _ _ (c_L1_charAt (by decide) S.2.2.1 hj S.2.2.2.1 (S.2.2.2.2 j hj).1 (S.2.2.2.2 j hj).2 ?_)))
  refine And.intro ⟨nI_pos' ?_, nI_lt (b := 65536) ?_ (by decide)⟩ (hQ _ _ HQ) <;> (have := (S.2.2.2.2 j hj).2; omega)
/-- the bytes into an array of bytes -/
theorem c_St_getBytes (hd : 2 ≤ d) (S : isS h s tx) {b o m : Nat} (hb : am_k h b = (3, m)) (ho : o + tx.length ≤ m) (hm : m < 100000) (HQ : Q (.inl none) (am_cp2 h (am_r2 h s) 0 b o tx.length)) : am_C xs am_P0 d m_St_getBytes [.ref s, .ref b, .int (nI o), .int 0] h Q := by
  refine am_C_le hd (am_enter (d := 1) ap_St_getBytes rfl ?_) (fun _ _ k => k)
  refine am_go (fun _ => false) (fun K cal Q' hK hC hQ => ?_)
  refine And.intro S.1 (hC _ _ _ _ (c_St_coder (by decide) S ?_))
  refine And.intro (fun z => absurd rfl z) (fun _ => ?_)
  refine And.intro S.1 (And.intro S.1 (And.intro (congrArg Prod.fst S.2.2.1) ?_))
  have e1 : nI o <<< ((0 : Int32) &&& 31) = nI o := sb_shl0 _
  have e2 : (nI (am_k2 h (am_r2 h s)).2).toNatClampNeg = tx.length := by rw [S.2.2.1]; exact q_cl (by have := S.2.2.2.1; show tx.length < 2 ^ 31; omega)
  have e3 : (nI o <<< ((0 : Int32) &&& 31)).toNatClampNeg = o := by rw [e1]; exact q_cl (by omega)
  have e4 : (nI 0).toNatClampNeg = 0 := rfl
  refine And.intro ⟨⟨congrArg Prod.fst hb, congrArg Prod.fst S.2.2.1⟩, ⟨by decide, ?_, ?_⟩, ?_, ?_⟩ ?_
  · rw [e1]; exact nI_pos (by omega)
  · rw [S.2.2.1]; exact nI_pos (by have := S.2.2.2.1; show tx.length < 2 ^ 31; omega)
  · rw [e2, e4, S.2.2.1]; show 0 + tx.length ≤ tx.length; omega
  · rw [e2, e3, hb]; exact ho
  · refine And.intro trivial (hQ _ _ ?_)
    show Q (.inl none) (am_cp2 h (am_r2 h s) (nI 0).toNatClampNeg b (nI o <<< ((0 : Int32) &&& 31)).toNatClampNeg (nI (am_k2 h (am_r2 h s)).2).toNatClampNeg)
    rw [e2, e3, e4]
    exact HQ
theorem c_L1_canEncode (hd : 1 ≤ d) {c : Nat} (hc : c < 128) (HQ : Q (.inl (some (.int (nI 1)))) h) : am_C xs am_P0 d m_L1_canEncode [.int (nI c)] h Q := by
  refine am_C_le hd (am_enter (d := 0) ap_L1_canEncode rfl ?_) (fun _ _ k => k)
  refine am_go (fun _ => false) (fun K cal Q' hK hC hQ => ?_)
  refine And.intro (fun z => absurd (show nI 255 < nI c from z) (nI_nlt (by omega) (by decide))) (fun _ => ?_)
  exact And.intro (Or.inr rfl) (hQ _ _ HQ)
end

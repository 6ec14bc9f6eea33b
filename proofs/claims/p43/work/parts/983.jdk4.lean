/-! THE JDK'S OWN METHODS THAT THE LAW'S TEXT NEEDS, 4: StringBuilder's constructors, toString -/
theorem k_clo (h : am_H) (a x : Nat) : am_k (am_clo h a) x = if x = am_n h then am_k h a else am_k h x := rfl
theorem i_clo (h : am_H) (a x : Nat) : am_i (am_clo h a) x = if x = am_n h then am_i h a else am_i h x := rfl
theorem r_clo_ne {h : am_H} {a x : Nat} (hx : x ≠ am_n h) : am_r (am_clo h a) x = am_r h x := by
  show va_up h.2.2.2.1 (am_n h) (fun _ => 0) x = _
  unfold va_up
  rw [if_neg hx]
  rfl
/-- a new cell with a copy of the first n bytes of b -/
def cpN (h : am_H) (b n : Nat) (h' : am_H) : Prop := (am_n h' = am_n h + 1 ∧ am_cs h' ≤ am_cs h + 2000) ∧ (∀ x, am_k h' x = if x = am_n h then (3, n) else am_k h x) ∧ (∀ x, x ≠ am_n h → am_i h' x = am_i h x ∧ am_r h' x = am_r h x) ∧ ∀ j, j < n → am_i h' (am_n h) j = am_i h b j
theorem zb_fit : ∀ c, c < 128 → fits .byte (.int (nI c)) = true := by decide +kernel
section
variable {xs : am_X} {d : Nat} {h : am_H} {Q : am_Q} {a b cap : Nat} {tx : List Nat}
theorem c_JA_checkLength (hd : 1 ≤ d) {n : Nat} (hn : n < 10000) (HQ : Q (.inl none) h) : am_C xs am_P0 d m_JA_checkLength [.int (nI 0), .int (nI n)] h Q := by
  refine am_C_le hd (am_enter (d := 0) ap_JA_checkLength rfl ?_) (fun _ _ k => k)
  refine am_go (fun _ => false) (fun K cal Q' hK hC hQ => ?_)
  exact And.intro (fun _ => And.intro trivial (hQ _ _ HQ)) (fun z => absurd (show nI 0 ≤ nI n from nI_pos' (by omega)) z)
set_option maxHeartbeats 4000000 in
theorem c_JA_copyORB (hd : 2 ≤ d) {n : Nat} (hk : am_k h b = (3, cap)) (hb : b < am_n h) (hN : am_n h < 900000) (hn : n ≤ cap) (hc : cap ≤ 2000) (HQ : ∀ h', cpN h b n h' → Q (.inl (some (.ref (am_n h)))) h') : am_C xs am_P0 d m_JA_copyORB [.ref b, .int (nI 0), .int (nI n)] h Q := by
  have e0 : am_S0 = 2000000 := rfl
  refine am_C_le hd (am_enter (d := 1) ap_JA_copyORB rfl ?_) (fun _ _ k => k)
  refine am_go (fun p => p == 14) (fun K cal Q' hK hC hQ => ?_)
  refine And.intro trivial (hC _ _ _ _ (c_JA_checkLength (by decide) (by omega) ?_))
  have en : nI n - nI 0 = nI n := pk_sub (Nat.zero_le n)
  refine And.intro ?_ (hK _ _ _ _ ?_)
  · show am_n h < 1000000 ∧ ¬ nI n - nI 0 < 0 ∧ (nI n - nI 0).toNatClampNeg ≤ 100000
    rw [en, q_cl (by omega)]
    exact ⟨by omega, nI_pos (by omega), by omega⟩
  show am_W _ _ _ _ _ 14 [.ref b, .int (nI 0), .int (nI n), .int (nI n - nI 0), .ref (am_n h)] [] (am_new h 3 (nI n - nI 0).toNatClampNeg (nI n - nI 0).toNatClampNeg)
  rw [en, q_cl (by omega : n < 2 ^ 31)]
  have kb : am_k (am_new h 3 n n) b = (3, cap) := by rw [k_new, if_neg (by omega)]; exact hk
  have kn : am_k (am_new h 3 n n) (am_n h) = (3, n) := by rw [k_new, if_pos rfl]
  have k2b : am_k2 (am_new h 3 n n) b = (3, cap) := (k2_lo (by omega)).trans kb
  refine am_go (fun _ => false) (fun K cal Q' hK hC hQ => ?_)
  refine And.intro (ck_al kb (by decide) (by decide)) ?_
  have eM : (if nI n < nI (am_k (am_new h 3 n n) b).2 - nI 0 then nI n else nI (am_k (am_new h 3 n n) b).2 - nI 0) = nI n := by
    rw [kb]
    show (if nI n < nI cap - nI 0 then nI n else nI cap - nI 0) = nI n
    rw [pk_sub (Nat.zero_le cap), Nat.sub_zero]
    by_cases q : n < cap
    · exact if_pos (nI_lt q (by omega))
    · rw [if_neg (nI_nlt (by omega) (by omega)), show cap = n by omega]
  have c0 : (nI 0).toNatClampNeg = 0 := rfl
  have cc : (nI n).toNatClampNeg = n := q_cl (by omega)
  refine And.intro ⟨⟨congrArg Prod.fst kn, congrArg Prod.fst k2b⟩, ⟨by decide, by decide, ?_⟩, ?_, ?_⟩ ?_
  · show ¬ (if nI n < nI (am_k (am_new h 3 n n) b).2 - nI 0 then nI n else nI (am_k (am_new h 3 n n) b).2 - nI 0) < 0
    rw [eM]; exact nI_pos (by omega)
  · show (nI 0).toNatClampNeg + (if nI n < nI (am_k (am_new h 3 n n) b).2 - nI 0 then nI n else nI (am_k (am_new h 3 n n) b).2 - nI 0).toNatClampNeg ≤ (am_k2 (am_new h 3 n n) b).2
    rw [eM, c0, cc, k2b]; show 0 + n ≤ cap; omega
  · show (nI 0).toNatClampNeg + (if nI n < nI (am_k (am_new h 3 n n) b).2 - nI 0 then nI n else nI (am_k (am_new h 3 n n) b).2 - nI 0).toNatClampNeg ≤ (am_k (am_new h 3 n n) (am_n h)).2
    rw [eM, c0, cc, kn]; show 0 + n ≤ n; omega
  · refine And.intro trivial (hQ _ _ ?_)
    show Q (.inl (some (.ref (am_n h)))) (am_cp2 (am_new h 3 n n) b (nI 0).toNatClampNeg (am_n h) (nI 0).toNatClampNeg (if nI n < nI (am_k (am_new h 3 n n) b).2 - nI 0 then nI n else nI (am_k (am_new h 3 n n) b).2 - nI 0).toNatClampNeg)
    rw [eM, c0, cc]
    refine HQ _ ⟨⟨rfl, by show am_cs h + n ≤ _; omega⟩, fun x => k_new h 3 n n x, fun x hx => ⟨by rw [i_cp2_ne hx, i_new_ne hx], r_new_ne (t := 3) (n := n) (w := n) hx⟩, fun j hj => ?_⟩
    rw [i_cp2, if_pos ⟨rfl, by omega, by omega⟩, i2_lo (by omega), i_new_ne (by omega), show 0 + (j - 0) = j by omega]
set_option maxHeartbeats 4000000 in
theorem c_JA_copyOfRange (hd : 3 ≤ d) {n : Nat} (hk : am_k h b = (3, cap)) (hb : b < am_n h) (hN : am_n h < 900000) (hn : n ≤ cap) (hc : cap ≤ 2000) (hfb : ∀ j, j < n → fits .byte (.int (am_i h b j)) = true) (HQ : ∀ h', cpN h b n h' → Q (.inl (some (.ref (am_n h)))) h') : am_C xs am_P0 d m_JA_copyOfRange [.ref b, .int (nI 0), .int (nI n)] h Q := by
  refine am_C_le hd (am_enter (d := 2) ap_JA_copyOfRange rfl ?_) (fun _ _ k => k)
  refine am_go (fun p => p == 10) (fun K cal Q' hK hC hQ => ?_)
  refine And.intro (fun z => absurd rfl (show ¬ nI 0 = 0 from z)) (fun _ => ?_)
  refine And.intro (ck_al hk (by decide) (by decide)) (And.intro (fun z => ?_) (fun _ => hK _ _ _ _ ?_))
  · have z : nI n = nI (am_k h b).2 := z
    rw [hk] at z
    have z := (nI_eq (by omega) (by omega)).mp (show nI n = nI cap from z)
    subst z
    refine And.intro ⟨congrArg Prod.fst hk, by show am_n h < 1000000; omega, fun j hj => hfb j (by rw [hk] at hj; exact hj)⟩ (And.intro trivial (hQ _ _ (HQ _ ?_)))
    refine ⟨⟨rfl, ?_⟩, fun x => ?_, fun x hx => ⟨?_, r_clo_ne hx⟩, fun j hj => ?_⟩
    · show am_cs h + (am_k h b).2 ≤ _; rw [hk]; show am_cs h + n ≤ _; omega
    · rw [k_clo, hk]
    · rw [i_clo, if_neg hx]
    · rw [i_clo, if_pos rfl]
  · show am_W _ _ _ _ _ 10 [.ref b, .int (nI 0), .int (nI n)] [] h
    refine am_go (fun _ => false) (fun K cal Q' hK hC hQ => ?_)
    exact And.intro trivial (hC _ _ _ _ (c_JA_copyORB (by decide) hk hb hN hn hc (fun h' J => And.intro trivial (hQ _ _ (HQ h' J)))))
theorem c_As_init (hd : 1 ≤ d) (ka : am_k h a = (1, 11)) (ha : a < am_n h) (a0 : a ≠ 0) (i3 : am_i h a 3 = 0) (hN : am_n h < 900000) (HQ : ∀ h', sbO h' a (am_n h) 16 [] → jf a a 1 2000 h h' → Q (.inl none) h') : am_C xs am_P0 d m_As_init [.ref a, .int (nI 16)] h Q := by
  refine am_C_le hd (am_enter (d := 0) ap_As_init rfl ?_) (fun _ _ k => k)
  refine am_go (fun _ => false) (fun K cal Q' hK hC hQ => ?_)
  refine And.intro a0 (And.intro (fun z => absurd (show nI 1 = 0 from z) (by decide)) (fun _ => ?_))
  have ka1 : am_k (am_new h 3 16 16) a = (1, 11) := by rw [k_new, if_neg (by omega)]; exact ka
  refine And.intro ⟨by show am_n h < 1000000; omega, by decide, by decide⟩ (And.intro ka1 (And.intro ⟨ka1, Or.inl rfl⟩ (And.intro trivial (hQ _ _ ?_))))
  show Q (.inl none) (am_pi (am_pr (am_new h 3 16 16) a 0 (am_n h)) a 1 (nI 0))
  refine HQ _ ⟨⟨?_, ?_⟩, ka1, ⟨?_, ?_, ?_⟩, ?_, ⟨by decide, by decide⟩, fun j hj => absurd hj (Nat.not_lt_zero j)⟩ ⟨⟨?_, ?_, ?_⟩, fun x hx => ?_, fun x hx h1 _ => ⟨?_, ?_⟩⟩
  · show a < am_n h + 1; omega
  · show am_n h < am_n h + 1; omega
  · rw [i_pi_same, if_pos rfl]; rfl
  · rw [i_pi_same, if_neg (by decide)]
    show am_i (am_new h 3 16 16) a 3 = _
    rw [i_new_ne (by omega), i3]
    rfl
  · show am_r (am_pr (am_new h 3 16 16) a 0 (am_n h)) a 0 = am_n h
    rw [r_pr, if_pos rfl, if_pos rfl]
  · show am_k (am_new h 3 16 16) (am_n h) = _
    rw [k_new, if_pos rfl]
  · show am_n h ≤ am_n h + 1; omega
  · show am_n h + 1 ≤ am_n h + 1; omega
  · show am_cs h + 16 ≤ am_cs h + 2000; omega
  · show am_k (am_new h 3 16 16) x = _
    rw [k_new, if_neg]
    rcases hx with q | q
    · omega
    · have q : am_n h + 1 ≤ x := q
      omega
  · rw [i_pi_ne h1]; show am_i (am_new h 3 16 16) x = _; exact i_new_ne (by omega)
  · show am_r (am_pr (am_new h 3 16 16) a 0 (am_n h)) x = _
    rw [r_pr_ne h1, r_new_ne (by omega)]
theorem c_Sb_init (hd : 2 ≤ d) (ka : am_k h a = (1, 11)) (ha : a < am_n h) (a0 : a ≠ 0) (i3 : am_i h a 3 = 0) (hN : am_n h < 900000) (HQ : ∀ h', sbO h' a (am_n h) 16 [] → jf a a 1 2000 h h' → Q (.inl none) h') : am_C xs am_P0 d m_Sb_init [.ref a] h Q := by
  refine am_C_le hd (am_enter (d := 1) ap_Sb_init rfl ?_) (fun _ _ k => k)
  refine am_go (fun _ => false) (fun K cal Q' hK hC hQ => ?_)
  exact And.intro ka (hC _ _ _ _ (c_As_init (by decide) ka ha a0 i3 hN (fun h' S J => And.intro trivial (hQ _ _ (HQ h' S J)))))
set_option maxHeartbeats 4000000 in
theorem c_As_initS (hd : 7 ≤ d) (ka : am_k h a = (1, 11)) (ha : a < am_n h) (a0 : a ≠ 0) (i3 : am_i h a 3 = 0) (hN : am_n h < 890000) {s : Nat} {t2 : List Nat} (hs0 : s ≠ 0) (S2 : ∀ h', jf a a 2 4000 h h' → isS h' s t2) (hm : t2.length ≤ 900)
    (HQ : ∀ h' b' cap', sbO h' a b' cap' t2 → jf a a 2 4000 h h' → am_n h ≤ b' → Q (.inl none) h') : am_C xs am_P0 d m_As_initS [.ref a, .ref s] h Q := by
  have T0 := S2 h jf.rf
  refine am_C_le hd (am_enter (d := 6) ap_As_initS rfl ?_) (fun _ _ k => k)
  refine am_go (fun p => p == 56) (fun K cal Q' hK hC hQ => ?_)
  refine And.intro a0 (And.intro T0.1 (hC _ _ _ _ (c_St_length (by decide) T0 ?_)))
  refine And.intro (fun z => absurd (show nI 2147483631 ≤ nI t2.length from z) (nI_ge (by omega) (by decide))) (fun _ => ?_)
  refine And.intro T0.1 (hC _ _ _ _ (c_St_coder (by decide) T0 ?_))
  refine And.intro ⟨ka, Or.inl rfl⟩ (And.intro (fun z => absurd rfl (show ¬ (0 : Int32) = 0 from z)) (fun _ => ?_))
  have eL : nI t2.length + nI 16 = nI (t2.length + 16) := nI_add _ _
  refine And.intro ?_ ?_
  · show am_n h < 1000000 ∧ ¬ nI t2.length + nI 16 < 0 ∧ (nI t2.length + nI 16).toNatClampNeg ≤ 100000
    rw [eL, q_cl (by omega)]
    exact ⟨by omega, nI_pos (by omega), by omega⟩
  have ka1 : ∀ m, am_k (am_new (am_pi h a 1 0) 3 m m) a = (1, 11) := fun m => by rw [k_new, if_neg (show a ≠ am_n (am_pi h a 1 0) by show a ≠ am_n h; omega)]; exact ka
  refine And.intro (ka1 _) (hK _ _ _ _ ?_)
  show am_W _ _ _ _ _ 56 [.ref a, .ref s, .int (nI t2.length), .int (nI t2.length + nI 16), .int 0] [] (am_pr (am_new (am_pi h a 1 0) 3 (nI t2.length + nI 16).toNatClampNeg (nI t2.length + nI 16).toNatClampNeg) a 0 (am_n h))
  rw [eL, q_cl (by omega : t2.length + 16 < 2 ^ 31)]
  have S1 : sbO (am_pr (am_new (am_pi h a 1 0) 3 (t2.length + 16) (t2.length + 16)) a 0 (am_n h)) a (am_n h) (t2.length + 16) [] := by
    refine ⟨⟨?_, ?_⟩, ka1 _, ⟨?_, ?_, ?_⟩, ?_, ⟨Nat.zero_le _, by omega⟩, fun j hj => absurd hj (Nat.not_lt_zero j)⟩
    · show a < am_n h + 1; omega
    · show am_n h < am_n h + 1; omega
    · show am_i (am_new (am_pi h a 1 0) 3 (t2.length + 16) (t2.length + 16)) a 1 = 0
      rw [i_new_ne (show a ≠ am_n (am_pi h a 1 0) by show a ≠ am_n h; omega), i_pi_same, if_pos rfl]
    · show am_i (am_new (am_pi h a 1 0) 3 (t2.length + 16) (t2.length + 16)) a 3 = 0
      rw [i_new_ne (show a ≠ am_n (am_pi h a 1 0) by show a ≠ am_n h; omega), i_pi_same, if_neg (by decide), i3]
    · rw [r_pr, if_pos rfl, if_pos rfl]
    · show am_k (am_new (am_pi h a 1 0) 3 (t2.length + 16) (t2.length + 16)) (am_n (am_pi h a 1 0)) = _
      rw [k_new, if_pos rfl]
  have J1 : jf a a 1 2000 h (am_pr (am_new (am_pi h a 1 0) 3 (t2.length + 16) (t2.length + 16)) a 0 (am_n h)) := by
    refine ⟨⟨?_, ?_, ?_⟩, fun x hx => ?_, fun x hx h1 _ => ⟨?_, ?_⟩⟩
    · show am_n h ≤ am_n h + 1; omega
    · show am_n h + 1 ≤ am_n h + 1; omega
    · show am_cs h + (t2.length + 16) ≤ am_cs h + 2000; omega
    · show am_k (am_new (am_pi h a 1 0) 3 (t2.length + 16) (t2.length + 16)) x = _
      rw [k_new, if_neg]
      · rfl
      · show x ≠ am_n h
        rcases hx with q | q
        · omega
        · have q : am_n h + 1 ≤ x := q
          omega
    · show am_i (am_new (am_pi h a 1 0) 3 (t2.length + 16) (t2.length + 16)) x = _
      rw [i_new_ne (show x ≠ am_n (am_pi h a 1 0) by show x ≠ am_n h; omega), i_pi_ne h1]
    · rw [r_pr_ne h1, r_new_ne (show x ≠ am_n (am_pi h a 1 0) by show x ≠ am_n h; omega)]
      rfl
  generalize am_pr (am_new (am_pi h a 1 0) 3 (t2.length + 16) (t2.length + 16)) a 0 (am_n h) = h1 at S1 J1 ⊢
  have hn1 : am_n h1 < 900000 := by have := J1.1.2.1; omega
  refine am_go (fun _ => false) (fun K cal Q' hK hC hQ => ?_)
  refine And.intro S1.2.1 (hC _ _ _ _ (c_Sb_appA (by decide) S1 hn1 hs0 (fun h' J => S2 h' ?_) (by show 0 + t2.length ≤ 900; omega) (fun h' b' cap' S' J hb => And.intro trivial (hQ _ _ (HQ h' b' cap' S' ?_ ?_)))))
  · exact J1.tr J (Or.inr (Nat.le_refl _))
  · exact J1.tr J (Or.inr (Nat.le_refl _))
  · have := J1.1.1
    rcases hb with e | e <;> omega
theorem c_Sb_initS (hd : 8 ≤ d) (ka : am_k h a = (1, 11)) (ha : a < am_n h) (a0 : a ≠ 0) (i3 : am_i h a 3 = 0) (hN : am_n h < 890000) {s : Nat} {t2 : List Nat} (hs0 : s ≠ 0) (S2 : ∀ h', jf a a 2 4000 h h' → isS h' s t2) (hm : t2.length ≤ 900)
    (HQ : ∀ h' b' cap', sbO h' a b' cap' t2 → jf a a 2 4000 h h' → am_n h ≤ b' → Q (.inl none) h') : am_C xs am_P0 d m_Sb_initS [.ref a, .ref s] h Q := by
  refine am_C_le hd (am_enter (d := 7) ap_Sb_initS rfl ?_) (fun _ _ k => k)
  refine am_go (fun _ => false) (fun K cal Q' hK hC hQ => ?_)
  exact And.intro ka (hC _ _ _ _ (c_As_initS (by decide) ka ha a0 i3 hN hs0 S2 hm (fun h' b' cap' S' J hb => And.intro trivial (hQ _ _ (HQ h' b' cap' S' J hb)))))
theorem c_As_length (hd : 1 ≤ d) (ka : am_k h a = (1, 11)) (HQ : Q (.inl (some (.int (am_i h a 3)))) h) : am_C xs am_P0 d m_As_length [.ref a] h Q := by
  refine am_C_le hd (am_enter (d := 0) ap_As_length rfl ?_) (fun _ _ k => k)
  refine am_go (fun _ => false) (fun K cal Q' hK hC hQ => ?_)
  exact And.intro ka (And.intro trivial (hQ _ _ HQ))
theorem c_Sb_length (hd : 2 ≤ d) (ka : am_k h a = (1, 11)) (HQ : Q (.inl (some (.int (am_i h a 3)))) h) : am_C xs am_P0 d m_Sb_length [.ref a] h Q := by
  refine am_C_le hd (am_enter (d := 1) ap_Sb_length rfl ?_) (fun _ _ k => k)
  refine am_go (fun _ => false) (fun K cal Q' hK hC hQ => ?_)
  exact And.intro ka (hC _ _ _ _ (c_As_length (by decide) ka (And.intro trivial (hQ _ _ HQ))))
theorem c_As_getValue (hd : 1 ≤ d) (ka : am_k h a = (1, 11)) (HQ : Q (.inl (some (.ref (am_r h a 0)))) h) : am_C xs am_P0 d m_As_getValue [.ref a] h Q := by
  refine am_C_le hd (am_enter (d := 0) ap_As_getValue rfl ?_) (fun _ _ k => k)
  refine am_go (fun _ => false) (fun K cal Q' hK hC hQ => ?_)
  exact And.intro ka (And.intro trivial (hQ _ _ HQ))
set_option maxHeartbeats 4000000 in
theorem c_St_initA (hd : 4 ≤ d) {s : Nat} (S : sbO h a b cap tx) (ks : am_k h s = (1, 10)) (hs : s < am_n h) (s0 : s ≠ 0) (hN : am_n h < 890000) (hm : tx.length < 1000) (HQ : ∀ h', stO h' s (am_n h) tx → jf s s 1 2000 h h' → Q (.inl none) h') : am_C xs am_P0 d m_St_initA [.ref s, .ref a, .ref 0] h Q := by
  obtain ⟨⟨n1, n2⟩, ka, ⟨i1, i3, r0⟩, kb, ⟨l1, l2⟩, hx⟩ := id S
  have hsa : s ≠ a := fun e => by rw [e, ka] at ks; cases ks
  have hsb : s ≠ b := fun e => by rw [e, kb] at ks; cases ks
  refine am_C_le hd (am_enter (d := 3) ap_St_initA rfl ?_) (fun _ _ k => k)
  refine am_go (fun _ => false) (fun K cal Q' hK hC hQ => ?_)
  refine And.intro s0 (And.intro ka (hC _ _ _ _ (c_As_getValue (by decide) ka ?_)))
  refine And.intro ka (hC _ _ _ _ (c_Sb_length (by decide) ka ?_))
  refine And.intro ka (hC _ _ _ _ (c_As_isLatin1 (by decide) ka i1 ?_))
  refine And.intro (fun z => absurd (show nI 1 = 0 from z) (by decide)) (fun _ => ?_)
  refine And.intro ⟨ks, Or.inl rfl⟩ (And.intro trivial ?_)
  show cal m_JA_copyOfRange [.ref (am_r h a 0), .int (nI 0), .int (am_i h a 3)] (am_pi h s 1 (nI 0)) _
  rw [r0, i3]
  refine hC _ _ _ _ (c_JA_copyOfRange (by decide) (show am_k (am_pi h s 1 (nI 0)) b = (3, cap) from kb) (show b < am_n (am_pi h s 1 (nI 0)) from n2) (show am_n h < 900000 by omega) l1 l2 (fun j hj => by
    show fits .byte (.int (am_i (am_pi h s 1 (nI 0)) b j)) = true
    rw [i_pi_ne (Ne.symm hsb), (hx j hj).1]
    exact zb_fit _ (hx j hj).2) (fun h2 J => ?_))
  obtain ⟨⟨j1, j2⟩, j3, j4, j5⟩ := J
  have j1 : am_n h2 = am_n h + 1 := j1
  have hne : ∀ x, x < am_n h → x ≠ am_n (am_pi h s 1 (nI 0)) := fun x hx => by show x ≠ am_n h; omega
  refine And.intro ((j3 s).trans (by rw [if_neg (hne s hs)]; exact ks)) (And.intro trivial (hQ _ _ ?_))
  show Q (.inl none) (am_pr h2 s 0 (am_n h))
  refine HQ _ ⟨⟨?_, ?_⟩, ?_, ?_, ?_, ?_, hm, fun j hj => ?_⟩ ⟨⟨?_, ?_, ?_⟩, fun x hx => ?_, fun x hx h1 _ => ⟨?_, ?_⟩⟩
  · show s < am_n h2; omega
  · show am_n h < am_n h2; omega
  · show am_k h2 s = _; rw [j3, if_neg (hne s hs)]; exact ks
  · show am_i h2 s 1 = 0; rw [(j4 s (hne s hs)).1, i_pi_same, if_pos rfl]; rfl
  · rw [r_pr, if_pos rfl, if_pos rfl]
  · show am_k h2 (am_n (am_pi h s 1 (nI 0))) = _; rw [j3, if_pos rfl]
  · show am_i h2 (am_n (am_pi h s 1 (nI 0))) j = _ ∧ _
    rw [j5 j hj, i_pi_ne (Ne.symm hsb)]
    exact hx j hj
  · show am_n h ≤ am_n h2; omega
  · show am_n h2 ≤ am_n h + 1; omega
  · show am_cs h2 ≤ am_cs h + 2000; exact j2
  · show am_k h2 x = _
    rw [j3, if_neg]
    · rfl
    · show x ≠ am_n h
      rcases hx with q | q
      · omega
      · have q : am_n h2 ≤ x := q
        omega
  · show am_i h2 x = _
    rw [(j4 x (hne x hx)).1, i_pi_ne h1]
  · rw [r_pr_ne h1, (j4 x (hne x hx)).2]
    rfl
set_option maxHeartbeats 4000000 in
theorem c_Sb_toString (hd : 6 ≤ d) (S : sbO h a b cap tx) (a0 : a ≠ 0) (hN : am_n h < 880000) (h1n : 1 ≤ am_n h) (hm : tx.length < 1000) (HQ : ∀ h', stO h' (am_n h) (am_n h + 1) tx → (am_n h' ≤ am_n h + 2 ∧ am_cs h' ≤ am_cs h + 2004) → (∀ x, x < am_n h → am_k h' x = am_k h x ∧ am_i h' x = am_i h x ∧ am_r h' x = am_r h x) → (∀ x, am_n h' ≤ x → am_k h' x = am_k h x) → Q (.inl (some (.ref (am_n h)))) h') : am_C xs am_P0 d m_Sb_toString [.ref a] h Q := by
  obtain ⟨⟨n1, n2⟩, ka, ⟨i1, i3, r0⟩, kb, ⟨l1, l2⟩, hx⟩ := id S
  refine am_C_le hd (am_enter (d := 5) ap_Sb_toString rfl ?_) (fun _ _ k => k)
  refine am_go (fun _ => false) (fun K cal Q' hK hC hQ => ?_)
  have K0 : ∀ x, x < am_n h → am_k (am_new h 1 10 4) x = am_k h x := fun x hx => by rw [k_new, if_neg (by omega)]
  have kn : am_k (am_new h 1 10 4) (am_n h) = (1, 10) := by rw [k_new, if_pos rfl]
  have S1 : sbO (am_new h 1 10 4) a b cap tx := ⟨⟨by show a < am_n h + 1; omega, by show b < am_n h + 1; omega⟩, (K0 a n1).trans ka, ⟨by rw [i_new_ne (by omega)]; exact i1, by rw [i_new_ne (by omega)]; exact i3, by rw [r_new_ne (by omega)]; exact r0⟩, (K0 b n2).trans kb, ⟨l1, l2⟩, fun j hj => by rw [i_new_ne (by omega)]; exact hx j hj⟩
  refine And.intro (by show am_n h < 1000000; omega) (And.intro kn (hC _ _ _ _ ?_))
  show am_C xs am_P0 5 m_St_init [.ref (am_n h), .ref a] (am_new h 1 10 4) _
  refine am_C_le (by decide : 5 ≤ 5) (am_enter (d := 4) ap_St_init rfl ?_) (fun _ _ k => k)
  refine am_go (fun _ => false) (fun K2 cal2 Q2 hK2 hC2 hQ2 => ?_)
  refine And.intro kn (hC2 _ _ _ _ (c_St_initA (by decide) S1 kn (by show am_n h < am_n h + 1; omega) (by omega) (by show am_n h + 1 < 890000; omega) hm (fun h' T J => ?_)))
  refine And.intro trivial (hQ2 _ _ ?_)
  refine And.intro trivial (hQ _ _ (HQ h' T ⟨?_, ?_⟩ (fun x hx => ?_) (fun x hx => ?_)))
  · have := J.1.2.1
    have e : am_n (am_new h 1 10 4) = am_n h + 1 := rfl
    omega
  · have := J.1.2.2
    have e : am_cs (am_new h 1 10 4) = am_cs h + 4 := rfl
    omega
  · have hx1 : x < am_n (am_new h 1 10 4) := by show x < am_n h + 1; omega
    have q := J.2.2 x hx1 (by omega) (by omega)
    exact ⟨(J.2.1 x (Or.inl hx1)).trans (K0 x hx), q.1.trans (i_new_ne (by omega)), q.2.trans (r_new_ne (by omega))⟩
  · have h9 : am_n h + 1 ≤ am_n h' := J.1.1
    rw [J.2.1 x (Or.inr hx), k_new, if_neg (by omega)]
end

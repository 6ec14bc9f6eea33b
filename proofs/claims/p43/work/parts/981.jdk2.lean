/-! THE JDK'S OWN METHODS THAT THE LAW'S TEXT NEEDS, 2: a StringBuilder's room -/
/-- a StringBuilder at a: its bytes at b, room for cap, the letters tx -/
def sbO (h : am_H) (a b cap : Nat) (tx : List Nat) : Prop := (a < am_n h ∧ b < am_n h) ∧ am_k h a = (1, 11) ∧ (am_i h a 1 = 0 ∧ am_i h a 3 = nI tx.length ∧ am_r h a 0 = b) ∧ am_k h b = (3, cap) ∧ (tx.length ≤ cap ∧ cap ≤ 2000) ∧ ∀ j, j < tx.length → am_i h b j = nI (tx.getD j 0) ∧ tx.getD j 0 < 128
/-- of the cells that were there, a and b alone may have changed; at most c cells of w slots are new -/
def jf (a b c w : Nat) (h h' : am_H) : Prop := (am_n h ≤ am_n h' ∧ am_n h' ≤ am_n h + c ∧ am_cs h' ≤ am_cs h + w) ∧ (∀ x, x < am_n h ∨ am_n h' ≤ x → am_k h' x = am_k h x) ∧ ∀ x, x < am_n h → x ≠ a → x ≠ b → am_i h' x = am_i h x ∧ am_r h' x = am_r h x
theorem jf.rf {a b c w : Nat} {h : am_H} : jf a b c w h h := ⟨⟨Nat.le_refl _, Nat.le_add_right _ _, Nat.le_add_right _ _⟩, fun _ _ => rfl, fun _ _ _ _ => ⟨rfl, rfl⟩⟩
theorem jf.tr {a b b2 c c2 w w2 : Nat} {h h1 h2 : am_H} (s : jf a b c w h h1) (t : jf a b2 c2 w2 h1 h2) (hb : b2 = b ∨ am_n h ≤ b2) : jf a b (c + c2) (w + w2) h h2 := by
  obtain ⟨⟨s1, s2, s3⟩, s4, s5⟩ := s
  obtain ⟨⟨t1, t2, t3⟩, t4, t5⟩ := t
  refine ⟨⟨by omega, by omega, by omega⟩, fun x hx => (t4 x (by omega)).trans (s4 x (by omega)), fun x hx ha hb' => ?_⟩
  have u := t5 x (by omega) ha (by rcases hb with e | e <;> omega)
  have v := s5 x hx ha hb'
  exact ⟨u.1.trans v.1, u.2.trans v.2⟩
theorem jf.mo {a b c c2 w w2 : Nat} {h h1 : am_H} (s : jf a b c w h h1) (hc : c ≤ c2) (hw : w ≤ w2) : jf a b c2 w2 h h1 := ⟨⟨s.1.1, by have := s.1.2.1; omega, by have := s.1.2.2; omega⟩, s.2⟩
theorem sbO.ne {h : am_H} {a b cap : Nat} {tx : List Nat} (S : sbO h a b cap tx) : a ≠ b := fun e => by
  have h1 := S.2.1
  have h2 := S.2.2.2.1
  rw [e, h2] at h1
  cases h1
theorem sbO.lk {h : am_H} {a b cap : Nat} {tx : List Nat} (S : sbO h a b cap tx) : am_k h (am_r h a 0) = (3, cap) := by rw [S.2.2.1.2.2]; exact S.2.2.2.1
theorem ck_al {h : am_H} {a t n : Nat} (hk : am_k h a = (t, n)) (h1 : 2 ≤ t) (h2 : t ≤ 6) : 2 ≤ (am_k h a).1 ∧ (am_k h a).1 ≤ 6 := by rw [hk]; exact ⟨h1, h2⟩
section
variable {xs : am_X} {d : Nat} {h : am_H} {Q : am_Q} {a b cap : Nat} {tx : List Nat}
theorem c_Su_newLength (hd : 1 ≤ d) {c g p : Nat} (hc : c < 10000) (hg : g < 10000) (hp : p < 10000) (h0 : 0 < p) (HQ : Q (.inl (some (.int (nI (c + if g < p then p else g))))) h) : am_C xs am_P0 d m_Su_newLength [.int (nI c), .int (nI g), .int (nI p)] h Q := by
  refine am_C_le hd (am_enter (d := 0) ap_Su_newLength rfl ?_) (fun _ _ k => k)
  refine am_go (fun _ => false) (fun K cal Q' hK hC hQ => ?_)
  have e : nI c + (if nI g < nI p then nI p else nI g) = nI (c + if g < p then p else g) := by
    by_cases q : g < p
    · rw [if_pos q, if_pos (nI_lt q (by omega)), nI_add]
    · rw [if_neg q, if_neg (nI_nlt (by omega) (by omega)), nI_add]
  have hb : (c + if g < p then p else g) < 30000 ∧ 0 < (c + if g < p then p else g) := by split <;> omega
  refine And.intro (fun z => ?_) (fun _ => ?_)
  · have z : nI c + (if nI g < nI p then nI p else nI g) ≤ nI 0 := z
    rw [e] at z
    exact absurd z (nI_ge hb.2 (by omega))
  refine And.intro (fun z => ?_) (fun _ => ?_)
  · have z : nI 2147483639 < nI c + (if nI g < nI p then nI p else nI g) := z
    rw [e] at z
    exact absurd z (nI_nlt (by omega) (by decide))
  refine And.intro trivial (hQ _ _ ?_)
  show Q (.inl (some (.int (nI c + (if nI g < nI p then nI p else nI g))))) h
  rw [e]
  exact HQ
theorem c_As_newCap (hd : 2 ≤ d) (S : sbO h a b cap tx) {m : Nat} (hm : cap < m) (hm9 : m ≤ 900) (HQ : Q (.inl (some (.int (nI (cap + if m - cap < cap + 2 then cap + 2 else m - cap))))) h) : am_C xs am_P0 d m_As_newCap [.ref a, .int (nI m)] h Q := by
  obtain ⟨⟨n1, n2⟩, ka, ⟨i1, i3, r0⟩, kb, ⟨l1, l2⟩, hx⟩ := id S
  have kr := S.lk
  refine am_C_le hd (am_enter (d := 1) ap_As_newCap rfl ?_) (fun _ _ k => k)
  refine am_go (fun _ => false) (fun K cal Q' hK hC hQ => ?_)
  refine And.intro ka (And.intro (ck_al kr (by decide) (by decide)) (And.intro ka (And.intro ka (And.intro trivial ?_))))
  show cal m_Su_newLength [.int (nI (am_k h (am_r h a 0)).2), .int ((nI m <<< (am_i h a 1 &&& 31)) - nI (am_k h (am_r h a 0)).2), .int (nI (am_k h (am_r h a 0)).2 + (nI 2 <<< (am_i h a 1 &&& 31)))] h _
  rw [kr, i1, sb_shl0, sb_shl0]
  show cal m_Su_newLength [.int (nI cap), .int (nI m - nI cap), .int (nI cap + nI 2)] h _
  rw [pk_sub (by omega : cap ≤ m), nI_add]
  refine hC _ _ _ _ (c_Su_newLength (by decide) (by omega) (by omega) (by omega) (by omega) ?_)
  have hv : (cap + if m - cap < cap + 2 then cap + 2 else m - cap) < 10000 := by split <;> omega
  generalize (cap + if m - cap < cap + 2 then cap + 2 else m - cap) = v at hv HQ ⊢
  refine And.intro (fun _ => ?_) (fun z => absurd (show nI v ≠ nI 2147483647 from fun e => by have := (nI_eq (by omega) (by decide)).mp e; omega) z)
  refine And.intro ka (And.intro trivial (hQ _ _ ?_))
  show Q (.inl (some (.int (nI v >>> (am_i h a 1 &&& 31))))) h
  rw [i1, sb_shr0]
  exact HQ
set_option maxHeartbeats 4000000 in
theorem c_JA_copyOfB (hd : 1 ≤ d) {c m : Nat} (hk : am_k h b = (3, c)) (hb : b < am_n h) (hN : am_n h < 900000) (hcm : c < m) (hm : m ≤ 10000) (HQ : Q (.inl (some (.ref (am_n h)))) (am_cp2 (am_new h 3 m m) b 0 (am_n h) 0 c)) : am_C xs am_P0 d m_JA_copyOfB [.ref b, .int (nI m)] h Q := by
  have e0 : am_S0 = 2000000 := rfl
  refine am_C_le hd (am_enter (d := 0) ap_JA_copyOfB rfl ?_) (fun _ _ k => k)
  refine am_go (fun p => p == 18) (fun K cal Q' hK hC hQ => ?_)
  refine And.intro (ck_al hk (by decide) (by decide)) (And.intro (fun _ => ?_) (fun z => absurd ?_ z))
  rotate_left
  · show ¬ nI m = nI (am_k h b).2
    rw [hk]
    exact fun e => by have := (nI_eq (by omega) (by omega)).mp (show nI m = nI c from e); omega
  refine And.intro ⟨by show am_n h < 1000000; omega, nI_pos (by omega), by rw [q_cl (by omega)]; omega⟩ (hK _ _ _ _ ?_)
  show am_W _ _ _ _ _ 18 [.ref b, .int (nI m), .ref (am_n h)] [] (am_new h 3 (nI m).toNatClampNeg (nI m).toNatClampNeg)
  rw [q_cl (by omega : m < 2 ^ 31)]
  have kb : am_k (am_new h 3 m m) b = (3, c) := by rw [k_new, if_neg (by omega)]; exact hk
  have kn : am_k (am_new h 3 m m) (am_n h) = (3, m) := by rw [k_new, if_pos rfl]
  generalize am_new h 3 m m = h1 at kb kn HQ ⊢
  refine am_go (fun _ => false) (fun K cal Q' hK hC hQ => ?_)
  refine And.intro (ck_al kb (by decide) (by decide)) ?_
  have eM : (if nI m < nI (am_k h1 b).2 then nI m else nI (am_k h1 b).2) = nI c := by rw [kb]; exact if_neg (nI_nlt (by omega) (by omega))
  have k2b : am_k2 h1 b = (3, c) := (k2_lo (by omega)).trans kb
  have c0 : (nI 0).toNatClampNeg = 0 := rfl
  have cc : (nI c).toNatClampNeg = c := q_cl (by omega)
  refine And.intro ⟨⟨congrArg Prod.fst kn, congrArg Prod.fst k2b⟩, ⟨by decide, by decide, ?_⟩, ?_, ?_⟩ ?_
  · show ¬ (if nI m < nI (am_k h1 b).2 then nI m else nI (am_k h1 b).2) < 0
    rw [eM]; exact nI_pos (by omega)
  · show (nI 0).toNatClampNeg + (if nI m < nI (am_k h1 b).2 then nI m else nI (am_k h1 b).2).toNatClampNeg ≤ (am_k2 h1 b).2
    rw [eM, c0, cc, k2b]; show 0 + c ≤ c; omega
  · show (nI 0).toNatClampNeg + (if nI m < nI (am_k h1 b).2 then nI m else nI (am_k h1 b).2).toNatClampNeg ≤ (am_k h1 (am_n h)).2
    rw [eM, c0, cc, kn]; show 0 + c ≤ m; omega
  · refine And.intro trivial (hQ _ _ ?_)
    show Q (.inl (some (.ref (am_n h)))) (am_cp2 h1 b (nI 0).toNatClampNeg (am_n h) (nI 0).toNatClampNeg (if nI m < nI (am_k h1 b).2 then nI m else nI (am_k h1 b).2).toNatClampNeg)
    rw [eM, c0, cc]
    exact HQ
set_option maxHeartbeats 4000000 in
theorem c_As_ensure (hd : 3 ≤ d) (S : sbO h a b cap tx) (hN : am_n h < 900000) {m : Nat} (hm : m ≤ 900) (HQ : ∀ h' b' cap', sbO h' a b' cap' tx → m ≤ cap' → jf a b 1 2000 h h' → (b' = b ∨ am_n h ≤ b') → Q (.inl none) h') : am_C xs am_P0 d m_As_ensure [.ref a, .int (nI m)] h Q := by
  obtain ⟨⟨n1, n2⟩, ka, ⟨i1, i3, r0⟩, kb, ⟨l1, l2⟩, hx⟩ := id S
  have kr := S.lk
  have hab := S.ne
  have e0 : am_S0 = 2000000 := rfl
  refine am_C_le hd (am_enter (d := 2) ap_As_ensure rfl ?_) (fun _ _ k => k)
  refine am_go (fun _ => false) (fun K cal Q' hK hC hQ => ?_)
  have eX : nI (am_k h (am_r h a 0)).2 >>> (am_i h a 1 &&& 31) = nI cap := by rw [kr, i1, sb_shr0]
  refine And.intro ka (And.intro (ck_al kr (by decide) (by decide)) (And.intro ka (And.intro (fun z => ?_) (fun z => ?_))))
  · have z : nI m - (nI (am_k h (am_r h a 0)).2 >>> (am_i h a 1 &&& 31)) ≤ 0 := z
    rw [eX, fa_le, pk_sub_toInt (by omega) (by omega)] at z
    have z : (m : Int) - cap ≤ 0 := z
    exact And.intro trivial (hQ _ _ (HQ h b cap S (by omega) jf.rf (Or.inl rfl)))
  · have z : ¬ nI m - (nI (am_k h (am_r h a 0)).2 >>> (am_i h a 1 &&& 31)) ≤ 0 := z
    rw [eX, fa_le, pk_sub_toInt (by omega) (by omega)] at z
    have z : ¬ (m : Int) - cap ≤ 0 := z
    refine And.intro ka (And.intro ka (hC _ _ _ _ (c_As_newCap (by decide) S (by omega) hm ?_)))
    have hv : (cap + if m - cap < cap + 2 then cap + 2 else m - cap) ≤ 2000 ∧ m ≤ (cap + if m - cap < cap + 2 then cap + 2 else m - cap) := by split <;> omega
    generalize (cap + if m - cap < cap + 2 then cap + 2 else m - cap) = v at hv ⊢
    refine And.intro ka (And.intro trivial ?_)
    show cal m_JA_copyOfB [.ref (am_r h a 0), .int (nI v <<< (am_i h a 1 &&& 31))] h _
    rw [r0, i1, sb_shl0]
    refine hC _ _ _ _ (c_JA_copyOfB (by decide) kb n2 hN (by omega) (by omega) ?_)
    have kN : am_k (am_cp2 (am_new h 3 v v) b 0 (am_n h) 0 cap) = am_k (am_new h 3 v v) := rfl
    refine And.intro (show am_k (am_cp2 (am_new h 3 v v) b 0 (am_n h) 0 cap) a = (1, 11) by rw [kN, k_new, if_neg (by omega)]; exact ka) (And.intro trivial (hQ _ _ ?_))
    have hI : ∀ x, x < am_n h → am_i (am_pr (am_cp2 (am_new h 3 v v) b 0 (am_n h) 0 cap) a 0 (am_n h)) x = am_i h x := fun x hx => by
      show am_i (am_cp2 (am_new h 3 v v) b 0 (am_n h) 0 cap) x = _
      rw [i_cp2_ne (by omega), i_new_ne (by omega)]
    have hK2 : ∀ x, am_k (am_pr (am_cp2 (am_new h 3 v v) b 0 (am_n h) 0 cap) a 0 (am_n h)) x = if x = am_n h then (3, v) else am_k h x := fun x => k_new h 3 v v x
    refine HQ (am_pr (am_cp2 (am_new h 3 v v) b 0 (am_n h) 0 cap) a 0 (am_n h)) (am_n h) v ⟨⟨?_, ?_⟩, ?_, ⟨?_, ?_, ?_⟩, ?_, ⟨by omega, hv.1⟩, fun j hj => ?_⟩ hv.2 ⟨⟨?_, ?_, ?_⟩, fun x hx => ?_, fun x hx ha' hb' => ⟨hI x hx, ?_⟩⟩ (Or.inr (Nat.le_refl _))
    · show a < am_n h + 1; omega
    · show am_n h < am_n h + 1; omega
    · rw [hK2, if_neg (by omega)]; exact ka
    · rw [hI a n1]; exact i1
    · rw [hI a n1]; exact i3
    · rw [r_pr, if_pos rfl, if_pos rfl]
    · rw [hK2, if_pos rfl]
    · show am_i (am_cp2 (am_new h 3 v v) b 0 (am_n h) 0 cap) (am_n h) j = _ ∧ _
      rw [i_cp2, if_pos ⟨rfl, by omega, by omega⟩, i2_lo (by omega), i_new_ne (by omega), show 0 + (j - 0) = j by omega]
      exact hx j hj
    · show am_n h ≤ am_n h + 1; omega
    · show am_n h + 1 ≤ am_n h + 1; omega
    · show am_cs h + v ≤ am_cs h + 2000; omega
    · rw [hK2, if_neg]
      have : am_n h < am_n h + 1 := by omega
      rcases hx with q | q
      · omega
      · have q : am_n h + 1 ≤ x := q
        omega
    · rw [r_pr_ne ha']
      show am_r (am_new h 3 v v) x = _
      exact r_new_ne (by omega)
theorem c_As_isLatin1 (hd : 1 ≤ d) (ka : am_k h a = (1, 11)) (i1 : am_i h a 1 = 0) (HQ : Q (.inl (some (.int (nI 1)))) h) : am_C xs am_P0 d m_As_isLatin1 [.ref a] h Q := by
  refine am_C_le hd (am_enter (d := 0) ap_As_isLatin1 rfl ?_) (fun _ _ k => k)
  refine am_go (fun _ => false) (fun K cal Q' hK hC hQ => ?_)
  refine And.intro (fun z => absurd (show nI 1 = 0 from z) (by decide)) (fun _ => ?_)
  refine And.intro ka ?_
  refine And.intro (fun z => absurd i1 (show ¬ am_i h a 1 = 0 from z)) (fun _ => ?_)
  exact And.intro (Or.inr rfl) (hQ _ _ HQ)
theorem c_As_inflIf (hd : 2 ≤ d) (ka : am_k h a = (1, 11)) (i1 : am_i h a 1 = 0) {s : Nat} {t2 : List Nat} (S : isS h s t2) (HQ : Q (.inl none) h) : am_C xs am_P0 d m_As_inflIf [.ref a, .ref s] h Q := by
  refine am_C_le hd (am_enter (d := 1) ap_As_inflIf rfl ?_) (fun _ _ k => k)
  refine am_go (fun _ => false) (fun K cal Q' hK hC hQ => ?_)
  refine And.intro (fun z => absurd (show nI 1 = 0 from z) (by decide)) (fun _ => ?_)
  refine And.intro ka (And.intro S.1 (hC _ _ _ _ (c_St_coder (by decide) S ?_)))
  exact And.intro (fun _ => And.intro trivial (hQ _ _ HQ)) (fun z => absurd i1 (show ¬ am_i h a 1 = 0 from z))
theorem c_As_putStr (hd : 3 ≤ d) (ka : am_k h a = (1, 11)) (i1 : am_i h a 1 = 0) (r0 : am_r h a 0 = b) (kb : am_k h b = (3, cap)) (hc : cap < 100000) {s o : Nat} {t2 : List Nat} (S : isS h s t2) (ho : o + t2.length ≤ cap) (HQ : Q (.inl none) (am_cp2 h (am_r2 h s) 0 b o t2.length)) : am_C xs am_P0 d m_As_putStr [.ref a, .int (nI o), .ref s] h Q := by
  refine am_C_le hd (am_enter (d := 2) ap_As_putStr rfl ?_) (fun _ _ k => k)
  refine am_go (fun _ => false) (fun K cal Q' hK hC hQ => ?_)
  refine And.intro ka (hC _ _ _ _ (c_As_inflIf (by decide) ka i1 S ?_))
  refine And.intro ka (And.intro ka (And.intro S.1 ?_))
  show cal m_St_getBytes [.ref s, .ref (am_r h a 0), .int (nI o), .int (am_i h a 1)] h _
  rw [r0, i1]
  exact hC _ _ _ _ (c_St_getBytes (by decide) S kb ho hc (And.intro trivial (hQ _ _ HQ)))
end

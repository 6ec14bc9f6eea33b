/-! THE LAW, 2: its start -/
abbrev LW (xs : am_X) (d : Nat) (Q : am_Q) (pc : Nat) (L S : List Value) (h : am_H) : Prop := am_W xs (am_code at_La_law) (am_hd ah_La_law) (am_C xs am_P0 d) Q pc L S h
abbrev lL (n a f : Nat) (v6 v7 v8 v9 v10 v11 v12 v13 : Value) : List Value := [.ref am_scr, .ref 1, .ref 87, .int (nI n), .ref a, .ref f, v6, v7, v8, v9, v10, v11, v12, v13]
def tx0 (n : Nat) : List Nat := am_strs.getD 8 [] ++ dec2 n ++ am_strs.getD 9 []
theorem tx0_len (n : Nat) : (tx0 n).length ≤ 9 := by
  unfold tx0
  rw [List.length_append, List.length_append, dec2_len, show (am_strs.getD 8 []).length = 6 from rfl, show (am_strs.getD 9 []).length = 1 from rfl]
  split <;> omega
section
variable {xs : am_X} {d : Nat} {h : am_H} {Q : am_Q} {n : Nat}
set_option maxHeartbeats 8000000 in
theorem l_head2 (hd : 22 ≤ d) (hn : 3 ≤ n ∧ n ≤ 6) (S : lS h) (m : mlO h n 0 (fun _ _ => 0)) (hN : am_n h ≤ 95 ∧ am_cs h ≤ 30000)
    (K0 : ∀ h' a b cap f v6, lwS h' 12 n 0 (fun _ _ => 0) a b cap (tx0 n) f (fun _ => 0) → v6 = .int (nI 0) → LW xs d Q 77 (lL n a f v6 am_J am_J am_J am_J am_J am_J am_J) [] h') :
    LW xs d Q 36 [.ref am_scr, .ref 1, .ref 87, .int (nI n), am_J, am_J, am_J, am_J, am_J, am_J, am_J, am_J, am_J, am_J] [] h := by
  have n5 := S.1.2.2
  refine am_go (fun p => p == 69) (fun K cal Q' hK hC hQ => ?_)
  refine And.intro (by show am_n h < 1000000; omega) (And.intro (by show am_n h + 1 < 1000000; omega) ?_)
  have a1 : am_n (am_new h 1 11 4) = am_n h + 1 := rfl
  have a2 : am_n (am_new (am_new h 1 11 4) 1 11 4) = am_n h + 2 := rfl
  have c2 : am_cs (am_new (am_new h 1 11 4) 1 11 4) = am_cs h + 4 + 4 := rfl
  have kt : am_k (am_new (am_new h 1 11 4) 1 11 4) (am_n h + 1) = (1, 11) := by rw [k_new]; exact if_pos rfl
  have it : am_i (am_new (am_new h 1 11 4) 1 11 4) (am_n h + 1) 3 = 0 := by rw [i_new]; exact if_pos rfl
  show am_k (am_new (am_new h 1 11 4) 1 11 4) (am_n h + 1) = (1, 11) ∧ cal m_Sb_init [.ref (am_n h + 1)] (am_new (am_new h 1 11 4) 1 11 4) _
  refine And.intro kt (hC _ _ _ _ (c_Sb_init (by omega) kt (by rw [a2]; show am_n h + 1 < am_n h + 2; omega) (show am_n h + 1 ≠ 0 by omega) it (by rw [a2]; omega) (fun h3 S3 J3 => ?_)))
  have E2 : ext 1 (am_new h 1 11 4) (am_new (am_new h 1 11 4) 1 11 4) := ext_new 1 11 4 (by decide)
  have E3 := E2.jf J3 (show am_n h + 1 ≤ am_n h + 1 from Nat.le_refl _) (show am_n h + 1 ≤ am_n h + 1 from Nat.le_refl _) (by decide)
  have n3 := E3.1.2.1
  have q3 := E3.1.1
  refine And.intro S3.2.1 (hC _ _ _ _ (c_Sb_appS (by omega) S3 (by omega) (show 2000000 + 8 ≠ 0 by decide) (fun h' _ => isS_c h' (by decide)) (by decide) (fun h4 b4 cap4 S4 J4 hb4 => ?_)))
  have g4 : am_n (am_new h 1 11 4) ≤ b4 := by rcases hb4 with e | e <;> omega
  have E4 := E3.jf J4 (show am_n h + 1 ≤ am_n h + 1 from Nat.le_refl _) (by rw [a1, a2]; omega) (by decide)
  have n4 := E4.1.2.1
  have q4 := E4.1.1
  refine And.intro S4.2.1 (hC _ _ _ _ (c_Sb_appI (by omega) S4 (by omega) (by omega : n < 100) (by decide) (fun h5 b5 cap5 S5 J5 hb5 => ?_)))
  have g5 : am_n (am_new h 1 11 4) ≤ b5 := by rcases hb5 with e | e <;> omega
  have E5 := E4.jf J5 (show am_n h + 1 ≤ am_n h + 1 from Nat.le_refl _) g4 (by decide)
  have n5' := E5.1.2.1
  have q5 := E5.1.1
  have l5 : ([] ++ am_strs.getD 8 [] ++ dec2 n).length ≤ 8 := by
    rw [List.length_append, dec2_len, show ([] ++ am_strs.getD 8 [] : List Nat).length = 6 from rfl]
    split <;> omega
  refine And.intro S5.2.1 (hC _ _ _ _ (c_Sb_appS (by omega) S5 (by omega) (show 2000000 + 9 ≠ 0 by decide) (fun h' _ => isS_c h' (by decide)) (by rw [show (am_strs.getD 9 []).length = 1 from rfl]; omega) (fun h6 b6 cap6 S6 J6 hb6 => ?_)))
  have S6 : sbO h6 (am_n h + 1) b6 cap6 (tx0 n) := S6
  have E6 := E5.jf J6 (show am_n h + 1 ≤ am_n h + 1 from Nat.le_refl _) g5 (by decide)
  have n6 := E6.1.2.1
  have q6 := E6.1.1
  have tl := tx0_len n
  refine And.intro S6.2.1 (hC _ _ _ _ (c_Sb_toString (by omega) S6 (by omega) (by omega) (by omega) (by omega) (fun h7 T7 n7 k7 z7 => ?_)))
  have n7' := T7.1
  have E7 : ext (1 + 1 + 1 + 1 + 1 + 2) (am_new h 1 11 4) h7 := E6.tr ⟨⟨by omega, n7.1, by omega⟩, fun x hx => by
    rcases hx with hx | hx
    · exact (k7 x hx).1
    · exact z7 x hx, fun x hx => (k7 x hx).2⟩
  have n8 := E7.1.2.1
  have r8 := E7.1.2.2
  have c1 : am_cs (am_new h 1 11 4) = am_cs h + 4 := rfl
  have q8 := E7.1.1
  have ka : am_k h7 (am_n h) = (1, 11) := (E7.2.1 _ (Or.inl (by omega))).trans (by rw [k_new, if_pos rfl])
  have ia : am_i h7 (am_n h) 3 = 0 := by rw [(E7.2.2 (am_n h) (by omega)).1, i_new, if_pos rfl]
  refine And.intro ka (hC _ _ _ _ (c_Sb_initS (by omega) ka (by omega) (by omega) ia (by omega) (show am_n h6 ≠ 0 by omega) (fun h' J => (stO_jf T7 J (by omega) (by omega)).is (by have := J.1.2.1; omega)) (by omega) (fun h8 b8 cap8 S8 J8 hb8 => ?_)))
  refine hK _ _ _ _ ?_
  have m1 : ext (1 + (1 + 1 + 1 + 1 + 1 + 2)) h h7 := (ext_new 1 11 4 (by decide)).tr E7
  have L7 := lS_ext m1 S
  have L8 := lS_jf J8 n5 n5 L7
  have nJ := J8.1
  have I : ∀ x, x < am_n h → am_i h8 x = am_i h x := fun x hx => (J8.2.2 x (by omega) (by omega) (by omega)).1.trans (m1.2.2 x hx).1
  refine am_go (fun p => p == 77) (fun K cal Q' hK hC hQ => ?_)
  refine And.intro ?_ (hK _ _ _ _ ?_)
  · show am_n h8 < 1000000 ∧ ¬ nI n < 0 ∧ (nI n).toNatClampNeg ≤ 100000
    rw [q_cl (by omega)]
    exact ⟨by omega, nI_pos (by omega), by omega⟩
  show LW xs d Q 77 (lL n (am_n h) (am_n h8) _ _ _ _ _ _ _ _) [] (am_new h8 2 (nI n).toNatClampNeg (nI n).toNatClampNeg)
  rw [q_cl (by omega)]
  have E9 : ext 1 h8 (am_new h8 2 n n) := ext_new 2 n n (by omega)
  have n9 : am_n (am_new h8 2 n n) = am_n h8 + 1 := rfl
  have c9 : am_cs (am_new h8 2 n n) = am_cs h8 + n := rfl
  refine K0 _ _ b8 cap8 _ _ ⟨⟨by omega, by omega⟩, lS_ext E9 L8, ⟨⟨?_, ?_⟩, m.2.1, fun a ha b hb => ?_⟩, ⟨n5, by omega, by omega, by omega⟩, sbO_ext E9 S8, by rw [k_new, if_pos rfl], fun v hv => by rw [i_new, if_pos rfl]; rfl⟩ rfl
  · rw [(E9.2.2 87 (by omega)).1, I 87 (by omega)]; exact m.1.1
  · rw [(E9.2.2 87 (by omega)).1, I 87 (by omega)]; exact m.1.2
  · rw [(E9.2.2 (89 + a) (by omega)).1, I (89 + a) (by omega)]; exact m.2.2 a ha b hb
set_option maxHeartbeats 8000000 in
theorem l_head (hd : 22 ≤ d) (hx : xs.1 ≤ 1000)
    (K0 : ∀ n h' a b cap f v6, 3 ≤ n ∧ n ≤ 6 → lwS h' 12 n 0 (fun _ _ => 0) a b cap (tx0 n) f (fun _ => 0) → v6 = .int (nI 0) → LW xs d Q 77 (lL n a f v6 am_J am_J am_J am_J am_J am_J am_J) [] h') :
    LW xs d Q 0 (am_loc [.ref am_scr] 14) [] i0 := by
  have e16 : am_n i16 = 88 := by decide +kernel
  refine am_go (fun p => p == 36) (fun K cal Q' hK hC hQ => ?_)
  refine And.intro (by decide) (And.intro (by decide +kernel) ?_)
  refine hC m_Mc_init [.ref 1] i1 _ (am_C_le (d := 3) (by omega) (c_Mc_init (Nat.le_refl _) ?_) (fun _ _ k => k))
  show am_n i15 < am_top ∧ _
  refine And.intro (by decide +kernel) (And.intro (by decide +kernel) ?_)
  refine hC m_La_init [.ref 87] i16 _ (am_C_le (d := 1) (by omega) (c_La_init (Nat.le_refl _) (by decide +kernel) (by decide +kernel) (by decide) (by decide +kernel) ?_) (fun _ _ k => k))
  rw [e16]
  refine And.intro trivial (hC _ _ _ _ (c_La_cell (by omega) (by decide) hx ?_))
  refine And.intro trivial (hC _ _ _ _ (c_La_bound (by omega) (by decide) (by decide) ?_))
  have hb := bd_lt (cel xs 0) (show 0 < 4 by decide)
  refine And.intro (sk_87 iF_sh) (And.intro (sk_87 iF_sh) (hK _ _ _ _ ?_))
  show LW xs d Q 36 [.ref am_scr, .ref 1, .ref 87, .int (am_i (am_pi iF 87 0 (nI 3 + nI (bd (cel xs 0) 4))) 87 0), am_J, am_J, am_J, am_J, am_J, am_J, am_J, am_J, am_J, am_J] [] (am_pi iF 87 0 (nI 3 + nI (bd (cel xs 0) 4)))
  rw [i_pi_same, if_pos rfl, nI_add]
  have Ln : am_n (am_pi iF 87 0 (nI (3 + bd (cel xs 0) 4))) = 95 := iF_n
  have Lc : am_cs (am_pi iF 87 0 (nI (3 + bd (cel xs 0) 4))) = am_cs iF := rfl
  obtain ⟨a1, a2, a3, a4, a6, a7, a8, a9⟩ := iF_i
  refine l_head2 hd ⟨by omega, by omega⟩ ⟨⟨iF_sh.1, iF_sh.2.1, Nat.le_of_eq Ln.symm⟩, TN_F, fun x hx => ⟨i_pi_ne (by omega), rfl⟩⟩ ⟨⟨by rw [i_pi_same, if_pos rfl], by rw [i_pi_same, if_neg (by decide)]; exact a9⟩, ⟨by omega, Nat.two_pow_pos _⟩, fun a ha b hb => ⟨by rw [i_pi_ne (by omega)]; exact iF_m a ha b hb, Nat.zero_le _⟩⟩ ⟨Nat.le_of_eq Ln, by rw [Lc]; exact iF_cs⟩ (fun h' a b cap f v6 W e => K0 _ h' a b cap f v6 ⟨by omega, by omega⟩ W e)
end

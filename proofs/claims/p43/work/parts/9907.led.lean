/-! THE LAW, 4: edges -/
def cwt (g : gD) (ld : Nat → Nat) (e : Nat) : Nat := cst (gWt g e) (ld (gLo g e)) (ld (gHi g e))
def eI (g : gD) (n m T : Nat) (ld : Nat → Nat) (C : Nat → Nat → Nat) : Prop := gI g n m T ld ∧ mrl n m (gLo g) (gHi g) (cwt g ld) C ∧ ∀ e, e < m → 1 ≤ gWt g e ∧ gWt g e ≤ 12
theorem cst_1 (w l g : Nat) : 1 ≤ cst w l g := Nat.le_max_left _ _
theorem cst_le {w l g : Nat} (hw : w ≤ 12) (hl : l < 8) : cst w l g ≤ 31 := by
  unfold cst
  omega
theorem rdOK_ed {n L v x y : Nat} {tx : List Nat} {g : gD} (R : rdOK n tx g L) (hv : v < 100) (hx : x < 100) (hy : 1 ≤ y ∧ y < 100) (hn : v ≤ gN g - 1) (hn2 : x ≤ gN g - 1) (h20 : gM g < 20) (hne : v ≠ x) (hj : joins (gM g) (gLo g) (gHi g) v x = false) : rdOK n (tx ++ (am_strs.getD 12 [] ++ dec2 v ++ am_strs.getD 13 [] ++ dec2 x) ++ [32] ++ dec2 y ++ [59]) (gAdd g v x y) L := by
  have e : tx ++ (am_strs.getD 12 [] ++ dec2 v ++ am_strs.getD 13 [] ++ dec2 x) ++ [32] ++ dec2 y ++ [59] = tx ++ (101 :: ([100, 103, 101] ++ 32 :: (dec2 v ++ 32 :: (dec2 x ++ 32 :: (dec2 y ++ [59]))))) := by
    rw [show am_strs.getD 12 [] = [101, 100, 103, 101, 32] from rfl, show am_strs.getD 13 [] = [32] from rfl]
    simp
  rw [e]
  refine R.step (by decide) (fun t h => ?_)
  rw [pStS_ed (show seg t tx.length (am_strs.getD 2 [] ++ 32 :: (dec2 v ++ 32 :: (dec2 x ++ 32 :: (dec2 y ++ [59])))) from h) hv hx hy hn hn2 h20 hne hj]
  rw [show (101 :: ([100, 103, 101] ++ 32 :: (dec2 v ++ 32 :: (dec2 x ++ 32 :: (dec2 y ++ [59]))))).length = 5 + (dec2 v).length + (1 + (dec2 x).length + (1 + (dec2 y).length + 1)) by simp; omega]
theorem eI_nj {g : gD} {n m T u w : Nat} {ld : Nat → Nat} {C : Nat → Nat → Nat} (E : eI g n m T ld C) (hu : u < w) (h0 : C u w = 0) : joins (gM g) (gLo g) (gHi g) u w = false ∧ joins (gM g) (gLo g) (gHi g) w u = false := by
  obtain ⟨⟨g1, g2, g3, g4, g5⟩, R, hw⟩ := E
  have nj := mrl_nj R (fun e _ => by have := cst_1 (gWt g e) (ld (gLo g e)) (ld (gHi g e)); show cst _ _ _ ≠ 0; omega) h0
  have e1 : Nat.min u w = u := Nat.min_eq_left (by omega)
  have e2 : Nat.max u w = w := Nat.max_eq_right (by omega)
  have e3 : Nat.min w u = u := Nat.min_eq_right (by omega)
  have e4 : Nat.max w u = w := Nat.max_eq_left (by omega)
  refine ⟨decide_eq_false fun ⟨e, he, q1, q2⟩ => ?_, decide_eq_false fun ⟨e, he, q1, q2⟩ => ?_⟩
  · rw [g2] at he; rw [e1] at q1; rw [e2] at q2; exact nj e he ⟨q1, q2⟩
  · rw [g2] at he; rw [e3] at q1; rw [e4] at q2; exact nj e he ⟨q1, q2⟩
theorem eI_add {g : gD} {n m T u w y p q : Nat} {ld : Nat → Nat} {C : Nat → Nat → Nat} (E : eI g n m T ld C) (hu : u < w) (hw : w < n) (h0 : C u w = 0) (hy : 1 ≤ y ∧ y ≤ 12) (hpq : (p = u ∧ q = w) ∨ (p = w ∧ q = u)) : eI (gAdd g p q y) n (m + 1) T ld (mput C u w (cst y (ld u) (ld w))) := by
  obtain ⟨⟨g1, g2, g3, g4, g5⟩, R, hW⟩ := E
  have e1 : Nat.min p q = u := by
    rcases hpq with ⟨rfl, rfl⟩ | ⟨rfl, rfl⟩
    · exact Nat.min_eq_left (by omega)
    · exact Nat.min_eq_right (by omega)
  have e2 : Nat.max p q = w := by
    rcases hpq with ⟨rfl, rfl⟩ | ⟨rfl, rfl⟩
    · exact Nat.max_eq_right (by omega)
    · exact Nat.max_eq_left (by omega)
  have A := mrl_add (x := cst y (ld u) (ld w)) R (fun e _ => by have := cst_1 (gWt g e) (ld (gLo g e)) (ld (gHi g e)); show cst _ _ _ ≠ 0; omega) hu hw h0
  have lo : ∀ f : Nat → Nat, ∀ y e, e < m → setN f m y e = f e := fun f y e he => if_neg (by omega)
  have lm : ∀ f : Nat → Nat, ∀ y, setN f m y m = y := fun f y => if_pos rfl
  have q1 : gLo (gAdd g p q y) = setN (gLo g) m u := by show setN (gLo g) (gM g) (Nat.min p q) = _; rw [g2, e1]
  have q2 : gHi (gAdd g p q y) = setN (gHi g) m w := by show setN (gHi g) (gM g) (Nat.max p q) = _; rw [g2, e2]
  have q3 : gWt (gAdd g p q y) = setN (gWt g) m y := by show setN (gWt g) (gM g) y = _; rw [g2]
  refine ⟨⟨g1, by show gM g + 1 = _; rw [g2], g3, g4, g5⟩, ?_, fun e he => ?_⟩
  · rw [q1, q2]
    refine mrl_co A fun e he => ?_
    unfold cwt
    rw [q1, q2, q3]
    rcases Nat.lt_or_ge e m with z | z
    · rw [lo _ _ _ z, lo _ _ _ z, lo _ _ _ z, lo _ _ _ z]
    · have : e = m := by omega
      subst this
      rw [lm, lm, lm, lm]
  · rw [q3]
    rcases Nat.lt_or_ge e m with z | z
    · rw [lo _ _ _ z]; exact hW e z
    · have : e = m := by omega
      subst this
      rw [lm]; exact hy
def tri : Nat → Nat
  | 0 => 0
  | k + 1 => tri k + (5 - k)
theorem tri_le : ∀ k, k ≤ 6 → tri k ≤ 15 := by decide
section
variable {xs : am_X} {d : Nat} {h : am_H} {Q : am_Q} {c n T a b cap f u w y : Nat} {C : Nat → Nat → Nat} {tx : List Nat} {ld : Nat → Nat} {v6 v7 v8 v9 v10 v11 v12 v13 : Value}
theorem lwS.sC {h3 : am_H} {C' : Nat → Nat → Nat} (W : lwS h c n T C a b cap tx f ld) (s : sm [89 + u, 89 + w] h h3) (hu : u < 6) (hw : w < 6) (hm : ∀ i, i < 6 → ∀ j, j < 6 → am_i h3 (89 + i) j = nI (C' i j) ∧ C' i j ≤ 1000) : lwS h3 c n T C' a b cap tx f ld := by
  obtain ⟨⟨w1, w2⟩, ⟨hs, w3, w3'⟩, w4, ⟨w5, w6, w7, w8⟩, w9, w10, w11⟩ := W
  have I : ∀ x, (x < 89 ∨ 95 ≤ x) → am_i h3 x = am_i h x := fun x hx => (s.2.2 x (by simp; omega)).1
  have R : ∀ x, am_r h3 x = am_r h x := fun x => funext fun k => s.r x k
  refine ⟨⟨by rw [s.n]; exact w1, by rw [s.cs]; exact w2⟩, ⟨s.sh hs, fun x hx => by rw [s.k]; exact w3 x (by rw [s.n] at hx; exact hx), fun x hx => ⟨(I x (by omega)).trans (w3' x hx).1, (R x).trans (w3' x hx).2⟩⟩, ⟨⟨by rw [I 87 (by omega)]; exact w4.1.1, by rw [I 87 (by omega)]; exact w4.1.2⟩, w4.2.1, hm⟩, ⟨w5, w6, w7, by rw [s.n]; exact w8⟩, ?_, (s.k f).trans w10, fun v hv => by rw [I f (by omega)]; exact w11 v hv⟩
  obtain ⟨⟨n1, n2⟩, k1, ⟨j1, j2, j3⟩, k4, k5, k6⟩ := w9
  exact ⟨⟨by rw [s.n]; exact n1, by rw [s.n]; exact n2⟩, (s.k a).trans k1, ⟨by rw [I a (by omega)]; exact j1, by rw [I a (by omega)]; exact j2, by rw [R a]; exact j3⟩, (s.k b).trans k4, k5, fun j hj => by rw [I b (by omega)]; exact k6 j hj⟩
set_option maxHeartbeats 8000000 in
theorem w_put (hd : 22 ≤ d) (W : lwS h c n T C a b cap tx f ld) (hu : u < w) (hw : w < n) (hy : 1 ≤ y ∧ y ≤ 12) (h8 : ∀ v, ld v < 8)
    (K0 : ∀ h', lwS h' c n T (mput C u w (cst y (ld u) (ld w))) a b cap tx f ld → LW xs d Q 387 (lL n a f v6 v7 (.int (nI u)) (.int (nI w)) v10 (.int (nI y)) v12 v13) [] h') :
    LW xs d Q 316 (lL n a f v6 v7 (.int (nI u)) (.int (nI w)) v10 (.int (nI y)) v12 v13) [] h := by
  have hs := W.2.1.1
  have hn := W.2.2.1.2.1.1
  have mC := W.2.2.1.2.2
  have hu6 : u < 6 := by omega
  have hw6 : w < 6 := by omega
  have hlu := h8 u
  have hlw := h8 w
  have hcl := cst_le (g := ld w) hy.2 hlu
  -- both entries written
  have at367 : ∀ h2, sm [89 + u, 89 + w] h h2 → (∀ k, am_i h2 (89 + u) k = if k = w then nI (cst y (ld u) (ld w)) else am_i h (89 + u) k) → am_i h2 (89 + w) = am_i h (89 + w) → LW xs d Q 367 (lL n a f v6 v7 (.int (nI u)) (.int (nI w)) v10 (.int (nI y)) v12 v13) [] h2 := by
    intro h2 s2 hU hW2
    have hs2 := s2.sh hs
    refine am_go (fun p => p == 387) (fun K cal Q' hK hC hQ => ?_)
    refine And.intro (sk_87 hs2) (And.intro (ck_rows hs2 hw6) (And.intro (sk_87 hs2) (And.intro (ck_rows hs2 hu6) (And.intro (ck_rowe hs2 hu6 hw6) (And.intro (ck_rowe hs2 hw6 hu6) (hK _ _ _ _ ?_))))))
    rw [lw_rr hs2 hu6, lw_rr hs2 hw6, q_cl (by omega : u < 2 ^ 31), q_cl (by omega : w < 2 ^ 31), hU, if_pos rfl]
    refine K0 _ (W.sC (u := u) (w := w) (s2.pi (by simp)) hu6 hw6 (fun i hi j hj => ?_))
    have old := mC i hi j hj
    rw [i_pi]
    unfold mput
    by_cases e : i = w
    · subst e
      rw [if_pos rfl]
      by_cases e2 : j = u
      · rw [if_pos e2, if_pos (Or.inr ⟨rfl, e2⟩)]
        exact ⟨rfl, by omega⟩
      · rw [if_neg e2, if_neg (by omega), hW2]
        exact old
    · rw [if_neg (by omega)]
      by_cases e3 : i = u
      · subst e3
        rw [hU]
        by_cases e4 : j = w
        · rw [if_pos e4, if_pos (Or.inl ⟨rfl, e4⟩)]
          exact ⟨rfl, by omega⟩
        · rw [if_neg e4, if_neg (by omega)]
          exact old
      · rw [if_neg (by omega), s2.i (by simp; omega)]
        exact old
  refine am_go (fun p => p == 342) (fun K cal Q' hK hC hQ => ?_)
  refine And.intro (sk_87 hs) (And.intro (ck_rows hs hu6) (And.intro (W.ckf (by omega)) (And.intro (W.ckf hw) (And.intro (ck_rowe hs hu6 hw6) (hK _ _ _ _ ?_)))))
  rw [lw_rr hs hu6, W.at (by omega), W.at hw, q_cl (by omega : w < 2 ^ 31)]
  have eX : (nI y * nI 2 + nI (ld u) - nI (ld w)).toInt = (y * 2 + ld u : Nat) - (ld w : Int) := by
    rw [pk_mul, nI_add]
    exact q_subI (by omega) (by omega)
  generalize nI y * nI 2 + nI (ld u) - nI (ld w) = X at eX
  have s1 : sm [89 + u, 89 + w] h (am_pi h (89 + u) w X) := sm.rf.pi (by simp)
  have hU : ∀ k, am_i (am_pi h (89 + u) w X) (89 + u) k = if k = w then X else am_i h (89 + u) k := fun k => i_pi_same _ _ _ _ _
  have hW1 : am_i (am_pi h (89 + u) w X) (89 + w) = am_i h (89 + w) := i_pi_ne (by omega)
  generalize am_pi h (89 + u) w X = h1 at s1 hU hW1
  have hs1 := s1.sh hs
  have e1 : (nI 1).toInt = 1 := by decide
  refine am_go (fun p => p == 367) (fun K cal Q' hK hC hQ => ?_)
  refine And.intro (sk_87 hs1) (And.intro (ck_rows hs1 hu6) (And.intro (ck_rowe hs1 hu6 hw6) (And.intro (fun c2 => hK _ _ _ _ (at367 h1 s1 (fun k => ?_) hW1)) (fun c2 => ?_))))
  · have c2 : nI 1 ≤ am_i h1 (am_r h1 (am_r h1 87 2) (nI u).toNatClampNeg) (nI w).toNatClampNeg := c2
    rw [lw_rr hs1 hu6, q_cl (by omega), hU, if_pos rfl, fa_le, eX, e1] at c2
    have eV : X = nI (cst y (ld u) (ld w)) := by
      rw [fa_eq, eX, nI_toInt (by omega)]
      unfold cst
      omega
    rw [hU, eV]
  · have c2 : ¬ nI 1 ≤ am_i h1 (am_r h1 (am_r h1 87 2) (nI u).toNatClampNeg) (nI w).toNatClampNeg := c2
    rw [lw_rr hs1 hu6, q_cl (by omega), hU, if_pos rfl, fa_le, eX, e1] at c2
    have eV : cst y (ld u) (ld w) = 1 := by
      unfold cst
      omega
    refine And.intro (sk_87 hs1) (And.intro (ck_rows hs1 hu6) (And.intro (ck_rowe hs1 hu6 hw6) (hK _ _ _ _ ?_)))
    rw [lw_rr hs1 hu6, q_cl (by omega : w < 2 ^ 31)]
    refine at367 _ (s1.pi (by simp)) (fun k => ?_) ((i_pi_ne (by omega)).trans hW1)
    rw [i_pi_same, hU, eV]
    by_cases q : k = w
    · rw [if_pos q, if_pos q]
    · rw [if_neg q, if_neg q, if_neg q]
set_option maxHeartbeats 8000000 in
theorem w_tmp1 (hd : 22 ≤ d) (hN : am_n h ≤ 800) (hu : u < 10) (hw : w < 10)
    (K0 : ∀ h' s bs, ext 8 h h' → stO h' s bs (am_strs.getD 12 [] ++ dec2 u ++ am_strs.getD 13 [] ++ dec2 w) → am_n h ≤ s ∧ am_n h ≤ bs → LW xs d Q 459 (lL n a f v6 v7 (.int (nI u)) (.int (nI w)) v10 v11 v12 v13) [.ref s, .ref a] h') (h1 : 1 ≤ am_n h) :
    LW xs d Q 396 (lL n a f v6 v7 (.int (nI u)) (.int (nI w)) v10 v11 v12 v13) [.ref a] h := by
  have kt : am_k (am_new h 1 11 4) (am_n h) = (1, 11) := by rw [k_new]; exact if_pos rfl
  have it : am_i (am_new h 1 11 4) (am_n h) 3 = 0 := by rw [i_new]; exact if_pos rfl
  have a2 : am_n (am_new h 1 11 4) = am_n h + 1 := rfl
  refine am_go (fun p => p == 459) (fun K cal Q' hK hC hQ => ?_)
  refine And.intro (by show am_n h < 1000000; omega) ?_
  show am_k (am_new h 1 11 4) (am_n h) = (1, 11) ∧ cal m_Sb_init [.ref (am_n h)] (am_new h 1 11 4) _
  refine And.intro kt (hC _ _ _ _ (c_Sb_init (by omega) kt (by rw [a2]; omega) (by omega) it (by rw [a2]; omega) (fun h3 S3 J3 => ?_)))
  have E3 := (ext_new (h := h) 1 11 4 (by decide)).jf J3 (Nat.le_refl _) (Nat.le_refl _) (by decide)
  have n3 := E3.1
  refine And.intro S3.2.1 (hC _ _ _ _ (c_Sb_appS (by omega) S3 (by omega) (show 2000000 + 12 ≠ 0 by decide) (fun h' _ => isS_c h' (by decide)) (by decide) (fun h4 b4 cap4 S4 J4 hb4 => ?_)))
  have g4 : am_n h ≤ b4 := by rcases hb4 with e | e <;> omega
  have E4 := E3.jf J4 (Nat.le_refl _) (by rw [a2]; omega) (by decide)
  have n4 := E4.1
  refine And.intro S4.2.1 (hC _ _ _ _ (c_Sb_appI (by omega) S4 (by omega) (by omega : u < 100) (by decide) (fun h5 b5 cap5 S5 J5 hb5 => ?_)))
  have g5 : am_n h ≤ b5 := by rcases hb5 with e | e <;> omega
  have E5 := E4.jf J5 (Nat.le_refl _) g4 (by decide)
  have n5 := E5.1
  have l5 : ([] ++ am_strs.getD 12 [] ++ dec2 u).length = 6 := by rw [List.length_append, dec2_len, if_pos (by omega)]; rfl
  refine And.intro S5.2.1 (hC _ _ _ _ (c_Sb_appS (by omega) S5 (by omega) (show 2000000 + 13 ≠ 0 by decide) (fun h' _ => isS_c h' (by decide)) (by rw [l5]; decide) (fun h6 b6 cap6 S6 J6 hb6 => ?_)))
  have g6 : am_n h ≤ b6 := by rcases hb6 with e | e <;> omega
  have E6 := E5.jf J6 (Nat.le_refl _) g5 (by decide)
  have n6 := E6.1
  have l6 : ([] ++ am_strs.getD 12 [] ++ dec2 u ++ am_strs.getD 13 []).length = 7 := by rw [List.length_append, l5]; rfl
  refine And.intro S6.2.1 (hC _ _ _ _ (c_Sb_appI (by omega) S6 (by omega) (by omega : w < 100) (by rw [l6]; decide) (fun h7 b7 cap7 S7 J7 hb7 => ?_)))
  have E7 := E6.jf J7 (Nat.le_refl _) g6 (by decide)
  have n7 := E7.1
  have l7 : ([] ++ am_strs.getD 12 [] ++ dec2 u ++ am_strs.getD 13 [] ++ dec2 w).length = 8 := by rw [List.length_append, l6, dec2_len, if_pos (by omega)]
  refine And.intro S7.2.1 (hC _ _ _ _ (c_Sb_toString (by omega) S7 (by omega) (by omega) (by omega) (by rw [l7]; decide) (fun h8 T8 n8 k8 z8 => hK _ _ _ _ ?_)))
  have n8' := T8.1
  have E8 : ext (1 + 1 + 1 + 1 + 1 + 1 + 2) h h8 := E7.tr ⟨⟨by omega, n8.1, by omega⟩, fun x hx => by
    rcases hx with hx | hx
    · exact (k8 x hx).1
    · exact z8 x hx, fun x hx => (k8 x hx).2⟩
  exact K0 h8 _ _ E8 T8 ⟨by omega, by omega⟩
set_option maxHeartbeats 8000000 in
theorem w_tmp2 (hd : 22 ≤ d) (hN : am_n h ≤ 800) (hu : u < 10) (hw : w < 10)
    (K0 : ∀ h' s bs, ext 8 h h' → stO h' s bs (am_strs.getD 12 [] ++ dec2 w ++ am_strs.getD 13 [] ++ dec2 u) → am_n h ≤ s ∧ am_n h ≤ bs → LW xs d Q 459 (lL n a f v6 v7 (.int (nI u)) (.int (nI w)) v10 v11 v12 v13) [.ref s, .ref a] h') (h1 : 1 ≤ am_n h) :
    LW xs d Q 429 (lL n a f v6 v7 (.int (nI u)) (.int (nI w)) v10 v11 v12 v13) [.ref a] h := by
  have kt : am_k (am_new h 1 11 4) (am_n h) = (1, 11) := by rw [k_new]; exact if_pos rfl
  have it : am_i (am_new h 1 11 4) (am_n h) 3 = 0 := by rw [i_new]; exact if_pos rfl
  have a2 : am_n (am_new h 1 11 4) = am_n h + 1 := rfl
  refine am_go (fun p => p == 459) (fun K cal Q' hK hC hQ => ?_)
  refine And.intro (by show am_n h < 1000000; omega) ?_
  show am_k (am_new h 1 11 4) (am_n h) = (1, 11) ∧ cal m_Sb_init [.ref (am_n h)] (am_new h 1 11 4) _
  refine And.intro kt (hC _ _ _ _ (c_Sb_init (by omega) kt (by rw [a2]; omega) (by omega) it (by rw [a2]; omega) (fun h3 S3 J3 => ?_)))
  have E3 := (ext_new (h := h) 1 11 4 (by decide)).jf J3 (Nat.le_refl _) (Nat.le_refl _) (by decide)
  have n3 := E3.1
  refine And.intro S3.2.1 (hC _ _ _ _ (c_Sb_appS (by omega) S3 (by omega) (show 2000000 + 12 ≠ 0 by decide) (fun h' _ => isS_c h' (by decide)) (by decide) (fun h4 b4 cap4 S4 J4 hb4 => ?_)))
  have g4 : am_n h ≤ b4 := by rcases hb4 with e | e <;> omega
  have E4 := E3.jf J4 (Nat.le_refl _) (by rw [a2]; omega) (by decide)
  have n4 := E4.1
  refine And.intro S4.2.1 (hC _ _ _ _ (c_Sb_appI (by omega) S4 (by omega) (by omega : w < 100) (by decide) (fun h5 b5 cap5 S5 J5 hb5 => ?_)))
  have g5 : am_n h ≤ b5 := by rcases hb5 with e | e <;> omega
  have E5 := E4.jf J5 (Nat.le_refl _) g4 (by decide)
  have n5 := E5.1
  have l5 : ([] ++ am_strs.getD 12 [] ++ dec2 w).length = 6 := by rw [List.length_append, dec2_len, if_pos (by omega)]; rfl
  refine And.intro S5.2.1 (hC _ _ _ _ (c_Sb_appS (by omega) S5 (by omega) (show 2000000 + 13 ≠ 0 by decide) (fun h' _ => isS_c h' (by decide)) (by rw [l5]; decide) (fun h6 b6 cap6 S6 J6 hb6 => ?_)))
  have g6 : am_n h ≤ b6 := by rcases hb6 with e | e <;> omega
  have E6 := E5.jf J6 (Nat.le_refl _) g5 (by decide)
  have n6 := E6.1
  have l6 : ([] ++ am_strs.getD 12 [] ++ dec2 w ++ am_strs.getD 13 []).length = 7 := by rw [List.length_append, l5]; rfl
  refine And.intro S6.2.1 (hC _ _ _ _ (c_Sb_appI (by omega) S6 (by omega) (by omega : u < 100) (by rw [l6]; decide) (fun h7 b7 cap7 S7 J7 hb7 => ?_)))
  have E7 := E6.jf J7 (Nat.le_refl _) g6 (by decide)
  have n7 := E7.1
  have l7 : ([] ++ am_strs.getD 12 [] ++ dec2 w ++ am_strs.getD 13 [] ++ dec2 u).length = 8 := by rw [List.length_append, l6, dec2_len, if_pos (by omega)]
  refine And.intro S7.2.1 (hC _ _ _ _ (c_Sb_toString (by omega) S7 (by omega) (by omega) (by omega) (by rw [l7]; decide) (fun h8 T8 n8 k8 z8 => hK _ _ _ _ ?_)))
  have n8' := T8.1
  have E8 : ext (1 + 1 + 1 + 1 + 1 + 1 + 2) h h8 := E7.tr ⟨⟨by omega, n8.1, by omega⟩, fun x hx => by
    rcases hx with hx | hx
    · exact (k8 x hx).1
    · exact z8 x hx, fun x hx => (k8 x hx).2⟩
  exact K0 h8 _ _ E8 T8 ⟨by omega, by omega⟩
end

/-! THE LAW, 1: what holds while it builds its text -/
def lS (h : am_H) : Prop := sh h ∧ TN h ∧ ∀ x, x < 87 → am_i h x = am_i iF x ∧ am_r h x = am_r iF x
theorem CI_lS {h : am_H} (S : lS h) : CI h st0 := by
  obtain ⟨hs, _, hv⟩ := S
  obtain ⟨_, _, ⟨nx, n8, e1, e2, l8, hj⟩, _, a5⟩ := CI_F
  have I : ∀ x, x < 87 → ∀ k, am_i h x k = am_i iF x k := fun x hx k => by rw [(hv x hx).1]
  have R : ∀ x, x < 87 → ∀ k, am_r h x k = am_r iF x k := fun x hx k => by rw [(hv x hx).2]
  obtain ⟨a1, a2, a3, a4, a6, a7, a8, a9⟩ := iF_i
  refine ⟨hs, ⟨⟨gs_3 hs, ⟨(I 3 (by decide) 0).trans (a1 0 (by decide)), (I 3 (by decide) 1).trans (a1 1 (by decide)), (I 3 (by decide) 2).trans (a1 2 (by decide))⟩, fun e he => absurd he (Nat.not_lt_zero _), gwf_0.1, gwf_0.2.1⟩, fun e he => absurd he (Nat.not_lt_zero _), fun v hv => absurd hv (Nat.not_lt_zero _), fun v hv => absurd hv (Nat.not_lt_zero _), fun e he => absurd he (Nat.not_lt_zero _), (R 3 (by decide) 9).trans a7, gwf_0⟩, ⟨nx, n8, (I 10 (by decide) 1).trans e1, (I 10 (by decide) 2).trans e2, l8, fun j g hg => by cases hg⟩, ⟨Nat.zero_le _, (I 1 (by decide) 1).trans a4, fun k hk => absurd hk (Nat.not_lt_zero _)⟩, (I 1 (by decide) 2).trans a6⟩
/-- what was there is left alone, at most k cells are new -/
def ext (k : Nat) (h h' : am_H) : Prop := (am_n h ≤ am_n h' ∧ am_n h' ≤ am_n h + k ∧ am_cs h' ≤ am_cs h + 2500 * k) ∧ (∀ x, x < am_n h ∨ am_n h' ≤ x → am_k h' x = am_k h x) ∧ ∀ x, x < am_n h → am_i h' x = am_i h x ∧ am_r h' x = am_r h x
theorem ext.rf {h : am_H} : ext 0 h h := ⟨⟨Nat.le_refl _, Nat.le_refl _, Nat.le_refl _⟩, fun _ _ => rfl, fun _ _ => ⟨rfl, rfl⟩⟩
theorem ext.tr {k k2 : Nat} {h h1 h2 : am_H} (s : ext k h h1) (t : ext k2 h1 h2) : ext (k + k2) h h2 := by
  obtain ⟨⟨s1, s2, s3⟩, s4, s5⟩ := s
  obtain ⟨⟨t1, t2, t3⟩, t4, t5⟩ := t
  refine ⟨⟨by omega, by omega, by omega⟩, fun x hx => (t4 x (by omega)).trans (s4 x (by omega)), fun x hx => ?_⟩
  have u := t5 x (by omega)
  have v := s5 x hx
  exact ⟨u.1.trans v.1, u.2.trans v.2⟩
theorem ext_new {h : am_H} (t n w : Nat) (hw : w ≤ 2500) : ext 1 h (am_new h t n w) := ⟨⟨Nat.le_succ _, Nat.le_refl _, by rw [cs_new]; omega⟩, fun x hx => by rw [n_new] at hx; rw [k_new, if_neg (by omega)], fun x hx => ⟨i_new_ne (by omega), r_new_ne (by omega)⟩⟩
theorem ext.jf {k k2 w a b : Nat} {h h1 h2 : am_H} (s : ext k h h1) (J : jf a b k2 w h1 h2) (ha : am_n h ≤ a) (hb : am_n h ≤ b) (hw : w ≤ 2500 * k2) : ext (k + k2) h h2 := by
  obtain ⟨⟨s1, s2, s3⟩, s4, s5⟩ := s
  obtain ⟨⟨t1, t2, t3⟩, t4, t5⟩ := J
  refine ⟨⟨by omega, by omega, by omega⟩, fun x hx => (t4 x (by omega)).trans (s4 x (by omega)), fun x hx => ?_⟩
  have u := t5 x (by omega) (by omega) (by omega)
  have v := s5 x hx
  exact ⟨u.1.trans v.1, u.2.trans v.2⟩
theorem stO_jf {h h' : am_H} {s b a1 b1 c w : Nat} {tx : List Nat} (S : stO h s b tx) (J : jf a1 b1 c w h h') (h1 : s ≠ a1 ∧ s ≠ b1) (h2 : b ≠ a1 ∧ b ≠ b1) : stO h' s b tx := by
  obtain ⟨⟨n1, n2⟩, k1, k2, k3, k4, k5, k6⟩ := S
  have := J.1.1
  exact ⟨⟨by omega, by omega⟩, (J.2.1 s (Or.inl n1)).trans k1, by rw [(J.2.2 s n1 h1.1 h1.2).1]; exact k2, by rw [(J.2.2 s n1 h1.1 h1.2).2]; exact k3, (J.2.1 b (Or.inl n2)).trans k4, k5, fun j hj => by rw [(J.2.2 b n2 h2.1 h2.2).1]; exact k6 j hj⟩
theorem sbO_ext {k : Nat} {h h' : am_H} {a b cap : Nat} {tx : List Nat} (E : ext k h h') (S : sbO h a b cap tx) : sbO h' a b cap tx := by
  obtain ⟨⟨n1, n2⟩, k1, ⟨j1, j2, j3⟩, k4, k5, k6⟩ := S
  have := E.1.1
  exact ⟨⟨by omega, by omega⟩, (E.2.1 a (Or.inl n1)).trans k1, ⟨by rw [(E.2.2 a n1).1]; exact j1, by rw [(E.2.2 a n1).1]; exact j2, by rw [(E.2.2 a n1).2]; exact j3⟩, (E.2.1 b (Or.inl n2)).trans k4, k5, fun j hj => by rw [(E.2.2 b n2).1]; exact k6 j hj⟩
theorem lS_ext {k : Nat} {h h' : am_H} (E : ext k h h') (S : lS h) : lS h' := by
  obtain ⟨hs, T, hv⟩ := S
  have n5 := hs.2.2
  have e1 := E.1.1
  refine ⟨⟨fun a ha => (E.2.1 a (Or.inl (by omega))).trans (hs.1 a ha), fun q hq => ?_, by omega⟩, fun a ha => (E.2.1 a (Or.inr ha)).trans (T a (by omega)), fun x hx => ?_⟩
  · have := (sh_no87 q hq).1
    rw [(E.2.2 q.1 (by omega)).2]; exact hs.2.1 q hq
  · have u := E.2.2 x (by omega)
    exact ⟨u.1.trans (hv x hx).1, u.2.trans (hv x hx).2⟩
theorem lS_jf {a b k w : Nat} {h h' : am_H} (E : jf a b k w h h') (ha : 95 ≤ a) (hb : 95 ≤ b) (S : lS h) : lS h' := by
  obtain ⟨hs, T, hv⟩ := S
  have n5 := hs.2.2
  have e1 := E.1.1
  refine ⟨⟨fun a ha => (E.2.1 a (Or.inl (by omega))).trans (hs.1 a ha), fun q hq => ?_, by omega⟩, fun a ha => (E.2.1 a (Or.inr ha)).trans (T a (by omega)), fun x hx => ?_⟩
  · have := (sh_no87 q hq).1
    rw [(E.2.2 q.1 (by omega) (by omega) (by omega)).2]; exact hs.2.1 q hq
  · have u := E.2.2 x (by omega) (by omega) (by omega)
    exact ⟨u.1.trans (hv x hx).1, u.2.trans (hv x hx).2⟩
/-- the law's numbers, its builder, its row of loads -/
def lwS (h : am_H) (c n T : Nat) (C : Nat → Nat → Nat) (a b cap : Nat) (tx : List Nat) (f : Nat) (ld : Nat → Nat) : Prop := (am_n h ≤ 95 + c ∧ am_cs h ≤ 30000 + 2500 * c) ∧ lS h ∧ mlO h n T C ∧ (95 ≤ a ∧ 95 ≤ b ∧ 95 ≤ f ∧ f < am_n h) ∧ sbO h a b cap tx ∧ am_k h f = (2, n) ∧ ∀ v, v < n → am_i h f v = nI (ld v)
section
variable {xs : am_X} {d : Nat} {h h' : am_H} {Q : am_Q} {c n T a b cap f : Nat} {C : Nat → Nat → Nat} {tx : List Nat} {ld : Nat → Nat}
theorem lwS.ext {k : Nat} (W : lwS h c n T C a b cap tx f ld) (E : ext k h h') : lwS h' (c + k) n T C a b cap tx f ld := by
  obtain ⟨⟨w1, w2⟩, w3, w4, ⟨w5, w6, w7, w8⟩, w9, w10, w11⟩ := W
  have e1 := E.1
  have n5 := w3.1.2.2
  have I : ∀ x, x < am_n h → am_i h' x = am_i h x := fun x hx => (E.2.2 x hx).1
  exact ⟨⟨by omega, by omega⟩, lS_ext E w3, ⟨⟨by rw [I 87 (by omega)]; exact w4.1.1, by rw [I 87 (by omega)]; exact w4.1.2⟩, w4.2.1, fun a ha b hb => by rw [I (89 + a) (by omega)]; exact w4.2.2 a ha b hb⟩, ⟨w5, w6, w7, by omega⟩, sbO_ext E w9, (E.2.1 f (Or.inl w8)).trans w10, fun v hv => by rw [I f w8]; exact w11 v hv⟩
theorem lwS.jf {k w b' cap' : Nat} {tx' : List Nat} (W : lwS h c n T C a b cap tx f ld) (J : jf a b k w h h') (hw : w ≤ 2500 * k) (S : sbO h' a b' cap' tx') (hb : b' = b ∨ am_n h ≤ b') : lwS h' (c + k) n T C a b' cap' tx' f ld := by
  obtain ⟨⟨w1, w2⟩, w3, w4, ⟨w5, w6, w7, w8⟩, w9, w10, w11⟩ := W
  have e1 := J.1
  have n5 := w3.1.2.2
  have fa : f ≠ a := fun e => by have := w9.2.1; rw [← e, w10] at this; cases this
  have fb : f ≠ b := fun e => by have := w9.2.2.2.1; rw [← e, w10] at this; cases this
  have I : ∀ x, x < 95 → am_i h' x = am_i h x := fun x hx => (J.2.2 x (by omega) (by omega) (by omega)).1
  exact ⟨⟨by omega, by omega⟩, lS_jf J w5 w6 w3, ⟨⟨by rw [I 87 (by omega)]; exact w4.1.1, by rw [I 87 (by omega)]; exact w4.1.2⟩, w4.2.1, fun a ha b hb => by rw [I (89 + a) (by omega)]; exact w4.2.2 a ha b hb⟩, ⟨w5, by omega, w7, by omega⟩, S, (J.2.1 f (Or.inl w8)).trans w10, fun v hv => by rw [(J.2.2 f w8 fa fb).1]; exact w11 v hv⟩
theorem strs_29 : ∀ j, j < 15 → (am_strs.getD j []).length ≤ 29 := by decide +kernel
theorem l_appK (hd : 5 ≤ d) (W : lwS h c n T C a b cap tx f ld) (hc : c ≤ 1000) {j : Nat} (hj : j < 15) (hm : tx.length ≤ 600) (HQ : ∀ h' b' cap', lwS h' (c + 1) n T C a b' cap' (tx ++ am_strs.getD j []) f ld → Q (.inl (some (.ref a))) h') : am_C xs am_P0 d m_Sb_appS [.ref a, .ref (am_S0 + j)] h Q := by
  have := W.1.1
  have := strs_29 j hj
  exact c_Sb_appS hd W.2.2.2.2.1 (by omega) (by show 2000000 + j ≠ 0; omega) (fun h' _ => isS_c h' hj) (by omega) (fun h' b' cap' S J hb => HQ h' b' cap' (W.jf J (by omega) S hb))
theorem l_appC (hd : 5 ≤ d) (W : lwS h c n T C a b cap tx f ld) (hc : c ≤ 1000) {j : Nat} (hj : j < 128) (hm : tx.length ≤ 600) (HQ : ∀ h' b' cap', lwS h' (c + 1) n T C a b' cap' (tx ++ [j]) f ld → Q (.inl (some (.ref a))) h') : am_C xs am_P0 d m_Sb_appC [.ref a, .int (nI j)] h Q := by
  have := W.1.1
  exact c_Sb_appC hd W.2.2.2.2.1 (by omega) hj (by omega) (fun h' b' cap' S J hb => HQ h' b' cap' (W.jf J (by omega) S hb))
theorem l_appI (hd : 5 ≤ d) (W : lwS h c n T C a b cap tx f ld) (hc : c ≤ 1000) {j : Nat} (hj : j < 100) (hm : tx.length ≤ 600) (HQ : ∀ h' b' cap', lwS h' (c + 1) n T C a b' cap' (tx ++ dec2 j) f ld → Q (.inl (some (.ref a))) h') : am_C xs am_P0 d m_Sb_appI [.ref a, .int (nI j)] h Q := by
  have := W.1.1
  exact c_Sb_appI hd W.2.2.2.2.1 (by omega) hj (by omega) (fun h' b' cap' S J hb => HQ h' b' cap' (W.jf J (by omega) S hb))
end

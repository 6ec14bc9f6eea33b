/-! GRAPH: copies -/
/-- only the ints of the cells X and one reference field of a have changed -/
def smf (X : List Nat) (a : Nat) (h h' : am_H) : Prop := h'.1 = h.1 ∧ (∀ x k, ¬ (x = a ∧ k = 9) → am_r h' x k = am_r h x k) ∧ (am_n h' = am_n h ∧ am_cs h' = am_cs h) ∧ ∀ x, x ∉ X → am_i h' x = am_i h x ∧ am_l h' x = am_l h x
theorem smf.of {X : List Nat} {a : Nat} {h h' : am_H} (s : sm X h h') : smf X a h h' := ⟨s.1, fun x k _ => s.r x k, ⟨s.n, s.cs⟩, s.2.2⟩
theorem smf.tr {X : List Nat} {a : Nat} {h h1 h2 : am_H} (s : smf X a h h1) (t : smf X a h1 h2) : smf X a h h2 := ⟨t.1.trans s.1, fun x k z => (t.2.1 x k z).trans (s.2.1 x k z), ⟨t.2.2.1.1.trans s.2.2.1.1, t.2.2.1.2.trans s.2.2.1.2⟩, fun x hx => ⟨(t.2.2.2 x hx).1.trans (s.2.2.2 x hx).1, (t.2.2.2 x hx).2.trans (s.2.2.2 x hx).2⟩⟩
theorem smf.mo {X Y : List Nat} {a : Nat} {h h1 : am_H} (s : smf X a h h1) (hs : ∀ x, x ∈ X → x ∈ Y) : smf Y a h h1 := ⟨s.1, s.2.1, s.2.2.1, fun x hx => s.2.2.2 x fun z => hx (hs x z)⟩
theorem smf.k {X : List Nat} {a : Nat} {h h' : am_H} (s : smf X a h h') (x : Nat) : am_k h' x = am_k h x := by unfold am_k; rw [s.1]
theorem smf.i {X : List Nat} {a : Nat} {h h' : am_H} (s : smf X a h h') {x : Nat} (hx : x ∉ X) (k : Nat) : am_i h' x k = am_i h x k := by rw [(s.2.2.2 x hx).1]
theorem smf.pr {X : List Nat} {a : Nat} {h h1 : am_H} (s : smf X a h h1) {v : Nat} : smf X a h (am_pr h1 a 9 v) := ⟨s.1, fun x k z => by
  rw [r_pr]
  by_cases e : x = a
  · rw [if_pos e, if_neg fun q => z ⟨e, q⟩, e]
    have := s.2.1 a k (fun q => z ⟨e, q.2⟩)
    exact this
  · rw [if_neg e]; exact s.2.1 x k z, s.2.2.1, s.2.2.2⟩
theorem sh_no9 : ∀ q ∈ sh_rl, ¬ (q.2.1 = 9 ∧ q.1 ≠ 1) := by decide +kernel
theorem smf.sh {X : List Nat} {a : Nat} {h h' : am_H} (s : smf X a h h') (ha : a ≠ 1) (hs : sh h) : sh h' := ⟨fun x hx => (s.k x).trans (hs.1 x hx), fun q hq => (s.2.1 _ _ fun z => sh_no9 q hq ⟨z.2, by rw [z.1]; exact ha⟩).trans (hs.2.1 q hq), by rw [s.2.2.1.1]; exact hs.2.2⟩
theorem smf.gx {X : List Nat} {a : Nat} {h h' : am_H} (s : smf X a h h') {b : Nat} (g : gs h b) : gs h' b := by
  obtain ⟨hk, ⟨k1, k2, k3, k4, k5, k6⟩, r3, r4, r5, r6, r7, r8⟩ := g
  have R : ∀ k, k ≠ 9 → am_r h' b k = am_r h b k := fun k z => s.2.1 b k fun q => z q.2
  exact ⟨(s.k _).trans hk, ⟨(s.k _).trans k1, (s.k _).trans k2, (s.k _).trans k3, (s.k _).trans k4, (s.k _).trans k5, (s.k _).trans k6⟩, (R 3 (by decide)).trans r3, (R 4 (by decide)).trans r4, (R 5 (by decide)).trans r5, (R 6 (by decide)).trans r6, (R 7 (by decide)).trans r7, (R 8 (by decide)).trans r8⟩
abbrev gX7 (a : Nat) : List Nat := [a, a + 1, a + 2, a + 3, a + 4, a + 5, a + 6]
def gln (i : Nat) : Nat := if i ≤ 2 then 9 else 20
/-- j rows of b are copied -/
def cpJ (h : am_H) (a b j : Nat) (h' : am_H) : Prop := smf (gX7 a) a h h' ∧ (∀ k, k < 3 → am_i h' a k = am_i h b k) ∧ am_r h' a 9 = am_r h b 9 ∧ ∀ i, 1 ≤ i → i ≤ j → ∀ k, k < gln i → am_i h' (a + i) k = am_i h (b + i) k
theorem cpJ.s {h h' : am_H} {a b j : Nat} (J : cpJ h a b j h') (hj : j < 6) (hab : a + 7 ≤ b ∨ b + 7 ≤ a) : cpJ h a b (j + 1) (am_cp h' (b + (j + 1)) 0 (a + (j + 1)) 0 (gln (j + 1))) := by
  obtain ⟨s, h1, h2, h3⟩ := J
  have hm : a + (j + 1) ∈ gX7 a := by
    have : j = 0 ∨ j = 1 ∨ j = 2 ∨ j = 3 ∨ j = 4 ∨ j = 5 := by omega
    rcases this with rfl | rfl | rfl | rfl | rfl | rfl <;> simp [gX7]
  have hb : b + (j + 1) ∉ gX7 a := by simp [gX7]; omega
  refine ⟨s.tr (smf.of (sm.rf.cp hm)), fun k hk => ?_, h2, fun i i1 i2 k hk => ?_⟩
  · rw [i_cp, if_neg fun q => by omega]; exact h1 k hk
  · rw [i_cp]
    by_cases e : i = j + 1
    · subst e
      rw [if_pos ⟨rfl, Nat.zero_le _, by omega⟩, Nat.sub_zero, Nat.zero_add]
      exact s.i hb k
    · rw [if_neg fun q => by omega]
      exact h3 i i1 (by omega) k hk
theorem ck_cp {h : am_H} {x y A B N : Nat} {n : Int32} (hx : x = A) (hy : y = B) (kA : am_k h A = (2, N)) (kB : am_k h B = (2, N)) (hn : n = nI N) (hN : N < 1000) : ((am_k h x).1 = 2 ∧ (am_k h y).1 = 2) ∧ (¬ nI 0 < 0 ∧ ¬ nI 0 < 0 ∧ ¬ n < 0) ∧ (nI 0).toNatClampNeg + n.toNatClampNeg ≤ (am_k h y).2 ∧ (nI 0).toNatClampNeg + n.toNatClampNeg ≤ (am_k h x).2 := by
  subst hx hy hn
  rw [kA, kB, q_cl (by omega), q_cl (by omega)]
  exact ⟨⟨rfl, rfl⟩, ⟨by decide, by decide, nI_pos (by omega)⟩, by show 0 + N ≤ N; omega, by show 0 + N ≤ N; omega⟩
set_option maxHeartbeats 4000000 in
theorem c_copyFrom {xs : am_X} {d : Nat} {h : am_H} {a b : Nat} (hd : 1 ≤ d) (hga : gs h a) (hgb : gs h b) (hab : a + 7 ≤ b ∨ b + 7 ≤ a) {Q : am_Q} (HQ : ∀ h', cpJ h a b 6 h' → Q (.inl none) h') : am_C xs am_P0 d m_Gr_copyFrom [.ref a, .ref b] h Q := by
  obtain ⟨hka, ⟨a1, a2, a3, a4, a5, a6⟩, ar3, ar4, ar5, ar6, ar7, ar8⟩ := id hga
  obtain ⟨hkb, ⟨b1, b2, b3, b4, b5, b6⟩, br3, br4, br5, br6, br7, br8⟩ := id hgb
  have hne : b ≠ a := by omega
  refine am_C_le hd (am_enter (d := 0) ap_Gr_copyFrom rfl ?_) (fun _ _ k => k)
  refine am_go (fun _ => false) (fun K cal Q' hK hC hQ => ?_)
  refine And.intro hkb (And.intro hka (And.intro hkb (And.intro hka (And.intro hkb (And.intro hka (And.intro hkb (And.intro hka ?_)))))))
  -- the heap ahead of the rows
  have J0 : cpJ h a b 0 (am_pr (am_pi (am_pi (am_pi h a (128 % 64) (am_i h b (128 % 64))) a (129 % 64) (am_i (am_pi h a (128 % 64) (am_i h b (128 % 64))) b (129 % 64))) a (130 % 64) (am_i (am_pi (am_pi h a (128 % 64) (am_i h b (128 % 64))) a (129 % 64) (am_i (am_pi h a (128 % 64) (am_i h b (128 % 64))) b (129 % 64))) b (130 % 64))) a 9 (am_r h b 9)) := by
    refine ⟨(smf.of (((sm.rf.pi (by simp)).pi (by simp)).pi (by simp))).pr, fun k hk => ?_, ?_, fun i i1 i2 => absurd i1 (by omega)⟩
    · rw [i_pr, i_pi_same, i_pi_same, i_pi_same, i_pi_ne hne, i_pi_ne hne]
      have : k = 0 ∨ k = 1 ∨ k = 2 := by omega
      rcases this with rfl | rfl | rfl <;> rfl
    · rw [r_pr, if_pos rfl, if_pos rfl]
  have c0 : (nI 0).toNatClampNeg = 0 := rfl
  have c9 : (nI 9).toNatClampNeg = 9 := rfl
  have c20 : (nI 20).toNatClampNeg = 20 := rfl
  show am_ev _ _ _ _ _ _ _ _ _ _ _ (am_pr (am_pi (am_pi (am_pi h a (128 % 64) (am_i h b (128 % 64))) a (129 % 64) (am_i (am_pi h a (128 % 64) (am_i h b (128 % 64))) b (129 % 64))) a (130 % 64) (am_i (am_pi (am_pi h a (128 % 64) (am_i h b (128 % 64))) a (129 % 64) (am_i (am_pi h a (128 % 64) (am_i h b (128 % 64))) b (129 % 64))) b (130 % 64))) a 9 (am_r h b 9))
  generalize am_pr (am_pi (am_pi (am_pi h a (128 % 64) (am_i h b (128 % 64))) a (129 % 64) (am_i (am_pi h a (128 % 64) (am_i h b (128 % 64))) b (129 % 64))) a (130 % 64) (am_i (am_pi (am_pi h a (128 % 64) (am_i h b (128 % 64))) a (129 % 64) (am_i (am_pi h a (128 % 64) (am_i h b (128 % 64))) b (129 % 64))) b (130 % 64))) a 9 (am_r h b 9) = h0 at J0
  have ka : ∀ {j h'}, cpJ h a b j h' → am_k h' a = (1, 2) := fun J => (J.1.k a).trans hka
  have kb : ∀ {j h'}, cpJ h a b j h' → am_k h' b = (1, 2) := fun J => (J.1.k b).trans hkb
  have ra : ∀ {j h' k}, cpJ h a b j h' → k ≠ 9 → am_r h' a k = am_r h a k := fun J hk => J.1.2.1 a _ fun q => hk q.2
  have rb : ∀ {j h' k}, cpJ h a b j h' → am_r h' b k = am_r h b k := fun J => J.1.2.1 b _ fun q => hne q.1
  refine And.intro (kb J0) (And.intro (ka J0) (And.intro (ck_cp ((ra J0 (by decide)).trans ar3) ((rb J0).trans br3) ((J0.1.k _).trans a1) ((J0.1.k _).trans b1) rfl (by decide)) ?_))
  rw [show am_r h0 b (131 % 64) = b + 1 from (rb J0).trans br3, show am_r h0 a (131 % 64) = a + 1 from (ra J0 (by decide)).trans ar3, c0, c9]
  have J1 := J0.s (by decide) hab
  rw [show gln (0 + 1) = 9 from rfl] at J1
  generalize am_cp h0 (b + 1) 0 (a + 1) 0 9 = h1 at J1
  refine And.intro (kb J1) (And.intro (ka J1) (And.intro (ck_cp ((ra J1 (by decide)).trans ar4) ((rb J1).trans br4) ((J1.1.k _).trans a2) ((J1.1.k _).trans b2) rfl (by decide)) ?_))
  rw [show am_r h1 b (132 % 64) = b + 2 from (rb J1).trans br4, show am_r h1 a (132 % 64) = a + 2 from (ra J1 (by decide)).trans ar4, c0, c9]
  have J2 := J1.s (by decide) hab
  rw [show gln (0 + 1 + 1) = 9 from rfl] at J2
  generalize hh2 : am_cp h1 (b + 2) 0 (a + 2) 0 9 = h2
  have J2 : cpJ h a b 2 h2 := by rw [← hh2]; exact J2
  refine And.intro (kb J2) (And.intro (ka J2) (And.intro (ck_cp ((ra J2 (by decide)).trans ar5) ((rb J2).trans br5) ((J2.1.k _).trans a3) ((J2.1.k _).trans b3) rfl (by decide)) ?_))
  rw [show am_r h2 b (133 % 64) = b + 3 from (rb J2).trans br5, show am_r h2 a (133 % 64) = a + 3 from (ra J2 (by decide)).trans ar5, c0, c20]
  have J3 := J2.s (by decide) hab
  generalize hh3 : am_cp h2 (b + 3) 0 (a + 3) 0 20 = h3
  have J3 : cpJ h a b 3 h3 := by rw [← hh3]; exact J3
  refine And.intro (kb J3) (And.intro (ka J3) (And.intro (ck_cp ((ra J3 (by decide)).trans ar6) ((rb J3).trans br6) ((J3.1.k _).trans a4) ((J3.1.k _).trans b4) rfl (by decide)) ?_))
  rw [show am_r h3 b (134 % 64) = b + 4 from (rb J3).trans br6, show am_r h3 a (134 % 64) = a + 4 from (ra J3 (by decide)).trans ar6, c0, c20]
  have J4 := J3.s (by decide) hab
  generalize hh4 : am_cp h3 (b + 4) 0 (a + 4) 0 20 = h4
  have J4 : cpJ h a b 4 h4 := by rw [← hh4]; exact J4
  refine And.intro (kb J4) (And.intro (ka J4) (And.intro (ck_cp ((ra J4 (by decide)).trans ar7) ((rb J4).trans br7) ((J4.1.k _).trans a5) ((J4.1.k _).trans b5) rfl (by decide)) ?_))
  rw [show am_r h4 b (135 % 64) = b + 5 from (rb J4).trans br7, show am_r h4 a (135 % 64) = a + 5 from (ra J4 (by decide)).trans ar7, c0, c20]
  have J5 := J4.s (by decide) hab
  generalize hh5 : am_cp h4 (b + 5) 0 (a + 5) 0 20 = h5
  have J5 : cpJ h a b 5 h5 := by rw [← hh5]; exact J5
  refine And.intro (kb J5) (And.intro (ka J5) (And.intro (ck_cp ((ra J5 (by decide)).trans ar8) ((rb J5).trans br8) ((J5.1.k _).trans a6) ((J5.1.k _).trans b6) rfl (by decide)) ?_))
  rw [show am_r h5 b (136 % 64) = b + 6 from (rb J5).trans br8, show am_r h5 a (136 % 64) = a + 6 from (ra J5 (by decide)).trans ar8, c0, c20]
  exact And.intro trivial (hQ _ _ (HQ _ (J5.s (by decide) hab)))

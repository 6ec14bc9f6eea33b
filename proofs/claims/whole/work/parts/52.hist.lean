/-! HISTORY: one back; an edge dropped -/
theorem q_back8 : ∀ x, x < 8 → nI x + nI 8 - nI 1 - (nI x + nI 8 - nI 1) / nI 8 * nI 8 = nI ((x + 7) % 8) := by decide +kernel
set_option maxHeartbeats 4000000 in
theorem c_restore {xs : am_X} {d : Nat} {h : am_H} {cur : gD} {hist : List gD} (hd : 2 ≤ d) (hs : sh h) (hp : cgp h 3 cur) (hh : chi h hist) {Q : am_Q}
    (H0 : hist = [] → Q (.inl (some (.int (-nI 1)))) h) (HQ : ∀ g t h', hist = g :: t → clG h h' → cgp h' 3 g → chi h' t → Q (.inl (some (.int (nI t.length)))) h') : am_C xs am_P0 d m_Hi_restore [.ref 10, .ref 3] h Q := by
  obtain ⟨nx, n8, e1, e2, l8, hj⟩ := hh
  refine am_C_le hd (am_enter (d := 1) ap_Hi_restore rfl ?_) (fun _ _ k => k)
  refine am_go (fun _ => false) (fun K cal Q' hK hC hQ => ?_)
  cases hist with
  | nil =>
    refine And.intro (sk_10 hs) (And.intro (fun z => absurd ?_ z) (fun _ => And.intro trivial (hQ _ _ (H0 rfl))))
    show am_i h 10 2 = 0
    rw [e2]
    rfl
  | cons g t =>
    rw [List.length_cons] at e2 l8
    have hg := hj 0 g rfl
    rw [show (nx + 7 - 0) % 8 = (nx + 7) % 8 by omega] at hg
    have m8 : (nx + 7) % 8 < 8 := Nat.mod_lt _ (by decide)
    obtain ⟨grow, rrow⟩ := gs_row hs ((nx + 7) % 8) m8
    refine And.intro (sk_10 hs) (And.intro (fun _ => ?_) (fun z => absurd (by show am_i h 10 2 = 0; exact Classical.not_not.mp z) (by rw [e2]; exact nI_ne0 (by omega) (by omega))))
    refine And.intro (sk_10 hs) (And.intro (show ¬ nI 8 = 0 by decide) (And.intro (sk_10 hs) ?_))
    have em : am_i h 10 (257 % 64) + nI 8 - nI 1 - (am_i h 10 (257 % 64) + nI 8 - nI 1) / nI 8 * nI 8 = nI ((nx + 7) % 8) := by rw [show am_i h 10 (257 % 64) = nI nx from e1]; exact q_back8 nx n8
    rw [em]
    refine And.intro (sk_10 hs) (And.intro (sk_10 hs) ?_)
    have en : am_i (am_pi h 10 (257 % 64) (nI ((nx + 7) % 8))) 10 (258 % 64) - nI 1 = nI t.length := by rw [i_pi_k (by decide), show am_i h 10 (258 % 64) = nI (t.length + 1) from e2]; exact nI_pred _
    rw [en]
    generalize hh1 : am_pi (am_pi h 10 (257 % 64) (nI ((nx + 7) % 8))) 10 (258 % 64) (nI t.length) = h1
    have s1 : sm [10] h h1 := by rw [← hh1]; exact (sm.rf.pi (by decide)).pi (by decide)
    have hs1 := s1.sh hs
    have f1 : am_i h1 10 1 = nI ((nx + 7) % 8) := by rw [← hh1, i_pi_k (by decide)]; exact i_pi_at
    have f2 : am_i h1 10 2 = nI t.length := by rw [← hh1]; exact i_pi_at
    have mv1 : ∀ {b g}, cgp h b g → (b = 3 ∨ 12 ≤ b) → cgp h1 b g := fun p hb => p.mvs s1 (fun x hx => by have := List.mem_singleton.mp hx; omega) (fun x hx => by have := List.mem_singleton.mp hx; omega)
    refine And.intro (sk_10 hs1) (And.intro (sk_10 hs1) (And.intro (ck_row (sr_10_0 hs1) (sk_11 hs1) f1 m8 (by omega)) ?_))
    have er : am_r h1 (am_r h1 10 0) (am_i h1 10 1).toNatClampNeg = hrow ((nx + 7) % 8) := by rw [sr_10_0 hs1, f1, q_cl (by omega)]; exact (gs_row hs1 _ m8).2
    refine And.intro (sk_3 hs1) ?_
    show cal 19 [.ref 3, .ref (am_r h1 (am_r h1 10 0) (am_i h1 10 1).toNatClampNeg)] h1 _
    rw [er]
    refine hC _ _ _ _ (c_copyFrom (by decide) (gs_3 hs1) (gs_row hs1 _ m8).1 (by unfold hrow; omega) (fun h2 J => ?_))
    have s := J.1
    have nin : ∀ x, ¬ (3 ≤ x ∧ x ≤ 9) → x ∉ gX7 3 := fun x hx z => by
      simp [gX7] at z
      omega
    have hs2 : sh h2 := s.sh (by decide) hs1
    have f2' : am_i h2 10 2 = nI t.length := (s.i (nin 10 (by omega)) 2).trans f2
    refine And.intro (sk_10 hs2) (And.intro trivial (hQ _ _ ?_))
    rw [show am_i h2 10 (258 % 64) = nI t.length from f2']
    refine HQ g t h2 rfl ⟨hs2, s.1.trans s1.1, ⟨s.2.2.1.1.trans s1.n, s.2.2.1.2.trans s1.cs⟩, fun x k hx => (s.2.1 x k fun z => by omega).trans (s1.r x k), fun x hx => ?_⟩ ((mv1 hg (by unfold hrow; omega)).copy J (gs_3 hs1) (by decide)) ⟨(nx + 7) % 8, m8, (s.i (nin 10 (by omega)) 1).trans f1, f2', by omega, fun j g9 hg9 => ?_⟩
    · have a1 := s1.2.2 x (fun z => by have := List.mem_singleton.mp z; omega)
      have a2 := s.2.2.2 x (nin x (by omega))
      exact ⟨a2.1.trans a1.1, a2.2.trans a1.2⟩
    · have := hj (j + 1) g9 hg9
      have jl : j < t.length := (List.getElem?_eq_some_iff.mp hg9).1
      rw [show ((nx + 7) % 8 + 7 - j) % 8 = (nx + 7 - (j + 1)) % 8 by omega]
      exact (mv1 this (by unfold hrow; omega)).mvf s (by decide) (by unfold hrow; omega)
/-- rows behind an edge come one nearer -/
def drp {α : Type} (e : Nat) (f : Nat → α) : Nat → α := fun k => if k < e then f k else f (k + 1)
set_option maxHeartbeats 4000000 in
theorem c_dropEdge {xs : am_X} {d : Nat} {h : am_H} {a m e : Nat} (hd : 1 ≤ d) (hg : gs h a) (hm : am_i h a 1 = nI m) (hm20 : m ≤ 20) (he : e < m) {Q : am_Q}
    (HQ : ∀ h', sm [a, a + 3, a + 4, a + 5, a + 6] h h' → (∀ k, am_i h' a k = if k = 1 then nI (m - 1) else am_i h a k) → (∀ j k, 3 ≤ j → j ≤ 6 → k < m - 1 → am_i h' (a + j) k = drp e (am_i h (a + j)) k) → Q (.inl none) h') : am_C xs am_P0 d m_Gr_dropEdge [.ref a, .int (nI e)] h Q := by
  obtain ⟨hk, ⟨k1, k2, k3, k4, k5, k6⟩, r3, r4, r5, r6, r7, r8⟩ := hg
  refine am_C_le hd (am_enter (d := 0) ap_Gr_dropEdge rfl ?_) (fun _ _ k => k)
  refine am_go (fun p => p == 4) (fun K cal Q' hK hC hQ => hK _ _ _ _ ?_)
  have na : a ∉ [a + 3, a + 4, a + 5, a + 6] := fun z => by simp at z
  refine am_for (m - 1) (fun i L h' => e ≤ i ∧ L = [.ref a, .int (nI e), .int (nI (i + 1))] ∧ sm [a + 3, a + 4, a + 5, a + 6] h h' ∧ ∀ j k, 3 ≤ j → j ≤ 6 → am_i h' (a + j) k = if k < i then drp e (am_i h (a + j)) k else am_i h (a + j) k) ?_ ?_ e (by omega) _ _ ⟨Nat.le_refl _, by rw [← nI_1 e]; rfl, sm.rf, fun j k _ _ => ?_⟩
  · rintro i hi9 L h' ⟨hei, rfl, s, hv⟩ next
    have hn' : am_i h' a 1 = nI m := (s.i na 1).trans hm
    have hk' := (s.k a).trans hk
    have R5 : am_r h' a 5 = a + 3 := (s.r a 5).trans r5
    have R6 : am_r h' a 6 = a + 4 := (s.r a 6).trans r6
    have R7 : am_r h' a 7 = a + 5 := (s.r a 7).trans r7
    have R8 : am_r h' a 8 = a + 6 := (s.r a 8).trans r8
    have K3 := (s.k (a + 3)).trans k3
    have K4 := (s.k (a + 4)).trans k4
    have K5 := (s.k (a + 5)).trans k5
    have K6 := (s.k (a + 6)).trans k6
    have eP : nI (i + 1) - nI 1 = nI i := nI_pred i
    have c1 : (nI (i + 1)).toNatClampNeg = i + 1 := q_cl (by omega)
    have c2 : (nI (i + 1) - nI 1).toNatClampNeg = i := by rw [eP]; exact q_cl (by omega)
    have eI : am_inc (nI (i + 1)) (Int.ofNat 1) = nI (i + 1 + 1) := nI_1 (i + 1)
    have A : ∀ {h9 : am_H} {x b : Nat}, x = b → am_k h9 b = (2, 20) → am_arr h9 x 2 (nI (i + 1)) := fun hx hb => ck_row hx hb rfl (by omega) (by omega)
    have B : ∀ {h9 : am_H} {x b : Nat}, x = b → am_k h9 b = (2, 20) → am_arr h9 x 2 (nI (i + 1) - nI 1) := fun hx hb => ck_row hx hb eP (by omega) (by omega)
    refine am_go (fun p => p == 4) (fun K cal Q' hK hC hQ => ?_)
    refine And.intro hk' (And.intro (fun z => absurd z (q_ge hn' (by omega) (by omega))) (fun _ => ?_))
    refine And.intro hk' (And.intro hk' (And.intro (A R5 K3) (And.intro (B R5 K3) ?_)))
    refine And.intro hk' (And.intro hk' (And.intro (A R6 K4) (And.intro (B R6 K4) ?_)))
    refine And.intro hk' (And.intro hk' (And.intro (A R7 K5) (And.intro (B R7 K5) ?_)))
    refine And.intro hk' (And.intro hk' (And.intro (A R8 K6) (And.intro (B R8 K6) ?_)))
    refine hK _ _ _ _ (next _ _ ⟨by omega, by rw [← eI]; rfl, ?_, fun j k j3 j6 => ?_⟩)
    · rw [show am_r h' a (133 % 64) = a + 3 from R5]
      show sm _ h (am_pi (am_pi (am_pi (am_pi h' (a + 3) _ _) (am_r h' a 6) _ _) (am_r h' a 7) _ _) (am_r h' a 8) _ _)
      rw [R6, R7, R8]
      exact (((s.pi (by simp)).pi (by simp)).pi (by simp)).pi (by simp)
    · rw [show am_r h' a (133 % 64) = a + 3 from R5]
      show am_i (am_pi (am_pi (am_pi (am_pi h' (a + 3) (nI (i + 1) - nI 1).toNatClampNeg (am_i h' (a + 3) (nI (i + 1)).toNatClampNeg)) (am_r h' a 6) (nI (i + 1) - nI 1).toNatClampNeg (am_i (am_pi h' (a + 3) (nI (i + 1) - nI 1).toNatClampNeg (am_i h' (a + 3) (nI (i + 1)).toNatClampNeg)) (am_r h' a 6) (nI (i + 1)).toNatClampNeg)) (am_r h' a 7) (nI (i + 1) - nI 1).toNatClampNeg (am_i (am_pi (am_pi h' (a + 3) (nI (i + 1) - nI 1).toNatClampNeg (am_i h' (a + 3) (nI (i + 1)).toNatClampNeg)) (am_r h' a 6) (nI (i + 1) - nI 1).toNatClampNeg (am_i (am_pi h' (a + 3) (nI (i + 1) - nI 1).toNatClampNeg (am_i h' (a + 3) (nI (i + 1)).toNatClampNeg)) (am_r h' a 6) (nI (i + 1)).toNatClampNeg)) (am_r h' a 7) (nI (i + 1)).toNatClampNeg)) (am_r h' a 8) (nI (i + 1) - nI 1).toNatClampNeg (am_i (am_pi (am_pi (am_pi h' (a + 3) (nI (i + 1) - nI 1).toNatClampNeg (am_i h' (a + 3) (nI (i + 1)).toNatClampNeg)) (am_r h' a 6) (nI (i + 1) - nI 1).toNatClampNeg (am_i (am_pi h' (a + 3) (nI (i + 1) - nI 1).toNatClampNeg (am_i h' (a + 3) (nI (i + 1)).toNatClampNeg)) (am_r h' a 6) (nI (i + 1)).toNatClampNeg)) (am_r h' a 7) (nI (i + 1) - nI 1).toNatClampNeg (am_i (am_pi (am_pi h' (a + 3) (nI (i + 1) - nI 1).toNatClampNeg (am_i h' (a + 3) (nI (i + 1)).toNatClampNeg)) (am_r h' a 6) (nI (i + 1) - nI 1).toNatClampNeg (am_i (am_pi h' (a + 3) (nI (i + 1) - nI 1).toNatClampNeg (am_i h' (a + 3) (nI (i + 1)).toNatClampNeg)) (am_r h' a 6) (nI (i + 1)).toNatClampNeg)) (am_r h' a 7) (nI (i + 1)).toNatClampNeg)) (am_r h' a 8) (nI (i + 1)).toNatClampNeg)) (a + j) k = _
      rw [R6, R7, R8, c1, c2]
      have old : ∀ q, 3 ≤ q → q ≤ 6 → am_i h' (a + q) (i + 1) = am_i h (a + q) (i + 1) := fun q q3 q6 => by rw [hv q (i + 1) q3 q6, if_neg (by omega)]
      have dr : ∀ (f : Nat → Int32), drp e f i = f (i + 1) := fun f => if_neg (by omega)
      have : j = 3 ∨ j = 4 ∨ j = 5 ∨ j = 6 := by omega
      by_cases w : k = i
      · subst w
        rw [if_pos (by omega), dr]
        rcases this with rfl | rfl | rfl | rfl
        · rw [i_pi_ne (by omega), i_pi_ne (by omega), i_pi_ne (by omega), i_pi_at]; exact old 3 (by omega) (by omega)
        · rw [i_pi_ne (by omega), i_pi_ne (by omega), i_pi_at, i_pi_ne (by omega)]; exact old 4 (by omega) (by omega)
        · rw [i_pi_ne (by omega), i_pi_at, i_pi_ne (by omega), i_pi_ne (by omega)]; exact old 5 (by omega) (by omega)
        · rw [i_pi_at, i_pi_ne (by omega), i_pi_ne (by omega), i_pi_ne (by omega)]; exact old 6 (by omega) (by omega)
      · have e9 : (k < i + 1) ↔ (k < i) := by omega
        simp only [e9]
        rw [← hv j k j3 j6]
        rcases this with rfl | rfl | rfl | rfl
        · rw [i_pi_ne (by omega), i_pi_ne (by omega), i_pi_ne (by omega), i_pi_k w]
        · rw [i_pi_ne (by omega), i_pi_ne (by omega), i_pi_k w, i_pi_ne (by omega)]
        · rw [i_pi_ne (by omega), i_pi_k w, i_pi_ne (by omega), i_pi_ne (by omega)]
        · rw [i_pi_k w, i_pi_ne (by omega), i_pi_ne (by omega), i_pi_ne (by omega)]
  · rintro L h' ⟨hei, rfl, s, hv⟩
    have hn' : am_i h' a 1 = nI m := (s.i na 1).trans hm
    have hk' := (s.k a).trans hk
    refine am_go (fun p => p == 4) (fun K cal Q' hK hC hQ => ?_)
    refine And.intro hk' (And.intro (fun _ => ?_) (fun z => absurd (by show am_i h' a 1 ≤ nI (m - 1 + 1); rw [hn']; exact nI_le (by omega) (by omega)) z))
    refine And.intro hk' (And.intro hk' (And.intro trivial (hQ _ _ ?_)))
    have ep : am_i h' a (129 % 64) - nI 1 = nI (m - 1) := by
      rw [show am_i h' a (129 % 64) = nI m from hn']
      have := nI_pred (m - 1)
      rw [show m - 1 + 1 = m by omega] at this
      exact this
    rw [ep]
    refine HQ _ ((s.mo (fun x hx => List.mem_cons_of_mem _ hx)).pi List.mem_cons_self) (fun k => ?_) (fun j k j3 j6 hk9 => ?_)
    · rw [i_pi_same, s.i na k]
    · rw [i_pi_ne (by omega), hv j k j3 j6, if_pos hk9]
  · by_cases w : k < e
    · rw [if_pos w, drp, if_pos w]
    · rw [if_neg w]

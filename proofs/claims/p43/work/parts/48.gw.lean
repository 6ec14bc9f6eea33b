/-! GRAPH: writes -/
theorem cg.gs {h : am_H} {a n m T : Nat} {lo hi : Nat → Nat} (hg : cg h a n m T lo hi) : gs h a := hg.1
/-- the cost of an edge: by its codes, if there are any -/
def coF (cs : Option (List Int)) (w l g : Nat) : Nat := match cs with
  | none => w
  | some cs => (max 1 (min 9999 (foEv cs w l g))).toNat
/-- the formula of a graph -/
def gfo (h : am_H) (a : Nat) (cs : Option (List Int)) : Prop := match cs with
  | none => am_r h a 9 = 0
  | some cs => 95 ≤ am_r h a 9 ∧ fcs h (am_r h a 9) cs ∧ foOk cs 0 1
theorem q_clamp {v : Int32} {z : Int} (hv : v.toInt = z) : (if nI 1 < (if v < nI 9999 then v else nI 9999) then (if v < nI 9999 then v else nI 9999) else nI 1) = nI (max 1 (min 9999 z)).toNat := by
  have e1 : (nI 9999).toInt = 9999 := by decide
  have e2 : (nI 1).toInt = 1 := by decide
  rw [fa_eq, nI_toInt (by omega)]
  by_cases h : v < nI 9999
  · rw [if_pos h]
    rw [fa_lt, e1, hv] at h
    by_cases h2 : nI 1 < v
    · rw [if_pos h2, hv]; rw [fa_lt, e2, hv] at h2; omega
    · rw [if_neg h2, e2]; rw [fa_lt, e2, hv] at h2; omega
  · rw [if_neg h]
    rw [fa_lt, e1, hv] at h
    rw [if_pos (by decide), e1]
    omega
def gfX (h : am_H) (a : Nat) (cs : Option (List Int)) : List Nat := match cs with
  | none => [a + 6]
  | some _ => [a + 6, am_r h a 9 + 2]
set_option maxHeartbeats 4000000 in
theorem c_updateCost {xs : am_X} {d : Nat} {h : am_H} {a e w l g lo hi : Nat} {cs : Option (List Int)} (hd : 3 ≤ d) (ha : a + 6 < 95) (hg : gs h a) (hf : gfo h a cs) (he : e < 20) (hlo : am_i h (a + 3) e = nI lo) (hhi : am_i h (a + 4) e = nI hi) (hw : am_i h (a + 5) e = nI w) (hl : am_i h (a + 1) lo = nI l) (hh : am_i h (a + 1) hi = nI g) (b1 : lo < 9) (b2 : hi < 9) (b3 : 1 ≤ w ∧ w ≤ 99) (b4 : l ≤ 99) (b5 : g ≤ 99) {Q : am_Q}
    (HQ : ∀ h', sm (gfX h a cs) h h' → (∀ k, am_i h' (a + 6) k = if k = e then nI (coF cs w l g) else am_i h (a + 6) k) → Q (.inl none) h') : am_C xs am_P0 d m_Gr_updateCost [.ref a, .int (nI e)] h Q := by
  obtain ⟨hk, ⟨k1, k2, k3, k4, k5, k6⟩, r3, r4, r5, r6, r7, r8⟩ := hg
  refine am_C_le hd (am_enter (d := 2) ap_Gr_updateCost rfl ?_) (fun _ _ k => k)
  refine am_go (fun p => p == 45) (fun K cal Q' hK hC hQ => ?_)
  refine And.intro hk (And.intro (ck_row r7 k5 rfl he (by omega)) (And.intro hk ?_))
  have cl : (nI e).toNatClampNeg = e := q_cl (by omega)
  have eW : am_i h (am_r h a 7) (nI e).toNatClampNeg = nI w := by rw [r7, cl]; exact hw
  have fin : ∀ (v : Int32) (h1 : am_H), sm (gfX h a cs) h h1 → (∀ k, am_i h1 (a + 6) k = am_i h (a + 6) k) → (if nI 1 < (if v < nI 9999 then v else nI 9999) then (if v < nI 9999 then v else nI 9999) else nI 1) = nI (coF cs w l g) → am_W xs (am_code at_Gr_updateCost) (am_hd ah_Gr_updateCost) (am_C xs am_P0 2) Q 45 [.ref a, .int (nI e), .int v] [] h1 := by
    intro v h1 s h6 hv
    refine am_go (fun _ => false) (fun K cal Q' hK hC hQ => ?_)
    refine And.intro ((s.k a).trans hk) (And.intro (ck_row ((s.r a 8).trans r8) ((s.k _).trans k6) rfl he (by omega)) (And.intro trivial (hQ _ _ ?_)))
    rw [show am_r h1 a (136 % 64) = a + 6 from (s.r a 8).trans r8, cl, hv]
    refine HQ _ (s.pi (by cases cs <;> exact List.mem_cons_self)) (fun k => ?_)
    rw [i_pi_same]
    by_cases q : k = e
    · rw [if_pos q, if_pos q]
    · rw [if_neg q, if_neg q]; exact h6 k
  cases cs with
  | none =>
    have hf : am_r h a 9 = 0 := hf
    refine And.intro (fun _ => hK _ _ _ _ ?_) (fun z => absurd hf z)
    have := fin (nI w) h sm.rf (fun _ => rfl) ?_
    · rw [← eW] at this; exact this
    · rw [q_clamp (nI_toInt (by omega))]
      congr 1
      show _ = w
      omega
  | some cs =>
    obtain ⟨hF, hcs, hok⟩ := hf
    refine And.intro (fun z => absurd (show am_r h a 9 = 0 from z) (by omega)) (fun _ => ?_)
    have eL : am_i h (am_r h a 5) (nI e).toNatClampNeg = nI lo := by rw [r5, cl]; exact hlo
    have eH : am_i h (am_r h a 6) (nI e).toNatClampNeg = nI hi := by rw [r6, cl]; exact hhi
    refine And.intro hk (And.intro hk (And.intro hk (And.intro (ck_row r5 k3 rfl he (by omega)) ?_)))
    refine And.intro (ck_row r3 k1 eL b1 (by omega)) ?_
    refine And.intro hk (And.intro hk (And.intro (ck_row r6 k4 rfl he (by omega)) ?_))
    refine And.intro (ck_row r3 k1 eH b2 (by omega)) ?_
    have vL : am_i h (am_r h a 3) (am_i h (am_r h a 5) (nI e).toNatClampNeg).toNatClampNeg = nI l := by rw [eL, r3, q_cl (by omega)]; exact hl
    have vH : am_i h (am_r h a 3) (am_i h (am_r h a 6) (nI e).toNatClampNeg).toNatClampNeg = nI g := by rw [eH, r3, q_cl (by omega)]; exact hh
    refine And.intro hcs.1 (hC _ _ _ _ (c_evaluate (by decide) hcs hok (wi := w) (li := l) (gi := g) (by rw [eW]; exact nI_toInt (by omega)) (by rw [vL]; exact nI_toInt (by omega)) (by rw [vH]; exact nI_toInt (by omega)) (by omega) (by omega) (by omega) (fun h1 r s hr => ?_)))
    have n6 : a + 6 ∉ [am_r h a 9 + 2] := fun z => by have := List.mem_singleton.mp z; omega
    refine hK _ _ _ _ (fin r h1 (s.mo fun x hx => ?_) (fun k => s.i n6 k) ?_)
    · exact List.mem_cons_of_mem _ hx
    · exact q_clamp hr
set_option maxHeartbeats 4000000 in
theorem c_putEdge {xs : am_X} {d : Nat} {h : am_H} {a m : Nat} (hd : 1 ≤ d) (hg : gs h a) (hm : am_i h a 1 = nI m) (hm20 : m < 20) {u v w : Nat} (hu : u < 9) (hv : v < 9) {Q : am_Q}
    (HQ : ∀ h', sm [a, a + 3, a + 4, a + 5] h h' → (∀ k, am_i h' a k = if k = 1 then nI (m + 1) else am_i h a k) → (∀ k, am_i h' (a + 3) k = if k = m then nI (Nat.min u v) else am_i h (a + 3) k) → (∀ k, am_i h' (a + 4) k = if k = m then nI (Nat.max u v) else am_i h (a + 4) k) → (∀ k, am_i h' (a + 5) k = if k = m then nI w else am_i h (a + 5) k) → Q (.inl none) h') : am_C xs am_P0 d m_Gr_putEdge [.ref a, .int (nI u), .int (nI v), .int (nI w)] h Q := by
  obtain ⟨hk, ⟨k1, k2, k3, k4, k5, k6⟩, r3, r4, r5, r6, r7, r8⟩ := hg
  have eMin : (if nI v < nI u then nI v else nI u) = nI (Nat.min u v) := by
    by_cases q : v < u
    · rw [if_pos (nI_lt q (by omega))]; congr 1; exact (Nat.min_eq_right (by omega)).symm
    · rw [if_neg (nI_nlt (by omega) (by omega))]; congr 1; exact (Nat.min_eq_left (by omega)).symm
  have eMax : (if nI u < nI v then nI v else nI u) = nI (Nat.max u v) := by
    by_cases q : u < v
    · rw [if_pos (nI_lt q (by omega))]; congr 1; exact (Nat.max_eq_right (by omega)).symm
    · rw [if_neg (nI_nlt (by omega) (by omega))]; congr 1; exact (Nat.max_eq_left (by omega)).symm
  refine am_C_le hd (am_enter (d := 0) ap_Gr_putEdge rfl ?_) (fun _ _ k => k)
  refine am_go (fun _ => false) (fun K cal Q' hK hC hQ => ?_)
  refine And.intro hk (And.intro (fun _ => ?_) (fun z => absurd ?_ z))
  rotate_left
  · show am_i h a 1 < nI 20
    rw [hm]; exact nI_lt hm20 (by omega)
  refine And.intro hk (And.intro hk (And.intro (ck_row r5 k3 hm hm20 (by omega)) ?_))
  have m1 : (am_i h a 1).toNatClampNeg = m := by rw [hm]; exact q_cl (by omega)
  have e3 : am_r h a (133 % 64) = a + 3 := r5
  have m1' : (am_i h a (129 % 64)).toNatClampNeg = m := m1
  rw [e3, m1', eMin]
  have na : a ≠ a + 3 := by omega
  have hm1 : am_i (am_pi h (a + 3) m (nI (Nat.min u v))) a 1 = nI m := by rw [i_pi_ne na]; exact hm
  refine And.intro hk (And.intro hk (And.intro (ck_row r6 k4 hm1 hm20 (by omega)) ?_))
  have e4 : am_r (am_pi h (a + 3) m (nI (Nat.min u v))) a (134 % 64) = a + 4 := r6
  have m2 : (am_i (am_pi h (a + 3) m (nI (Nat.min u v))) a (129 % 64)).toNatClampNeg = m := by rw [show am_i (am_pi h (a + 3) m (nI (Nat.min u v))) a (129 % 64) = nI m from hm1]; exact q_cl (by omega)
  rw [e4, m2, eMax]
  have hm2 : am_i (am_pi (am_pi h (a + 3) m (nI (Nat.min u v))) (a + 4) m (nI (Nat.max u v))) a 1 = nI m := by rw [i_pi_ne (by omega)]; exact hm1
  refine And.intro hk (And.intro hk (And.intro (ck_row r7 k5 hm2 hm20 (by omega)) ?_))
  have e5 : am_r (am_pi (am_pi h (a + 3) m (nI (Nat.min u v))) (a + 4) m (nI (Nat.max u v))) a (135 % 64) = a + 5 := r7
  have m3 : (am_i (am_pi (am_pi h (a + 3) m (nI (Nat.min u v))) (a + 4) m (nI (Nat.max u v))) a (129 % 64)).toNatClampNeg = m := by rw [show am_i (am_pi (am_pi h (a + 3) m (nI (Nat.min u v))) (a + 4) m (nI (Nat.max u v))) a (129 % 64) = nI m from hm2]; exact q_cl (by omega)
  rw [e5, m3]
  have hm3 : am_i (am_pi (am_pi (am_pi h (a + 3) m (nI (Nat.min u v))) (a + 4) m (nI (Nat.max u v))) (a + 5) m (nI w)) a 1 = nI m := by rw [i_pi_ne (by omega)]; exact hm2
  refine And.intro hk (And.intro hk (And.intro trivial (hQ _ _ ?_)))
  have e9 : am_i (am_pi (am_pi (am_pi h (a + 3) m (nI (Nat.min u v))) (a + 4) m (nI (Nat.max u v))) (a + 5) m (nI w)) a (129 % 64) + nI 1 = nI (m + 1) := by rw [show am_i (am_pi (am_pi (am_pi h (a + 3) m (nI (Nat.min u v))) (a + 4) m (nI (Nat.max u v))) (a + 5) m (nI w)) a (129 % 64) = nI m from hm3]; exact nI_add m 1
  rw [e9]
  refine HQ _ ((((sm.rf.pi (by simp)).pi (by simp)).pi (by simp)).pi (by simp)) (fun k => ?_) (fun k => ?_) (fun k => ?_) (fun k => ?_)
  · rw [i_pi_same, i_pi_ne (by omega), i_pi_ne (by omega), i_pi_ne (by omega)]
  · rw [i_pi_ne (by omega), i_pi_ne (by omega), i_pi_ne (by omega), i_pi_same]
  · rw [i_pi_ne (by omega), i_pi_ne (by omega), i_pi_same, i_pi_ne (by omega)]
  · rw [i_pi_ne (by omega), i_pi_same, i_pi_ne (by omega), i_pi_ne (by omega)]

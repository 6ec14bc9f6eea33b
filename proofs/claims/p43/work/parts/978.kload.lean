/-! THE CLASS: load, the call -/
def tOf (st : stD) (k : Nat) : tX := (k, st.2.2.1.2)
def stF (st : stD) (v : Int32) : stD := (st.1, st.2.1, (0, st.2.2.1.2), v)
def stL (st : stD) (g : gD) : stD := (g, (st.1 :: st.2.1).take 8, (0, st.2.2.1.2), -nI 1)
theorem cgp.cl {h h' : am_H} {g : gD} (p : cgp h 69 g) (c : clG h h') : cgp h' 69 g := by
  obtain ⟨⟨p1, p2, p3, p4⟩, q1, q2, q3, q4, q5, q6⟩ := p
  have I : ∀ i k, i ≤ 6 → am_i h' (69 + i) k = am_i h (69 + i) k := fun i k hi => by rw [(c.2.2.2.2 (69 + i) (by omega)).1]
  have K : ∀ a, am_k h' a = am_k h a := fun a => by unfold am_k; rw [c.2.1]
  exact ⟨⟨gs_69 c.1, ⟨(I 0 0 (by decide)).trans p2.1, (I 0 1 (by decide)).trans p2.2.1, (I 0 2 (by decide)).trans p2.2.2⟩, fun e he => ⟨(I 3 e (by decide)).trans (p3 e he).1, (I 4 e (by decide)).trans (p3 e he).2⟩, p4⟩, fun e he => (I 5 e (by decide)).trans (q1 e he), fun v hv => (I 1 v (by decide)).trans (q2 v hv), fun v hv => (I 2 v (by decide)).trans (q3 v hv), fun e he => (I 6 e (by decide)).trans (q4 e he), q5.mv (c.2.2.2.1 _ _ (by omega)) (fun F hF _ => ⟨⟨K _, K _, K _⟩, fun k _ => c.2.2.2.1 _ k (by omega), fun _ k => by rw [(c.2.2.2.2 (F + 1) (by omega)).1]⟩), q6⟩
theorem chi.mvf {h h' : am_H} {hist : List gD} (ch : chi h hist) (s : smf (gX7 3) 3 h h') : chi h' hist := by
  obtain ⟨nx, n8, e1, e2, l8, hj⟩ := ch
  have I : ∀ k, am_i h' 10 k = am_i h 10 k := fun k => s.i (by simp [gX7]) k
  exact ⟨nx, n8, (I 1).trans e1, (I 2).trans e2, l8, fun j g hg => (hj j g hg).mvf s (by decide) (by unfold hrow; omega)⟩
section
variable {xs : am_X} {d : Nat} {h : am_H} {st : stD} {Q : am_Q}
set_option maxHeartbeats 8000000 in
theorem k_load (hd : 21 ≤ d) (I : CI h st) (hT : TN h) (hN : am_n h < 899000) (v : Int32) (HX : vin (st.2.2.1.1 + 1) v = false → Q (.inr 1) (am_thr h))
    (H0 : ∀ k e h', k ≤ st.2.2.1.1 → v = nI k → pText (tOf st k) = .inl e → CI h' (stF st (nI e.2)) → clF h h' → Q (.inl (some (.int (-nI e.1)))) h')
    (H1 : ∀ k s h', k ≤ st.2.2.1.1 → v = nI k → pText (tOf st k) = .inr s → CI h' (stL st (gFin s.2.1)) → clF h h' → Q (.inl (some (.int (nI (gM s.2.1))))) h') : am_C xs am_P0 d m_Mc_load [.ref 1, .int v] h Q := by
  obtain ⟨hs, i2, i3, ⟨i4, i5, i6⟩, i7⟩ := id I
  have n5 := hs.2.2
  refine am_C_le hd (am_enter (d := 20) ap_Mc_load rfl ?_) (fun _ _ k => k)
  refine am_go (fun p => p == 22) (fun K cal Q' hK hC hQ => ?_)
  have main : ∀ k, k ≤ st.2.2.1.1 → v = nI k → am_W xs (am_code at_Mc_load) (am_hd ah_Mc_load) (am_C xs am_P0 20) Q 22 [.ref 1, .int v, am_J] [] h := by
    intro k hk hv
    have G0 := fun e h' => H0 k e h' hk hv
    have G1 := fun s h' => H1 k s h' hk hv
    subst hv
    refine am_go (fun p => p == 59) (fun K cal Q' hK hC hQ => ?_)
    have s1 : sm [1] h (am_pi h 1 1 (nI 0)) := sm.rf.pi (by decide)
    have f1 : ∀ j, am_i (am_pi h 1 1 (nI 0)) 1 j = if j = 1 then nI 0 else am_i h 1 j := fun j => i_pi_same _ _ _ _ _
    refine And.intro (sk_1 hs) ?_
    show am_k (am_pi h 1 1 (nI 0)) 1 = _ ∧ _
    have hs1 := s1.sh hs
    have N1 : ∀ x, x ≠ 1 → ∀ j, am_i (am_pi h 1 1 (nI 0)) x j = am_i h x j := fun x hx j => s1.i (fun z => hx (List.mem_singleton.mp z)) j
    have p1 : cgp (am_pi h 1 1 (nI 0)) 3 st.1 := i2.mvs s1 (fun x hx => by have := List.mem_singleton.mp hx; omega) (fun x hx => by have := List.mem_singleton.mp hx; omega)
    have c1 : chi (am_pi h 1 1 (nI 0)) st.2.1 := i3.mvs s1 (fun x hx => by have := List.mem_singleton.mp hx; omega)
    have T1 : TN (am_pi h 1 1 (nI 0)) := hT
    have e1n : am_n (am_pi h 1 1 (nI 0)) = am_n h := rfl
    generalize am_pi h 1 1 (nI 0) = h1 at s1 f1 hs1 N1 p1 c1 T1 e1n ⊢
    refine And.intro (sk_1 hs1) (And.intro (sk_1 hs1) (And.intro (k15 hs1) ?_))
    show cal m_Rd_read [.ref (am_r h1 1 5), .ref (am_r h1 1 0), .int (nI k)] h1 _
    rw [sr_1_5 hs1, sr_1_0 hs1]
    refine hC _ _ _ _ (c_read (t := tOf st k) (by decide) hs1 T1 (by omega) (Nat.le_trans hk i4) (fun j hj => ?_) (fun e h2 hR d2 a1 a2 => ?_) (fun s h2 hR d2 p2 => ?_))
    · have hj : j < k := hj
      rw [N1 2 (by decide)]
      exact i6 j (by omega)
    · -- an error
      have hs2 := d2.sh hs1
      refine And.intro (fun _ => ?_) (fun z => absurd rfl z)
      refine And.intro (sk_1 hs2) (And.intro (k15 hs2) (And.intro (sk_1 hs2) (hK _ _ _ _ ?_)))
      have e2 : am_i h2 (am_r h2 1 5) 2 = nI e.2 := by rw [sr_1_5 hs2]; exact a2
      show am_W _ _ _ _ _ 59 [.ref 1, .int (nI k), .int 0] [] (am_pi h2 1 2 (am_i h2 (am_r h2 1 5) 2))
      rw [e2]
      have s3 : sm [1] h2 (am_pi h2 1 2 (nI e.2)) := sm.rf.pi (by decide)
      have f3 : ∀ j, am_i (am_pi h2 1 2 (nI e.2)) 1 j = if j = 2 then nI e.2 else am_i h2 1 j := fun j => i_pi_same _ _ _ _ _
      generalize am_pi h2 1 2 (nI e.2) = h3 at s3 f3 ⊢
      have hs3 := s3.sh hs2
      refine am_go (fun _ => false) (fun K cal Q' hK hC hQ => ?_)
      refine And.intro (fun z => absurd rfl z) (fun _ => ?_)
      have d2' := d2
      obtain ⟨b1, b2, b3, ⟨b4, b5⟩, b6⟩ := d2'
      have I3 : CI h3 (stF st (nI e.2)) := by
        refine ⟨hs3, (p1.rd d2 T1 (by decide) (by omega)).mvs s3 (fun x hx => by have := List.mem_singleton.mp hx; omega) (fun x hx => by have := List.mem_singleton.mp hx; omega), (c1.rd d2 T1 (by omega)).mvs s3 (fun x hx => by have := List.mem_singleton.mp hx; omega), ⟨Nat.zero_le _, ?_, fun j hj => absurd hj (Nat.not_lt_zero _)⟩, f3 2⟩
        rw [f3, if_neg (by decide), (b3 1 (by omega) (by omega)).1, f1, if_pos rfl]
        rfl
      have F3 : clF h h3 := by
        refine ⟨fun a ha => (s3.k a).trans ((b1 a (by rw [← s3.n, e1n]; omega)).trans (s1.k a)), fun a l1 l2 => ?_, ⟨by rw [s3.n]; omega, by rw [s3.n]; omega⟩, by rw [s3.cs]; have := s1.cs; omega⟩
        have q3 := s3.2.2 a (fun z => by have := List.mem_singleton.mp z; omega)
        have q2 := b3 a (by omega) (by omega)
        have q1 := s1.2.2 a (fun z => by have := List.mem_singleton.mp z; omega)
        exact ⟨q3.1.trans (q2.1.trans q1.1), q3.2.trans (q2.2.trans q1.2), funext fun k => (s3.r a k).trans ((b2 a k (by omega) (fun z => by omega) (fun z => by omega)).trans (s1.r a k))⟩
      refine And.intro (sk_1 hs3) (And.intro (k15 hs3) (And.intro trivial (hQ _ _ ?_)))
      have e4 : am_i h3 (am_r h3 1 5) 1 = -nI e.1 := by rw [sr_1_5 hs3, s3.i (by decide)]; exact a1
      show Q (.inl (some (.int (am_i h3 (am_r h3 1 5) 1)))) h3
      rw [e4]
      exact G0 e h3 hR I3 F3
    · -- a graph
      have hs2 := d2.sh hs1
      have T2 := d2.TN T1
      refine And.intro (fun z => absurd z i1_0) (fun _ => ?_)
      refine And.intro (sk_1 hs2) (hK _ _ _ _ ?_)
      show am_W _ _ _ _ _ 59 [.ref 1, .int (nI k), .int 1] [] (am_pi h2 1 2 (-nI 1))
      have s3 : sm [1] h2 (am_pi h2 1 2 (-nI 1)) := sm.rf.pi (by decide)
      have f3 : ∀ j, am_i (am_pi h2 1 2 (-nI 1)) 1 j = if j = 2 then -nI 1 else am_i h2 1 j := fun j => i_pi_same _ _ _ _ _
      generalize am_pi h2 1 2 (-nI 1) = h3 at s3 f3 ⊢
      have hs3 := s3.sh hs2
      obtain ⟨b1, b2, b3, ⟨b4, b5⟩, b6⟩ := id d2
      have p3 : cgp h3 3 st.1 := (p1.rd d2 T1 (by decide) (by omega)).mvs s3 (fun x hx => by have := List.mem_singleton.mp hx; omega) (fun x hx => by have := List.mem_singleton.mp hx; omega)
      have c3 : chi h3 st.2.1 := (c1.rd d2 T1 (by omega)).mvs s3 (fun x hx => by have := List.mem_singleton.mp hx; omega)
      have g3 : cgp h3 69 (gFin s.2.1) := p2.mvs s3 (fun x hx => by have := List.mem_singleton.mp hx; omega) (fun x hx => by have := List.mem_singleton.mp hx; omega)
      refine am_go (fun _ => false) (fun K cal Q' hK hC hQ => ?_)
      refine And.intro (fun _ => ?_) (fun z => absurd (Classical.not_not.mp z) i1_0)
      refine And.intro (sk_1 hs3) (And.intro (sk_1 hs3) (And.intro (k14 hs3) ?_))
      show cal m_Hi_save [.ref (am_r h3 1 4), .ref (am_r h3 1 3)] h3 _
      rw [sr_1_3 hs3, sr_1_4 hs3]
      refine hC _ _ _ _ (c_save (by decide) hs3 p3 c3 (fun h4 c p4 hh4 => ?_))
      have hs4 := c.1
      have g4 := g3.cl c
      refine And.intro (sk_1 hs4) (And.intro (sk_1 hs4) (And.intro (k15 hs4) (And.intro (k13 hs4) ?_)))
      show cal m_Gr_copyFrom [.ref (am_r h4 1 3), .ref (am_r h4 (am_r h4 1 5) 0)] h4 _
      rw [sr_1_5 hs4, sr_1_3 hs4, sr_68_0 hs4]
      refine hC _ _ _ _ (c_copyFrom (by decide) (gs_3 hs4) (gs_69 hs4) (by decide) (fun h5 J => ?_))
      have g5 := g4.copy J (gs_3 hs4) (by decide)
      have ch5 := hh4.mvf J.1
      have hs5 : sh h5 := J.1.sh (by decide) hs4
      have N5 : ∀ x, ¬ (3 ≤ x ∧ x ≤ 67) → am_i h5 x = am_i h3 x ∧ am_l h5 x = am_l h3 x := fun x hx => by
        have a := J.1.2.2.2 x (by simp [gX7]; omega)
        have b := c.2.2.2.2 x hx
        exact ⟨a.1.trans b.1, a.2.trans b.2⟩
      have k5 : ∀ a, am_k h5 a = am_k h3 a := fun a => by unfold am_k; rw [J.1.1, c.2.1]
      have n5' : am_n h5 = am_n h3 := J.1.2.2.1.1.trans c.2.2.1.1
      have I5 : CI h5 (stL st (gFin s.2.1)) := by
        refine ⟨hs5, g5, ch5, ⟨Nat.zero_le _, ?_, fun j hj => absurd hj (Nat.not_lt_zero _)⟩, ?_⟩
        · rw [(N5 1 (by omega)).1, f3, if_neg (by decide), (b3 1 (by omega) (by omega)).1, f1, if_pos rfl]
          rfl
        · rw [(N5 1 (by omega)).1, f3, if_pos rfl]
          rfl
      have F5 : clF h h5 := by
        refine ⟨fun a ha => (k5 a).trans ((s3.k a).trans ((b1 a (by rw [← s3.n, ← n5', e1n]; omega)).trans (s1.k a))), fun a l1 l2 => ?_, ⟨by rw [n5', s3.n]; omega, by rw [n5', s3.n]; omega⟩, by rw [J.1.2.2.1.2, c.2.2.1.2, s3.cs]; have := s1.cs; omega⟩
        have q5 := N5 a (by omega)
        have q3 := s3.2.2 a (fun z => by have := List.mem_singleton.mp z; omega)
        have q2 := b3 a (by omega) (by omega)
        have q1 := s1.2.2 a (fun z => by have := List.mem_singleton.mp z; omega)
        have r5 : ∀ k, am_r h5 a k = am_r h3 a k := fun k => (J.1.2.1 a k (fun z => by omega)).trans (c.2.2.2.1 a k (by omega))
        exact ⟨q5.1.trans (q3.1.trans (q2.1.trans q1.1)), q5.2.trans (q3.2.trans (q2.2.trans q1.2)), funext fun k => (r5 k).trans ((s3.r a k).trans ((b2 a k (by omega) (fun z => by omega) (fun z => by omega)).trans (s1.r a k)))⟩
      refine And.intro (sk_1 hs5) (And.intro (k13 hs5) (And.intro trivial (hQ _ _ ?_)))
      have e5 : am_i h5 (am_r h5 1 3) 1 = nI (gM s.2.1) := by rw [sr_1_3 hs5]; exact g5.1.2.1.2.1
      show Q (.inl (some (.int (am_i h5 (am_r h5 1 3) 1)))) h5
      rw [e5]
      exact G1 s h5 hR I5 F5
  have e0 : (0 : Int32).toInt = 0 := by decide
  refine And.intro (fun c1 => ?_) (fun c1 => ?_)
  · have c1 : v < 0 := c1
    exact And.intro (top_lt (by show am_n h < 900000; omega)) (hQ _ _ (HX (decide_eq_false fun z => by have := z.1; rw [fa_le] at this; rw [fa_lt] at c1; omega)))
  · have c1 : ¬ v < 0 := c1
    obtain ⟨j, j1, j2⟩ := nI_of c1
    refine And.intro (sk_1 hs) (And.intro (fun c2 => hK _ _ _ _ (main j ?_ j2)) (fun c2 => ?_))
    · have c2 : v ≤ am_i h 1 1 := c2
      rw [i5, j2] at c2
      exact (nI_leI (by omega) (by omega)).mp c2
    · have c2 : ¬ v ≤ am_i h 1 1 := c2
      rw [i5, j2] at c2
      refine And.intro (top_lt (by show am_n h < 900000; omega)) (hQ _ _ (HX (decide_eq_false fun z => c2 ?_)))
      have z2 := z.2
      rw [j2] at z2
      have := (nI_ltI (by omega) (by omega)).mp z2
      exact nI_le (by omega) (by omega)
end

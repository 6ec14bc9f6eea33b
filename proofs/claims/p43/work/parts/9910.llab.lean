/-! THE LAW, 7: exact labels, prices, labels, costs -/
section
variable {xs : am_X} {d : Nat} {h h' : am_H} {Q : am_Q} {c n T a b cap f F b1 b2 m : Nat} {C : Nat → Nat → Nat} {ld : Nat → Nat} {A : Nat → Nat} {st st' : stD}
theorem CI_lab {f k : Nat} {v : Int32} (I : CI h st) (h7 : fo7 st) (hf : 95 ≤ f) (kf : am_k h f = (2, n)) (hn : n ≤ 6) : CI (am_pi h f k v) st := by
  obtain ⟨⟨s1, s2, s3⟩, i2, i3, ⟨i4, i5, i6⟩, i7⟩ := I
  have hv : ∀ x, x ≠ f → am_i (am_pi h f k v) x = am_i h x := fun x hx => i_pi_ne hx
  have fo : ∀ a cs, (cs = none ∨ cs = some lCs) → gfo h a cs → gfo (am_pi h f k v) a cs := by
    intro a cs hcs f1
    rcases hcs with rfl | rfl
    · exact f1
    · obtain ⟨f1, ⟨g1, g2, g3, g4, g5, g6, g7⟩, f3⟩ := f1
      have ne : am_r h a 9 + 1 ≠ f := fun e => by
        rw [e, kf] at g4
        have : n = 7 := congrArg Prod.snd g4
        omega
      exact ⟨f1, ⟨g1, g2, g3, g4, g5, fun j hj => by
        have := g6 j hj
        rw [← hv _ ne] at this
        exact this, g7⟩, f3⟩
  have cp : ∀ a g, a + 6 < 87 → (gCs g = none ∨ gCs g = some lCs) → cgp h a g → cgp (am_pi h f k v) a g := by
    intro a g ha hcs p
    obtain ⟨⟨p1, p2, p3, p4⟩, q1, q2, q3, q4, q5, q6⟩ := p
    have I : ∀ i k', i ≤ 6 → am_i (am_pi h f k v) (a + i) k' = am_i h (a + i) k' := fun i k' hi => by rw [hv (a + i) (by omega)]
    exact ⟨⟨p1, ⟨(I 0 0 (by decide)).trans p2.1, (I 0 1 (by decide)).trans p2.2.1, (I 0 2 (by decide)).trans p2.2.2⟩, fun e he => ⟨(I 3 e (by decide)).trans (p3 e he).1, (I 4 e (by decide)).trans (p3 e he).2⟩, p4⟩, fun e he => (I 5 e (by decide)).trans (q1 e he), fun v hv => (I 1 v (by decide)).trans (q2 v hv), fun v hv => (I 2 v (by decide)).trans (q3 v hv), fun e he => (I 6 e (by decide)).trans (q4 e he), fo a _ hcs q5, q6⟩
  obtain ⟨nx, n8, e1, e2, l8, hj⟩ := i3
  refine ⟨⟨s1, s2, s3⟩, cp 3 _ (by decide) h7.1 i2, ⟨nx, n8, by rw [hv 10 (by omega)]; exact e1, by rw [hv 10 (by omega)]; exact e2, l8, fun j g hg => cp _ _ (by unfold hrow; omega) (h7.2 g (List.mem_of_getElem? hg)) (hj j g hg)⟩, ⟨i4, by rw [hv 1 (by omega)]; exact i5, fun k hk9 => by rw [hv 2 (by omega)]; exact i6 k hk9⟩, by rw [hv 1 (by omega)]; exact i7⟩
theorem gCost_eq {g : gD} (G : gok g n T C) : gCost g = lCost n C (gLab g) := mrl_cost G.2.2.1 (gLab g)
theorem lCost_cg {L1 L2 : Nat → Int32} (e : ∀ v, v < n → L1 v = L2 v) : lCost n C L1 = lCost n C L2 := fb_sm_cong fun a ha => fb_sm_cong fun b hb => by
  rw [e a ha, e b (by omega)]
set_option maxHeartbeats 8000000 in
theorem l_ex (hd : 22 ≤ d) (hn : 3 ≤ n ∧ n ≤ 6) (M : lwM h 48000 1400000 st n T C F A) (G : gok st.1 n T C) (eE : ∀ v, v < n → eL st.1 T v = nI (A v)) {v6 : Int32} {x8 : Nat} {v10 v11 : Value}
    (K0 : ∀ h' v10, lwM h' 48100 1410000 st n T C F A → LW xs d Q 601 (lL n a f (.int v6) (.int (nI m)) (.int (nI x8)) (.ref F) v10 v11 am_J am_J) [] h') :
    LW xs d Q 570 (lL n a f (.int v6) (.int (nI m)) (.int (nI x8)) (.ref F) v10 v11 am_J am_J) [] h := by
  refine am_go (fun p => p == 573) (fun K cal Q' hK hC hQ => hK _ _ _ _ ?_)
  refine am_for n (fun v L h' => lwM h' (48000 + 3 * v) (1400000 + 720 * v) st n T C F A ∧ L = lL n a f (.int v6) (.int (nI m)) (.int (nI x8)) (.ref F) (.int (nI v)) v11 am_J am_J) ?_ ?_ 0 (Nat.zero_le _) _ _ ⟨M, rfl⟩
  · rintro v hv L h' ⟨M, rfl⟩ next
    have I := M.1
    refine am_go (fun p => p == 573) (fun K cal Q' hK hC hQ => ?_)
    refine And.intro (fun c => absurd c (nI_ge hv (by omega))) (fun _ => ?_)
    refine And.intro (sk_1 I.1) (hC _ _ _ _ (k_exact (by omega) I (by show am_n h' < 900000; have := M.2.2.2.1.1; omega) (nI v) (fun h1 I1 F1 => ?_)))
    have e1 : sEx st.1 (nI v) = (0, nI (A v)) := by
      unfold sEx
      rw [G.1, if_pos (vin_nI hv (by omega)), q_cl (by omega), G.2.1, eE v hv]
    rw [e1, aR0]
    have M1 := M.cff (cff_of F1) I1
    refine And.intro (ck_arr M1.2.2.2.2.2.1 rfl hv (by omega)) (And.intro (fun _ => hK _ _ _ _ (next _ _ ⟨M1.mo (by omega) (by omega), ?_⟩)) (fun c => absurd ?_ c))
    · rw [← nI_1 v]
      rfl
    · show nI (A v) = am_i h1 F (nI v).toNatClampNeg
      rw [q_cl (by omega)]
      exact (M1.2.2.2.2.2.2 v hv).symm
  · rintro L h' ⟨M, rfl⟩
    refine am_go (fun p => p == 601) (fun K cal Q' hK hC hQ => ?_)
    exact And.intro (fun _ => hK _ _ _ _ (K0 h' _ (M.mo (by omega) (by omega)))) (fun c => absurd (nI_le (Nat.le_refl n) (by omega)) c)
set_option maxHeartbeats 8000000 in
theorem l_price (hd : 22 ≤ d) (hn : 3 ≤ n ∧ n ≤ 6) (M : lwM h 48100 1410000 st n T C F A) (G : gok st.1 n T C) (eT : eC st.1 T = cfo n C A) {v6 : Int32} {v10 v11 : Value}
    (K0 : ∀ h' v10, lwM h' 328300 3100000 st n T C F A → LW xs d Q 657 (lL n a f (.int v6) (.int (nI m)) (.int (nI (cfo n C A))) (.ref F) v10 v11 am_J am_J) [] h') :
    LW xs d Q 601 (lL n a f (.int v6) (.int (nI m)) (.int (nI (cfo n C A))) (.ref F) v10 v11 am_J am_J) [] h := by
  have hp6 : 2 ^ n ≤ 64 := Nat.pow_le_pow_right (n := 2) (by decide) hn.2
  refine am_go (fun p => p == 604) (fun K cal Q' hK hC hQ => hK _ _ _ _ ?_)
  refine am_for n (fun t L h' => lwM h' (48100 + 46660 * t) (1410000 + 280662 * t) st n T C F A ∧ L = lL n a f (.int v6) (.int (nI m)) (.int (nI (cfo n C A))) (.ref F) (.int (nI t)) v11 am_J am_J) ?_ ?_ 0 (Nat.zero_le _) _ _ ⟨M, rfl⟩
  · rintro t ht L h' ⟨M, rfl⟩ next
    obtain ⟨I, hTN, m', ⟨bn, bc⟩, _⟩ := id M
    have hT := m'.2.1.2
    have fin : ∀ h2, lwM h2 (48100 + 46660 * (t + 1)) (1410000 + 280662 * (t + 1)) st n T C F A → LW xs d Q 651 (lL n a f (.int v6) (.int (nI m)) (.int (nI (cfo n C A))) (.ref F) (.int (nI t)) v11 am_J am_J) [] h2 := by
      intro h2 M2
      refine am_go (fun p => p == 604) (fun K cal Q' hK hC hQ => hK _ _ _ _ (next _ _ ⟨M2, ?_⟩))
      rw [← nI_1 t]
      rfl
    refine am_go (fun p => p == 651) (fun K cal Q' hK hC hQ => ?_)
    refine And.intro (fun c => absurd c (nI_ge ht (by omega))) (fun _ => ?_)
    refine And.intro (sk_87 I.1) (And.intro trivial ?_)
    show cal m_La_in [.int (am_i h' 87 1), .int (nI t)] h' _
    rw [m'.1.2]
    refine hC _ _ _ _ (c_La_in (by omega) (by omega) (by omega) ?_)
    refine And.intro (fun _ => hK _ _ _ _ (fin h' (M.mo (by omega) (by omega)))) (fun c => ?_)
    have hTt : T.testBit t = true := by
      cases q : T.testBit t with
      | true => rfl
      | false => rw [q] at c; exact absurd rfl c
    refine And.intro (sk_1 I.1) (hC _ _ _ _ (k_price (by omega) I (by show am_n h' < 900000; omega) (nI t) (fun h1 I1 F1 => ?_)))
    have e1 : sPrice st.1 (nI t) = (0, nI (cfo n C A) - nI (eC st.1 (andn T (2 ^ t)))) := by
      unfold sPrice
      rw [G.1, G.2.1, if_pos (by rw [isT_nI ht (by omega)]; exact hTt), q_cl (by omega), eT]
    rw [e1, aR0]
    have M1 := M.cff (cff_of F1) I1
    obtain ⟨_, hTN1, m1, ⟨bn1, bc1⟩, _⟩ := id M1
    refine And.intro (sk_87 I1.1) (And.intro (sk_87 I1.1) ?_)
    show cal m_La_exact [.ref 87, .int (am_i h1 87 1 &&& (nI 1 <<< (nI t &&& 31) ^^^ -nI 1))] h1 _
    rw [m1.1.2, q_shl t (by omega), q_andn]
    have hA : andn T (2 ^ t) < 2 ^ n := q_sub_lt (fun i hi => by
      rw [andn_bit, Bool.and_eq_true] at hi
      exact hi.1) hT
    refine hC _ _ _ _ (c_La_exact (by omega) I1.1 m1 (by omega) hA (by omega) (fun z h2 s2 => ?_) (fun z h2 A2 s2 _ Y2 => ?_))
    · have e0 : eC st.1 (andn T (2 ^ t)) = 0 := if_pos z
      rw [e0]
      refine And.intro (fun _ => hK _ _ _ _ (fin h2 ((M1.slf s2).mo (by omega) (by omega)))) (fun c => absurd rfl c)
    · have e0 := (ex_eq G z hA hn.2 Y2).1
      rw [e0]
      refine And.intro (fun _ => hK _ _ _ _ (fin h2 ((M1.slf s2).mo (by omega) (by omega)))) (fun c => absurd rfl c)
  · rintro L h' ⟨M, rfl⟩
    refine am_go (fun p => p == 657) (fun K cal Q' hK hC hQ => ?_)
    exact And.intro (fun _ => hK _ _ _ _ (K0 h' _ (M.mo (by omega) (by omega)))) (fun c => absurd (nI_le (Nat.le_refl n) (by omega)) c)
/-- the row of labels -/
def lwL (h : am_H) (f n : Nat) (st : stD) : Prop := (95 ≤ f ∧ f < am_n h) ∧ am_k h f = (2, n) ∧ ∀ v, v < n → am_i h f v = gLab st.1 v
def lwN (h : am_H) (b1 b2 : Nat) (st : stD) (n T : Nat) (C : Nat → Nat → Nat) : Prop := CI h st ∧ TN h ∧ mlO h n T C ∧ (am_n h ≤ b1 ∧ am_cs h ≤ b2)
theorem lwN.cff {k w : Nat} (M : lwN h b1 b2 st n T C) (s : cff k w h h') (I : CI h' st') : lwN h' (b1 + k) (b2 + w) st' n T C := by
  obtain ⟨m1, m2, m3, ⟨m4, m5⟩⟩ := M
  have e1 := s.2.2
  exact ⟨I, cff_TN s m2, cff_ml s m1.1 m3, ⟨by omega, by omega⟩⟩
theorem lwN.mo {c1 c2 : Nat} (M : lwN h b1 b2 st n T C) (h1 : b1 ≤ c1) (h2 : b2 ≤ c2) : lwN h c1 c2 st n T C := ⟨M.1, M.2.1, M.2.2.1, ⟨Nat.le_trans M.2.2.2.1 h1, Nat.le_trans M.2.2.2.2 h2⟩⟩
set_option maxHeartbeats 8000000 in
theorem l_lab (hd : 22 ≤ d) (hn : 3 ≤ n ∧ n ≤ 6) (M : lwN h 328300 3100000 st n T C) (G : gok st.1 n T C) (eG : ∀ v, v < n → gLab st.1 v = if T.testBit v then nI v else -nI 1) {v6 : Int32} {x8 : Value} {v10 v11 : Value} (h8 : am_s1 x8 = true)
    (K0 : ∀ h' f10 v11, lwN h' 328310 3101000 st n T C → lwL h' f10 n st → LW xs d Q 715 (lL n a f (.int v6) (.int (nI m)) x8 (.ref F) (.ref f10) v11 am_J am_J) [] h') :
    LW xs d Q 657 (lL n a f (.int v6) (.int (nI m)) x8 (.ref F) v10 v11 am_J am_J) [] h := by
  obtain ⟨I, hTN, m', ⟨bn, bc⟩⟩ := id M
  have n5 := I.1.2.2
  refine am_go (fun p => p == 665) (fun K cal Q' hK hC hQ => ?_)
  refine And.intro ?_ (hK _ _ _ _ ?_)
  · show am_n h < 1000000 ∧ ¬ nI n < 0 ∧ (nI n).toNatClampNeg ≤ 100000
    rw [q_cl (by omega)]
    exact ⟨by omega, nI_pos (by omega), by omega⟩
  show LW xs d Q 665 (lL n a f (.int v6) (.int (nI m)) x8 (.ref F) (.ref (am_n h)) (.int (nI 0)) am_J am_J) [] (am_new h 2 (nI n).toNatClampNeg (nI n).toNatClampNeg)
  rw [q_cl (by omega)]
  have keep : ∀ h2, sm [am_n h] (am_new h 2 n n) h2 → CI h2 st ∧ cff 1 n h h2 ∧ am_k h2 (am_n h) = (2, n) ∧ am_n h2 = am_n h + 1 := fun h2 c => by
    have q1 : ∀ x, x < am_n h → am_k h2 x = am_k h x := fun x hx => by rw [c.k, k_new, if_neg (by omega)]
    have q2 : ∀ x, x < am_n h → am_i h2 x = am_i h x ∧ am_r h2 x = am_r h x := fun x hx => ⟨by rw [(c.2.2 x (fun y => by have := List.mem_singleton.mp y; omega)).1, i_new_ne (by omega)], funext fun k => by rw [c.r, r_new, if_neg (by omega)]⟩
    have q3 : am_n h2 = am_n h + 1 := c.n
    have q4 : am_cs h2 = am_cs h + n := c.cs
    refine ⟨CI_keep I hTN (by omega) q1 (fun x hx _ => q2 x hx) (by rw [(q2 87 (by omega)).2]), ⟨fun a ha => ?_, fun a _ ha => q2 a ha, ⟨by omega, by omega⟩, by omega⟩, by rw [c.k, k_new, if_pos rfl], q3⟩
    rcases ha with ha | ha
    · exact q1 a ha
    · rw [c.k, k_new, if_neg (by omega)]
  refine am_for n (fun v L h2 => sm [am_n h] (am_new h 2 n n) h2 ∧ (∀ w, w < v → am_i h2 (am_n h) w = gLab st.1 w) ∧ L = lL n a f (.int v6) (.int (nI m)) x8 (.ref F) (.ref (am_n h)) (.int (nI v)) am_J am_J) ?_ ?_ 0 (Nat.zero_le _) _ _ ⟨sm.rf, fun w hw => absurd hw (Nat.not_lt_zero w), rfl⟩
  · rintro v hv L h2 ⟨c, hw, rfl⟩ next
    obtain ⟨I2, F2, k2, n2⟩ := keep h2 c
    have m2 := cff_ml F2 I.1 m'
    have put : ∀ x, x = gLab st.1 v → LW xs d Q 693 (lL n a f (.int v6) (.int (nI m)) x8 (.ref F) (.ref (am_n h)) (.int (nI v)) am_J am_J) [.int x, .int (nI v), .ref (am_n h)] h2 := by
      intro x ex
      refine am_go (fun p => p == 665) (fun K cal Q' hK hC hQ => ?_)
      refine And.intro (ck_arr k2 rfl hv (by omega)) (hK _ _ _ _ (next _ _ ?_))
      rw [q_cl (by omega)]
      refine ⟨c.pi (List.mem_singleton.mpr rfl), fun w hw2 => ?_, by rw [← nI_1 v]; rfl⟩
      rw [i_pi_same]
      by_cases e : w = v
      · rw [if_pos e, e]; exact ex
      · rw [if_neg e]; exact hw w (by omega)
    refine am_go (fun p => p == 693) (fun K cal Q' hK hC hQ => ?_)
    refine And.intro (fun c => absurd c (nI_ge hv (by omega))) (fun _ => ?_)
    refine And.intro (sk_87 I2.1) (And.intro trivial ?_)
    show cal m_La_in [.int (am_i h2 87 1), .int (nI v)] h2 _
    rw [m2.1.2]
    have hp6 : 2 ^ n ≤ 64 := Nat.pow_le_pow_right (n := 2) (by decide) hn.2
    refine hC _ _ _ _ (c_La_in (by omega) (by have := m2.2.1.2; omega) (by omega) ?_)
    refine And.intro (fun c => hK _ _ _ _ (put _ ?_)) (fun c => hK _ _ _ _ (put _ ?_))
    · rw [eG v hv, (bI_0 _).mp c]
      rfl
    · have hTt : T.testBit v = true := by
        cases q : T.testBit v with
        | true => rfl
        | false => rw [q] at c; exact absurd rfl c
      rw [eG v hv, hTt]
      rfl
  · rintro L h2 ⟨c, hw, rfl⟩
    obtain ⟨I2, F2, k2, n2⟩ := keep h2 c
    have M2 := M.cff F2 I2
    refine am_go (fun p => p == 715) (fun K cal Q' hK hC hQ => ?_)
    refine And.intro (fun _ => ?_) (fun c => absurd (nI_le (Nat.le_refl n) (by omega)) c)
    refine And.intro (sk_1 I2.1) (hC _ _ _ _ (k_cost (by omega) I2 (fun h3 I3 F3 => ?_)))
    have F3 := cff_of F3
    have M3 := M2.cff F3 I3
    have L3 : lwL h3 (am_n h) n st := ⟨⟨n5, by have := F3.2.2.1.1; omega⟩, (F3.1 _ (Or.inl (by omega))).trans k2, fun v hv => by rw [(F3.2.1 (am_n h) (by omega) (by omega)).1]; exact hw v hv⟩
    refine And.intro (sk_87 I3.1) (hC _ _ _ _ (c_La_cost (by omega) I3.1 M3.2.2.1 L3.2.1 ⟨Nat.le_refl _, by omega⟩ L3.2.2 ?_))
    refine And.intro (fun _ => hK _ _ _ _ (K0 h3 _ _ (M3.mo (by omega) (by omega)) L3)) (fun c => absurd ?_ c)
    show nI (gCost st.1) = nI (lCost n C (gLab st.1))
    rw [gCost_eq G]
end

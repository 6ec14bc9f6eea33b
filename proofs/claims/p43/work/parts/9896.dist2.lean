/-! THE LAW'S OWN MODEL, 6: areDistances as a whole -/
theorem fzr.tr {f n : Nat} {h h1 h2 : am_H} (s : fzr f n h h1) (t : fzr f n h1 h2) : fzr f n h h2 := ⟨⟨t.1.1.trans s.1.1, t.1.2.trans s.1.2⟩, fun x => (t.2.1 x).trans (s.2.1 x), fun x => (t.2.2.1 x).trans (s.2.2.1 x), fun x hx => (t.2.2.2 x hx).trans (s.2.2.2 x hx)⟩
theorem cff_fro {c w f n : Nat} {h h1 : am_H} (s : cff c w h h1) (hf : 87 ≤ f) (h2 : f + n < am_n h) (F : fro h f n) : fro h1 f n := ⟨(s.1 f (Or.inl (by omega))).trans F.1, fun a ha => ⟨by rw [(s.2.1 f hf (by omega)).2]; exact (F.2 a ha).1, (s.1 _ (Or.inl (by omega))).trans (F.2 a ha).2⟩⟩
theorem cff_frM {c w f n : Nat} {h h1 : am_H} {M : Nat → Nat → Nat} (s : cff c w h h1) (hf : 87 ≤ f) (h2 : f + n < am_n h) (F : frM h f n M) : frM h1 f n M := fun a ha b hb => by rw [(s.2.1 (f + 1 + a) (by omega) (by omega)).1]; exact F a ha b hb
section
variable {xs : am_X} {d : Nat} {h : am_H} {Q : am_Q} {n T f : Nat} {C : Nat → Nat → Nat} {st : stD}
set_option maxHeartbeats 8000000 in
theorem w_near (hd : 1 ≤ d) (hs : sh h) (m : mlO h n T C) (F : fro h f n) (M : frM h f n (fwD C n)) {v : Nat} (hv : v < n)
    (K0 : ∀ o, lnr T n (fun t => fwD C n v t) 0 o → am_W xs (am_code at_La_areDistances) (am_hd ah_La_areDistances) (am_C xs am_P0 d) Q 254 [.ref 87, .ref 1, .ref f, .int (nI v), .int (oN o), .int (nI 0 - nI 1)] [] h) :
    am_W xs (am_code at_La_areDistances) (am_hd ah_La_areDistances) (am_C xs am_P0 d) Q 196 [.ref 87, .ref 1, .ref f, .int (nI v), .int (-nI 1), .int (nI n - nI 1)] [] h := by
  obtain ⟨⟨m0, m1⟩, ⟨hn, hT⟩, mC⟩ := id m
  have hk := sk_87 hs
  have hp : 2 ^ n ≤ 64 := Nat.pow_le_pow_right (n := 2) (by decide) hn
  have b0 : FI = 100000000 := rfl
  refine am_for n (fun c L h' => h' = h ∧ ∃ o, lnr T n (fun t => fwD C n v t) (n - c) o ∧ L = [.ref 87, .ref 1, .ref f, .int (nI v), .int (oN o), .int (nI (n - c) - nI 1)]) ?_ ?_ 0 (Nat.zero_le _) _ _ ⟨rfl, none, fun t h1 h2 => absurd h2 (by omega), rfl⟩
  · rintro c hc9 L h' ⟨rfl, o, ho, rfl⟩ next
    obtain ⟨t, et⟩ : ∃ t, n - c = t + 1 := ⟨n - c - 1, by omega⟩
    have hA : n - (c + 1) = t := by omega
    have ht : t < n := by omega
    rw [et] at ho
    rw [et, show nI (t + 1) - nI 1 = nI t from nI_pred t]
    have bt := fw_leI C n v t
    have fin : ∀ o', lnr T n (fun t => fwD C n v t) t o' → am_W xs (am_code at_La_areDistances) (am_hd ah_La_areDistances) (am_C xs am_P0 d) Q 248 [.ref 87, .ref 1, .ref f, .int (nI v), .int (oN o'), .int (nI t)] [] h' := by
      intro o' h1
      refine am_go (fun p => p == 196) (fun K cal Q' hK hC hQ => ?_)
      refine hK _ _ _ _ (next _ _ ⟨rfl, o', by rw [hA]; exact h1, ?_⟩)
      rw [hA]
      rfl
    refine am_go (fun p => p == 248) (fun K cal Q' hK hC hQ => ?_)
    refine And.intro (fun c2 => absurd (show nI t < nI 0 from c2) (nI_nlt (Nat.zero_le _) (by omega))) (fun _ => ?_)
    refine And.intro hk (And.intro trivial ?_)
    show cal m_La_in [.int (am_i h' 87 1), .int (nI t)] h' _
    rw [m1]
    refine hC _ _ _ _ (c_La_in hd (by omega) (by omega) ?_)
    refine And.intro (fun q => hK _ _ _ _ (fin o (ho.skip fun z => ?_))) (fun q => ?_)
    · have q := (bI_0 _).mp q
      rw [z.1] at q
      cases q
    have hTt : T.testBit t = true := by
      cases z : T.testBit t with
      | true => rfl
      | false => rw [z] at q; exact absurd rfl q
    have eD := frM_at F M hv ht (by omega)
    refine And.intro (ck_fr F hv (by omega)) (And.intro (ck_fe F hv ht (by omega)) (And.intro (fun q2 => hK _ _ _ _ (fin o (ho.skip fun z => ?_))) (fun q2 => ?_)))
    · have q2 : nI 100000000 ≤ am_i h' (am_r h' f (nI v).toNatClampNeg) (nI t).toNatClampNeg := q2
      rw [eD] at q2
      have q2 := (nI_leI (by decide) (by omega)).mp q2
      have z2 : fwD C n v t < FI := z.2
      omega
    have q2 : ¬ nI 100000000 ≤ am_i h' (am_r h' f (nI v).toNatClampNeg) (nI t).toNatClampNeg := q2
    rw [eD] at q2
    have q2 : fwD C n v t < FI := Nat.not_le.mp fun z => q2 ((nI_leI (by decide) (by omega)).mpr z)
    cases o with
    | none => exact And.intro (fun _ => hK _ _ _ _ (fin (some t) (ho.take ht hTt q2 fun s e => by cases e))) (fun q3 => absurd (show -nI 1 < nI 0 by decide) q3)
    | some s =>
      obtain ⟨hs1, hs2, hs3, hs4, hs5⟩ := id ho
      have eS := frM_at F M hv hs2 (by omega)
      have bs := fw_leI C n v s
      refine And.intro (fun q3 => absurd (show nI s < nI 0 from q3) (nI_nlt (Nat.zero_le _) (by omega))) (fun _ => ?_)
      refine And.intro (ck_fr F hv (by omega)) (And.intro (ck_fe F hv ht (by omega)) (And.intro (ck_fr F hv (by omega)) (And.intro (ck_fe F hv hs2 (by omega)) (And.intro (fun q4 => hK _ _ _ _ (fin (some s) (ho.keep ?_))) (fun q4 => hK _ _ _ _ (fin (some t) (ho.take ht hTt q2 ?_)))))))
      · have q4 : am_i h' (am_r h' f (nI v).toNatClampNeg) (nI s).toNatClampNeg < am_i h' (am_r h' f (nI v).toNatClampNeg) (nI t).toNatClampNeg := q4
        rw [eD, eS] at q4
        exact Nat.not_le.mp fun z => absurd q4 (nI_nlt z (by omega))
      · intro s' e
        cases e
        have q4 : ¬ am_i h' (am_r h' f (nI v).toNatClampNeg) (nI s).toNatClampNeg < am_i h' (am_r h' f (nI v).toNatClampNeg) (nI t).toNatClampNeg := q4
        rw [eD, eS] at q4
        exact Nat.not_lt.mp fun z => q4 (nI_lt z (by omega))
  · rintro L h' ⟨rfl, o, ho, rfl⟩
    rw [Nat.sub_self] at ho ⊢
    refine am_go (fun p => p == 254) (fun K cal Q' hK hC hQ => ?_)
    exact And.intro (fun _ => hK _ _ _ _ (K0 o ho)) (fun c => absurd (show nI 0 - nI 1 < nI 0 by decide) c)
set_option maxHeartbeats 8000000 in
theorem w_d3 (hd : 4 ≤ d) (I : CI h st) (hN : am_n h ≤ 800000) (m : mlO h n T C) (hf : 87 ≤ f) (hf2 : f + n < am_n h) (F : fro h f n) (M : frM h f n (fwD C n)) (en : gN st.1 = n) (eT : gT st.1 = T) (R : mrl n (gM st.1) (gLo st.1) (gHi st.1) (gCo st.1) C) (hco : ∀ e, e < gM st.1 → 1 ≤ gCo st.1 e ∧ gCo st.1 e ≤ 9999) {v4 v5 : Value}
    (HQ : ∀ h', CI h' st → cff (6 * n) (1440 * n) h h' → Q (.inl (some (.int (nI 1)))) h') :
    am_W xs (am_code at_La_areDistances) (am_hd ah_La_areDistances) (am_C xs am_P0 d) Q 177 [.ref 87, .ref 1, .ref f, .int (nI 0), v4, v5] [] h := by
  have hs := I.1
  have hn := m.2.1.1
  refine am_for n (fun v L h' => CI h' st ∧ cff (6 * v) (1440 * v) h h' ∧ ∃ v4 v5, L = [.ref 87, .ref 1, .ref f, .int (nI v), v4, v5]) ?_ ?_ 0 (Nat.zero_le _) _ _ ⟨I, cff.rf, _, _, rfl⟩
  · rintro v hv L h' ⟨I', s, v4, v5, rfl⟩ next
    have hs' := I'.1
    have m' := cff_ml s hs m
    have F' := cff_fro s hf hf2 F
    have M' := cff_frM s hf hf2 M
    have hN' : topN h' := by show am_n h' < 900000; have := s.2.2.1.2; omega
    refine am_go (fun p => p == 196) (fun K cal Q' hK hC hQ => ?_)
    refine And.intro (sk_87 hs') (And.intro (fun c => absurd c (q_ge m'.1.1 hv (by omega))) (fun _ => And.intro (sk_87 hs') (hK _ _ _ _ ?_)))
    show am_W _ _ _ _ _ 196 [.ref 87, .ref 1, .ref f, .int (nI v), .int (-nI 1), .int (am_i h' 87 0 - nI 1)] [] h'
    rw [m'.1.1]
    refine w_near (by omega) hs' m' F' M' hv (fun o ho => ?_)
    have eN : gNe st.1 v = o.map fun s => (fwD C n v s, s) := by
      have a := ners_isN R.2.2.1 hco m.2.1.2 hv (T := T)
      have b := lnr_isN R hn hco hv ho
      have e := isN_one a b
      rw [← e]
      show ners (gM st.1) (gT st.1) (gLo st.1) (gHi st.1) (gCo st.1) (gN st.1 - 1) v = _
      rw [en, eT]
    have hvin : vin (gN st.1) (nI v) = true := q_range (by omega) (by omega)
    have eV : (nI v).toNatClampNeg = v := q_cl (by omega)
    have e1 : sNear st.1 (nI v) = (0, oN o) := by
      unfold sNear
      rw [if_pos hvin, eV, eN]
      cases o <;> rfl
    have e2 : sDist st.1 (nI v) = (0, oL (o.map fun s => (fwD C n v s, s))) := by
      unfold sDist
      rw [if_pos hvin, eV, eN]
    refine am_go (fun p => p == 177) (fun K cal Q' hK hC hQ => ?_)
    refine And.intro (sk_1 hs') (hC _ _ _ _ (k_nearest hd I' hN' (nI v) (fun h1 I1 F1 => ?_)))
    rw [e1, aR0]
    refine And.intro (fun c => absurd rfl c) (fun _ => ?_)
    have s1 := s.tr (cff_of F1)
    have hN1 : topN h1 := by show am_n h1 < 900000; have := s1.2.2.1.2; omega
    refine And.intro (sk_1 I1.1) (hC _ _ _ _ (k_distance hd I1 hN1 (nI v) (fun h2 I2 F2 => ?_)))
    rw [e2, aR0]
    have s2 := (s1.tr (cff_of F2)).mo (show 6 * v + 3 + 3 ≤ 6 * (v + 1) by omega) (show 1440 * v + 720 + 720 ≤ 1440 * (v + 1) by omega)
    have F2' := cff_fro s2 hf hf2 F
    have M2' := cff_frM s2 hf hf2 M
    have go : ∀ a b, am_W xs (am_code at_La_areDistances) (am_hd ah_La_areDistances) (am_C xs am_P0 d) Q 177 [.ref 87, .ref 1, .ref f, .int (nI v + nI 1), a, b] [] h2 := fun a b => next _ _ ⟨I2, s2, a, b, by rw [← nI_1 v]; rfl⟩
    cases o with
    | none => exact And.intro (fun c => absurd (show nI 0 ≤ -nI 1 from c) (by decide)) (fun _ => And.intro (fun _ => hK _ _ _ _ (go _ _)) (fun c => absurd rfl c))
    | some t =>
      obtain ⟨h1, h2, h3, h4, h5⟩ := ho
      refine And.intro (fun _ => And.intro (ck_fr F2' hv (by omega)) (And.intro (ck_fe F2' hv h2 (by omega)) (And.intro (fun _ => hK _ _ _ _ (go _ _)) (fun c => absurd ?_ c)))) (fun c => absurd (show nI 0 ≤ nI t from nI_pos' (by omega)) c)
      show nI (fwD C n v t) = am_i _ (am_r _ f (nI v).toNatClampNeg) (nI t).toNatClampNeg
      exact (frM_at F2' M2' hv h2 (by omega)).symm
  · rintro L h' ⟨I', s, v4, v5, rfl⟩
    have hs' := I'.1
    have m' := cff_ml s hs m
    refine am_go (fun _ => false) (fun K cal Q' hK hC hQ => ?_)
    exact And.intro (sk_87 hs') (And.intro (fun _ => And.intro (Or.inr rfl) (hQ _ _ (HQ h' I' s))) (fun c => absurd (q_le m'.1.1 (by omega)) c))
set_option maxHeartbeats 8000000 in
theorem c_La_areDistances (hd : 5 ≤ d) (I : CI h st) (hTN : TN h) (hN : am_n h ≤ 790000) (m : mlO h n T C) (en : gN st.1 = n) (eT : gT st.1 = T) (R : mrl n (gM st.1) (gLo st.1) (gHi st.1) (gCo st.1) C) (hco : ∀ e, e < gM st.1 → 1 ≤ gCo st.1 e ∧ gCo st.1 e ≤ 9999)
    (HQ : ∀ h', CI h' st → cff 100 20000 h h' → Q (.inl (some (.int (nI 1)))) h') : am_C xs am_P0 d m_La_areDistances [.ref 87, .ref 1] h Q := by
  have hs := I.1
  have n5 := hs.2.2
  have hn := m.2.1.1
  have m0 := m.1.1
  refine am_C_le hd (am_enter (d := 4) ap_La_areDistances rfl ?_) (fun _ _ k => k)
  refine am_go (fun p => p == 15) (fun K cal Q' hK hC hQ => ?_)
  refine And.intro (sk_87 hs) (And.intro (sk_87 hs) (And.intro ?_ (hK _ _ _ _ ?_)))
  · show (¬ am_i h 87 0 < 0 ∧ ¬ am_i h 87 0 < 0 ∧ (am_i h 87 0).toNatClampNeg ≤ 1000 ∧ (am_i h 87 0).toNatClampNeg ≤ 1000) ∧ am_n h + (am_i h 87 0).toNatClampNeg < 1000000
    rw [m0, q_cl (by omega)]
    have : ¬ nI n < 0 := nI_nlt (a := n) (b := 0) (Nat.zero_le _) (by omega)
    exact ⟨⟨this, this, by omega, by omega⟩, by omega⟩
  show am_W _ _ _ _ _ 15 [.ref 87, .ref 1, .ref (am_n h), .int (nI 0), _, _] [] (am_mul h (am_i h 87 0).toNatClampNeg (am_i h 87 0).toNatClampNeg)
  rw [m0, q_cl (by omega)]
  have k0 : ∀ x, am_k (am_mul h n n) x = if x = am_n h then (7, n) else if am_n h < x ∧ x ≤ am_n h + n then (2, n) else am_k h x := fun x => k_mul h n n x
  have i0 : ∀ x, x < am_n h → am_i (am_mul h n n) x = am_i h x := fun x hx => by rw [i_mul, if_neg (by omega)]
  have n0 : am_n (am_mul h n n) = am_n h + 1 + n := rfl
  have c0 : am_cs (am_mul h n n) = am_cs h + n + n * n := rfl
  have m1 : mlO (am_mul h n n) n T C := ⟨⟨by rw [i0 _ (by omega)]; exact m.1.1, by rw [i0 _ (by omega)]; exact m.1.2⟩, m.2.1, fun a ha b hb => by rw [i0 _ (by omega)]; exact m.2.2 a ha b hb⟩
  have F : fro (am_mul h n n) (am_n h) n := ⟨by rw [k0, if_pos rfl], fun a ha => ⟨by rw [r_mul_at, if_pos ha], by rw [k0, if_neg (by omega), if_pos (by omega)]⟩⟩
  have keep : ∀ h2, fzr (am_n h) n (am_mul h n n) h2 → CI h2 st ∧ cff (1 + n) (n + n * n) h h2 := fun h2 s => by
    have q1 : ∀ x, x < am_n h → am_k h2 x = am_k h x := fun x hx => by rw [s.2.1, k0, if_neg (by omega), if_neg (by omega)]
    have q2 : ∀ x, x < am_n h → am_i h2 x = am_i h x ∧ am_r h2 x = am_r h x := fun x hx => ⟨(s.2.2.2 x (by omega)).trans (i0 x hx), (s.2.2.1 x).trans (r_mul_ne hx)⟩
    have q3 : am_n h2 = am_n h + 1 + n := s.1.1
    have q4 : am_cs h2 = am_cs h + n + n * n := s.1.2
    refine ⟨CI_keep I hTN (by omega) q1 (fun x hx _ => q2 x hx) (by rw [(q2 87 (by omega)).2]), ?_⟩
    refine ⟨fun a ha => ?_, fun a _ ha => q2 a ha, ⟨by omega, by omega⟩, by omega⟩
    rcases ha with ha | ha
    · exact q1 a ha
    · rw [s.2.1, k0, if_neg (by omega), if_neg (by omega)]
  have nn : n * n ≤ 36 := Nat.mul_le_mul hn hn
  refine w_d1 (keep _ fzr.rf).1.1 m1 (by omega) F (fun a ha b hb => by rw [i_mul, if_pos (by omega)]; rfl) (fun h1 v4 s1 M1 => ?_)
  have hs1 := (keep _ s1).1.1
  refine am_go (fun p => p == 95) (fun K cal Q' hK hC hQ => hK _ _ _ _ ?_)
  refine w_d2 hs1 (fzr_ml s1 (by omega) m1) (by omega) (fzr_fro s1 F) M1 (fun h2 v4 v5 s2 M2 => ?_)
  have s2 := s1.tr s2
  obtain ⟨I2, c2⟩ := keep _ s2
  have n2 : am_n h2 = am_n h + 1 + n := s2.1.1
  refine am_go (fun p => p == 177) (fun K cal Q' hK hC hQ => hK _ _ _ _ ?_)
  exact w_d3 (Nat.le_refl _) I2 (by omega) (cff_ml c2 hs m) (by omega) (by omega) (fzr_fro s2 F) M2 en eT R hco (fun h3 I3 c3 => HQ h3 I3 ((c2.tr c3).mo (by omega) (by omega)))
end

/-! THE CLASS'S CHANGES, 2 -/
theorem clF_tr0 {h h1 h2 : am_H} {X : List Nat} (F : clF h h1) (s : sm X h1 h2) (hX : ∀ x, x ∈ X → x < 87) : clF h h2 := ⟨fun a ha => (s.k a).trans (F.1 a (ha.imp id fun z => by rw [← s.n]; exact z)), fun a h1 h2 => by
  have := s.2.2 a (fun z => by have := hX a z; omega)
  have f := F.2.1 a h1 h2
  exact ⟨this.1.trans f.1, this.2.trans f.2⟩, by rw [s.n]; exact F.2.2.1, by rw [s.cs]; exact F.2.2.2⟩
theorem gImp_step {g : gD} {k : Nat} : gImps (k + 1) g = if gBet g = true then ((gImps k (gImp g)).1, (gImps k (gImp g)).2 + 1) else (g, 0) := rfl
section
variable {xs : am_X} {d : Nat} {h : am_H} {st : stD} {Q : am_Q}
set_option maxHeartbeats 4000000 in
theorem k_improve (hd : 6 ≤ d) (I : CI h st) (hN : topN h) (mo : Int32) (HX : ∀ h', decide (nI 1 ≤ mo ∧ mo ≤ nI 20) = false → CI h' st → clF h h' → Q (.inr 1) h')
    (HQ : ∀ h' k, k ≤ 20 → mo = nI k → 1 ≤ k → CI h' (stC st (gImps k st.1).1) → clF h h' → Q (.inl (some (.int (nI (gImps k st.1).2)))) h') : am_C xs am_P0 d m_Mc_improve [.ref 1, .int mo] h Q := by
  have e1 : (nI 1).toInt = 1 := by decide
  have e20 : (nI 20).toInt = 20 := by decide
  refine am_C_le hd (am_enter (d := 5) ap_Mc_improve rfl ?_) (fun _ _ k => k)
  refine am_go (fun p => p == 34) (fun K cal Q' hK hC hQ => ?_)
  refine And.intro (fun c => ?_) (fun c => ?_)
  · have c : mo < nI 1 := c
    exact And.intro (top_lt hN) (hQ _ _ (HX _ (decide_eq_false fun z => by have := z.1; rw [fa_le] at this; rw [fa_lt] at c; omega) I.thr.1 I.thr.2))
  have c : ¬ mo < nI 1 := c
  rw [fa_lt, e1] at c
  refine And.intro (fun c2 => ?_) (fun c2 => ?_)
  rotate_left
  · have c2 : ¬ mo ≤ nI 20 := c2
    exact And.intro (top_lt hN) (hQ _ _ (HX _ (decide_eq_false fun z => c2 z.2) I.thr.1 I.thr.2))
  have c2 : mo ≤ nI 20 := c2
  rw [fa_le, e20] at c2
  obtain ⟨j, j1, j2⟩ := nI_of (x := mo) (by rw [fa_lt]; show ¬ mo.toInt < 0; omega)
  subst j2
  rw [nI_toInt j1] at c c2
  have HQ := fun h' => HQ h' j (by omega) rfl (by omega)
  refine And.intro (sk_1 I.1) (And.intro (sk_1 I.1) (And.intro (k14 I.1) ?_))
  show cal 43 [.ref (am_r h 1 4), .ref (am_r h 1 3)] h _
  rw [sr_1_3 I.1, sr_1_4 I.1]
  refine hC _ _ _ _ (c_save (by decide) I.1 I.2.1 I.2.2.1 (fun h1 cc p hh => hK _ _ _ _ ?_))
  -- k moves may still be made, i have been
  have key : ∀ (k i : Nat) (g : gD) (h2 : am_H), i + k = j → CI h2 (stC st g) → clF h h2 → (gImps j st.1).1 = (gImps k g).1 → (gImps j st.1).2 = i + (gImps k g).2 → am_W xs (am_code at_Mc_improve) (am_hd ah_Mc_improve) (am_C xs am_P0 5) Q 34 [.ref 1, .int (nI j), .int (nI i)] [] h2 := by
    intro k
    induction k with
    | zero =>
      intro i g h2 hij I2 F2 ea eb
      rw [Nat.add_zero] at hij
      subst hij
      refine am_go (fun p => p == 34) (fun K cal Q' hK hC hQ => ?_)
      refine And.intro (fun _ => And.intro trivial (hQ _ _ ?_)) (fun z => absurd (q_le rfl (by omega)) z)
      have := HQ h2 (by rw [ea]; exact I2) F2
      rw [eb] at this
      exact this
    | succ k ih =>
      intro i g h2 hij I2 F2 ea eb
      have eI : am_inc (nI i) (Int.ofNat 1) = nI (i + 1) := nI_1 i
      refine am_go (fun p => p == 34) (fun K cal Q' hK hC hQ => ?_)
      refine And.intro (fun z => absurd z (q_ge rfl (by omega) (by omega))) (fun _ => ?_)
      refine And.intro (sk_1 I2.1) (And.intro (sk_1 I2.1) (And.intro (k19 I2.1) ?_))
      show cal 48 [.ref (am_r h2 1 9), .ref (am_r h2 1 3)] h2 _
      rw [sr_1_3 I2.1, sr_1_9 I2.1]
      have p2 : cgp h2 3 g := I2.2.1
      refine hC _ _ _ _ (c_makeImprovement (by decide) I2.1 p2.1 p2.co p2.2.2.2.1 (fun h3 s3 r3 => ?_))
      have hX : ∀ x, x ∈ [5, 86] → 3 ≤ x ∧ (x < 10 ∨ (68 ≤ x ∧ x ≤ 86)) := fun x hx => by simp at hx; omega
      have c0 : clG h2 h2 := ⟨I2.1, rfl, ⟨rfl, rfl⟩, fun _ _ _ => rfl, fun _ _ => ⟨rfl, rfl⟩⟩
      rw [gImp_step] at ea eb
      cases hb : mvi (gM g) (gLo g) (gHi g) (gCo g) (gLab g) (mva (gN g) (gM g) (gT g) (gLo g) (gHi g) (gCo g) (gLab g) (gN g)) with
      | true =>
        have hb' : gBet g = true := hb
        rw [if_pos hb'] at ea eb
        have p3 : cgp h3 3 (gImp g) := p2.lab s3 (fun x hx => by simp at hx; omega) (fun v hv => by
          have := r3 v hv
          rw [hb, if_pos rfl] at this
          exact this)
        obtain ⟨I3, F3⟩ := I2.ch c0 I2.2.2.1 s3 hX p3
        refine And.intro (fun z => absurd z ?_) (fun _ => ?_)
        · exact q_t1
        · have := ih (i + 1) (gImp g) h3 (by omega) I3 (clF_tr0 F2 s3 (fun x hx => by have := hX x hx; omega)) ea (by rw [eb]; show _ = i + 1 + _; omega)
          rw [← eI] at this
          exact hK _ _ _ _ this
      | false =>
        have hb' : ¬ gBet g = true := by rw [show gBet g = false from hb]; decide
        rw [if_neg hb'] at ea eb
        have p3 : cgp h3 3 g := by
          have := p2.lab (f := gLab g) s3 (fun x hx => by simp at hx; omega) (fun v hv => by
            have := r3 v hv
            rw [hb, if_neg (by decide)] at this
            exact this)
          exact this
        obtain ⟨I3, F3⟩ := I2.ch c0 I2.2.2.1 s3 hX p3
        refine And.intro (fun _ => ?_) (fun z => absurd ?_ z)
        · refine And.intro trivial (hQ _ _ ?_)
          have := HQ h3 (by rw [ea]; exact I3) (clF_tr0 F2 s3 (fun x hx => by have := hX x hx; omega))
          rw [eb] at this
          exact this
        · rfl
  obtain ⟨I1, F1⟩ := I.ch cc hh (X := []) sm.rf (fun x hx => absurd hx List.not_mem_nil) p
  exact key j 0 st.1 h1 (by omega) I1 F1 rfl (by omega)
end

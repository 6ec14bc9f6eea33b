/-! THE CLASS'S CHANGES, 5: setTerminal, append, checksum -/
def sTer (g : gD) (v : Int32) (b : Bool) : Nat := if vin (gN g) v = true then (if b = true ∧ (gT g).testBit v.toNatClampNeg = false ∧ 5 ≤ pcn (gT g) then 2 else 0) else 1
def gTer (g : gD) (v : Nat) (b : Bool) : gD := if b = true ∧ (gT g).testBit v = false then gOn g v else if b = false ∧ (gT g).testBit v = true then gOff g v else g
theorem cgp.on {h h' : am_H} {g : gD} {v : Nat} (p : cgp h 3 g) (hv : v < gN g) (s : sm [3, 3 + 2] h h') (a : ∀ k, am_i h' 3 k = if k = 2 then nI (gT g ||| 2 ^ v) else am_i h 3 k) (l : ∀ k, am_i h' (3 + 2) k = if k = v then nI v else am_i h (3 + 2) k) : cgp h' 3 (gOn g v) := by
  obtain ⟨⟨p1, p2, p3, p4⟩, q1, q2, q3, q4, q5, q6⟩ := p
  have w : wok h [3, 3 + 2] := fun x hx => Or.inl (by simp at hx; omega)
  have I : ∀ i k, i ≤ 6 → i ≠ 2 → i ≠ 0 → am_i h' (3 + i) k = am_i h (3 + i) k := fun i k hi h2 h0 => s.i (by simp; omega) k
  have hT : gT g ||| 2 ^ v < 2 ^ gN g := Nat.or_lt_two_pow p4.1.2.2 (Nat.pow_lt_pow_right (by decide) hv)
  have wf : gwf (gOn g v) := ⟨⟨q6.1.1, q6.1.2.1, hT⟩, q6.2⟩
  refine ⟨⟨s.gx p1, ⟨(a 0).trans (by rw [if_neg (by decide)]; exact p2.1), (a 1).trans (by rw [if_neg (by decide)]; exact p2.2.1), (a 2).trans (by rw [if_pos rfl]; rfl)⟩, fun e he => ⟨(I 3 e (by decide) (by decide) (by decide)).trans (p3 e he).1, (I 4 e (by decide) (by decide) (by decide)).trans (p3 e he).2⟩, ⟨p4.1.1, p4.1.2.1, hT⟩, p4.2⟩, fun e he => (I 5 e (by decide) (by decide) (by decide)).trans (q1 e he), fun v hv => (I 1 v (by decide) (by decide) (by decide)).trans (q2 v hv), fun u hu => (l u).trans ?_, fun e he => (I 6 e (by decide) (by decide) (by decide)).trans (q4 e he), q5.mvW s w, wf⟩
  show _ = if u = v then nI v else gLab g u
  by_cases e : u = v
  · rw [if_pos e, if_pos e]
  · rw [if_neg e, if_neg e]; exact q3 u hu
theorem cgp.off {h h' : am_H} {g : gD} {v : Nat} (p : cgp h 3 g) (s : sm [3, 3 + 2] h h') (a : ∀ k, am_i h' 3 k = if k = 2 then nI (andn (gT g) (2 ^ v)) else am_i h 3 k) (l : ∀ k, k < gN g → am_i h' (3 + 2) k = if am_i h (3 + 2) k = nI v then -nI 1 else am_i h (3 + 2) k) : cgp h' 3 (gOff g v) := by
  obtain ⟨⟨p1, p2, p3, p4⟩, q1, q2, q3, q4, q5, q6⟩ := p
  have w : wok h [3, 3 + 2] := fun x hx => Or.inl (by simp at hx; omega)
  have I : ∀ i k, i ≤ 6 → i ≠ 2 → i ≠ 0 → am_i h' (3 + i) k = am_i h (3 + i) k := fun i k hi h2 h0 => s.i (by simp; omega) k
  have hT : andn (gT g) (2 ^ v) < 2 ^ gN g := andn_lt _ p4.1.2.2
  have wf : gwf (gOff g v) := ⟨⟨q6.1.1, q6.1.2.1, hT⟩, q6.2⟩
  refine ⟨⟨s.gx p1, ⟨(a 0).trans (by rw [if_neg (by decide)]; exact p2.1), (a 1).trans (by rw [if_neg (by decide)]; exact p2.2.1), (a 2).trans (by rw [if_pos rfl]; rfl)⟩, fun e he => ⟨(I 3 e (by decide) (by decide) (by decide)).trans (p3 e he).1, (I 4 e (by decide) (by decide) (by decide)).trans (p3 e he).2⟩, ⟨p4.1.1, p4.1.2.1, hT⟩, p4.2⟩, fun e he => (I 5 e (by decide) (by decide) (by decide)).trans (q1 e he), fun v hv => (I 1 v (by decide) (by decide) (by decide)).trans (q2 v hv), fun u hu => (l u hu).trans ?_, fun e he => (I 6 e (by decide) (by decide) (by decide)).trans (q4 e he), q5.mvW s w, wf⟩
  rw [show am_i h (3 + 2) u = gLab g u from q3 u hu]
  rfl
section
variable {xs : am_X} {d : Nat} {h : am_H} {st : stD} {Q : am_Q}
set_option maxHeartbeats 8000000 in
theorem k_setTerminal (hd : 4 ≤ d) (I : CI h st) (hN : topN h) (v : Int32) (b : Bool) (HX : ∀ k h', sTer st.1 v b = k → k ≠ 0 → CI h' st → clF h h' → Q (aR 2 3 0 (k, 0)) h')
    (HQ : ∀ h' k, v = nI k → k < gN st.1 → sTer st.1 v b = 0 → CI h' (stC st (gTer st.1 k b)) → clF h h' → Q (.inl (some (.int (nI (pcn (gT (gTer st.1 k b))))))) h') : am_C xs am_P0 d m_Mc_setTerminal [.ref 1, .int v, .int (bI b)] h Q := by
  have hn := I.2.1.1.2.2.2.1.1
  have hn9 := pow_le9 hn
  refine am_C_le hd (am_enter (d := 3) ap_Mc_setTerminal rfl ?_) (fun _ _ k => k)
  refine am_go (fun p => p == 47) (fun K cal Q' hK hC hQ => ?_)
  refine And.intro (sk_1 I.1) (hC _ _ _ _ (c_requireVertex (by decide) I hN v (fun k k1 k2 => ?_) (fun z => hQ _ _ (HX 1 _ (by unfold sTer; rw [if_neg (by rw [z]; decide)]) (by decide) I.thr.1 I.thr.2))))
  subst k2
  refine And.intro (sk_1 I.1) (And.intro (k13 I.1) ?_)
  show cal 21 [.ref (am_r h 1 3), .int (nI k)] h _
  rw [sr_1_3 I.1]
  refine hC _ _ _ _ (c_isTerminal (by decide) I.2.1.1 _ ?_)
  rw [isT_nI k1 (by omega)]
  have W : ∀ was, (gT st.1).testBit k = was → ¬ (b = true ∧ was = false ∧ 5 ≤ pcn (gT st.1)) → am_W xs (am_code at_Mc_setTerminal) (am_hd ah_Mc_setTerminal) (am_C xs am_P0 3) Q 47 [.ref 1, .int (nI k), .int (bI b), .int (bI was)] [] h := by
    intro was hwas hno
    have code : sTer st.1 (nI k) b = 0 := by unfold sTer; rw [if_pos (vin_nI k1 (by omega)), q_cl (by omega), hwas, if_neg hno]
    have HQ := fun h' => HQ h' k rfl k1 code
    refine am_go (fun p => p == 90) (fun K cal Q' hK hC hQ => ?_)
    refine And.intro (sk_1 I.1) (And.intro (sk_1 I.1) (And.intro (k14 I.1) ?_))
    show cal 43 [.ref (am_r h 1 4), .ref (am_r h 1 3)] h _
    rw [sr_1_3 I.1, sr_1_4 I.1]
    refine hC _ _ _ _ (c_save (by decide) I.1 I.2.1 I.2.2.1 (fun h1 cc p hh => ?_))
    have fin : ∀ h2 g', CI h2 (stC st g') → clF h h2 → gTer st.1 k b = g' → am_W xs (am_code at_Mc_setTerminal) (am_hd ah_Mc_setTerminal) (am_C xs am_P0 3) Q 90 [.ref 1, .int (nI k), .int (bI b), .int (bI was)] [] h2 := by
      intro h2 g' I2 F2 hg'
      refine am_go (fun _ => false) (fun K cal Q' hK hC hQ => ?_)
      refine And.intro (sk_1 I2.1) (And.intro (k13 I2.1) (And.intro trivial ?_))
      have eT : am_i h2 (am_r h2 1 3) 2 = nI (gT g') := by rw [sr_1_3 I2.1]; exact I2.2.1.T
      show cal 216 [.int (am_i h2 (am_r h2 1 3) 2)] h2 _
      rw [eT]
      have hp : gT g' < 512 := Nat.lt_of_lt_of_le I2.2.1.1.2.2.2.1.2.2 (pow_le9 I2.2.1.1.2.2.2.1.1)
      refine hC _ _ _ _ (c_bitCount (by decide) hp (And.intro trivial (hQ _ _ ?_)))
      have := HQ h2
      rw [hg'] at this
      exact this I2 F2
    cases b with
    | true =>
      refine And.intro (fun q => absurd q q_t1) (fun _ => ?_)
      cases was with
      | true =>
        refine And.intro (fun _ => ?_) (fun q => absurd q_t1 q)
        refine And.intro (fun _ => hK _ _ _ _ ?_) (fun q => absurd q_t1 q)
        obtain ⟨I', F⟩ := I.ch cc hh (X := []) sm.rf (fun x hx => absurd hx List.not_mem_nil) p
        exact fin h1 st.1 I' F (by unfold gTer; rw [hwas]; rfl)
      | false =>
        refine And.intro (fun q => absurd rfl q) (fun _ => ?_)
        refine And.intro (sk_1 cc.1) (And.intro (k13 cc.1) ?_)
        show cal 29 [.ref (am_r h1 1 3), .int (nI k)] h1 _
        rw [sr_1_3 cc.1]
        refine hC _ _ _ _ (c_startTerminal (by decide) (gs_3 cc.1) p.T (by omega) (fun h2 s2 a2 l2 => ?_))
        obtain ⟨I', F⟩ := I.ch cc hh s2 (fun x hx => by simp at hx; omega) (p.on k1 s2 a2 l2)
        refine And.intro (fun _ => hK _ _ _ _ ?_) (fun q => absurd q_t1 q)
        exact fin h2 (gOn st.1 k) I' F (by unfold gTer; rw [if_pos ⟨rfl, hwas⟩])
    | false =>
      refine And.intro (fun _ => ?_) (fun q => absurd rfl q)
      refine And.intro (fun q => absurd rfl q) (fun _ => ?_)
      cases was with
      | false =>
        refine And.intro (fun _ => hK _ _ _ _ ?_) (fun q => absurd rfl q)
        obtain ⟨I', F⟩ := I.ch cc hh (X := []) sm.rf (fun x hx => absurd hx List.not_mem_nil) p
        exact fin h1 st.1 I' F (by unfold gTer; rw [hwas]; rfl)
      | true =>
        refine And.intro (fun q => absurd q q_t1) (fun _ => ?_)
        refine And.intro (sk_1 cc.1) (And.intro (k13 cc.1) ?_)
        show cal 30 [.ref (am_r h1 1 3), .int (nI k)] h1 _
        rw [sr_1_3 cc.1]
        refine hC _ _ _ _ (c_endTerminal (by decide) (gs_3 cc.1) p.1.2.1.1 hn p.T (by omega) (fun h2 s2 a2 l2 => hK _ _ _ _ ?_))
        obtain ⟨I', F⟩ := I.ch cc hh s2 (fun x hx => by simp at hx; omega) (p.off s2 a2 l2)
        exact fin h2 (gOff st.1 k) I' F (by unfold gTer; rw [hwas]; rfl)
  cases hwas : (gT st.1).testBit k with
  | true =>
    cases b with
    | true =>
      refine And.intro (fun q => absurd q q_t1) (fun _ => And.intro (fun _ => hK _ _ _ _ ?_) (fun q => absurd q_t1 q))
      exact W true hwas (fun q => by cases q.2.1)
    | false => exact And.intro (fun _ => hK _ _ _ _ (W true hwas (fun q => by cases q.1))) (fun q => absurd rfl q)
  | false =>
    cases b with
    | false => exact And.intro (fun _ => hK _ _ _ _ (W false hwas (fun q => by cases q.1))) (fun q => absurd rfl q)
    | true =>
      refine And.intro (fun q => absurd q q_t1) (fun _ => And.intro (fun q => absurd rfl q) (fun _ => ?_))
      refine And.intro (sk_1 I.1) (And.intro (k13 I.1) (And.intro trivial ?_))
      show cal 216 [.int (am_i h (am_r h 1 3) 2)] h _
      rw [eT3 I]
      have hp : gT st.1 < 512 := Nat.lt_of_lt_of_le I.2.1.1.2.2.2.1.2.2 hn9
      have hp9 := pcn_le (gT st.1)
      refine hC _ _ _ _ (c_bitCount (by decide) hp (And.intro (fun q => hK _ _ _ _ ?_) (fun q => ?_)))
      · have q := (nI_ltI (by omega) (by omega)).mp (show nI (pcn (gT st.1)) < nI 5 from q)
        exact W false hwas (fun y => by omega)
      · have q : 5 ≤ pcn (gT st.1) := Nat.not_lt.mp fun y => q (nI_lt y (by omega))
        refine And.intro (top_lt hN) (hQ _ _ (HX 2 _ ?_ (by decide) I.thr.1 I.thr.2))
        unfold sTer
        rw [if_pos (vin_nI k1 (by omega)), q_cl (by omega), if_pos ⟨rfl, hwas, q⟩]
end

/-! THE CLASS'S CHANGES, 3: the graph -/
def setN (f : Nat → Nat) (k x : Nat) : Nat → Nat := fun j => if j = k then x else f j
def gW (g : gD) (e w : Nat) : gD := (g.1, g.2.1, g.2.2.1, setN (gWt g) e w, g.2.2.2.2.1, g.2.2.2.2.2.1, g.2.2.2.2.2.2)
def gAdd (g : gD) (u v w : Nat) : gD := ((gN g, gM g + 1, gT g), setN (gLo g) (gM g) (Nat.min u v), setN (gHi g) (gM g) (Nat.max u v), setN (gWt g) (gM g) w, g.2.2.2.2.1, g.2.2.2.2.2.1, g.2.2.2.2.2.2)
def gRem (g : gD) (e : Nat) : gD := ((gN g, gM g - 1, gT g), drp e (gLo g), drp e (gHi g), drp e (gWt g), g.2.2.2.2.1, g.2.2.2.2.2.1, g.2.2.2.2.2.2)
def gOn (g : gD) (v : Nat) : gD := ((gN g, gM g, gT g ||| 2 ^ v), g.2.1, g.2.2.1, g.2.2.2.1, g.2.2.2.2.1, (fun w => if w = v then nI v else gLab g w), g.2.2.2.2.2.2)
def gOff (g : gD) (v : Nat) : gD := ((gN g, gM g, andn (gT g) (2 ^ v)), g.2.1, g.2.2.1, g.2.2.2.1, g.2.2.2.2.1, (fun w => if gLab g w = nI v then -nI 1 else gLab g w), g.2.2.2.2.2.2)
/-- cells of a change: the graph's own, scratch, the waiting row of a formula -/
def wok (h : am_H) (X : List Nat) : Prop := ∀ x, x ∈ X → (3 ≤ x ∧ (x < 10 ∨ (68 ≤ x ∧ x ≤ 86))) ∨ ∃ F N, x = F + 2 ∧ 105 ≤ F ∧ am_k h (F + 1) = (2, N)
theorem wok.no {h : am_H} {X : List Nat} (w : wok h X) {F : Nat} (hF : 105 ≤ F) (hk : am_k h F = (1, 1)) : F + 1 ∉ X := fun z => by
  rcases w _ z with q | ⟨F', N, e, h1, h2⟩
  · omega
  · rw [show F' + 1 = F by omega, hk] at h2
    cases h2
theorem cgp.mvW {h h' : am_H} {X : List Nat} {a : Nat} {g : gD} (p : cgp h a g) (s : sm X h h') (w : wok h X) (ha : 10 ≤ a ∧ a + 6 ≤ 67) : cgp h' a g := by
  obtain ⟨⟨p1, p2, p3, p4⟩, q1, q2, q3, q4, q5, q6⟩ := p
  have I : ∀ i k, i ≤ 6 → am_i h' (a + i) k = am_i h (a + i) k := fun i k hi => s.i (fun z => by rcases w _ z with q | ⟨F', N, e, h1, h2⟩ <;> omega) k
  refine ⟨⟨s.gx p1, ⟨(I 0 0 (by decide)).trans p2.1, (I 0 1 (by decide)).trans p2.2.1, (I 0 2 (by decide)).trans p2.2.2⟩, fun e he => ⟨(I 3 e (by decide)).trans (p3 e he).1, (I 4 e (by decide)).trans (p3 e he).2⟩, p4⟩, fun e he => (I 5 e (by decide)).trans (q1 e he), fun v hv => (I 1 v (by decide)).trans (q2 v hv), fun v hv => (I 2 v (by decide)).trans (q3 v hv), fun e he => (I 6 e (by decide)).trans (q4 e he), ?_, q6⟩
  exact q5.mv (s.r _ _) fun F hF hk => ⟨⟨s.k _, s.k _, s.k _⟩, fun k _ => s.r _ k, fun _ k => s.i (w.no hF hk) k⟩
theorem gfo.mvW {h h' : am_H} {X : List Nat} {a : Nat} {cs : Option (List Int)} (f : gfo h a cs) (s : sm X h h') (w : wok h X) : gfo h' a cs := f.mv (s.r _ _) fun F hF hk => ⟨⟨s.k _, s.k _, s.k _⟩, fun k _ => s.r _ k, fun _ k => s.i (w.no hF hk) k⟩
theorem chi.mvW {h h' : am_H} {X : List Nat} {hist : List gD} (c : chi h hist) (s : sm X h h') (w : wok h X) : chi h' hist := by
  obtain ⟨nx, n8, e1, e2, l8, hj⟩ := c
  have n10 : (10 : Nat) ∉ X := fun z => by rcases w _ z with q | ⟨F', N, e, h1, h2⟩ <;> omega
  exact ⟨nx, n8, (s.i n10 1).trans e1, (s.i n10 2).trans e2, l8, fun j g hg => (hj j g hg).mvW s w (by unfold hrow; omega)⟩
theorem CI.chW {h h1 h2 : am_H} {X : List Nat} {st : stD} {hist' : List gD} {g' : gD} (I : CI h st) (c : clG h h1) (hh : chi h1 hist') (s : sm X h1 h2) (w : wok h1 X) (p : cgp h2 3 g') : CI h2 (g', hist', st.2.2) ∧ clF h h2 := by
  obtain ⟨i1, i2, i3, ⟨i4, i5, i6⟩, i7⟩ := I
  have J : ∀ a, a ≤ 2 → ∀ k, am_i h2 a k = am_i h a k := fun a ha k => (s.i (fun z => by rcases w _ z with q | ⟨F', N, e, h1, h2⟩ <;> omega) k).trans (by rw [(c.2.2.2.2 a (by omega)).1])
  refine ⟨⟨s.sh c.1, p, hh.mvW s w, ⟨i4, (J 1 (by decide) _).trans i5, fun k hk => ⟨(J 2 (by decide) k).trans (i6 k hk).1, (i6 k hk).2⟩⟩, (J 1 (by decide) _).trans i7⟩, fun a _ => (s.k a).trans (by unfold am_k; rw [c.2.1]), fun a h1' h2' => ?_, ⟨by rw [s.n, c.2.2.1.1]; exact Nat.le_refl _, by rw [s.n, c.2.2.1.1]; omega⟩, by rw [s.cs, c.2.2.1.2]; omega⟩
  have a1 := s.2.2 a (fun z => by rcases w _ z with q | ⟨F', N, e, h1, h2⟩ <;> omega)
  have a2 := c.2.2.2.2 a (by omega)
  exact ⟨a1.1.trans a2.1, a1.2.trans a2.2⟩
theorem wok_gfX {h : am_H} {cs : Option (List Int)} (f : gfo h 3 cs) : wok h (gfX h 3 cs) := by
  intro x hx
  cases cs with
  | none => rw [List.mem_singleton.mp hx]; exact Or.inl (by decide)
  | some cs =>
    obtain ⟨f1, f2, f3⟩ := f
    rcases List.mem_cons.mp hx with e | hx
    · rw [e]; exact Or.inl (by decide)
    · rw [List.mem_singleton.mp hx]
      exact Or.inr ⟨am_r h 3 9, _, rfl, f1, f2.2.2.2.1⟩
theorem wok.app {h : am_H} {X Y : List Nat} (a : wok h X) (b : wok h Y) : wok h (X ++ Y) := fun x hx => (List.mem_append.mp hx).elim (a x) (b x)
theorem sm_app1 {X Y : List Nat} {h h' : am_H} (s : sm X h h') : sm (X ++ Y) h h' := s.mo fun _ => List.mem_append_left _
theorem sm_app2 {X Y : List Nat} {h h' : am_H} (s : sm Y h h') : sm (X ++ Y) h h' := s.mo fun _ => List.mem_append_right _
theorem gfX_3 {h : am_H} {cs : Option (List Int)} (f : gfo h 3 cs) {x : Nat} (h9 : x ≠ 9) (hx : x < 105) : x ∉ gfX h 3 cs := fun z => by
  cases cs with
  | none => exact h9 (List.mem_singleton.mp z)
  | some cs =>
    have := f.1
    rcases List.mem_cons.mp z with e | z
    · exact h9 e
    · have := List.mem_singleton.mp z; omega
section
variable {xs : am_X} {d : Nat} {h : am_H} {st : stD} {Q : am_Q}
def sSetW (g : gD) (e w : Int32) : Nat := if vin (gM g) e = true then (if decide (nI 1 ≤ w ∧ w ≤ nI 99) = true then 0 else 2) else 1
set_option maxHeartbeats 8000000 in
theorem k_setWeight (hd : 4 ≤ d) (I : CI h st) (hN : topN h) (e w : Int32) (HX : ∀ k h', sSetW st.1 e w = k → k ≠ 0 → CI h' st → clF h h' → Q (aR 2 1 0 (k, 0)) h')
    (HQ : ∀ h' k j, e = nI k → k < gM st.1 → w = nI j → sSetW st.1 e w = 0 → CI h' (stC st (gW st.1 k j)) → clF h h' → Q (.inl (some (.int (nI (gWt st.1 k))))) h') : am_C xs am_P0 d m_Mc_setWeight [.ref 1, .int e, .int w] h Q := by
  have hm := I.2.1.1.2.2.2.1.2.1
  refine am_C_le hd (am_enter (d := 3) ap_Mc_setWeight rfl ?_) (fun _ _ k => k)
  refine am_go (fun _ => false) (fun K cal Q' hK hC hQ => ?_)
  refine And.intro (sk_1 I.1) (hC _ _ _ _ (c_requireEdge (by decide) I hN e (fun k k1 k2 => ?_) (fun z => hQ _ _ (HX 1 _ (by unfold sSetW; rw [if_neg (by rw [z]; decide)]) (by decide) I.thr.1 I.thr.2))))
  subst k2
  refine And.intro (sk_1 I.1) (hC _ _ _ _ (c_requireWeight (by decide) hN w (fun j j1 j2 j3 => ?_) (fun z => hQ _ _ (HX 2 _ (by unfold sSetW; rw [if_pos (vin_nI k1 (by omega)), if_neg (by rw [z]; decide)]) (by decide) I.thr.1 I.thr.2))))
  subst j3
  have code : sSetW st.1 (nI k) (nI j) = 0 := by unfold sSetW; rw [if_pos (vin_nI k1 (by omega)), if_pos (decide_eq_true ⟨nI_le j1 (by omega), nI_le j2 (by omega)⟩)]
  refine And.intro (sk_1 I.1) (And.intro (sk_1 I.1) (And.intro (k14 I.1) ?_))
  show cal 43 [.ref (am_r h 1 4), .ref (am_r h 1 3)] h _
  rw [sr_1_3 I.1, sr_1_4 I.1]
  refine hC _ _ _ _ (c_save (by decide) I.1 I.2.1 I.2.2.1 (fun h1 c p hh => ?_))
  have e8 : am_r h1 (am_r h1 1 3) 7 = 8 := by rw [sr_1_3 c.1]; exact sr_3_7 c.1
  have cl : (nI k).toNatClampNeg = k := q_cl (by omega)
  refine And.intro (sk_1 c.1) (And.intro (k13 c.1) (And.intro (ck_row (x := am_r h1 (am_r h1 1 3) 7) e8 (sk_8 c.1) rfl (by omega) (by omega)) ?_))
  refine And.intro (sk_1 c.1) (And.intro (k13 c.1) (And.intro (ck_row (x := am_r h1 (am_r h1 1 3) 7) e8 (sk_8 c.1) rfl (by omega) (by omega)) ?_))
  have vold : am_i h1 (am_r h1 (am_r h1 1 3) 7) (nI k).toNatClampNeg = nI (gWt st.1 k) := by rw [e8, cl]; exact p.2.1 k k1
  rw [show am_r h1 (am_r h1 1 (515 % 64)) (135 % 64) = 8 from e8, cl]
  have s1 : sm [8] h1 (am_pi h1 8 k (nI j)) := sm.rf.pi (by decide)
  have hs1 := s1.sh c.1
  have w8 : wok h1 [8] := fun x hx => Or.inl (by have := List.mem_singleton.mp hx; omega)
  refine And.intro (sk_1 hs1) (And.intro (k13 hs1) ?_)
  show cal 27 [.ref (am_r (am_pi h1 8 k (nI j)) 1 3), .int (nI k)] (am_pi h1 8 k (nI j)) _
  rw [sr_1_3 hs1]
  obtain ⟨wf1, wf2, wf3, wf4, wf5⟩ := p.2.2.2.2.2.2
  obtain ⟨w1, w2⟩ := wf2 k k1
  have f2 : gfo (am_pi h1 8 k (nI j)) 3 (gCs st.1) := p.2.2.2.2.2.1.mvW s1 w8
  have g1 := p.1.mv s1 (by decide) (by decide) (by decide)
  have L1 : ∀ v, v < gN st.1 → am_i (am_pi h1 8 k (nI j)) 4 v = nI (gLd st.1 v) := fun v hv => (s1.i (by decide) v).trans (p.2.2.1 v hv)
  refine hC _ _ _ _ (c_updateCost (by decide) (by decide) (gs_3 hs1) f2 (by omega) (g1.2.2.1 k k1).1 (g1.2.2.1 k k1).2 i_pi_at (L1 _ (by omega)) (L1 _ (by omega)) (by omega) (by omega) ⟨j1, j2⟩ (wf4 _ (by omega)) (wf4 _ (by omega)) (fun h3 s3 h9 => ?_))
  have w3' := wok_gfX f2
  have w3 : wok h1 (gfX (am_pi h1 8 k (nI j)) 3 (gCs st.1)) := w3'
  have s13 : sm ([8] ++ gfX (am_pi h1 8 k (nI j)) 3 (gCs st.1)) h1 h3 := (sm_app1 s1).tr (sm_app2 s3)
  have N : ∀ x, x ≠ 9 → x < 105 → ∀ q, am_i h3 x q = am_i (am_pi h1 8 k (nI j)) x q := fun x a b q => s3.i (gfX_3 f2 a b) q
  have p3 : cgp h3 3 (gW st.1 k j) := by
    refine ⟨⟨gs_3 (s3.sh hs1), ⟨(N 3 (by decide) (by decide) 0).trans g1.2.1.1, (N 3 (by decide) (by decide) 1).trans g1.2.1.2.1, (N 3 (by decide) (by decide) 2).trans g1.2.1.2.2⟩, fun e he => ⟨(N 6 (by decide) (by decide) e).trans (g1.2.2.1 e he).1, (N 7 (by decide) (by decide) e).trans (g1.2.2.1 e he).2⟩, g1.2.2.2⟩, fun e he => ?_, fun v hv => (N 4 (by decide) (by decide) v).trans (L1 v hv), fun v hv => (N 5 (by decide) (by decide) v).trans ((s1.i (by decide) v).trans (p.2.2.2.1 v hv)), fun e he => ?_, f2.mvW s3 (fun x hx => w3 x hx), ⟨wf1, wf2, fun e he => ?_, wf4, wf5⟩⟩
    · rw [show (3 : Nat) + 5 = 8 from rfl, N 8 (by decide) (by decide) e, i_pi_same]
      show _ = nI (if e = k then j else gWt st.1 e)
      by_cases q : e = k
      · rw [if_pos q, if_pos q]
      · rw [if_neg q, if_neg q]; exact p.2.1 e he
    · rw [h9]
      show _ = nI (coF (gCs st.1) (if e = k then j else gWt st.1 e) _ _)
      by_cases q : e = k
      · rw [if_pos q, if_pos q, q]; rfl
      · rw [if_neg q, if_neg q]; exact (s1.i (by decide) e).trans (p.2.2.2.2.1 e he)
    · show 1 ≤ (if e = k then j else gWt st.1 e) ∧ (if e = k then j else gWt st.1 e) ≤ 99
      split
      · exact ⟨j1, j2⟩
      · exact wf3 e he
  obtain ⟨I', F⟩ := I.chW c hh s13 (w8.app w3) p3
  refine And.intro trivial (hQ _ _ ?_)
  rw [show am_i h1 8 k = nI (gWt st.1 k) from p.2.1 k k1]
  exact HQ h3 k j rfl k1 rfl code I' F
set_option maxHeartbeats 8000000 in
theorem k_removeEdge (hd : 3 ≤ d) (I : CI h st) (hN : topN h) (e : Int32) (HX : ∀ h', vin (gM st.1) e = false → CI h' st → clF h h' → Q (.inr 2) h')
    (HQ : ∀ h' k, e = nI k → k < gM st.1 → CI h' (stC st (gRem st.1 k)) → clF h h' → Q (.inl (some (.int (nI (gM st.1 - 1))))) h') : am_C xs am_P0 d m_Mc_removeEdge [.ref 1, .int e] h Q := by
  have hm := I.2.1.1.2.2.2.1.2.1
  refine am_C_le hd (am_enter (d := 2) ap_Mc_removeEdge rfl ?_) (fun _ _ k => k)
  refine am_go (fun _ => false) (fun K cal Q' hK hC hQ => ?_)
  refine And.intro (sk_1 I.1) (hC _ _ _ _ (c_requireEdge (by decide) I hN e (fun k k1 k2 => ?_) (fun z => hQ _ _ (HX _ z I.thr.1 I.thr.2))))
  subst k2
  refine And.intro (sk_1 I.1) (And.intro (sk_1 I.1) (And.intro (k14 I.1) ?_))
  show cal 43 [.ref (am_r h 1 4), .ref (am_r h 1 3)] h _
  rw [sr_1_3 I.1, sr_1_4 I.1]
  refine hC _ _ _ _ (c_save (by decide) I.1 I.2.1 I.2.2.1 (fun h1 c p hh => ?_))
  refine And.intro (sk_1 c.1) (And.intro (k13 c.1) ?_)
  show cal 28 [.ref (am_r h1 1 3), .int (nI k)] h1 _
  rw [sr_1_3 c.1]
  obtain ⟨wf1, wf2, wf3, wf4, wf5⟩ := p.2.2.2.2.2.2
  refine hC _ _ _ _ (c_dropEdge (by decide) (gs_3 c.1) p.1.2.1.2.1 hm k1 (fun h3 s3 h3a h3r => ?_))
  have w3 : wok h1 [3, 3 + 3, 3 + 4, 3 + 5, 3 + 6] := fun x hx => Or.inl (by simp at hx; omega)
  have N : ∀ x, x = 4 ∨ x = 5 → ∀ q, am_i h3 x q = am_i h1 x q := fun x a q => s3.i (by simp; omega) q
  have ix : ∀ i, i < gM st.1 - 1 → (if i < k then i else i + 1) < gM st.1 := fun i hi => by split <;> omega
  have dr : ∀ (f : Nat → Nat) i, drp k f i = f (if i < k then i else i + 1) := fun f i => by unfold drp; split <;> rfl
  have dI : ∀ (f : Nat → Int32) i, drp k f i = f (if i < k then i else i + 1) := fun f i => by unfold drp; split <;> rfl
  have R : ∀ j i, 3 ≤ j → j ≤ 6 → i < gM st.1 - 1 → am_i h3 (3 + j) i = am_i h1 (3 + j) (if i < k then i else i + 1) := fun j i a b hi => (h3r j i a b hi).trans (dI _ _)
  have p3 : cgp h3 3 (gRem st.1 k) := by
    refine ⟨⟨gs_3 (s3.sh c.1), ⟨(h3a 0).trans (by rw [if_neg (by decide)]; exact p.1.2.1.1), (h3a 1).trans (by rw [if_pos rfl]; rfl), (h3a 2).trans (by rw [if_neg (by decide)]; exact p.1.2.1.2.2)⟩, fun e he => ⟨?_, ?_⟩, ⟨wf1.1, by show gM st.1 - 1 ≤ 20; omega, wf1.2.2⟩, fun e he => ?_⟩, fun e he => ?_, fun v hv => (N 4 (Or.inl rfl) v).trans (p.2.2.1 v hv), fun v hv => (N 5 (Or.inr rfl) v).trans (p.2.2.2.1 v hv), fun e he => ?_, p.2.2.2.2.2.1.mvW s3 w3, ⟨⟨wf1.1, by show gM st.1 - 1 ≤ 20; omega, wf1.2.2⟩, fun e he => ?_, fun e he => ?_, wf4, wf5⟩⟩
    · rw [R 3 e (by decide) (by decide) he]; show _ = nI (drp k (gLo st.1) e); rw [dr]; exact (p.1.2.2.1 _ (ix e he)).1
    · rw [R 4 e (by decide) (by decide) he]; show _ = nI (drp k (gHi st.1) e); rw [dr]; exact (p.1.2.2.1 _ (ix e he)).2
    · show drp k (gLo st.1) e < drp k (gHi st.1) e ∧ drp k (gHi st.1) e < gN st.1
      rw [dr, dr]; exact wf2 _ (ix e he)
    · rw [R 5 e (by decide) (by decide) he]; show _ = nI (drp k (gWt st.1) e); rw [dr]; exact p.2.1 _ (ix e he)
    · rw [R 6 e (by decide) (by decide) he]
      show _ = nI (coF (gCs st.1) (drp k (gWt st.1) e) (gLd st.1 (drp k (gLo st.1) e)) (gLd st.1 (drp k (gHi st.1) e)))
      rw [dr, dr, dr]
      exact p.2.2.2.2.1 _ (ix e he)
    · show drp k (gLo st.1) e < drp k (gHi st.1) e ∧ drp k (gHi st.1) e < gN st.1
      rw [dr, dr]; exact wf2 _ (ix e he)
    · show 1 ≤ drp k (gWt st.1) e ∧ drp k (gWt st.1) e ≤ 99
      rw [dr]; exact wf3 _ (ix e he)
  obtain ⟨I', F⟩ := I.chW c hh s3 w3 p3
  refine And.intro (sk_1 I'.1) (And.intro (k13 I'.1) (And.intro trivial (hQ _ _ ?_)))
  have em : am_i h3 (am_r h3 1 3) 1 = nI (gM st.1 - 1) := by rw [sr_1_3 I'.1]; exact p3.1.2.1.2.1
  rw [show am_i h3 (am_r h3 1 (515 % 64)) (129 % 64) = _ from em]
  exact HQ h3 k rfl k1 I' F
end

/-! THE STATE: a graph's data, its picture in the class's cells; the history -/
abbrev gD : Type := (Nat × Nat × Nat) × (Nat → Nat) × (Nat → Nat) × (Nat → Nat) × (Nat → Nat) × (Nat → Int32) × Option (List Int)
def gN (g : gD) : Nat := g.1.1
def gM (g : gD) : Nat := g.1.2.1
def gT (g : gD) : Nat := g.1.2.2
def gLo (g : gD) : Nat → Nat := g.2.1
def gHi (g : gD) : Nat → Nat := g.2.2.1
def gWt (g : gD) : Nat → Nat := g.2.2.2.1
def gLd (g : gD) : Nat → Nat := g.2.2.2.2.1
def gLab (g : gD) : Nat → Int32 := g.2.2.2.2.2.1
def gCs (g : gD) : Option (List Int) := g.2.2.2.2.2.2
def gCo (g : gD) (e : Nat) : Nat := coF (gCs g) (gWt g e) (gLd g (gLo g e)) (gLd g (gHi g e))
def gwf (g : gD) : Prop := (gN g ≤ 9 ∧ gM g ≤ 20 ∧ gT g < 2 ^ gN g) ∧ (∀ e, e < gM g → gLo g e < gHi g e ∧ gHi g e < gN g) ∧ (∀ e, e < gM g → 1 ≤ gWt g e ∧ gWt g e ≤ 99) ∧ (∀ v, v < gN g → gLd g v ≤ 99) ∧ ∀ cs, gCs g = some cs → foOk cs 0 1 ∧ cs.length < 700
/-- a graph in the class's cells -/
def cgp (h : am_H) (a : Nat) (g : gD) : Prop := cg h a (gN g) (gM g) (gT g) (gLo g) (gHi g) ∧ (∀ e, e < gM g → am_i h (a + 5) e = nI (gWt g e)) ∧ (∀ v, v < gN g → am_i h (a + 1) v = nI (gLd g v)) ∧ (∀ v, v < gN g → am_i h (a + 2) v = gLab g v) ∧ (∀ e, e < gM g → am_i h (a + 6) e = nI (gCo g e)) ∧ gfo h a (gCs g) ∧ gwf g
theorem coF_rng {cs : Option (List Int)} {w l g : Nat} (hw : 1 ≤ w ∧ w ≤ 99) : 1 ≤ coF cs w l g ∧ coF cs w l g ≤ 9999 := by
  unfold coF
  split <;> omega
theorem cgp.co {h : am_H} {a : Nat} {g : gD} (p : cgp h a g) : cco h a (gM g) (gCo g) := fun e he => ⟨p.2.2.2.2.1 e he, coF_rng (p.2.2.2.2.2.2.2.2.1 e he)⟩
theorem fcs.mv {h h' : am_H} {F : Nat} {cs : List Int} (f : fcs h F cs) (hk : am_k h' F = am_k h F ∧ am_k h' (F + 1) = am_k h (F + 1) ∧ am_k h' (F + 2) = am_k h (F + 2)) (hr : ∀ k, k < 9 → am_r h' F k = am_r h F k) (hi : ∀ k, am_i h' (F + 1) k = am_i h (F + 1) k) : fcs h' F cs := by
  obtain ⟨f1, f2, f3, f4, f5, f6, f7⟩ := f
  exact ⟨hk.1.trans f1, (hr 0 (by decide)).trans f2, (hr 1 (by decide)).trans f3, hk.2.1.trans f4, hk.2.2.trans f5, fun k z => by rw [hi]; exact f6 k z, f7⟩
theorem gfo.mv {h h' : am_H} {a : Nat} {cs : Option (List Int)} (f : gfo h a cs) (h9 : am_r h' a 9 = am_r h a 9) (hF : ∀ F, 95 ≤ F → am_k h F = (1, 1) → (am_k h' F = am_k h F ∧ am_k h' (F + 1) = am_k h (F + 1) ∧ am_k h' (F + 2) = am_k h (F + 2)) ∧ (∀ k, k < 9 → am_r h' F k = am_r h F k) ∧ ((∃ N, am_k h (F + 1) = (2, N)) → ∀ k, am_i h' (F + 1) k = am_i h (F + 1) k)) : gfo h' a cs := by
  cases cs with
  | none => exact h9.trans f
  | some cs =>
    obtain ⟨f1, f2, f3⟩ := f
    have := hF _ f1 f2.1
    refine ⟨by rw [h9]; exact f1, ?_, f3⟩
    rw [h9]
    exact f2.mv this.1 this.2.1 (this.2.2 ⟨_, f2.2.2.2.1⟩)
/-- a copy: what stands at b stands at a -/
theorem cgp.copy {h h' : am_H} {a b : Nat} {g : gD} (p : cgp h b g) (J : cpJ h a b 6 h') (hga : gs h a) (ha : a + 6 < 95) : cgp h' a g := by
  obtain ⟨⟨p1, p2, p3, p4⟩, q1, q2, q3, q4, q5, q6⟩ := p
  obtain ⟨s, j1, j2, j3⟩ := J
  obtain ⟨w1, w2, w3⟩ := q6.1
  have J : ∀ i k, 1 ≤ i → i ≤ 6 → k < gln i → am_i h' (a + i) k = am_i h (b + i) k := fun i k z1 z2 z3 => j3 i z1 z2 k z3
  have g9 : gln 1 = 9 := rfl
  have g92 : gln 2 = 9 := rfl
  have g20 : gln 3 = 20 := rfl
  have g204 : gln 4 = 20 := rfl
  have g205 : gln 5 = 20 := rfl
  have g206 : gln 6 = 20 := rfl
  refine ⟨⟨s.gx hga, ⟨(j1 0 (by decide)).trans p2.1, (j1 1 (by decide)).trans p2.2.1, (j1 2 (by decide)).trans p2.2.2⟩, fun e he => ⟨(J 3 e (by decide) (by decide) (by omega)).trans (p3 e he).1, (J 4 e (by decide) (by decide) (by omega)).trans (p3 e he).2⟩, p4⟩, fun e he => (J 5 e (by decide) (by decide) (by omega)).trans (q1 e he), fun v hv => (J 1 v (by decide) (by decide) (by omega)).trans (q2 v hv), fun v hv => (J 2 v (by decide) (by decide) (by omega)).trans (q3 v hv), fun e he => (J 6 e (by decide) (by decide) (by omega)).trans (q4 e he), ?_, q6⟩
  cases hcs : gCs g with
  | none => rw [hcs] at q5; exact j2.trans q5
  | some cs =>
    rw [hcs] at q5
    obtain ⟨f1, f2, f3⟩ := q5
    refine ⟨by rw [j2]; exact f1, ?_, f3⟩
    rw [j2]
    refine f2.mv ⟨s.k _, s.k _, s.k _⟩ (fun k hk => s.2.1 _ k fun z => by omega) (fun k => s.i (by simp [gX7]; omega) k)
/-- another graph stays -/
theorem cgp.mvf {h h' : am_H} {a b : Nat} {g : gD} (p : cgp h b g) (s : smf (gX7 a) a h h') (ha : a + 6 < 95) (hab : a + 7 ≤ b ∨ b + 7 ≤ a) : cgp h' b g := by
  obtain ⟨⟨p1, p2, p3, p4⟩, q1, q2, q3, q4, q5, q6⟩ := p
  have I : ∀ i k, i ≤ 6 → am_i h' (b + i) k = am_i h (b + i) k := fun i k hi => s.i (by simp [gX7]; omega) k
  refine ⟨⟨s.gx p1, ⟨(I 0 0 (by decide)).trans p2.1, (I 0 1 (by decide)).trans p2.2.1, (I 0 2 (by decide)).trans p2.2.2⟩, fun e he => ⟨(I 3 e (by decide)).trans (p3 e he).1, (I 4 e (by decide)).trans (p3 e he).2⟩, p4⟩, fun e he => (I 5 e (by decide)).trans (q1 e he), fun v hv => (I 1 v (by decide)).trans (q2 v hv), fun v hv => (I 2 v (by decide)).trans (q3 v hv), fun e he => (I 6 e (by decide)).trans (q4 e he), ?_, q6⟩
  refine q5.mv (s.2.1 _ _ fun z => by omega) fun F hF _ => ⟨⟨s.k _, s.k _, s.k _⟩, fun k hk => s.2.1 _ k fun z => by omega, fun _ k => s.i (by simp [gX7]; omega) k⟩
/-- scratch cells leave a graph alone -/
theorem cgp.mvs {h h' : am_H} {X : List Nat} {a : Nat} {g : gD} (p : cgp h a g) (s : sm X h h') (hX : ∀ x, x ∈ X → x < a ∨ a + 7 ≤ x) (hX2 : ∀ x, x ∈ X → x < 95) : cgp h' a g := by
  obtain ⟨⟨p1, p2, p3, p4⟩, q1, q2, q3, q4, q5, q6⟩ := p
  have I : ∀ i k, i ≤ 6 → am_i h' (a + i) k = am_i h (a + i) k := fun i k hi => s.i (fun z => by have := hX _ z; omega) k
  refine ⟨⟨s.gx p1, ⟨(I 0 0 (by decide)).trans p2.1, (I 0 1 (by decide)).trans p2.2.1, (I 0 2 (by decide)).trans p2.2.2⟩, fun e he => ⟨(I 3 e (by decide)).trans (p3 e he).1, (I 4 e (by decide)).trans (p3 e he).2⟩, p4⟩, fun e he => (I 5 e (by decide)).trans (q1 e he), fun v hv => (I 1 v (by decide)).trans (q2 v hv), fun v hv => (I 2 v (by decide)).trans (q3 v hv), fun e he => (I 6 e (by decide)).trans (q4 e he), ?_, q6⟩
  exact q5.mv (s.r _ _) fun F hF _ => ⟨⟨s.k _, s.k _, s.k _⟩, fun k _ => s.r _ k, fun _ k => s.i (fun z => by have := hX2 _ z; omega) k⟩
/-- the class's history: the latest first -/
def hrow (i : Nat) : Nat := 12 + 7 * i
def chi (h : am_H) (hist : List gD) : Prop := ∃ nx, nx < 8 ∧ am_i h 10 1 = nI nx ∧ am_i h 10 2 = nI hist.length ∧ hist.length ≤ 8 ∧ ∀ j g, hist[j]? = some g → cgp h (hrow ((nx + 7 - j) % 8)) g
theorem gs_row {h : am_H} (hs : sh h) : ∀ i, i < 8 → gs h (hrow i) ∧ am_r h 11 i = hrow i := by
  intro i hi
  have : i = 0 ∨ i = 1 ∨ i = 2 ∨ i = 3 ∨ i = 4 ∨ i = 5 ∨ i = 6 ∨ i = 7 := by omega
  rcases this with rfl | rfl | rfl | rfl | rfl | rfl | rfl | rfl
  · exact ⟨gs_12 hs, sr_11_0 hs⟩
  · exact ⟨gs_19 hs, sr_11_1 hs⟩
  · exact ⟨gs_26 hs, sr_11_2 hs⟩
  · exact ⟨gs_33 hs, sr_11_3 hs⟩
  · exact ⟨gs_40 hs, sr_11_4 hs⟩
  · exact ⟨gs_47 hs, sr_11_5 hs⟩
  · exact ⟨gs_54 hs, sr_11_6 hs⟩
  · exact ⟨gs_61 hs, sr_11_7 hs⟩
/-- what a change of the class's graph and history leaves alone: all but the cells 3 to 67 and those of formulas -/
def clG (h h' : am_H) : Prop := sh h' ∧ h'.1 = h.1 ∧ (am_n h' = am_n h ∧ am_cs h' = am_cs h) ∧ (∀ x k, ¬ (3 ≤ x ∧ x ≤ 67) → am_r h' x k = am_r h x k) ∧ ∀ x, ¬ (3 ≤ x ∧ x ≤ 67) → am_i h' x = am_i h x ∧ am_l h' x = am_l h x
theorem q_mod8 : ∀ x, x < 8 → nI x + nI 1 - (nI x + nI 1) / nI 8 * nI 8 = nI ((x + 1) % 8) := by decide +kernel
set_option maxHeartbeats 4000000 in
theorem c_save {xs : am_X} {d : Nat} {h : am_H} {cur : gD} {hist : List gD} (hd : 2 ≤ d) (hs : sh h) (hp : cgp h 3 cur) (hh : chi h hist) {Q : am_Q}
    (HQ : ∀ h', clG h h' → cgp h' 3 cur → chi h' ((cur :: hist).take 8) → Q (.inl none) h') : am_C xs am_P0 d m_Hi_save [.ref 10, .ref 3] h Q := by
  obtain ⟨nx, n8, e1, e2, l8, hj⟩ := hh
  obtain ⟨grow, rrow⟩ := gs_row hs nx n8
  refine am_C_le hd (am_enter (d := 1) ap_Hi_save rfl ?_) (fun _ _ k => k)
  refine am_go (fun _ => false) (fun K cal Q' hK hC hQ => ?_)
  refine And.intro (sk_10 hs) (And.intro (sk_10 hs) (And.intro (ck_row (sr_10_0 hs) (sk_11 hs) e1 n8 (by omega)) ?_))
  have er : am_r h (am_r h 10 0) (am_i h 10 1).toNatClampNeg = hrow nx := by rw [sr_10_0 hs, e1, q_cl (by omega)]; exact rrow
  refine And.intro (by show am_k h (am_r h (am_r h 10 0) (am_i h 10 1).toNatClampNeg) = (1, 2); rw [er]; exact grow.1) ?_
  show cal m_Gr_copyFrom [.ref (am_r h (am_r h 10 0) (am_i h 10 1).toNatClampNeg), .ref 3] h _
  rw [er]
  refine hC _ _ _ _ (c_copyFrom (by decide) grow (gs_3 hs) (by unfold hrow; omega) (fun h1 J => ?_))
  have hr6 : hrow nx + 6 < 95 := by unfold hrow; omega
  have s := J.1
  have hs1 : sh h1 := s.sh (by unfold hrow; omega) hs
  have nin : ∀ x, ¬ (hrow nx ≤ x ∧ x ≤ hrow nx + 6) → x ∉ gX7 (hrow nx) := fun x hx z => by
    simp [gX7] at z
    omega
  have f1 : am_i h1 10 1 = nI nx := (s.i (nin 10 (by unfold hrow; omega)) 1).trans e1
  have f2 : am_i h1 10 2 = nI hist.length := (s.i (nin 10 (by unfold hrow; omega)) 2).trans e2
  refine And.intro (sk_10 hs1) (And.intro (show ¬ nI 8 = 0 by decide) (And.intro (sk_10 hs1) ?_))
  have em : am_i h1 10 (257 % 64) + nI 1 - (am_i h1 10 (257 % 64) + nI 1) / nI 8 * nI 8 = nI ((nx + 1) % 8) := by rw [show am_i h1 10 (257 % 64) = nI nx from f1]; exact q_mod8 nx n8
  rw [em]
  refine And.intro (sk_10 hs1) (And.intro (sk_10 hs1) (And.intro trivial (hQ _ _ ?_)))
  have f2' : am_i (am_pi h1 10 (257 % 64) (nI ((nx + 1) % 8))) 10 (258 % 64) = nI hist.length := by rw [i_pi_k (by decide)]; exact f2
  have en : (if am_i (am_pi h1 10 (257 % 64) (nI ((nx + 1) % 8))) 10 (258 % 64) + nI 1 < nI 8 then am_i (am_pi h1 10 (257 % 64) (nI ((nx + 1) % 8))) 10 (258 % 64) + nI 1 else nI 8) = nI (((cur :: hist).take 8).length) := by
    rw [f2', nI_add, List.length_take, List.length_cons]
    by_cases q : hist.length + 1 < 8
    · rw [if_pos (nI_lt q (by omega))]; congr 1; omega
    · rw [if_neg (nI_nlt (by omega) (by omega))]; congr 1; omega
  rw [en]
  generalize hh9 : am_pi (am_pi h1 10 (257 % 64) (nI ((nx + 1) % 8))) 10 (258 % 64) (nI (((cur :: hist).take 8).length)) = h9
  have s9 : sm [10] h1 h9 := by rw [← hh9]; exact (sm.rf.pi (by decide)).pi (by decide)
  have mv9 : ∀ {b g}, cgp h1 b g → (b = 3 ∨ 12 ≤ b) → cgp h9 b g := fun p hb => p.mvs s9 (fun x hx => by have := List.mem_singleton.mp hx; omega) (fun x hx => by have := List.mem_singleton.mp hx; omega)
  refine HQ h9 ⟨s9.sh hs1, s9.1.trans s.1, ⟨s9.n.trans s.2.2.1.1, s9.cs.trans s.2.2.1.2⟩, fun x k hx => (s9.r x k).trans (s.2.1 x k fun z => by unfold hrow at z; omega), fun x hx => ?_⟩ ?_ ⟨(nx + 1) % 8, Nat.mod_lt _ (by decide), ?_, ?_, ?_, fun j g hg => ?_⟩
  · have a1 := s9.2.2 x (fun z => by have := List.mem_singleton.mp z; omega)
    have a2 := s.2.2.2 x (nin x (by unfold hrow; omega))
    exact ⟨a1.1.trans a2.1, a1.2.trans a2.2⟩
  · exact mv9 (hp.mvf s hr6 (by unfold hrow; omega)) (Or.inl rfl)
  · rw [← hh9, i_pi_k (by decide)]; exact i_pi_at
  · rw [← hh9]; exact i_pi_at
  · rw [List.length_take]; omega
  · rw [List.getElem?_take] at hg
    split at hg
    · rename_i hj8
      cases j with
      | zero =>
        cases hg
        rw [show ((nx + 1) % 8 + 7 - 0) % 8 = nx by omega]
        exact mv9 (hp.copy J grow hr6) (by unfold hrow; omega)
      | succ j =>
        have hg : hist[j]? = some g := hg
        have hne : (nx + 7 - j) % 8 ≠ nx := by omega
        rw [show ((nx + 1) % 8 + 7 - (j + 1)) % 8 = (nx + 7 - j) % 8 by omega]
        exact mv9 ((hj j g hg).mvf s hr6 (by unfold hrow; omega)) (by unfold hrow; omega)
    · cases hg

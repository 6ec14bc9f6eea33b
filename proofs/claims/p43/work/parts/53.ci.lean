/-! THE CLASS'S STATE -/
abbrev stD : Type := gD × List gD × (Nat × (Nat → Nat)) × Int32
/-- a byte as the class's row holds it -/
def bS (b : Nat) : Int32 := if b < 128 then nI b else nI b - nI 256
def CI (h : am_H) (st : stD) : Prop := sh h ∧ cgp h 3 st.1 ∧ chi h st.2.1 ∧ (st.2.2.1.1 ≤ 700 ∧ am_i h 1 1 = nI st.2.2.1.1 ∧ ∀ k, k < st.2.2.1.1 → am_i h 2 k = bS (st.2.2.1.2 k) ∧ st.2.2.1.2 k < 256) ∧ am_i h 1 2 = st.2.2.2
/-- what a call of the class leaves alone: the model's cells and the law's row -/
def clF (h h' : am_H) : Prop := (∀ a, a < am_n h ∨ am_n h' ≤ a → am_k h' a = am_k h a) ∧ (∀ a, 87 ≤ a → a < am_n h → am_i h' a = am_i h a ∧ am_l h' a = am_l h a ∧ am_r h' a = am_r h a) ∧ (am_n h ≤ am_n h' ∧ am_n h' ≤ am_n h + 3) ∧ am_cs h' ≤ am_cs h + 720
theorem clF.rf {h : am_H} : clF h h := ⟨fun _ _ => rfl, fun _ _ _ => ⟨rfl, rfl, rfl⟩, ⟨Nat.le_refl _, by omega⟩, by omega⟩
theorem CI.sh {h : am_H} {st : stD} (I : CI h st) : sh h := I.1
theorem cgp.mv5 {h h' : am_H} {X : List Nat} {g : gD} (p : cgp h 3 g) (s : sm X h h') (h5 : ∀ w, am_i h' 5 w = am_i h 5 w) (hX : ∀ x, x ∈ X → x = 5 ∨ (10 ≤ x ∧ x < 95)) : cgp h' 3 g := by
  obtain ⟨⟨p1, p2, p3, p4⟩, q1, q2, q3, q4, q5, q6⟩ := p
  have I : ∀ i k, i ≤ 6 → am_i h' (3 + i) k = am_i h (3 + i) k := fun i k hi => by
    by_cases e : i = 2
    · subst e; exact h5 k
    · exact s.i (fun z => by have := hX _ z; omega) k
  refine ⟨⟨s.gx p1, ⟨(I 0 0 (by decide)).trans p2.1, (I 0 1 (by decide)).trans p2.2.1, (I 0 2 (by decide)).trans p2.2.2⟩, fun e he => ⟨(I 3 e (by decide)).trans (p3 e he).1, (I 4 e (by decide)).trans (p3 e he).2⟩, p4⟩, fun e he => (I 5 e (by decide)).trans (q1 e he), fun v hv => (I 1 v (by decide)).trans (q2 v hv), fun v hv => (I 2 v (by decide)).trans (q3 v hv), fun e he => (I 6 e (by decide)).trans (q4 e he), ?_, q6⟩
  exact q5.mv (s.r _ _) fun F hF _ => ⟨⟨s.k _, s.k _, s.k _⟩, fun k _ => s.r _ k, fun _ k => s.i (fun z => by have := hX _ z; omega) k⟩
/-- scratch cells -/
def scr (X : List Nat) : Bool := X.all (fun x => Nat.ble 68 x && Nat.ble x 86)
theorem scr_x {X : List Nat} (h : scr X = true) : ∀ x, x ∈ X → 68 ≤ x ∧ x ≤ 86 := fun x hx => by
  have := List.all_eq_true.mp h x hx
  rw [Bool.and_eq_true] at this
  exact ⟨Nat.le_of_ble_eq_true this.1, Nat.le_of_ble_eq_true this.2⟩
theorem clF.sm {h h' : am_H} {X : List Nat} (s : sm X h h') (hX : ∀ x, x ∈ X → x < 87) : clF h h' := ⟨fun a _ => s.k a, fun a h1 h2 => by
  have q := s.2.2 a fun z => by have := hX a z; omega
  exact ⟨q.1, q.2, funext fun k => s.r a k⟩, ⟨by rw [s.n]; exact Nat.le_refl _, by rw [s.n]; omega⟩, by rw [s.cs]; omega⟩
theorem chi.mvs {h h' : am_H} {X : List Nat} {hist : List gD} (c : chi h hist) (s : sm X h h') (hX : ∀ x, x ∈ X → x < 10 ∨ (68 ≤ x ∧ x < 95)) : chi h' hist := by
  obtain ⟨nx, n8, e1, e2, l8, hj⟩ := c
  have n10 : (10 : Nat) ∉ X := fun z => by have := hX _ z; omega
  exact ⟨nx, n8, (s.i n10 1).trans e1, (s.i n10 2).trans e2, l8, fun j g hg => (hj j g hg).mvs s (fun x hx => by have := hX x hx; unfold hrow; omega) (fun x hx => by have := hX x hx; omega)⟩
theorem CI.mv5 {h h' : am_H} {X : List Nat} {st : stD} (I : CI h st) (s : sm X h h') (h5 : ∀ w, am_i h' 5 w = am_i h 5 w) (hX : ∀ x, x ∈ X → x = 5 ∨ (68 ≤ x ∧ x ≤ 86)) : CI h' st ∧ clF h h' := by
  obtain ⟨i1, i2, i3, ⟨i4, i5, i6⟩, i7⟩ := I
  have n1 : (1 : Nat) ∉ X := fun z => by have := hX _ z; omega
  have n2 : (2 : Nat) ∉ X := fun z => by have := hX _ z; omega
  exact ⟨⟨s.sh i1, i2.mv5 s h5 (fun x hx => by have := hX x hx; omega), i3.mvs s (fun x hx => by have := hX x hx; omega), ⟨i4, (s.i n1 _).trans i5, fun k hk => ⟨(s.i n2 k).trans (i6 k hk).1, (i6 k hk).2⟩⟩, (s.i n1 _).trans i7⟩, clF.sm s (fun x hx => by have := hX x hx; omega)⟩
theorem CI.q {h h' : am_H} {X : List Nat} {st : stD} (I : CI h st) (s : sm X h h') (hX : scr X = true) : CI h' st ∧ clF h h' := by
  have hX := scr_x hX
  exact I.mv5 s (fun w => s.i (fun z => by have := hX _ z; omega) w) (fun x hx => Or.inr (hX x hx))
theorem cgp.thr {h : am_H} {a : Nat} {g : gD} (p : cgp h a g) : cgp (am_thr h) a g := p
theorem CI.thr {h : am_H} {st : stD} (I : CI h st) : CI (am_thr h) st ∧ clF h (am_thr h) := by
  obtain ⟨⟨a1, a2, a3⟩, i2, i3, i4, i7⟩ := I
  exact ⟨⟨⟨a1, a2, Nat.le_succ_of_le a3⟩, i2, i3, i4, i7⟩, fun _ _ => rfl, fun _ _ _ => ⟨rfl, rfl, rfl⟩, ⟨Nat.le_succ _, by show am_n h + 1 ≤ _; omega⟩, by show am_cs h + 6 ≤ _; omega⟩
/-- an answer: its code and its value; the codes' exceptions -/
def aR (E1 E2 E3 : Nat) (p : Nat × Int32) : am_R := match p.1 with
  | 0 => .inl (some (.int p.2))
  | 1 => .inr E1
  | 2 => .inr E2
  | _ => .inr E3
def vin (n : Nat) (v : Int32) : Bool := decide (0 ≤ v ∧ v < nI n)
abbrev topN (h : am_H) : Prop := am_n h < 900000
theorem top_lt {h : am_H} (hN : topN h) : am_n h < am_top := Nat.lt_trans hN (by decide)
set_option maxHeartbeats 4000000 in
theorem c_requireVertex {xs : am_X} {d : Nat} {h : am_H} {st : stD} (hd : 2 ≤ d) (I : CI h st) (hN : topN h) (v : Int32) {Q : am_Q} (H1 : ∀ k, k < gN st.1 → v = nI k → Q (.inl none) h) (H2 : vin (gN st.1) v = false → Q (.inr 2) (am_thr h)) : am_C xs am_P0 d m_Mc_requireVertex [.ref 1, .int v] h Q := by
  have hs := I.1
  have hg := I.2.1.1
  refine am_C_le hd (am_enter (d := 1) ap_Mc_requireVertex rfl ?_) (fun _ _ k => k)
  refine am_go (fun _ => false) (fun K cal Q' hK hC hQ => ?_)
  refine And.intro (sk_1 hs) (And.intro (by show am_k h (am_r h 1 3) = (1, 2); rw [sr_1_3 hs]; exact sk_3 hs) ?_)
  show cal m_Gr_hasVertex [.ref (am_r h 1 3), .int v] h _
  rw [sr_1_3 hs]
  refine hC _ _ _ _ (c_hasVertex (by decide) (sk_3 hs) hg.2.1.1 v ?_)
  have hn := hg.2.2.2.1.1
  cases e : decide (0 ≤ v ∧ v < nI (gN st.1)) with
  | true =>
    refine And.intro (fun _ => And.intro trivial (hQ _ _ ?_)) (fun z => absurd q_t1 z)
    obtain ⟨k, k1, k2⟩ := q_range_of (by omega) e
    exact H1 k k1 k2
  | false => exact And.intro (fun z => absurd rfl z) (fun _ => And.intro (top_lt hN) (hQ _ _ (H2 e)))
set_option maxHeartbeats 4000000 in
theorem c_requireTerminal {xs : am_X} {d : Nat} {h : am_H} {st : stD} (hd : 3 ≤ d) (I : CI h st) (hN : topN h) (v : Int32) {Q : am_Q} (H1 : ∀ k, k < gN st.1 → v = nI k → (gT st.1).testBit k = true → Q (.inl none) h) (H2 : isT (gN st.1) (gT st.1) v = false → Q (.inr 1) (am_thr h)) : am_C xs am_P0 d m_Mc_requireTerminal [.ref 1, .int v] h Q := by
  have hs := I.1
  have hg := I.2.1.1
  have hn := hg.2.2.2.1.1
  refine am_C_le hd (am_enter (d := 2) ap_Mc_requireTerminal rfl ?_) (fun _ _ k => k)
  refine am_go (fun _ => false) (fun K cal Q' hK hC hQ => ?_)
  refine And.intro (sk_1 hs) (And.intro (by show am_k h (am_r h 1 3) = (1, 2); rw [sr_1_3 hs]; exact sk_3 hs) ?_)
  show cal m_Gr_isTerminal [.ref (am_r h 1 3), .int v] h _
  rw [sr_1_3 hs]
  refine hC _ _ _ _ (c_isTerminal (by decide) hg v ?_)
  cases e : isT (gN st.1) (gT st.1) v with
  | true =>
    refine And.intro (fun _ => And.intro trivial (hQ _ _ ?_)) (fun z => absurd q_t1 z)
    have e0 := e
    unfold isT at e
    rw [Bool.and_eq_true] at e
    obtain ⟨k, k1, k2⟩ := q_range_of (by omega) e.1
    refine H1 k k1 k2 ?_
    rw [k2, isT_nI k1 (by omega)] at e0
    exact e0
  | false => exact And.intro (fun z => absurd rfl z) (fun _ => And.intro (top_lt hN) (hQ _ _ (H2 e)))
set_option maxHeartbeats 4000000 in
theorem c_requireSome {xs : am_X} {d : Nat} {h : am_H} {st : stD} (hd : 1 ≤ d) (I : CI h st) (hN : topN h) {Q : am_Q} (H1 : gT st.1 ≠ 0 → Q (.inl none) h) (H2 : gT st.1 = 0 → Q (.inr 3) (am_thr h)) : am_C xs am_P0 d m_Mc_requireSomeTerminal [.ref 1] h Q := by
  have hs := I.1
  have hg := I.2.1.1
  have hn9 := pow_le9 hg.2.2.2.1.1
  have hT := hg.2.2.2.1.2.2
  have e1 : am_i h 3 2 = nI (gT st.1) := hg.2.1.2.2
  refine am_C_le hd (am_enter (d := 0) ap_Mc_requireSomeTerminal rfl ?_) (fun _ _ k => k)
  refine am_go (fun _ => false) (fun K cal Q' hK hC hQ => ?_)
  refine And.intro (sk_1 hs) (And.intro (by show am_k h (am_r h 1 3) = (1, 2); rw [sr_1_3 hs]; exact sk_3 hs) ?_)
  refine And.intro (fun c2 => ?_) (fun c2 => ?_)
  · have c2 : ¬ am_i h (am_r h 1 3) 2 = 0 := c2
    rw [sr_1_3 hs, e1] at c2
    exact And.intro trivial (hQ _ _ (H1 fun z => c2 (by rw [z]; rfl)))
  · have c2 : am_i h (am_r h 1 3) 2 = nI 0 := Classical.not_not.mp c2
    rw [sr_1_3 hs, e1] at c2
    exact And.intro (top_lt hN) (hQ _ _ (H2 ((nI_eq (by omega) (by omega)).mp c2)))

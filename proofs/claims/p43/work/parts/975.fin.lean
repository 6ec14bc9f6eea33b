/-! THE CLASS'S READER: new cells, the end of a reading -/
theorem k_new (h : am_H) (t n w a : Nat) : am_k (am_new h t n w) a = if a = am_n h then (t, n) else am_k h a := rfl
theorem i_new (h : am_H) (t n w a k : Nat) : am_i (am_new h t n w) a k = if a = am_n h then 0 else am_i h a k := by
  show va_up h.2.1 (am_n h) (fun _ => 0) a k = _
  unfold va_up
  by_cases e : a = am_n h
  · rw [if_pos e, if_pos e]
  · rw [if_neg e, if_neg e]; rfl
theorem l_new (h : am_H) (t n w a k : Nat) : am_l (am_new h t n w) a k = if a = am_n h then 0 else am_l h a k := by
  show va_up h.2.2.1 (am_n h) (fun _ => 0) a k = _
  unfold va_up
  by_cases e : a = am_n h
  · rw [if_pos e, if_pos e]
  · rw [if_neg e, if_neg e]; rfl
theorem r_new (h : am_H) (t n w a k : Nat) : am_r (am_new h t n w) a k = if a = am_n h then 0 else am_r h a k := by
  show va_up h.2.2.2.1 (am_n h) (fun _ => 0) a k = _
  unfold va_up
  by_cases e : a = am_n h
  · rw [if_pos e, if_pos e]
  · rw [if_neg e, if_neg e]; rfl
theorem n_new (h : am_H) (t n w : Nat) : am_n (am_new h t n w) = am_n h + 1 := rfl
theorem cs_new (h : am_H) (t n w : Nat) : am_cs (am_new h t n w) = am_cs h + w := rfl
/-- cells not made yet -/
def TN (h : am_H) : Prop := ∀ a, am_n h ≤ a → am_k h a = (0, 0)
theorem TN.lt {h : am_H} (T : TN h) {a x y : Nat} (hk : am_k h a = (x, y)) (hx : x ≠ 0) : a < am_n h := by
  by_cases z : am_n h ≤ a
  · rw [T a z] at hk
    exact absurd (congrArg Prod.fst hk).symm hx
  · omega
/-- what a reading may change: c cells and w slots are new -/
def rdG (c w : Nat) (h h' : am_H) : Prop := (∀ a, a < am_n h ∨ am_n h' ≤ a → am_k h' a = am_k h a) ∧ (∀ x k, x < am_n h → ¬ (x = 68 ∧ k = 3) → ¬ (x = 69 ∧ k = 9) → am_r h' x k = am_r h x k) ∧ (∀ x, x < am_n h → ¬ (68 ≤ x ∧ x ≤ 77) → am_i h' x = am_i h x ∧ am_l h' x = am_l h x) ∧ (am_n h ≤ am_n h' ∧ am_n h' ≤ am_n h + c) ∧ am_cs h' ≤ am_cs h + w
theorem rdG.rf {h : am_H} : rdG 0 0 h h := ⟨fun _ _ => rfl, fun _ _ _ _ _ => rfl, fun _ _ _ => ⟨rfl, rfl⟩, ⟨Nat.le_refl _, Nat.le_refl _⟩, Nat.le_refl _⟩
theorem rdG.tr {h h1 h2 : am_H} {c w c2 w2 : Nat} (s : rdG c w h h1) (t : rdG c2 w2 h1 h2) : rdG (c + c2) (w + w2) h h2 := by
  obtain ⟨a1, a2, a3, ⟨a4, a5⟩, a6⟩ := s
  obtain ⟨b1, b2, b3, ⟨b4, b5⟩, b6⟩ := t
  refine ⟨fun a ha => (b1 a (by omega)).trans (a1 a (by omega)), fun x k hx h3 h9 => (b2 x k (by omega) h3 h9).trans (a2 x k hx h3 h9), fun x hx hn => ?_, ⟨by omega, by omega⟩, by omega⟩
  have p := a3 x hx hn
  have q := b3 x (by omega) hn
  exact ⟨q.1.trans p.1, q.2.trans p.2⟩
theorem rdG.mo {h h1 : am_H} {c w c2 w2 : Nat} (s : rdG c w h h1) (hc : c ≤ c2) (hw : w ≤ w2) : rdG c2 w2 h h1 := ⟨s.1, s.2.1, s.2.2.1, ⟨s.2.2.2.1.1, Nat.le_trans s.2.2.2.1.2 (by omega)⟩, Nat.le_trans s.2.2.2.2 (by omega)⟩
theorem rdG.sm {h h1 : am_H} {X : List Nat} (s : sm X h h1) (hX : ∀ x, x ∈ X → (68 ≤ x ∧ x ≤ 77) ∨ am_n h ≤ x) : rdG 0 0 h h1 := ⟨fun a _ => s.k a, fun x k _ _ _ => s.r x k, fun x hx hn => s.2.2 x fun z => by have := hX x z; omega, ⟨by rw [s.n]; exact Nat.le_refl _, by rw [s.n]; exact Nat.le_refl _⟩, by rw [s.cs]; exact Nat.le_refl _⟩
theorem rW.rd {h h1 : am_H} (s : rW h h1) : rdG 0 0 h h1 := rdG.sm s.1 fun x hx => by simp [rWX] at hx; omega
theorem rdG.pr9 {h h1 : am_H} {c w : Nat} (s : rdG c w h h1) {v : Nat} : rdG c w h (am_pr h1 69 9 v) := ⟨s.1, fun x k hx h3 h9 => by
  rw [r_pr]
  by_cases e : x = 69
  · rw [if_pos e, if_neg (fun q => h9 ⟨e, q⟩)]; exact s.2.1 x k hx h3 h9
  · rw [if_neg e]; exact s.2.1 x k hx h3 h9, s.2.2.1, s.2.2.2⟩
theorem rdG.pr3 {h h1 : am_H} {c w : Nat} (s : rdG c w h h1) {v : Nat} : rdG c w h (am_pr h1 68 3 v) := ⟨s.1, fun x k hx h3 h9 => by
  rw [r_pr]
  by_cases e : x = 68
  · rw [if_pos e, if_neg (fun q => h3 ⟨e, q⟩)]; exact s.2.1 x k hx h3 h9
  · rw [if_neg e]; exact s.2.1 x k hx h3 h9, s.2.2.1, s.2.2.2⟩
theorem rdG.new {h h1 : am_H} {c w : Nat} (s : rdG c w h h1) {t n m : Nat} : rdG (c + 1) (w + m) h (am_new h1 t n m) := by
  obtain ⟨a1, a2, a3, ⟨a4, a5⟩, a6⟩ := s
  refine ⟨fun a ha => ?_, fun x k hx h3 h9 => ?_, fun x hx hn => ?_, ⟨?_, ?_⟩, ?_⟩
  · rw [n_new] at ha
    rw [k_new, if_neg (by omega)]
    exact a1 a (by omega)
  · rw [r_new, if_neg (by omega)]; exact a2 x k hx h3 h9
  · have p := a3 x hx hn
    exact ⟨funext fun k => by rw [i_new, if_neg (by omega), p.1], funext fun k => by rw [l_new, if_neg (by omega), p.2]⟩
  · rw [n_new]; omega
  · rw [n_new]; omega
  · rw [cs_new]; omega
/-- writes to the new cells -/
theorem rdG.pin {h h1 : am_H} {c w : Nat} (s : rdG c w h h1) {a k : Nat} {v : Nat} (ha : am_n h ≤ a) : rdG c w h (am_pr h1 a k v) := ⟨s.1, fun x j hx h3 h9 => by
  rw [r_pr, if_neg (by omega)]; exact s.2.1 x j hx h3 h9, s.2.2.1, s.2.2.2⟩
theorem rdG.pcp {h h1 : am_H} {c w : Nat} (s : rdG c w h h1) {b sp a dp n : Nat} (ha : am_n h ≤ a) : rdG c w h (am_cp h1 b sp a dp n) := ⟨s.1, s.2.1, fun x hx hn => ⟨(funext fun k => by rw [i_cp, if_neg (by omega)]).trans (s.2.2.1 x hx hn).1, (s.2.2.1 x hx hn).2⟩, s.2.2.2⟩
theorem sh_no39 : ∀ q ∈ sh_rl, ¬ (q.1 = 68 ∧ q.2.1 = 3) ∧ ¬ (q.1 = 69 ∧ q.2.1 = 9) ∧ q.1 < 95 := by decide +kernel
theorem rdG.sh {h h1 : am_H} {c w : Nat} (s : rdG c w h h1) (hs : sh h) : sh h1 := by
  have n := hs.2.2
  refine ⟨fun a ha => (s.1 a (Or.inl (by omega))).trans (hs.1 a ha), fun q hq => ?_, by have := s.2.2.2.1.1; omega⟩
  obtain ⟨z1, z2, z3⟩ := sh_no39 q hq
  exact (s.2.1 _ _ (by omega) z1 z2).trans (hs.2.1 q hq)
theorem rdG.TN {h h1 : am_H} {c w : Nat} (s : rdG c w h h1) (T : TN h) : TN h1 := fun a ha => (s.1 a (Or.inr ha)).trans (T a (by have := s.2.2.2.1.1; omega))
theorem gfo.rd {h h1 : am_H} {c w a : Nat} {cs : Option (List Int)} (f : gfo h a cs) (s : rdG c w h h1) (T : TN h) (ha : a ≤ 67 ∨ (a = 69 ∧ am_r h1 69 9 = am_r h 69 9)) (hn : 95 ≤ am_n h) : gfo h1 a cs := by
  have r9 : am_r h1 a 9 = am_r h a 9 := by
    rcases ha with ha | ⟨rfl, e⟩
    · exact s.2.1 a 9 (by omega) (by omega) (by omega)
    · exact e
  cases cs with
  | none => exact r9.trans f
  | some cs =>
    obtain ⟨f1, f2, f3⟩ := f
    have l0 := T.lt f2.1 (by decide)
    have l1 := T.lt f2.2.2.2.1 (by decide)
    have l2 := T.lt f2.2.2.2.2.1 (by decide)
    refine ⟨by rw [r9]; exact f1, ?_, f3⟩
    rw [r9]
    exact f2.mv ⟨s.1 _ (Or.inl l0), s.1 _ (Or.inl l1), s.1 _ (Or.inl l2)⟩ (fun k _ => s.2.1 _ k l0 (by omega) (by omega)) (fun k => by rw [(s.2.2.1 _ l1 (by omega)).1])
theorem cgp.rd {h h1 : am_H} {c w a : Nat} {g : gD} (p : cgp h a g) (s : rdG c w h h1) (T : TN h) (ha : a + 6 ≤ 67) (hn : 95 ≤ am_n h) : cgp h1 a g := by
  obtain ⟨⟨p1, p2, p3, p4⟩, q1, q2, q3, q4, q5, q6⟩ := p
  have I : ∀ i k, i ≤ 6 → am_i h1 (a + i) k = am_i h (a + i) k := fun i k hi => by rw [(s.2.2.1 (a + i) (by omega) (by omega)).1]
  obtain ⟨hk, ⟨k1, k2, k3, k4, k5, k6⟩, r3, r4, r5, r6, r7, r8⟩ := p1
  have K : ∀ i, i ≤ 6 → am_k h1 (a + i) = am_k h (a + i) := fun i hi => s.1 _ (Or.inl (by omega))
  have R : ∀ k, am_r h1 a k = am_r h a k := fun k => s.2.1 a k (by omega) (by omega) (by omega)
  exact ⟨⟨⟨(K 0 (by decide)).trans hk, ⟨(K 1 (by decide)).trans k1, (K 2 (by decide)).trans k2, (K 3 (by decide)).trans k3, (K 4 (by decide)).trans k4, (K 5 (by decide)).trans k5, (K 6 (by decide)).trans k6⟩, (R 3).trans r3, (R 4).trans r4, (R 5).trans r5, (R 6).trans r6, (R 7).trans r7, (R 8).trans r8⟩, ⟨(I 0 0 (by decide)).trans p2.1, (I 0 1 (by decide)).trans p2.2.1, (I 0 2 (by decide)).trans p2.2.2⟩, fun e he => ⟨(I 3 e (by decide)).trans (p3 e he).1, (I 4 e (by decide)).trans (p3 e he).2⟩, p4⟩, fun e he => (I 5 e (by decide)).trans (q1 e he), fun v hv => (I 1 v (by decide)).trans (q2 v hv), fun v hv => (I 2 v (by decide)).trans (q3 v hv), fun e he => (I 6 e (by decide)).trans (q4 e he), q5.rd s T (Or.inl (by omega)) hn, q6⟩
theorem chi.rd {h h1 : am_H} {c w : Nat} {hist : List gD} (ch : chi h hist) (s : rdG c w h h1) (T : TN h) (hn : 95 ≤ am_n h) : chi h1 hist := by
  obtain ⟨nx, n8, e1, e2, l8, hj⟩ := ch
  have I : ∀ k, am_i h1 10 k = am_i h 10 k := fun k => by rw [(s.2.2.1 10 (by omega) (by omega)).1]
  exact ⟨nx, n8, (I 1).trans e1, (I 2).trans e2, l8, fun j g hg => (hj j g hg).rd s T (by unfold hrow; omega) hn⟩
section
variable {xs : am_X} {d : Nat} {h : am_H} {Q : am_Q}
set_option maxHeartbeats 4000000 in
theorem c_copyOf (hd : 1 ≤ d) (hk : am_k h 77 = (2, 700)) (hn : am_n h < 900000) (h77 : am_n h ≠ 77) {n : Nat} (n7 : n < 700) (HQ : ∀ h', h' = am_cp (am_new h 2 n n) 77 0 (am_n h) 0 n → Q (.inl (some (.ref (am_n h)))) h') : am_C xs am_P0 d m_JA_copyOf [.ref 77, .int (nI n)] h Q := by
  refine am_C_le hd (am_enter (d := 0) ap_JA_copyOf rfl ?_) (fun _ _ k => k)
  refine am_go (fun _ => false) (fun K cal Q' hK hC hQ => ?_)
  have e1 : nI (am_k h 77).2 = nI 700 := by rw [hk]
  refine And.intro ⟨by rw [hk]; exact Nat.le_refl 2, by rw [hk]; exact (by decide : 2 ≤ 6)⟩ ?_
  refine And.intro (fun _ => ?_) (fun z => absurd ?_ z)
  rotate_left
  · show ¬ nI n = nI (am_k h 77).2
    rw [e1]
    exact fun q => by have := (nI_eq (by omega) (by decide)).mp q; omega
  have cl : (nI n).toNatClampNeg = n := q_cl (by omega)
  have k77 : am_k (am_new h 2 (nI n).toNatClampNeg (nI n).toNatClampNeg) 77 = (2, 700) := by rw [k_new, if_neg (fun q => h77 q.symm)]; exact hk
  have kN : am_k (am_new h 2 (nI n).toNatClampNeg (nI n).toNatClampNeg) (am_n h) = (2, n) := by rw [k_new, if_pos rfl, cl]
  refine And.intro ⟨by show am_n h < 1000000; omega, nI_pos (by omega), by rw [cl]; omega⟩ ?_
  refine And.intro ⟨by rw [k77]; exact Nat.le_refl 2, by rw [k77]; exact (by decide : 2 ≤ 6)⟩ ?_
  have eM : (if nI n < nI (am_k (am_new h 2 (nI n).toNatClampNeg (nI n).toNatClampNeg) 77).2 then nI n else nI (am_k (am_new h 2 (nI n).toNatClampNeg (nI n).toNatClampNeg) 77).2) = nI n := by
    rw [k77, if_pos (nI_lt n7 (by decide))]
  have c0 : (nI 0).toNatClampNeg = 0 := rfl
  refine And.intro ?_ ?_
  · show ((am_k (am_new h 2 (nI n).toNatClampNeg (nI n).toNatClampNeg) (am_n h)).1 = 2 ∧ (am_k (am_new h 2 (nI n).toNatClampNeg (nI n).toNatClampNeg) 77).1 = 2) ∧ (¬ nI 0 < 0 ∧ ¬ nI 0 < 0 ∧ ¬ (if nI n < nI (am_k (am_new h 2 (nI n).toNatClampNeg (nI n).toNatClampNeg) 77).2 then nI n else nI (am_k (am_new h 2 (nI n).toNatClampNeg (nI n).toNatClampNeg) 77).2) < 0) ∧ (nI 0).toNatClampNeg + (if nI n < nI (am_k (am_new h 2 (nI n).toNatClampNeg (nI n).toNatClampNeg) 77).2 then nI n else nI (am_k (am_new h 2 (nI n).toNatClampNeg (nI n).toNatClampNeg) 77).2).toNatClampNeg ≤ (am_k (am_new h 2 (nI n).toNatClampNeg (nI n).toNatClampNeg) 77).2 ∧ (nI 0).toNatClampNeg + (if nI n < nI (am_k (am_new h 2 (nI n).toNatClampNeg (nI n).toNatClampNeg) 77).2 then nI n else nI (am_k (am_new h 2 (nI n).toNatClampNeg (nI n).toNatClampNeg) 77).2).toNatClampNeg ≤ (am_k (am_new h 2 (nI n).toNatClampNeg (nI n).toNatClampNeg) (am_n h)).2
    rw [eM, k77, kN, c0, cl]
    exact ⟨⟨rfl, rfl⟩, ⟨by decide, by decide, nI_pos (by omega)⟩, by show 0 + n ≤ 700; omega, by show 0 + n ≤ n; omega⟩
  · refine And.intro trivial (hQ _ _ (HQ _ ?_))
    show am_cp (am_new h 2 (nI n).toNatClampNeg (nI n).toNatClampNeg) 77 (nI 0).toNatClampNeg (am_n h) (nI 0).toNatClampNeg (if nI n < nI (am_k (am_new h 2 (nI n).toNatClampNeg (nI n).toNatClampNeg) 77).2 then nI n else nI (am_k (am_new h 2 (nI n).toNatClampNeg (nI n).toNatClampNeg) 77).2).toNatClampNeg = _
    rw [eM, c0, cl]
set_option maxHeartbeats 4000000 in
theorem c_Fo_init (hd : 1 ≤ d) {F C : Nat} (hF0 : F ≠ 0) (hk : am_k h F = (1, 1)) (hlt : F < am_n h) (hn : am_n h < 900000) (HQ : ∀ h', h' = am_pr (am_pr (am_new h 2 11 11) F 1 (am_n h)) F 0 C → Q (.inl none) h') : am_C xs am_P0 d m_Fo_init [.ref F, .ref C] h Q := by
  refine am_C_le hd (am_enter (d := 0) ap_Fo_init rfl ?_) (fun _ _ k => k)
  refine am_go (fun _ => false) (fun K cal Q' hK hC hQ => ?_)
  have k1 : am_k (am_new h 2 (nI 11).toNatClampNeg (nI 11).toNatClampNeg) F = (1, 1) := by rw [k_new, if_neg (by omega)]; exact hk
  refine And.intro hF0 (And.intro ⟨by show am_n h < 1000000; omega, by decide, by decide⟩ (And.intro k1 (And.intro k1 (And.intro trivial (hQ _ _ (HQ _ rfl))))))
end

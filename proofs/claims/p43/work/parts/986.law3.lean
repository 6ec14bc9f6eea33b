/-! THE LAW'S OWN MODEL, 3: exact, its constructor; what its writes and the class's leave alone -/
def isy (n T : Nat) (cf : (Nat → Nat) → Nat) (A : Nat → Nat) : Prop := avalid n T A ∧ (∀ B, avalid n T B → cf A ≤ cf B) ∧ ∀ B, avalid n T B → llt n B A → cf A < cf B
/-- what calls of the class leave alone -/
def cff (c w : Nat) (h h' : am_H) : Prop := (∀ a, a < am_n h ∨ am_n h' ≤ a → am_k h' a = am_k h a) ∧ (∀ a, 87 ≤ a → a < am_n h → am_i h' a = am_i h a ∧ am_r h' a = am_r h a) ∧ (am_n h ≤ am_n h' ∧ am_n h' ≤ am_n h + c) ∧ am_cs h' ≤ am_cs h + w
theorem cff.rf {h : am_H} : cff 0 0 h h := ⟨fun _ _ => rfl, fun _ _ _ => ⟨rfl, rfl⟩, ⟨Nat.le_refl _, Nat.le_refl _⟩, Nat.le_refl _⟩
theorem cff_of {h h' : am_H} (s : clF h h') : cff 3 720 h h' := ⟨s.1, fun a h1 h2 => ⟨(s.2.1 a h1 h2).1, (s.2.1 a h1 h2).2.2⟩, s.2.2.1, s.2.2.2⟩
theorem cff.tr {c w c2 w2 : Nat} {h h1 h2 : am_H} (s : cff c w h h1) (t : cff c2 w2 h1 h2) : cff (c + c2) (w + w2) h h2 := by
  obtain ⟨a1, a2, ⟨a3, a4⟩, a5⟩ := s
  obtain ⟨b1, b2, ⟨b3, b4⟩, b5⟩ := t
  refine ⟨fun a ha => (b1 a (by omega)).trans (a1 a (by omega)), fun a h1 h2 => ?_, ⟨by omega, by omega⟩, by omega⟩
  have u := a2 a h1 h2
  have v := b2 a h1 (by omega)
  exact ⟨v.1.trans u.1, v.2.trans u.2⟩
theorem cff.mo {c w c2 w2 : Nat} {h h1 : am_H} (s : cff c w h h1) (hc : c ≤ c2) (hw : w ≤ w2) : cff c2 w2 h h1 := ⟨s.1, s.2.1, ⟨s.2.2.1.1, by have := s.2.2.1.2; omega⟩, by have := s.2.2.2; omega⟩
theorem cff_ml {c w n T : Nat} {C : Nat → Nat → Nat} {h h1 : am_H} (s : cff c w h h1) (hs : sh h) (m : mlO h n T C) : mlO h1 n T C := by
  have n5 := hs.2.2
  refine ⟨⟨by rw [(s.2.1 87 (by omega) (by omega)).1]; exact m.1.1, by rw [(s.2.1 87 (by omega) (by omega)).1]; exact m.1.2⟩, m.2.1, fun a ha b hb => ?_⟩
  rw [(s.2.1 (89 + a) (by omega) (by omega)).1]
  exact m.2.2 a ha b hb
theorem cff_TN {c w : Nat} {h h1 : am_H} (s : cff c w h h1) (T : TN h) : TN h1 := fun a ha => (s.1 a (Or.inr ha)).trans (T a (Nat.le_trans s.2.2.1.1 ha))
theorem slf_TN {tr c w : Nat} {h h1 : am_H} (s : slf tr c w h h1) (T : TN h) : TN h1 := fun a ha => (s.2.1 a (Or.inr ha)).trans (T a (Nat.le_trans s.1.1 ha))
/-- the class's state needs no more than what was there but the law's object -/
theorem CI_keep {h h' : am_H} {st : stD} (I : CI h st) (T : TN h) (hn : am_n h ≤ am_n h') (hk : ∀ x, x < am_n h → am_k h' x = am_k h x) (hv : ∀ x, x < am_n h → x ≠ 87 → am_i h' x = am_i h x ∧ am_r h' x = am_r h x) (r87 : am_r h' 87 2 = am_r h 87 2) : CI h' st := by
  obtain ⟨hs, i2, i3, ⟨i4, i5, i6⟩, i7⟩ := I
  have n5 := hs.2.2
  have hs' : sh h' := by
    refine ⟨fun a ha => (hk a (by omega)).trans (hs.1 a ha), fun q hq => ?_, Nat.le_trans n5 hn⟩
    obtain ⟨q1, q2⟩ := sh_no87 q hq
    rw [← hs.2.1 q hq]
    by_cases e : q.1 = 87
    · have h2 : q.2.1 = 2 := by
        have : ∀ q ∈ sh_rl, q.1 = 87 → q.2.1 = 2 := by decide +kernel
        exact this q hq e
      rw [e, h2]; exact r87
    · rw [(hv q.1 (by omega) e).2]
  have key : ∀ x t n, am_k h x = (t + 1, n) → x < am_n h := fun x t n e => Nat.not_le.mp fun q => by rw [T x q] at e; cases e
  have fo : ∀ a cs, a < 87 → gfo h a cs → gfo h' a cs := by
    intro a cs ha f
    have e9 : am_r h' a 9 = am_r h a 9 := by rw [(hv a (by omega) (by omega)).2]
    cases cs with
    | none => exact e9.trans f
    | some cs =>
      obtain ⟨f1, ⟨g1, g2, g3, g4, g5, g6, g7⟩, f3⟩ := f
      have a0 := key _ 0 _ g1
      have a1 := key _ 1 _ g4
      have a2 := key _ 1 _ g5
      refine ⟨by rw [e9]; exact f1, ?_, f3⟩
      rw [e9]
      exact ⟨(hk _ a0).trans g1, by rw [(hv _ a0 (by omega)).2]; exact g2, by rw [(hv _ a0 (by omega)).2]; exact g3, (hk _ a1).trans g4, (hk _ a2).trans g5, fun k hk9 => by rw [(hv _ a1 (by omega)).1]; exact g6 k hk9, g7⟩
  have cp : ∀ a g, a + 6 < 87 → cgp h a g → cgp h' a g := by
    intro a g ha p
    obtain ⟨⟨p1, p2, p3, p4⟩, q1, q2, q3, q4, q5, q6⟩ := p
    have I : ∀ i k, i ≤ 6 → am_i h' (a + i) k = am_i h (a + i) k := fun i k hi => by rw [(hv (a + i) (by omega) (by omega)).1]
    have g1 : gs h' a := by
      obtain ⟨x1, ⟨x2, x3, x4, x5, x6, x7⟩, x8, x9, x10, x11, x12, x13⟩ := p1
      have R : ∀ k, am_r h' a k = am_r h a k := fun k => by rw [(hv a (by omega) (by omega)).2]
      have KK : ∀ i, i ≤ 6 → am_k h' (a + i) = am_k h (a + i) := fun i hi => hk (a + i) (by omega)
      exact ⟨(KK 0 (by decide)).trans x1, ⟨(KK 1 (by decide)).trans x2, (KK 2 (by decide)).trans x3, (KK 3 (by decide)).trans x4, (KK 4 (by decide)).trans x5, (KK 5 (by decide)).trans x6, (KK 6 (by decide)).trans x7⟩, (R 3).trans x8, (R 4).trans x9, (R 5).trans x10, (R 6).trans x11, (R 7).trans x12, (R 8).trans x13⟩
    exact ⟨⟨g1, ⟨(I 0 0 (by decide)).trans p2.1, (I 0 1 (by decide)).trans p2.2.1, (I 0 2 (by decide)).trans p2.2.2⟩, fun e he => ⟨(I 3 e (by decide)).trans (p3 e he).1, (I 4 e (by decide)).trans (p3 e he).2⟩, p4⟩, fun e he => (I 5 e (by decide)).trans (q1 e he), fun v hv => (I 1 v (by decide)).trans (q2 v hv), fun v hv => (I 2 v (by decide)).trans (q3 v hv), fun e he => (I 6 e (by decide)).trans (q4 e he), fo a _ (by omega) q5, q6⟩
  obtain ⟨nx, n8, e1, e2, l8, hj⟩ := i3
  refine ⟨hs', cp 3 _ (by decide) i2, ⟨nx, n8, by rw [(hv 10 (by omega) (by omega)).1]; exact e1, by rw [(hv 10 (by omega) (by omega)).1]; exact e2, l8, fun j g hg => cp _ _ (by unfold hrow; omega) (hj j g hg)⟩, ⟨i4, by rw [(hv 1 (by omega) (by omega)).1]; exact i5, fun k hk9 => by rw [(hv 2 (by omega) (by omega)).1]; exact i6 k hk9⟩, by rw [(hv 1 (by omega) (by omega)).1]; exact i7⟩
theorem slf_CI {tr c w : Nat} {h h1 : am_H} {st : stD} (s : slf tr c w h h1) (I : CI h st) (T : TN h) (ht : tr = 87 ∨ am_n h ≤ tr) : CI h1 st := CI_keep I T s.1.1 (fun x hx => s.2.1 x (Or.inl hx)) (fun x hx h1' => s.2.2.1 x hx h1' (by rcases ht with q | q <;> omega)) (s.2.2.2.2 2 (by decide))
section
variable {xs : am_X} {d : Nat} {h : am_H} {Q : am_Q} {n T : Nat} {C : Nat → Nat → Nat}
theorem k_mul (h : am_H) (n k x : Nat) : am_k (am_mul h n k) x = if x = am_n h then (7, n) else if am_n h < x ∧ x ≤ am_n h + n then (2, k) else am_k h x := rfl
theorem c_La_init {a : Nat} (hd : 1 ≤ d) (ka : am_k h a = (1, 9)) (ha : a < am_n h) (a0 : a ≠ 0) (hN : am_n h < 800000) (HQ : Q (.inl none) (am_pr (am_mul h 6 6) a 2 (am_n h))) : am_C xs am_P0 d m_La_init [.ref a] h Q := by
  refine am_C_le hd (am_enter (d := 0) ap_La_init rfl ?_) (fun _ _ k => k)
  refine am_go (fun _ => false) (fun K cal Q' hK hC hQ => ?_)
  refine And.intro a0 (And.intro ⟨⟨by decide, by decide, by decide, by decide⟩, by show am_n h + 6 < 1000000; omega⟩ (And.intro ?_ (And.intro trivial (hQ _ _ HQ))))
  show am_k (am_mul h 6 6) a = (1, 9)
  rw [k_mul, if_neg (by omega), if_neg (by omega)]
  exact ka
set_option maxHeartbeats 4000000 in
theorem c_La_exact (hd : 9 ≤ d) (hs : sh h) (m : mlO h n T C) (hn0 : 0 < n) {TS : Nat} (hTS : TS < 2 ^ n) (hN : am_n h ≤ 800000)
    (HQ0 : TS = 0 → ∀ h', slf 87 0 0 h h' → Q (.inl (some (.int (nI 0)))) h')
    (HQ1 : TS ≠ 0 → ∀ h' A, slf 87 46657 279942 h h' → yst h' n (am_n h) (some (cfo n C A, A)) → isy n TS (cfo n C) A → Q (.inl (some (.int (nI (cfo n C A))))) h') : am_C xs am_P0 d m_La_exact [.ref 87, .int (nI TS)] h Q := by
  obtain ⟨⟨m0, m1⟩, ⟨hn, hT⟩, mC⟩ := id m
  have n5 := hs.2.2
  have hk := sk_87 hs
  have hTS31 : TS < 2 ^ 31 := Nat.lt_trans hTS (pow_le31 (by omega))
  refine am_C_le hd (am_enter (d := 8) ap_La_exact rfl ?_) (fun _ _ k => k)
  refine am_go (fun p => p == 11) (fun K cal Q' hK hC hQ => ?_)
  have s0 : slf 87 0 0 h (am_pr h 87 3 0) := ⟨⟨Nat.le_refl _, Nat.le_refl _, Nat.le_refl _⟩, fun _ _ => rfl, fun x _ h1 _ => ⟨rfl, r_pr_ne h1⟩, fun _ _ => rfl, fun k hk => by rw [r_pr, if_pos rfl, if_neg hk]⟩
  refine And.intro hk (And.intro (fun z => hK _ _ _ _ ?_) (fun z => ?_))
  · have z : ¬ nI TS = 0 := z
    have hT0 : TS ≠ 0 := fun e => z (by rw [e]; rfl)
    show am_W _ _ _ _ _ 11 [.ref 87, .int (nI TS)] [] (am_pr h 87 3 0)
    refine am_go (fun _ => false) (fun K cal Q' hK hC hQ => ?_)
    have e0 : am_i (am_pr h 87 3 0) 87 0 = nI n := m0
    refine And.intro hk (And.intro ?_ ?_)
    · show am_n h < 1000000 ∧ ¬ am_i h 87 0 < 0 ∧ (am_i h 87 0).toNatClampNeg ≤ 100000
      rw [m0, q_cl (by omega)]
      exact ⟨by omega, nI_pos (by omega), by omega⟩
    have e1 : am_new (am_pr h 87 3 0) 2 (am_i h 87 0).toNatClampNeg (am_i h 87 0).toNatClampNeg = am_new (am_pr h 87 3 0) 2 n n := by rw [m0, q_cl (by omega)]
    have kn : ∀ x, am_k (am_new (am_pr h 87 3 0) 2 n n) x = if x = am_n h then (2, n) else am_k h x := fun x => k_new (am_pr h 87 3 0) 2 n n x
    have in' : ∀ x, x ≠ am_n h → am_i (am_new (am_pr h 87 3 0) 2 n n) x = am_i h x := fun x hx => i_new_ne (h := am_pr h 87 3 0) hx
    have rn' : ∀ x, x ≠ am_n h → am_r (am_new (am_pr h 87 3 0) 2 n n) x = am_r (am_pr h 87 3 0) x := fun x hx => r_new_ne (h := am_pr h 87 3 0) hx
    have hs1 : sh (am_new (am_pr h 87 3 0) 2 n n) := by
      refine ⟨fun a ha => (kn a).trans (by rw [if_neg (by omega)]; exact hs.1 a ha), fun q hq => ?_, by show 95 ≤ am_n h + 1; omega⟩
      obtain ⟨q1, q2⟩ := sh_no87 q hq
      rw [rn' q.1 (by omega), ← hs.2.1 q hq]
      by_cases e : q.1 = 87
      · rw [e, r_pr, if_pos rfl, if_neg (fun z => q2 ⟨e, z⟩)]
      · rw [r_pr_ne e]
    have m1' : mlO (am_new (am_pr h 87 3 0) 2 n n) n T C := ⟨⟨by rw [in' 87 (by omega)]; exact m0, by rw [in' 87 (by omega)]; exact m1⟩, ⟨hn, hT⟩, fun a ha b hb => by rw [in' (89 + a) (by omega)]; exact mC a ha b hb⟩
    have h69 : 6 ^ n ≤ 6 ^ 6 := Nat.pow_le_pow_right (by decide) hn
    have h66 : 6 ^ 6 = 46656 := by decide
    refine And.intro ((congrArg (fun x => am_k x 87) e1).trans ((kn 87).trans (by rw [if_neg (by omega)]; exact hk))) ?_
    show cal m_La_search [.ref 87, .ref (am_n h), .int (nI 0), .int (nI TS)] (am_new (am_pr h 87 3 0) 2 (am_i h 87 0).toNatClampNeg (am_i h 87 0).toNatClampNeg) _
    rw [e1]
    refine hC _ _ _ _ (am_C_le (by omega : n + 2 ≤ 8) (c_La_search (N0 := am_n h + 1) hTS n5 (Nat.lt_succ_self _) n 0 (fun _ => 0) _ none _ (Nat.zero_add n) hs1 m1' (by rw [kn, if_pos rfl]) (Nat.le_refl _) (by show am_n h + 1 + 6 ^ n ≤ 900000; omega) ?_ (fun w hw => absurd hw (Nat.not_lt_zero w)) (fun w hw => absurd hw (Nat.not_lt_zero w)) (fun B hB => by obtain ⟨u, u1, -⟩ := hB; exact absurd u1 (Nat.not_lt_zero u)) (fun h' o' s hst htr hin => ?_)) (fun _ _ q => q))
    · show am_r (am_new (am_pr h 87 3 0) 2 n n) 87 3 = 0
      rw [rn' 87 (by omega), r_pr, if_pos rfl, if_pos rfl]
    obtain ⟨⟨a1, a2, a3⟩, a4, a5, a6, a7⟩ := s
    have a1 : am_n h + 1 ≤ am_n h' := a1
    have a2 : am_n h' ≤ am_n h + 1 + 6 ^ n := a2
    have a3 : am_cs h' ≤ am_cs h + n + 6 * 6 ^ n := a3
    have sl : slf 87 46657 279942 h h' := by
      refine ⟨⟨by omega, by omega, by omega⟩, fun x hx => ?_, fun x hx h1 _ => ?_, fun k hk => ?_, fun k hk => ?_⟩
      · rw [a4 x (by rcases hx with q | q; exact Or.inl (by show x < am_n h + 1; omega); exact Or.inr q), kn, if_neg (by omega)]
      · have q := a5 x (by show x < am_n h + 1; omega) h1 (by omega)
        exact ⟨q.1.trans (in' x (by omega)), q.2.trans ((rn' x (by omega)).trans (r_pr_ne h1))⟩
      · rw [a6 k hk, in' 87 (by omega)]
      · rw [a7 k hk, rn' 87 (by omega), r_pr, if_pos rfl, if_neg hk]
    cases o' with
    | none =>
      obtain ⟨t, ht⟩ := q_ex_T hT0
      exfalso
      refine hin (fun w => if TS.testBit w then w else t) (Or.inr fun w hw => absurd hw (Nat.not_lt_zero w)) (fun v hv => ?_)
      by_cases q : TS.testBit v = true
      · simp only [if_pos q]; exact ⟨q, fun _ => trivial⟩
      · simp only [if_neg q]; exact ⟨ht, fun z => absurd z q⟩
    | some q =>
      obtain ⟨bc, A⟩ := q
      obtain ⟨b1, b2, b3, b4, b5⟩ := hin
      subst b3
      have all : ∀ B : Nat → Nat, xE 0 (fun _ => 0) B ∨ lag 0 B (fun _ => 0) := fun B => Or.inr fun w hw => absurd hw (Nat.not_lt_zero w)
      obtain ⟨y1, y2, f, y3, ⟨y4, y5, y6⟩, y7, y8⟩ := hst
      refine And.intro ((sl.2.1 87 (Or.inl (by omega))).trans hk) (And.intro trivial (hQ _ _ ?_))
      show Q (.inl (some (.int (am_i h' 87 4)))) h'
      rw [y1]
      exact HQ1 hT0 h' A sl ⟨y1, y2, f, y3, ⟨by omega, y5, y6⟩, y7, y8⟩ ⟨b2, fun B hv => b4 B (all B) hv, fun B hv hl => b5 B (all B) hv hl⟩
  · have z : nI TS = 0 := Classical.not_not.mp z
    have hT0 : TS = 0 := (nI_eq (by omega) (by decide)).mp (show nI TS = nI 0 from z)
    exact And.intro trivial (hQ _ _ (HQ0 hT0 _ s0))
end

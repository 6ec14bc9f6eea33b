/-! THE CLASS'S READER: tokens -/
theorem run_mid {f : Nat → Bool} {t : tX} : ∀ n p i, i - p = n → p ≤ i → i < run f t p → i < t.1 ∧ f (t.2 i) = true := by
  intro n
  induction n with
  | zero =>
    intro p i e hi h
    have e : i = p := by omega
    subst e
    by_cases z : i < t.1 ∧ f (t.2 i) = true
    · exact z
    · rw [run_out (by
        by_cases y : i < t.1
        · exact Or.inr (by simpa using fun u => z ⟨y, u⟩)
        · exact Or.inl (by omega))] at h
      omega
  | succ n ih =>
    intro p i e hi h
    by_cases z : p < t.1 ∧ f (t.2 p) = true
    · rw [run_in z.1 z.2] at h
      exact ih (p + 1) i (by omega) (by omega) h
    · rw [run_out (by
        by_cases y : p < t.1
        · exact Or.inr (by simpa using fun u => z ⟨y, u⟩)
        · exact Or.inl (by omega))] at h
      omega
theorem bS_sp : ∀ c, c < 256 → (bS c = nI 32 ↔ isSp c = true) := by decide +kernel
theorem bS_dg : ∀ c, c < 256 → (bS c < nI 48 → isDg c = false) ∧ (nI 57 < bS c → isDg c = false) ∧ (¬ bS c < nI 48 → ¬ nI 57 < bS c → isDg c = true) := by decide +kernel
theorem bS_lt : ∀ c, c < 256 → (bS c < nI 97 → isLt c = false) ∧ (nI 122 < bS c → isLt c = false) ∧ (¬ bS c < nI 97 → ¬ nI 122 < bS c → isLt c = true) := by decide +kernel
theorem bS_dv : ∀ c, c < 256 → isDg c = true → bS c = nI c ∧ 48 ≤ c ∧ c ≤ 57 := by decide +kernel
theorem bS_i : ∀ c, c < 256 → (bS c).toInt = if c < 128 then (c : Int) else (c : Int) - 256 := by decide +kernel
theorem bS_ch {c s : Nat} (hc : c < 256) (hs : s < 128) : bS c = nI s ↔ c = s := by
  rw [fa_eq, bS_i c hc, nI_toInt (by omega)]
  split <;> omega
theorem bS_big : ∀ c, c < 256 → bS c ≠ nI 1000 ∧ bS c ≠ nI 1001 ∧ bS c ≠ nI 1002 := by decide +kernel
/-- the text: its bytes in the class's buffer -/
def rTx (h : am_H) (t : tX) : Prop := t.1 ≤ 700 ∧ am_i h 68 4 = nI t.1 ∧ am_r h 68 3 = 2 ∧ ∀ k, k < t.1 → am_i h 2 k = bS (t.2 k) ∧ t.2 k < 256
def kdI (t : tX) (q : Nat) : Int32 := if q < t.1 then (if isDg (t.2 q) = true then nI 1001 else if isLt (t.2 q) = true then nI 1002 else bS (t.2 q)) else nI 1000
/-- the token at q is the present one -/
def rTk (h : am_H) (t : tX) (q : Nat) : Prop := q ≤ t.1 ∧ am_i h 68 5 = kdI t q ∧ am_i h 68 6 = nI q ∧ am_i h 68 7 = nI (te t q) ∧ (dgAt t q = true → am_i h 68 8 = nI (min 100000 (num t q)))
theorem rTx.mv {h h' : am_H} {t : tX} {X : List Nat} (x : rTx h t) (s : sm X h h') (h4 : am_i h' 68 4 = am_i h 68 4) (hX : 2 ∉ X) : rTx h' t := ⟨x.1, h4.trans x.2.1, (s.r _ _).trans x.2.2.1, fun k hk => ⟨(s.i hX k).trans (x.2.2.2 k hk).1, (x.2.2.2 k hk).2⟩⟩
theorem rTx.ld {h : am_H} {t : tX} (x : rTx h t) {i : Nat} (hi : i < t.1) : am_i h (am_r h 68 3) (nI i).toNatClampNeg = bS (t.2 i) := by
  rw [x.2.2.1, q_cl (by have := x.1; omega)]
  exact (x.2.2.2 i hi).1
theorem rTx.ck {h : am_H} {t : tX} (x : rTx h t) (hs : sh h) {i : Nat} (hi : i < t.1) : am_arr h (am_r h 68 3) 3 (nI i) := ck_row x.2.2.1 (sk_2 hs) rfl (by have := x.1; omega) (by decide)
/-- what a walk over tokens may change -/
def rF (h h' : am_H) : Prop := sm [68, 77] h h' ∧ ∀ k, (k = 4 ∨ k = 9 ∨ k = 10) → am_i h' 68 k = am_i h 68 k
theorem rF.rf {h : am_H} : rF h h := ⟨sm.rf, fun _ _ => rfl⟩
theorem rF.tr {h h1 h2 : am_H} (s : rF h h1) (t : rF h1 h2) : rF h h2 := ⟨s.1.tr t.1, fun k hk => (t.2 k hk).trans (s.2 k hk)⟩
theorem rF.x {h h' : am_H} {t : tX} (s : rF h h') (x : rTx h t) : rTx h' t := x.mv s.1 (s.2 4 (Or.inl rfl)) (by decide)
set_option maxHeartbeats 8000000 in
theorem c_advance {xs : am_X} {d : Nat} {h : am_H} {t : tX} {p : Nat} (hd : 1 ≤ d) (hs : sh h) (x : rTx h t) (h7 : am_i h 68 7 = nI p) (hp : p ≤ t.1) {Q : am_Q}
    (HQ : ∀ h', sm [68] h h' → (∀ k, ¬ (5 ≤ k ∧ k ≤ 8) → am_i h' 68 k = am_i h 68 k) → rTk h' t (sk t p) → Q (.inl none) h') : am_C xs am_P0 d m_Rd_advance [.ref 68] h Q := by
  have t7 := x.1
  have g1 := sk_ge t p
  have g2 := sk_len hp
  generalize hq : sk t p = q at HQ g1 g2
  refine am_C_le hd (am_enter (d := 0) ap_Rd_advance rfl ?_) (fun _ _ k => k)
  -- the end
  have fin : ∀ (h3 : am_H) (v8 : Int32), sm [68] h h3 → (∀ k, am_i h3 68 k = if k = 5 then kdI t q else if k = 8 then v8 else if k = 6 then nI q else am_i h 68 k) → (dgAt t q = true → v8 = nI (min 100000 (num t q))) → am_W xs (am_code at_Rd_advance) (am_hd ah_Rd_advance) (am_C xs am_P0 0) Q 227 [.ref 68, .int (nI (te t q))] [] h3 := by
    intro h3 v8 s f v
    refine am_go (fun _ => false) (fun K cal Q' hK hC hQ => ?_)
    refine And.intro (sk_68 (s.sh hs)) (And.intro trivial (hQ _ _ ?_))
    refine HQ _ (s.pi (by decide)) (fun k hk => ?_) ⟨g2, ?_, ?_, ?_, fun z => ?_⟩
    · show am_i (am_pi h3 68 7 (nI (te t q))) 68 k = _
      rw [i_pi_same, if_neg (by omega), f, if_neg (by omega), if_neg (by omega), if_neg (by omega)]
    · show am_i (am_pi h3 68 7 (nI (te t q))) 68 5 = _
      rw [i_pi_same, if_neg (by decide), f, if_pos rfl]
    · show am_i (am_pi h3 68 7 (nI (te t q))) 68 6 = _
      rw [i_pi_same, if_neg (by decide), f, if_neg (by decide), if_neg (by decide), if_pos rfl]
    · show am_i (am_pi h3 68 7 (nI (te t q))) 68 7 = _
      rw [i_pi_same, if_pos rfl]
    · show am_i (am_pi h3 68 7 (nI (te t q))) 68 8 = _
      rw [i_pi_same, if_neg (by decide), f, if_neg (by decide), if_pos rfl]
      exact v z
  -- the token
  have tok : am_W xs (am_code at_Rd_advance) (am_hd ah_Rd_advance) (am_C xs am_P0 0) Q 30 [.ref 68, .int (nI q)] [] h := by
    refine am_go (fun p => p == 87 || p == 149 || p == 227) (fun K cal Q' hK hC hQ => ?_)
    refine And.intro (sk_68 hs) (And.intro (sk_68 hs) ?_)
    show am_k (am_pi (am_pi h 68 6 (nI q)) 68 8 (nI 0)) 68 = _ ∧ _
    have s2 : sm [68] h (am_pi (am_pi h 68 6 (nI q)) 68 8 (nI 0)) := (sm.rf.pi (by decide)).pi (by decide)
    have f2 : ∀ k, am_i (am_pi (am_pi h 68 6 (nI q)) 68 8 (nI 0)) 68 k = if k = 8 then nI 0 else if k = 6 then nI q else am_i h 68 k := fun k => by rw [i_pi_same, i_pi_same]
    generalize am_pi (am_pi h 68 6 (nI q)) 68 8 (nI 0) = h2 at s2 f2
    have hs2 := s2.sh hs
    have x2 : rTx h2 t := x.mv s2 (by rw [f2]; rfl) (by decide)
    have l2 : am_i h2 68 4 = nI t.1 := x2.2.1
    have f5 : ∀ v k, am_i (am_pi h2 68 5 v) 68 k = if k = 5 then v else if k = 8 then nI 0 else if k = 6 then nI q else am_i h 68 k := fun v k => by rw [i_pi_same, f2]
    refine And.intro (sk_68 hs2) (And.intro (fun c => ?_) (fun c => ?_))
    rotate_left
    · have c : ¬ nI q < am_i h2 68 4 := c
      rw [l2] at c
      have c : t.1 ≤ q := Nat.not_lt.mp fun z => c (nI_lt z (by omega))
      refine And.intro (sk_68 hs2) (hK _ _ _ _ ?_)
      have eT : te t q = q := by unfold te; rw [if_neg (by omega)]
      have := fin (am_pi h2 68 5 (nI 1000)) (nI 0) (s2.pi (by decide)) (fun k => by rw [f5]; unfold kdI; rw [if_neg (by omega : ¬ q < t.1)]) (fun z => by unfold dgAt at z; rw [decide_eq_false (by omega)] at z; cases z)
      rw [eT] at this
      exact this
    have c : nI q < am_i h2 68 4 := c
    rw [l2] at c
    have c : q < t.1 := (nI_ltI (by omega) (by omega)).mp c
    have b256 := (x2.2.2.2 q c).2
    have ld := x2.ld c
    obtain ⟨d1, d2, d3⟩ := bS_dg _ b256
    obtain ⟨e1, e2, e3⟩ := bS_lt _ b256
    -- not a digit
    have nodig : isDg (t.2 q) = false → am_W xs (am_code at_Rd_advance) (am_hd ah_Rd_advance) (am_C xs am_P0 0) Q 149 [.ref 68, .int (nI q)] [] h2 := by
      intro nd
      have ndd : dgAt t q = false := by unfold dgAt; rw [nd, Bool.and_false]
      have kd : kdI t q = if isLt (t.2 q) = true then nI 1002 else bS (t.2 q) := by unfold kdI; rw [if_pos c, if_neg (by rw [nd]; decide)]
      have sym : isLt (t.2 q) = false → am_W xs (am_code at_Rd_advance) (am_hd ah_Rd_advance) (am_C xs am_P0 0) Q 214 [.ref 68, .int (nI q)] [] h2 := by
        intro nl
        refine am_go (fun p => p == 227) (fun K cal Q' hK hC hQ => ?_)
        refine And.intro (sk_68 hs2) (And.intro (x2.ck hs2 c) (And.intro (sk_68 hs2) (hK _ _ _ _ ?_)))
        have eT : te t q = q + 1 := by unfold te; rw [if_pos c, if_neg (by rw [nd]; decide), if_neg (by rw [nl]; decide)]
        have := fin (am_pi h2 68 5 (bS (t.2 q))) (nI 0) (s2.pi (by decide)) (fun k => by rw [f5, kd, if_neg (by rw [nl]; decide : ¬ isLt (t.2 q) = true)]) (fun z => by rw [ndd] at z; cases z)
        rw [eT, ← ld, ← nI_1 q] at this
        exact this
      refine am_go (fun p => p == 178 || p == 214) (fun K cal Q' hK hC hQ => ?_)
      refine And.intro (sk_68 hs2) (And.intro (x2.ck hs2 c) (And.intro (fun z => hK _ _ _ _ (sym (e1 (by rw [← ld]; exact z)))) (fun z1 => ?_)))
      refine And.intro (sk_68 hs2) (And.intro (x2.ck hs2 c) (And.intro (fun z => hK _ _ _ _ (sym (e2 (by rw [← ld]; exact z)))) (fun z2 => ?_)))
      have lt : isLt (t.2 q) = true := e3 (fun y => z1 (by rw [← ld] at y; exact y)) (fun y => z2 (by rw [← ld] at y; exact y))
      refine And.intro (sk_68 hs2) (hK _ _ _ _ ?_)
      rw [if_pos lt] at kd
      have eT : te t q = run isLt t q := te_lt (by unfold ltAt; rw [decide_eq_true c, lt]; rfl)
      have s3 : sm [68] h (am_pi h2 68 5 (nI 1002)) := s2.pi (by decide)
      have hs3 := s3.sh hs
      have x3 : rTx (am_pi h2 68 5 (nI 1002)) t := x2.mv (sm.rf.pi (by decide : 68 ∈ [68])) (by rw [f5, f2]; rfl) (by decide)
      have fin2 := fin (am_pi h2 68 5 (nI 1002)) (nI 0) s3 (fun k => by rw [f5, kd]) (fun z => by rw [ndd] at z; cases z)
      show am_W _ _ _ _ _ 178 _ _ (am_pi h2 68 5 (nI 1002))
      generalize am_pi h2 68 5 (nI 1002) = h3 at s3 hs3 x3 fin2 ⊢
      rw [eT] at fin2
      refine am_for (run isLt t q) (fun i L h' => h' = h3 ∧ q ≤ i ∧ L = [.ref 68, .int (nI i)]) ?_ ?_ q (run_ge _ _ _) _ _ ⟨rfl, Nat.le_refl _, rfl⟩
      · rintro i hi9 L h' ⟨rfl, qi, rfl⟩ next
        have eI : am_inc (nI i) (Int.ofNat 1) = nI (i + 1) := nI_1 i
        rw [← eI] at next
        obtain ⟨m1, m2⟩ := run_mid _ _ _ rfl qi hi9
        have ldi := x3.ld m1
        obtain ⟨e1, e2, e3⟩ := bS_lt _ (x3.2.2.2 i m1).2
        refine am_go (fun p => p == 178 || p == 227) (fun K cal Q' hK hC hQ => ?_)
        refine And.intro (sk_68 hs3) (And.intro (fun z => absurd z (q_ge x3.2.1 m1 (by omega))) (fun _ => ?_))
        refine And.intro (sk_68 hs3) (And.intro (x3.ck hs3 m1) (And.intro (fun z => absurd (e1 (by rw [← ldi]; exact z)) (by rw [m2]; decide)) (fun _ => ?_)))
        refine And.intro (sk_68 hs3) (And.intro (x3.ck hs3 m1) (And.intro (fun z => absurd (e2 (by rw [← ldi]; exact z)) (by rw [m2]; decide)) (fun _ => ?_)))
        exact hK _ _ _ _ (next _ _ ⟨rfl, by omega, rfl⟩)
      · rintro L h' ⟨rfl, qi, rfl⟩
        have st := run_stop isLt t q
        have rl := run_len (f := isLt) g2
        generalize run isLt t q = r at st rl fin2
        refine am_go (fun p => p == 178 || p == 227) (fun K cal Q' hK hC hQ => ?_)
        refine And.intro (sk_68 hs3) (And.intro (fun _ => hK _ _ _ _ fin2) (fun y => ?_))
        have y : ¬ am_i h' 68 4 ≤ nI r := y
        rw [x3.2.1] at y
        have m1 : r < t.1 := Nat.not_le.mp fun u => y (nI_le u (by omega))
        have m2 : isLt (t.2 r) = false := st.resolve_left (by omega)
        have ldi := x3.ld m1
        obtain ⟨e1, e2, e3⟩ := bS_lt _ (x3.2.2.2 r m1).2
        refine And.intro (sk_68 hs3) (And.intro (x3.ck hs3 m1) (And.intro (fun _ => hK _ _ _ _ fin2) (fun z1 => ?_)))
        refine And.intro (sk_68 hs3) (And.intro (x3.ck hs3 m1) (And.intro (fun _ => hK _ _ _ _ fin2) (fun z2 => ?_)))
        exact absurd (e3 (fun y => z1 (by rw [← ldi] at y; exact y)) (fun y => z2 (by rw [← ldi] at y; exact y))) (by rw [m2]; decide)
    refine And.intro (sk_68 hs2) (And.intro (x2.ck hs2 c) (And.intro (fun z => hK _ _ _ _ (nodig (d1 (by rw [← ld]; exact z)))) (fun z1 => ?_)))
    refine And.intro (sk_68 hs2) (And.intro (x2.ck hs2 c) (And.intro (fun z => hK _ _ _ _ (nodig (d2 (by rw [← ld]; exact z)))) (fun z2 => ?_)))
    have dg : isDg (t.2 q) = true := d3 (fun y => z1 (by rw [← ld] at y; exact y)) (fun y => z2 (by rw [← ld] at y; exact y))
    have dga : dgAt t q = true := by unfold dgAt; rw [decide_eq_true c, dg]; rfl
    refine And.intro (sk_68 hs2) (hK _ _ _ _ ?_)
    have kd : kdI t q = nI 1001 := by unfold kdI; rw [if_pos c, if_pos dg]
    have eT : te t q = run isDg t q := te_dg dga
    have n0 := valR_0 100000 t q
    rw [eT] at fin
    rw [kd] at fin
    show am_W _ _ _ _ _ 87 _ _ (am_pi h2 68 5 (nI 1001))
    have f9 : ∀ k, am_i (am_pi h2 68 5 (nI 1001)) 68 k = if k = 5 then nI 1001 else if k = 8 then nI 0 else if k = 6 then nI q else am_i h 68 k := f5 (nI 1001)
    have s9 : sm [68] h (am_pi h2 68 5 (nI 1001)) := s2.pi (by decide)
    generalize am_pi h2 68 5 (nI 1001) = h9 at f9 s9 ⊢
    refine am_for (run isDg t q) (fun i L h' => q ≤ i ∧ L = [.ref 68, .int (nI i)] ∧ sm [68] h h' ∧ ∃ v, v ≤ 100000 ∧ valR 100000 t i v = min 100000 (num t q) ∧ ∀ k, am_i h' 68 k = if k = 5 then nI 1001 else if k = 8 then nI v else if k = 6 then nI q else am_i h 68 k) ?_ ?_ q (run_ge _ _ _) _ _ ⟨Nat.le_refl _, rfl, s9, 0, Nat.zero_le _, n0, f9⟩
    · rintro i hi9 L h' ⟨qi, rfl, s3, v, v1, v2, f3⟩ next
      have eI : am_inc (nI i) (Int.ofNat 1) = nI (i + 1) := nI_1 i
      rw [← eI] at next
      obtain ⟨m1, m2⟩ := run_mid _ _ _ rfl qi hi9
      have hs3 := s3.sh hs
      have x3 : rTx h' t := x.mv s3 (by rw [f3]; rfl) (by decide)
      have ldi := x3.ld m1
      obtain ⟨e1, e2, e3⟩ := bS_dg _ (x3.2.2.2 i m1).2
      obtain ⟨y1, y2, y3⟩ := bS_dv _ (x3.2.2.2 i m1).2 m2
      refine am_go (fun p => p == 87 || p == 227) (fun K cal Q' hK hC hQ => ?_)
      refine And.intro (sk_68 hs3) (And.intro (fun z => absurd z (q_ge x3.2.1 m1 (by omega))) (fun _ => ?_))
      refine And.intro (sk_68 hs3) (And.intro (x3.ck hs3 m1) (And.intro (fun z => absurd (e1 (by rw [← ldi]; exact z)) (by rw [m2]; decide)) (fun _ => ?_)))
      refine And.intro (sk_68 hs3) (And.intro (x3.ck hs3 m1) (And.intro (fun z => absurd (e2 (by rw [← ldi]; exact z)) (by rw [m2]; decide)) (fun _ => ?_)))
      refine And.intro (sk_68 hs3) (And.intro (sk_68 hs3) (And.intro (x3.ck hs3 m1) (And.intro (sk_68 hs3) ?_)))
      have ev : (if nI 10 * am_i h' 68 8 + am_i h' (am_r h' 68 3) (nI i).toNatClampNeg - nI 48 < nI 100000 then nI 10 * am_i h' 68 8 + am_i h' (am_r h' 68 3) (nI i).toNatClampNeg - nI 48 else nI 100000) = nI (min 100000 (10 * v + (t.2 i - 48))) := by
        have e8 : am_i h' 68 8 = nI v := by rw [f3]; rfl
        have e9 : nI 10 * am_i h' 68 8 + am_i h' (am_r h' 68 3) (nI i).toNatClampNeg - nI 48 = nI (10 * v + (t.2 i - 48)) := by
          rw [e8, ldi, y1, pk_mul, nI_add, show 10 * v + t.2 i = 10 * v + (t.2 i - 48) + 48 by omega, ← nI_add, Int32.add_sub_cancel]
        rw [e9]
        by_cases z : 10 * v + (t.2 i - 48) < 100000
        · rw [if_pos (nI_lt z (by omega))]; congr 1; omega
        · rw [if_neg (nI_nlt (by omega) (by omega))]; congr 1; omega
      show K 87 _ _ (am_pi h' 68 8 (if nI 10 * am_i h' 68 8 + am_i h' (am_r h' 68 3) (nI i).toNatClampNeg - nI 48 < nI 100000 then nI 10 * am_i h' 68 8 + am_i h' (am_r h' 68 3) (nI i).toNatClampNeg - nI 48 else nI 100000))
      rw [ev]
      refine hK _ _ _ _ (next _ _ ⟨by omega, rfl, s3.pi (by decide), _, Nat.min_le_left _ _, by rw [← valR_in m1 m2]; exact v2, fun k => ?_⟩)
      rw [i_pi_same, f3]
      by_cases z : k = 8
      · rw [if_pos z, if_neg (by omega), if_pos z]
      · rw [if_neg z, if_neg z, if_neg z]
    · rintro L h' ⟨qi, rfl, s3, v, v1, v2, f3⟩
      have st := run_stop isDg t q
      have rl := run_len (f := isDg) g2
      have fin2 := fin h' (nI v) s3 f3 (fun _ => by rw [← v2, valR_out st])
      generalize run isDg t q = r at st rl fin2
      have hs3 := s3.sh hs
      have x3 : rTx h' t := x.mv s3 (by rw [f3]; rfl) (by decide)
      refine am_go (fun p => p == 87 || p == 227) (fun K cal Q' hK hC hQ => ?_)
      refine And.intro (sk_68 hs3) (And.intro (fun _ => hK _ _ _ _ fin2) (fun y => ?_))
      have y : ¬ am_i h' 68 4 ≤ nI r := y
      rw [x3.2.1] at y
      have m1 : r < t.1 := Nat.not_le.mp fun u => y (nI_le u (by omega))
      have m2 : isDg (t.2 r) = false := st.resolve_left (by omega)
      have ldi := x3.ld m1
      obtain ⟨e1, e2, e3⟩ := bS_dg _ (x3.2.2.2 r m1).2
      refine And.intro (sk_68 hs3) (And.intro (x3.ck hs3 m1) (And.intro (fun _ => hK _ _ _ _ fin2) (fun z1 => ?_)))
      refine And.intro (sk_68 hs3) (And.intro (x3.ck hs3 m1) (And.intro (fun _ => hK _ _ _ _ fin2) (fun z2 => ?_)))
      exact absurd (e3 (fun y => z1 (by rw [← ldi] at y; exact y)) (fun y => z2 (by rw [← ldi] at y; exact y))) (by rw [m2]; decide)
  -- the spaces
  refine am_go (fun p => p == 5) (fun K cal Q' hK hC hQ => ?_)
  refine And.intro (sk_68 hs) (hK _ _ _ _ ?_)
  show am_W _ _ _ _ _ 5 [.ref 68, .int (am_i h 68 7)] _ _
  rw [h7]
  refine am_for q (fun i L h' => h' = h ∧ p ≤ i ∧ L = [.ref 68, .int (nI i)]) ?_ ?_ p g1 _ _ ⟨rfl, Nat.le_refl _, rfl⟩
  · rintro i hi9 L h' ⟨rfl, qi, rfl⟩ next
    have eI : am_inc (nI i) (Int.ofNat 1) = nI (i + 1) := nI_1 i
    rw [← eI] at next
    obtain ⟨m1, m2⟩ := run_mid (f := isSp) (t := t) _ p i rfl qi (by unfold sk at hq; omega)
    have ldi := x.ld m1
    refine am_go (fun p => p == 5 || p == 30) (fun K cal Q' hK hC hQ => ?_)
    refine And.intro (sk_68 hs) (And.intro (fun z => absurd z (q_ge x.2.1 m1 (by omega))) (fun _ => ?_))
    refine And.intro (sk_68 hs) (And.intro (x.ck hs m1) (And.intro (fun z => absurd (ldi.trans ((bS_sp _ (x.2.2.2 i m1).2).mpr m2)) z) (fun _ => ?_)))
    exact hK _ _ _ _ (next _ _ ⟨rfl, by omega, rfl⟩)
  · rintro L h' ⟨rfl, qi, rfl⟩
    have st := run_stop isSp t p
    unfold sk at hq
    rw [hq] at st
    refine am_go (fun p => p == 5 || p == 30) (fun K cal Q' hK hC hQ => ?_)
    refine And.intro (sk_68 hs) (And.intro (fun _ => hK _ _ _ _ tok) (fun y => ?_))
    have y : ¬ am_i h' 68 4 ≤ nI q := y
    rw [x.2.1] at y
    have m1 : q < t.1 := Nat.not_le.mp fun u => y (nI_le u (by omega))
    have m2 : isSp (t.2 q) = false := st.resolve_left (by omega)
    refine And.intro (sk_68 hs) (And.intro (x.ck hs m1) (And.intro (fun _ => hK _ _ _ _ tok) (fun z => ?_)))
    have z : am_i h' (am_r h' 68 3) (nI q).toNatClampNeg = nI 32 := Classical.not_not.mp z
    rw [x.ld m1, bS_sp _ (x.2.2.2 q m1).2, m2] at z
    cases z

/-- what stands in front of the reader -/
def rSt (h : am_H) (t : tX) (p : Nat) : Prop := sh h ∧ rTx h t ∧ p ≤ t.1 ∧ rTk h t (sk t p)
def rE (h : am_H) (e : pE) : Prop := am_i h 68 1 = -nI e.1 ∧ am_i h 68 2 = nI e.2 ∧ ∃ c, c ≤ 700 ∧ am_i h 68 12 = nI c
section
variable {xs : am_X} {d : Nat} {h : am_H} {t : tX} {p : Nat} {Q : am_Q}
set_option maxHeartbeats 4000000 in
theorem c_fail (hd : 1 ≤ d) (S : rSt h t p) {c : Nat} (hc : c ≤ 700) (h12 : am_i h 68 12 = nI c) (k : Nat) (HQ : ∀ h', rF h h' → rE h' (k, sk t p) → Q (.inl (some (.int 0))) h') : am_C xs am_P0 d m_Rd_fail [.ref 68, .int (-nI k)] h Q := by
  obtain ⟨hs, x, hp, k1, k2, k3, k4, k5⟩ := S
  refine am_C_le hd (am_enter (d := 0) ap_Rd_fail rfl ?_) (fun _ _ k => k)
  refine am_go (fun _ => false) (fun K cal Q' hK hC hQ => ?_)
  refine And.intro (sk_68 hs) (And.intro (sk_68 hs) (And.intro (sk_68 hs) (And.intro (Or.inl rfl) (hQ _ _ (HQ _ ⟨(sm.rf.pi (by decide)).pi (by decide), fun j hj => ?_⟩ ⟨?_, ?_, c, hc, ?_⟩)))))
  · rw [i_pi_same, if_neg (by omega), i_pi_same, if_neg (by omega)]
  · rw [i_pi_same, if_neg (by decide), i_pi_same, if_pos rfl]
  · rw [i_pi_same, if_pos rfl]
    show am_i (am_pi h 68 1 (-nI k)) 68 6 = _
    rw [i_pi_same, if_neg (by decide)]
    exact k3
  · rw [i_pi_same, if_neg (by decide), i_pi_same, if_neg (by decide)]
    exact h12
theorem rSt.adv {h' : am_H} (S : rSt h t p) (s : sm [68] h h') (f : ∀ k, ¬ (5 ≤ k ∧ k ≤ 8) → am_i h' 68 k = am_i h 68 k) {q : Nat} (hq : q ≤ t.1) (k : rTk h' t (sk t q)) : rSt h' t q ∧ rF h h' :=
  ⟨⟨s.sh S.1, S.2.1.mv s (f 4 (by decide)) (by decide), hq, k⟩, s.mo (by decide), fun k hk => f k (by omega)⟩
/-- on to the next token -/
theorem c_next (hd : 1 ≤ d) (S : rSt h t p) {q : Nat} (hq : te t (sk t p) = q) (HQ : ∀ h', rF h h' → rSt h' t q → sm [68] h h' → am_i h' 68 12 = am_i h 68 12 → Q (.inl none) h') : am_C xs am_P0 d m_Rd_advance [.ref 68] h Q := by
  have hq2 : q ≤ t.1 := by rw [← hq]; exact te_len (sk_len S.2.2.1)
  refine c_advance hd S.1 S.2.1 (by rw [S.2.2.2.2.2.2.1, hq]) hq2 (fun h' s f k => ?_)
  obtain ⟨a, b⟩ := S.adv s f hq2 k
  exact HQ h' b a s (f 12 (by decide))
theorem kd_num {t : tX} {q : Nat} (hb : q < t.1 → t.2 q < 256) : kdI t q = nI 1001 ↔ dgAt t q = true := by
  unfold kdI dgAt
  by_cases c : q < t.1
  · rw [if_pos c, decide_eq_true c, Bool.true_and]
    by_cases z : isDg (t.2 q) = true
    · rw [if_pos z]; exact ⟨fun _ => z, fun _ => rfl⟩
    · rw [if_neg z]
      refine ⟨fun y => ?_, fun y => absurd y z⟩
      split at y
      · exact absurd y (by decide)
      · exact absurd y (bS_big _ (hb c)).2.1
  · rw [if_neg c, decide_eq_false c, Bool.false_and]
    exact ⟨fun y => absurd y (by decide), fun y => by cases y⟩
theorem kd_word {t : tX} {q : Nat} (hb : q < t.1 → t.2 q < 256) : kdI t q = nI 1002 ↔ ltAt t q = true := by
  unfold kdI ltAt
  by_cases c : q < t.1
  · rw [if_pos c, decide_eq_true c, Bool.true_and]
    by_cases z : isDg (t.2 q) = true
    · rw [if_pos z, dg_lt z]; exact ⟨fun y => absurd y (by decide), fun y => by cases y⟩
    · rw [if_neg z]
      by_cases w : isLt (t.2 q) = true
      · rw [if_pos w]; exact ⟨fun _ => w, fun _ => rfl⟩
      · rw [if_neg w]
        exact ⟨fun y => absurd y (bS_big _ (hb c)).2.2, fun y => absurd y w⟩
  · rw [if_neg c, decide_eq_false c, Bool.false_and]
    exact ⟨fun y => absurd y (by decide), fun y => by cases y⟩
theorem kd_end {t : tX} {q : Nat} (hb : q < t.1 → t.2 q < 256) : kdI t q = nI 1000 ↔ t.1 ≤ q := by
  unfold kdI
  by_cases c : q < t.1
  · rw [if_pos c]
    refine ⟨fun y => ?_, fun y => by omega⟩
    split at y
    · exact absurd y (by decide)
    · split at y
      · exact absurd y (by decide)
      · exact absurd y (bS_big _ (hb c)).1
  · rw [if_neg c]
    exact ⟨fun _ => by omega, fun _ => rfl⟩
theorem kd_sym {t : tX} {q s : Nat} (hb : q < t.1 → t.2 q < 256) (hs : s < 128) (h1 : isDg s = false) (h2 : isLt s = false) : kdI t q = nI s ↔ isC t q s = true := by
  unfold kdI isC
  by_cases c : q < t.1
  · rw [if_pos c, decide_eq_true c, Bool.true_and, decide_eq_true_eq]
    split
    · rename_i z
      exact ⟨fun y => absurd ((nI_eq (by decide) (by omega)).mp y) (by omega), fun y => by rw [y, h1] at z; cases z⟩
    · split
      · rename_i z
        exact ⟨fun y => absurd ((nI_eq (by decide) (by omega)).mp y) (by omega), fun y => by rw [y, h2] at z; cases z⟩
      · exact bS_ch (hb c) hs
  · rw [if_neg c, decide_eq_false c, Bool.false_and]
    exact ⟨fun y => absurd ((nI_eq (by decide) (by omega)).mp y) (by omega), fun y => by cases y⟩
theorem rSt.b (S : rSt h t p) : ∀ q, q < t.1 → t.2 q < 256 := fun q hq => (S.2.1.2.2.2 q hq).2
set_option maxHeartbeats 4000000 in
theorem c_readSymbol (hd : 2 ≤ d) (S : rSt h t p) {c : Nat} (hc : c ≤ 700) (h12 : am_i h 68 12 = nI c) {s : Nat} (hs9 : s < 128) (h1 : isDg s = false) (h2 : isLt s = false)
    (H0 : ∀ e h', pSym t s p = .inl e → rF h h' → rE h' e → Q (.inl (some (.int 0))) h') (H1 : ∀ q h', pSym t s p = .inr q → rF h h' → rSt h' t q → sm [68] h h' → am_i h' 68 12 = am_i h 68 12 → Q (.inl (some (.int 1))) h') : am_C xs am_P0 d m_Rd_readSymbol [.ref 68, .int (nI s)] h Q := by
  have hs := S.1
  have e5 : am_i h 68 5 = kdI t (sk t p) := S.2.2.2.2.1
  have ks := kd_sym (q := sk t p) (S.b _) hs9 h1 h2
  unfold pSym at H0 H1
  refine am_C_le hd (am_enter (d := 1) ap_Rd_readSymbol rfl ?_) (fun _ _ k => k)
  refine am_go (fun _ => false) (fun K cal Q' hK hC hQ => ?_)
  refine And.intro (sk_68 hs) (And.intro (fun z => ?_) (fun z => ?_))
  · have z : am_i h 68 5 = nI s := z
    rw [e5] at z
    have z := ks.mp z
    rw [if_pos z] at H1
    refine And.intro (sk_68 hs) (hC _ _ _ _ (c_next (by decide) S (q := sk t p + 1) ?_ (fun h' a b s9 h9 => And.intro (Or.inr rfl) (hQ _ _ (H1 _ h' rfl a b s9 h9)))))
    have := isC_lt z
    unfold te
    rw [if_pos this.1, this.2, if_neg (by rw [h1]; decide), if_neg (by rw [h2]; decide)]
  · have z : ¬ isC t (sk t p) s = true := fun y => z (e5.trans (ks.mpr y))
    rw [if_neg z] at H0
    exact And.intro (sk_68 hs) (hC _ _ _ _ (c_fail (by decide) S hc h12 2 (fun h' a b => And.intro (Or.inl rfl) (hQ _ _ (H0 _ h' rfl a b)))))
set_option maxHeartbeats 4000000 in
theorem c_numberHere (hd : 2 ≤ d) (S : rSt h t p) {c : Nat} (hc : c ≤ 700) (h12 : am_i h 68 12 = nI c) {lo hi : Nat} (h9 : hi ≤ 9999) (hlo : lo ≤ 9999)
    (H0 : ∀ e h', pNum t p lo hi = .inl e → rF h h' → rE h' e → Q (.inl (some (.int (-nI 1)))) h') (H1 : pNum t p lo hi = .inr (num t (sk t p), sk t p) → dgAt t (sk t p) = true → lo ≤ num t (sk t p) → num t (sk t p) ≤ hi → Q (.inl (some (.int (nI (num t (sk t p)))))) h) : am_C xs am_P0 d m_Rd_numberHere [.ref 68, .int (nI lo), .int (nI hi)] h Q := by
  have hs := S.1
  have e5 : am_i h 68 5 = kdI t (sk t p) := S.2.2.2.2.1
  have ks := kd_num (q := sk t p) (S.b _)
  unfold pNum at H0 H1
  refine am_C_le hd (am_enter (d := 1) ap_Rd_numberHere rfl ?_) (fun _ _ k => k)
  refine am_go (fun _ => false) (fun K cal Q' hK hC hQ => ?_)
  refine And.intro (sk_68 hs) (And.intro (fun z => ?_) (fun z => ?_))
  · have z : am_i h 68 5 = nI 1001 := z
    rw [e5] at z
    have z := ks.mp z
    have e8 : am_i h 68 8 = nI (min 100000 (num t (sk t p))) := S.2.2.2.2.2.2.2 z
    rw [if_pos z] at H0 H1
    refine And.intro (sk_68 hs) (And.intro (fun y => ?_) (fun y => ?_))
    · have y : am_i h 68 8 < nI lo := y
      rw [e8] at y
      have y := (nI_ltI (by omega) (by omega)).mp y
      rw [if_neg (by omega)] at H0
      exact And.intro (sk_68 hs) (hC _ _ _ _ (c_fail (by decide) S hc h12 3 (fun h' a b => And.intro trivial (hQ _ _ (H0 _ h' rfl a b)))))
    · have y : ¬ am_i h 68 8 < nI lo := y
      rw [e8] at y
      have y : ¬ min 100000 (num t (sk t p)) < lo := fun u => y (nI_lt u (by omega))
      refine And.intro (sk_68 hs) (And.intro (fun w => ?_) (fun w => ?_))
      · have w : am_i h 68 8 ≤ nI hi := w
        rw [e8] at w
        have w := (nI_leI (by omega) (by omega)).mp w
        rw [if_pos (by omega)] at H1
        refine And.intro (sk_68 hs) (And.intro trivial (hQ _ _ ?_))
        show Q (.inl (some (.int (am_i h 68 8)))) h
        rw [e8, show min 100000 (num t (sk t p)) = num t (sk t p) by omega]
        exact H1 rfl z (by omega) (by omega)
      · have w : ¬ am_i h 68 8 ≤ nI hi := w
        rw [e8] at w
        have w : ¬ min 100000 (num t (sk t p)) ≤ hi := fun u => w (nI_le u (by omega))
        rw [if_neg (by omega)] at H0
        exact And.intro (sk_68 hs) (hC _ _ _ _ (c_fail (by decide) S hc h12 3 (fun h' a b => And.intro trivial (hQ _ _ (H0 _ h' rfl a b)))))
  · have z : ¬ dgAt t (sk t p) = true := fun y => z (e5.trans (ks.mpr y))
    rw [if_neg z] at H0
    exact And.intro (sk_68 hs) (hC _ _ _ _ (c_fail (by decide) S hc h12 2 (fun h' a b => And.intro trivial (hQ _ _ (H0 _ h' rfl a b)))))
/-- a text constant -/
abbrev sRef (s : Nat) : Value := .ref (am_S0 + s)
theorem sRef_ck {s : Nat} (hs : s < 8) : am_S0 ≤ am_S0 + s ∧ am_S0 + s - am_S0 < am_strs.length := ⟨Nat.le_add_right _ _, by rw [Nat.add_sub_cancel_left]; exact Nat.lt_trans hs (by decide)⟩
theorem sRef_len (s : Nat) : (am_strs.getD (am_S0 + s - am_S0) []).length = wLen s := by rw [Nat.add_sub_cancel_left]; rfl
set_option maxHeartbeats 4000000 in
theorem c_isWord (hd : 1 ≤ d) (S : rSt h t p) {s : Nat} (hs8 : s < 8) (HQ : Q (.inl (some (.int (bI (wIs t (sk t p) s))))) h) : am_C xs am_P0 d m_Rd_isWord [.ref 68, sRef s] h Q := by
  obtain ⟨hs, x, hp, k1, k2, k3, k4, k5⟩ := id S
  have ks := kd_word (q := sk t p) (S.b _)
  have wl := wLen_pos s hs8
  generalize sk t p = q at *
  have t7 := x.1
  refine am_C_le hd (am_enter (d := 0) ap_Rd_isWord rfl ?_) (fun _ _ k => k)
  refine am_go (fun p => p == 30) (fun K cal Q' hK hC hQ => ?_)
  have no : wIs t q s = false → (0 = (0 : Int32) ∨ (0 : Int32) = 1) ∧ Q' (.inl (some (.int 0))) h := fun e => by
    rw [e] at HQ
    exact ⟨Or.inl rfl, hQ _ _ HQ⟩
  refine And.intro (sk_68 hs) (And.intro (fun z => ?_) (fun z => ?_))
  · have z : ¬ ltAt t q = true := fun y => z (k2.trans (ks.mpr y))
    refine no ?_
    cases e : wIs t q s with
    | false => rfl
    | true => exact absurd (wIs_lt hs8 e) z
  have z : am_i h 68 5 = nI 1002 := Classical.not_not.mp z
  rw [k2] at z
  have z := ks.mp z
  have tq : te t q = run isLt t q := te_lt z
  have g1 := run_ge isLt t q
  have g2 := run_len (f := isLt) k1
  have eN : (am_strs.getD (am_S0 + s - am_S0) []).length = wLen s := sRef_len s
  have eS : am_i h 68 7 - am_i h 68 6 = nI (run isLt t q - q) := by
    rw [k3, k4, tq]
    have := nI_add (run isLt t q - q) q
    rw [show run isLt t q - q + q = run isLt t q by omega] at this
    rw [← this, Int32.add_sub_cancel]
  refine And.intro (sk_68 hs) (And.intro (sk_68 hs) (And.intro (sRef_ck hs8) (And.intro (fun y => hK _ _ _ _ ?_) (fun y => ?_))))
  rotate_left
  · have y : ¬ am_i h 68 7 - am_i h 68 6 = nI (am_strs.getD (am_S0 + s - am_S0) []).length := y
    rw [eS, eN] at y
    refine no ?_
    unfold wIs
    rw [decide_eq_false (fun u => y (by rw [u]))]
    rfl
  have y : am_i h 68 7 - am_i h 68 6 = nI (am_strs.getD (am_S0 + s - am_S0) []).length := y
  rw [eS, eN] at y
  have yeq := (nI_eq (by omega) (by omega)).mp y
  refine am_for (wLen s) (fun i L h' => h' = h ∧ L = [.ref 68, sRef s, .int (nI i)] ∧ ∀ k, k < i → t.2 (q + k) = wCh s k) ?_ ?_ 0 (Nat.zero_le _) _ _ ⟨rfl, rfl, fun k z => absurd z (Nat.not_lt_zero _)⟩
  · rintro i hi9 L h' ⟨rfl, rfl, hw⟩ next
    have eI : am_inc (nI i) (Int.ofNat 1) = nI (i + 1) := nI_1 i
    rw [← eI] at next
    have qi : q + i < t.1 := by clear y; omega
    have eX : am_i h' 68 6 + nI i = nI (q + i) := by rw [k3, nI_add]
    have w256 : wCh s i < 128 := by
      have : ∀ s, s < 8 → ∀ i, i < 9 → wCh s i < 128 := by decide
      exact this s hs8 i (by omega)
    have eV : nI ((am_strs.getD (am_S0 + s - am_S0) []).getD (nI i).toNatClampNeg 0) = nI (wCh s i) := by rw [q_cl (by omega), Nat.add_sub_cancel_left]; rfl
    have eL : am_i h' (am_r h' 68 3) (am_i h' 68 6 + nI i).toNatClampNeg = bS (t.2 (q + i)) := by rw [eX]; exact x.ld qi
    refine am_go (fun p => p == 30) (fun K cal Q' hK hC hQ => ?_)
    refine And.intro (sRef_ck hs8) (And.intro (fun u => absurd u ?_) (fun _ => ?_))
    · show ¬ nI (am_strs.getD (am_S0 + s - am_S0) []).length ≤ nI i
      rw [eN]
      exact nI_ge hi9 (by omega)
    refine And.intro (sk_68 hs) (And.intro (sk_68 hs) (And.intro ?_ (And.intro ⟨sRef_ck hs8, ?_⟩ ?_)))
    · show am_arr h' (am_r h' 68 3) 3 (am_i h' 68 6 + nI i)
      rw [eX]
      exact x.ck hs qi
    · rw [eN]
      exact vp_in_nI hi9 (by omega)
    refine And.intro (fun u => ?_) (fun u => ?_)
    · have u : am_i h' (am_r h' 68 3) (am_i h' 68 6 + nI i).toNatClampNeg = nI ((am_strs.getD (am_S0 + s - am_S0) []).getD (nI i).toNatClampNeg 0) := u
      rw [eL, eV] at u
      have u := (bS_ch (S.b _ qi) w256).mp u
      refine hK _ _ _ _ (next _ _ ⟨rfl, rfl, fun k hk => ?_⟩)
      by_cases e : k = i
      · rw [e]; exact u
      · exact hw k (by omega)
    · have u : ¬ am_i h' (am_r h' 68 3) (am_i h' 68 6 + nI i).toNatClampNeg = nI ((am_strs.getD (am_S0 + s - am_S0) []).getD (nI i).toNatClampNeg 0) := u
      rw [eL, eV] at u
      refine And.intro (Or.inl rfl) (hQ _ _ ?_)
      have e : wIs t q s = false := by
        unfold wIs
        rw [decide_eq_false (p := ∀ k, k < wLen s → t.2 (q + k) = wCh s k) (fun v => u ((bS_ch (S.b _ qi) w256).mpr (v i hi9))), Bool.and_false]
      rw [e] at HQ
      exact HQ
  · rintro L h' ⟨rfl, rfl, hw⟩
    refine am_go (fun p => p == 30) (fun K cal Q' hK hC hQ => ?_)
    refine And.intro (sRef_ck hs8) (And.intro (fun _ => And.intro (Or.inr rfl) (hQ _ _ ?_)) (fun u => absurd ?_ u))
    · have e : wIs t q s = true := by
        unfold wIs
        rw [decide_eq_true yeq, decide_eq_true hw]
        rfl
      rw [e] at HQ
      exact HQ
    · show nI (am_strs.getD (am_S0 + s - am_S0) []).length ≤ nI (wLen s)
      rw [eN]
      exact nI_le (Nat.le_refl _) (by omega)
set_option maxHeartbeats 4000000 in
theorem c_putCode (hd : 1 ≤ d) (hs : sh h) {c : Nat} (hc : c ≤ 700) (h12 : am_i h 68 12 = nI c) {v : Int32}
    (HQ : ∀ h', sm [68, 77] h h' → (∀ k, k ≠ 12 → am_i h' 68 k = am_i h 68 k) → (∀ k, k ≠ c → am_i h' 77 k = am_i h 77 k) → (c = 700 → am_i h' 68 12 = nI c) → (c < 700 → am_i h' 68 12 = nI (c + 1) ∧ am_i h' 77 c = v) → Q (.inl none) h') : am_C xs am_P0 d m_Rd_putCode [.ref 68, .int v] h Q := by
  refine am_C_le hd (am_enter (d := 0) ap_Rd_putCode rfl ?_) (fun _ _ k => k)
  refine am_go (fun _ => false) (fun K cal Q' hK hC hQ => ?_)
  refine And.intro (sk_68 hs) (And.intro (fun z => ?_) (fun z => ?_))
  · have z : nI 700 ≤ am_i h 68 12 := z
    rw [h12] at z
    have z := (nI_leI (by decide) (by omega)).mp z
    exact And.intro trivial (hQ _ _ (HQ h sm.rf (fun _ _ => rfl) (fun _ _ => rfl) (fun _ => h12) (fun y => by omega)))
  · have z : ¬ nI 700 ≤ am_i h 68 12 := z
    rw [h12] at z
    have z : c < 700 := Nat.not_le.mp fun u => z (nI_le u (by omega))
    refine And.intro (sk_68 hs) (And.intro (sk_68 hs) (And.intro (ck_row (sr_68_11 hs) (sk_77 hs) h12 z (by decide)) ?_))
    have e1 : am_pi h (am_r h 68 (459 % 64)) (am_i h 68 (460 % 64)).toNatClampNeg v = am_pi h 77 c v := by rw [show am_r h 68 (459 % 64) = 77 from sr_68_11 hs, show am_i h 68 (460 % 64) = nI c from h12, q_cl (by omega)]
    rw [e1]
    refine And.intro (sk_68 hs) (And.intro (sk_68 hs) (And.intro trivial (hQ _ _ ?_)))
    have e2 : am_i (am_pi h 77 c v) 68 (460 % 64) + nI 1 = nI (c + 1) := by rw [i_pi_ne (by decide), show am_i h 68 (460 % 64) = nI c from h12, nI_add]
    rw [e2]
    refine HQ _ ((sm.rf.pi (by decide)).pi (by decide)) (fun k hk => ?_) (fun k hk => ?_) (fun y => by omega) (fun _ => ⟨?_, ?_⟩)
    · show am_i (am_pi (am_pi h 77 c v) 68 12 (nI (c + 1))) 68 k = _
      rw [i_pi_same, if_neg hk, i_pi_ne (by decide)]
    · show am_i (am_pi (am_pi h 77 c v) 68 12 (nI (c + 1))) 77 k = _
      rw [i_pi_ne (by decide), i_pi_same, if_neg hk]
    · show am_i (am_pi (am_pi h 77 c v) 68 12 (nI (c + 1))) 68 12 = _
      rw [i_pi_same, if_pos rfl]
    · show am_i (am_pi (am_pi h 77 c v) 68 12 (nI (c + 1))) 77 c = _
      rw [i_pi_ne (by decide), i_pi_same, if_pos rfl]
end

/-! THE MODEL'S READER: tokens -/
def mTx (h : am_H) (t : tX) : Prop := t.1 ≤ 700 ∧ am_i h 87 9 = nI t.1 ∧ ∀ k, k < t.1 → am_i h 90 k = nI (t.2 k) ∧ t.2 k < 256
/-- the reader stands somewhere ahead of the token at sk t p -/
def mAt (h : am_H) (t : tX) (p : Nat) : Prop := ∃ q, am_i h 87 10 = nI q ∧ q ≤ t.1 ∧ sk t q = sk t p
def mO (h : am_H) (t : tX) (p : Nat) : Prop := sh h ∧ mTx h t ∧ p ≤ t.1 ∧ am_i h 87 11 = nI 0 ∧ mAt h t p
def mE (h : am_H) (e : pE) : Prop := sh h ∧ (1 ≤ e.1 ∧ e.1 ≤ 9) ∧ am_i h 87 11 = -nI e.1 ∧ am_i h 87 12 = nI e.2
def sI (t : tX) (q : Nat) : Int32 := if q < t.1 then nI (t.2 q) else -nI 1
theorem mTx.mv {h h' : am_H} {t : tX} {X K : List Nat} (x : mTx h t) (s : sf X K h h') (hX : (90 : Nat) ∉ X) (hK : (9 : Nat) ∉ K) : mTx h' t := ⟨x.1, (s.2 9 hK).trans x.2.1, fun k hk => ⟨(s.1.i (fun z => by
  rcases List.mem_cons.mp z with q | q
  · exact absurd q (by decide)
  · exact hX q) k).trans (x.2.2 k hk).1, (x.2.2 k hk).2⟩⟩
theorem neg_ne0 : ∀ k, 1 ≤ k → k ≤ 9 → ¬ (-nI k : Int32) = 0 := by
  intro k h1 h9
  have : ∀ k, k < 10 → 1 ≤ k → ¬ (-nI k : Int32) = 0 := by decide
  exact this k (by omega) h1
theorem mE.ne {h : am_H} {e : pE} (E : mE h e) : ¬ am_i h 87 11 = 0 := by rw [E.2.2.1]; exact neg_ne0 _ E.2.1.1 E.2.1.2
theorem sI_c {t : tX} {q s : Nat} (hb : q < t.1 → t.2 q < 256) (hs : s < 128) : sI t q = nI s ↔ isC t q s = true := by
  unfold sI isC
  by_cases c : q < t.1
  · rw [if_pos c, decide_eq_true c, Bool.true_and, decide_eq_true_eq]
    exact ⟨fun y => (nI_eq (by have := hb c; omega) (by omega)).mp y, fun y => by rw [y]⟩
  · rw [if_neg c, decide_eq_false c, Bool.false_and]
    exact ⟨fun y => absurd y.symm (nI_neg1 (by omega)), fun y => by cases y⟩
theorem sI_dg {t : tX} {q : Nat} (hb : q < t.1 → t.2 q < 256) : (sI t q < nI 48 → dgAt t q = false) ∧ (nI 57 < sI t q → dgAt t q = false) ∧ (¬ sI t q < nI 48 → ¬ nI 57 < sI t q → dgAt t q = true) := by
  unfold sI dgAt
  by_cases c : q < t.1
  · rw [if_pos c, decide_eq_true c, Bool.true_and]
    have b := hb c
    unfold isDg
    refine ⟨fun y => decide_eq_false fun z => ?_, fun y => decide_eq_false fun z => ?_, fun y1 y2 => decide_eq_true ⟨?_, ?_⟩⟩
    · have := (nI_ltI (by omega) (by decide)).mp y
      omega
    · have := (nI_ltI (by decide) (by omega)).mp y
      omega
    · exact Nat.not_lt.mp fun z => y1 (nI_lt z (by omega))
    · exact Nat.not_lt.mp fun z => y2 (nI_lt z (by omega))
  · rw [if_neg c, decide_eq_false c, Bool.false_and]
    refine ⟨fun _ => rfl, fun _ => rfl, fun y => absurd (by decide : (-nI 1 : Int32) < nI 48) y⟩
section
variable {xs : am_X} {d : Nat} {h : am_H} {t : tX} {p : Nat} {Q : am_Q}
theorem mO.b (O : mO h t p) : ∀ q, q < t.1 → t.2 q < 256 := fun q hq => (O.2.1.2.2 q hq).2
theorem mTx.ld (x : mTx h t) (hs : sh h) {i : Nat} (hi : i < t.1) : am_i h (am_r h 87 5) (nI i).toNatClampNeg = nI (t.2 i) := by
  rw [sr_87_5 hs, q_cl (by have := x.1; omega)]
  exact (x.2.2 i hi).1
theorem mTx.ck (x : mTx h t) (hs : sh h) {i : Nat} (hi : i < t.1) {v : Int32} (hv : v = nI i) : am_arr h (am_r h 87 5) 2 v := ck_row (sr_87_5 hs) (sk_90 hs) hv (by have := x.1; omega) (by decide)
/-- the same place, by another name -/
theorem mO.to (O : mO h t p) {p' : Nat} (hp : p' ≤ t.1) (e : sk t p' = sk t p) : mO h t p' := by
  obtain ⟨a, b, c, d, q, q1, q2, q3⟩ := O
  exact ⟨a, b, hp, d, q, q1, q2, q3.trans e.symm⟩
set_option maxHeartbeats 4000000 in
theorem y_fails (hd : 1 ≤ d) (hk : am_k h 87 = (1, 9)) (h0 : am_i h 87 11 = nI 0) {k : Nat} (h1 : 1 ≤ k ∧ k ≤ 9) (hs : sh h) {w : Nat} (HQ : ∀ h', sf [] [11, 12] h h' → mE h' (k, w) → Q (.inl none) h') : am_C xs am_P0 d m_Mo_fails [.ref 87, .int (-nI k), .int (nI w)] h Q := by
  refine am_C_le hd (am_enter (d := 0) ap_Mo_fails rfl ?_) (fun _ _ k => k)
  refine am_go (fun _ => false) (fun K cal Q' hK hC hQ => ?_)
  refine And.intro hk (And.intro (fun _ => ?_) (fun z => absurd h0 z))
  have s : sf [] [11, 12] h (am_pi (am_pi h 87 11 (-nI k)) 87 12 (nI w)) := sf_pf (sf_pf sf_rf (by decide)) (by decide)
  refine And.intro hk (And.intro hk (And.intro trivial (hQ _ _ (HQ _ s ⟨s.1.sh hs, h1, ?_, ?_⟩))))
  · rw [i_pi_same, if_neg (by decide), i_pi_same, if_pos rfl]
  · rw [i_pi_same, if_pos rfl]
set_option maxHeartbeats 4000000 in
theorem y_sees (hd : 1 ≤ d) (O : mO h t p) (HQ : ∀ h', sf [] [10] h h' → mO h' t p → am_i h' 87 10 = nI (sk t p) → Q (.inl (some (.int (sI t (sk t p))))) h') : am_C xs am_P0 d m_Mo_sees [.ref 87] h Q := by
  obtain ⟨hs, x, hp, h11, q0, h10, q0l, hsk⟩ := id O
  have t7 := x.1
  have g1 := sk_ge t q0
  have g2 := sk_len q0l
  refine am_C_le hd (am_enter (d := 0) ap_Mo_sees rfl ?_) (fun _ _ k => k)
  have fin : ∀ h', sf [] [10] h h' → am_i h' 87 10 = nI (sk t p) → am_W xs (am_code at_Mo_sees) (am_hd ah_Mo_sees) (am_C xs am_P0 0) Q 38 [.ref 87] [] h' := by
    intro h' s e10
    have hs' := s.1.sh hs
    have x' := x.mv s (by decide) (by decide)
    have O' : mO h' t p := ⟨hs', x', hp, (s.2 11 (by decide)).trans h11, sk t p, e10, sk_len hp, sk_sk t p⟩
    have HQ := HQ h' s O' e10
    unfold sI at HQ
    refine am_go (fun _ => false) (fun K cal Q' hK hC hQ => ?_)
    refine And.intro (sk_87 hs') (And.intro (sk_87 hs') (And.intro (fun z => ?_) (fun z => ?_)))
    · have z : am_i h' 87 9 ≤ am_i h' 87 10 := z
      rw [e10, x'.2.1] at z
      have z := (nI_leI (by omega) (by have := sk_len hp; omega)).mp z
      rw [if_neg (by omega)] at HQ
      exact And.intro trivial (hQ _ _ HQ)
    · have z : ¬ am_i h' 87 9 ≤ am_i h' 87 10 := z
      rw [e10, x'.2.1] at z
      have z : sk t p < t.1 := Nat.not_le.mp fun u => z (nI_le u (by have := sk_len hp; omega))
      rw [if_pos z, ← x'.ld hs' z, ← e10] at HQ
      exact And.intro (sk_87 hs') (And.intro (sk_87 hs') (And.intro (x'.ck hs' z e10) (And.intro trivial (hQ _ _ HQ))))
  have loop : ∀ L h', (∃ i, q0 ≤ i ∧ i ≤ sk t q0 ∧ L = [.ref 87] ∧ sf [] [10] h h' ∧ am_i h' 87 10 = nI i) → am_W xs (am_code at_Mo_sees) (am_hd ah_Mo_sees) (am_C xs am_P0 0) Q 0 L [] h' := by
    rintro L h' ⟨i, i1, i2, hL, s, e10⟩
    refine am_for (sk t q0) (fun i L h' => q0 ≤ i ∧ L = [.ref 87] ∧ sf [] [10] h h' ∧ am_i h' 87 10 = nI i) ?_ ?_ i i2 L h' ⟨i1, hL, s, e10⟩
    · rintro i hi9 L h' ⟨qi, rfl, s, e10⟩ next
      have hs' := s.1.sh hs
      have x' := x.mv s (by decide) (by decide)
      obtain ⟨m1, m2⟩ := run_mid (f := isSp) (t := t) _ q0 i rfl qi hi9
      have hsp : t.2 i = 32 := of_decide_eq_true m2
      have e9 : am_i h' 87 9 = nI t.1 := x'.2.1
      refine am_go (fun p => p == 0) (fun K cal Q' hK hC hQ => ?_)
      refine And.intro (sk_87 hs') (And.intro (sk_87 hs') (And.intro (fun z => ?_) (fun _ => ?_)))
      · have z : am_i h' 87 9 ≤ am_i h' 87 10 := z
        rw [e10, e9] at z
        exact absurd z (nI_ge m1 (by omega))
      refine And.intro (sk_87 hs') (And.intro (sk_87 hs') (And.intro (x'.ck hs' m1 e10) (And.intro (fun z => ?_) (fun _ => ?_))))
      · have z : ¬ am_i h' (am_r h' 87 5) (am_i h' 87 10).toNatClampNeg = nI 32 := z
        rw [e10, x'.ld hs' m1, hsp] at z
        exact absurd rfl z
      refine And.intro (sk_87 hs') (And.intro (sk_87 hs') (hK _ _ _ _ (next _ _ ⟨by omega, rfl, sf_pf s (by decide), ?_⟩)))
      show am_i (am_pi h' 87 10 (am_i h' 87 10 + nI 1)) 87 10 = _
      rw [i_pi_same, if_pos rfl, e10, nI_add]
    · rintro L h' ⟨qi, rfl, s, e10⟩
      have hs' := s.1.sh hs
      have x' := x.mv s (by decide) (by decide)
      have e9 : am_i h' 87 9 = nI t.1 := x'.2.1
      have st : t.1 ≤ sk t q0 ∨ isSp (t.2 (sk t q0)) = false := run_stop isSp t q0
      have fin := fin h' s (by rw [e10, hsk])
      refine am_go (fun p => p == 38) (fun K cal Q' hK hC hQ => ?_)
      refine And.intro (sk_87 hs') (And.intro (sk_87 hs') (And.intro (fun _ => hK _ _ _ _ fin) (fun z => ?_)))
      have z : ¬ am_i h' 87 9 ≤ am_i h' 87 10 := z
      rw [e10, e9] at z
      have m1 : sk t q0 < t.1 := Nat.not_le.mp fun u => z (nI_le u (by omega))
      have m2 : isSp (t.2 (sk t q0)) = false := st.resolve_left (by omega)
      refine And.intro (sk_87 hs') (And.intro (sk_87 hs') (And.intro (x'.ck hs' m1 e10) (And.intro (fun _ => hK _ _ _ _ fin) (fun z => ?_))))
      have z : am_i h' (am_r h' 87 5) (am_i h' 87 10).toNatClampNeg = nI 32 := Classical.not_not.mp z
      rw [e10, x'.ld hs' m1] at z
      have z := (nI_eq (by have := (x.2.2 _ m1).2; omega) (by decide)).mp z
      unfold isSp at m2
      rw [z] at m2
      cases m2
  exact loop [.ref 87] h ⟨q0, Nat.le_refl _, g1, rfl, sf_rf, h10⟩
theorem mO_at {h' : am_H} {q : Nat} (O : mO h t p) (s : sf [] [10] h h') (e : am_i h' 87 10 = nI q) (hq : q ≤ t.1) : mO h' t q := ⟨s.1.sh O.1, O.2.1.mv s (by decide) (by decide), hq, (s.2 11 (by decide)).trans O.2.2.2.1, q, e, hq, rfl⟩
set_option maxHeartbeats 4000000 in
theorem y_isDigit (hd : 2 ≤ d) (O : mO h t p) (HQ : ∀ h', sf [] [10] h h' → mO h' t p → am_i h' 87 10 = nI (sk t p) → Q (.inl (some (.int (bI (dgAt t (sk t p)))))) h') : am_C xs am_P0 d m_Mo_isDigit [.ref 87] h Q := by
  have dg := sI_dg (q := sk t p) (O.b _)
  refine am_C_le hd (am_enter (d := 1) ap_Mo_isDigit rfl ?_) (fun _ _ k => k)
  refine am_go (fun _ => false) (fun K cal Q' hK hC hQ => ?_)
  refine And.intro (sk_87 O.1) (hC _ _ _ _ (y_sees (by decide) O (fun h1 s1 O1 e1 => ?_)))
  refine And.intro (fun z => ?_) (fun z1 => ?_)
  · have HQ := HQ h1 s1 O1 e1
    rw [dg.1 z] at HQ
    exact And.intro (Or.inl rfl) (hQ _ _ HQ)
  refine And.intro (sk_87 O1.1) (hC _ _ _ _ (y_sees (by decide) O1 (fun h2 s2 O2 e2 => ?_)))
  have HQ := HQ h2 (sf_tr s1 s2) O2 e2
  refine And.intro (fun z => ?_) (fun z2 => ?_)
  · rw [dg.2.1 z] at HQ
    exact And.intro (Or.inl rfl) (hQ _ _ HQ)
  · rw [dg.2.2 z1 z2] at HQ
    exact And.intro (Or.inr rfl) (hQ _ _ HQ)
theorem y_wants_err (hd : 1 ≤ d) {e : pE} (E : mE h e) {v : Int32} (HQ : Q (.inl none) h) : am_C xs am_P0 d m_Mo_wants [.ref 87, .int v] h Q := by
  refine am_C_le hd (am_enter (d := 0) ap_Mo_wants rfl ?_) (fun _ _ k => k)
  refine am_go (fun _ => false) (fun K cal Q' hK hC hQ => ?_)
  exact And.intro (sk_87 E.1) (And.intro (fun z => absurd z E.ne) (fun _ => And.intro trivial (hQ _ _ HQ)))
set_option maxHeartbeats 4000000 in
theorem y_wants (hd : 2 ≤ d) (O : mO h t p) {s : Nat} (hs9 : s < 128) (H0 : ∀ e h', pSym t s p = .inl e → sf [] [10, 11, 12] h h' → mE h' e → Q (.inl none) h') (H1 : ∀ q h', pSym t s p = .inr q → sf [] [10, 11, 12] h h' → mO h' t q → Q (.inl none) h') : am_C xs am_P0 d m_Mo_wants [.ref 87, .int (nI s)] h Q := by
  have ks := sI_c (q := sk t p) (O.b _) hs9
  unfold pSym at H0 H1
  refine am_C_le hd (am_enter (d := 1) ap_Mo_wants rfl ?_) (fun _ _ k => k)
  refine am_go (fun _ => false) (fun K cal Q' hK hC hQ => ?_)
  refine And.intro (sk_87 O.1) (And.intro (fun _ => ?_) (fun z => absurd O.2.2.2.1 z))
  refine And.intro (sk_87 O.1) (hC _ _ _ _ (y_sees (by decide) O (fun h1 s1 O1 e1 => ?_)))
  refine And.intro (fun z => ?_) (fun z => ?_)
  · have z := ks.mp z
    rw [if_pos z] at H1
    have s2 : sf [] [10, 11, 12] h (am_pi h1 87 10 (am_i h1 87 10 + nI 1)) := sf_pf (sf_mo s1 (subl_x rfl) (subl_x rfl)) (by decide)
    refine And.intro (sk_87 O1.1) (And.intro (sk_87 O1.1) (And.intro trivial (hQ _ _ (H1 _ _ rfl s2 (mO_at O1 (sf_pf sf_rf (by decide)) ?_ (isC_lt z).1)))))
    show am_i (am_pi h1 87 10 (am_i h1 87 10 + nI 1)) 87 10 = _
    rw [i_pi_same, if_pos rfl, e1, nI_add]
  · have z : ¬ isC t (sk t p) s = true := fun y => z (ks.mpr y)
    rw [if_neg z] at H0
    refine And.intro (sk_87 O1.1) (And.intro (sk_87 O1.1) ?_)
    show cal m_Mo_fails [.ref 87, .int (-nI 2), .int (am_i h1 87 10)] h1 _
    rw [e1]
    exact hC _ _ _ _ (y_fails (by decide) (sk_87 O1.1) O1.2.2.2.1 (by decide) O1.1 (fun h2 s2 E2 => And.intro trivial (hQ _ _ (H0 _ h2 rfl (sf_tr (sf_mo s1 (subl_x rfl) (subl_x rfl)) (sf_mo s2 (subl_x rfl) (subl_x rfl))) E2))))
theorem y_reads_err (hd : 1 ≤ d) {e : pE} (E : mE h e) {a b : Int32} (HQ : Q (.inl (some (.int 0))) h) : am_C xs am_P0 d m_Mo_reads [.ref 87, .int a, .int b] h Q := by
  refine am_C_le hd (am_enter (d := 0) ap_Mo_reads rfl ?_) (fun _ _ k => k)
  refine am_go (fun _ => false) (fun K cal Q' hK hC hQ => ?_)
  exact And.intro (sk_87 E.1) (And.intro (fun z => absurd z E.ne) (fun _ => And.intro trivial (hQ _ _ HQ)))
set_option maxHeartbeats 8000000 in
theorem y_reads (hd : 3 ≤ d) (O : mO h t p) {lo hi : Nat} (h9 : hi ≤ 9999) (hlo : lo ≤ 9999)
    (H0 : ∀ e h', pNum t p lo hi = .inl e → sf [] [10, 11, 12, 13] h h' → mE h' e → Q (.inl (some (.int 0))) h') (H1 : ∀ a h', pNum t p lo hi = .inr a → sf [] [10, 11, 12, 13] h h' → mO h' t (te t a.2) → am_i h' 87 13 = nI a.2 → Q (.inl (some (.int (nI a.1)))) h') : am_C xs am_P0 d m_Mo_reads [.ref 87, .int (nI lo), .int (nI hi)] h Q := by
  have t7 := O.2.1.1
  unfold pNum at H0 H1
  refine am_C_le hd (am_enter (d := 2) ap_Mo_reads rfl ?_) (fun _ _ k => k)
  refine am_go (fun p => p == 28) (fun K cal Q' hK hC hQ => ?_)
  refine And.intro (sk_87 O.1) (And.intro (fun _ => ?_) (fun z => absurd O.2.2.2.1 z))
  refine And.intro (sk_87 O.1) (hC _ _ _ _ (y_isDigit (by decide) O (fun h1 s1 O1 e1 => ?_)))
  have s1' : sf [] [10, 11, 12, 13] h h1 := sf_mo s1 (subl_x rfl) (subl_x rfl)
  cases dga : dgAt t (sk t p) with
  | false =>
    rw [if_neg (by rw [dga]; decide)] at H0
    refine And.intro (fun z => absurd rfl z) (fun _ => ?_)
    refine And.intro (sk_87 O1.1) (And.intro (sk_87 O1.1) ?_)
    show cal m_Mo_fails [.ref 87, .int (-nI 2), .int (am_i h1 87 10)] h1 _
    rw [e1]
    exact hC _ _ _ _ (y_fails (by decide) (sk_87 O1.1) O1.2.2.2.1 (by decide) O1.1 (fun h2 s2 E2 => And.intro trivial (hQ _ _ (H0 _ h2 rfl (sf_tr s1' (sf_mo s2 (subl_x rfl) (subl_x rfl))) E2))))
  | true =>
  rw [if_pos dga] at H0 H1
  refine And.intro (fun _ => hK _ _ _ _ ?_) (fun z => absurd (Classical.not_not.mp z) q_t1)
  have g2 := sk_len O.2.2.1
  have n0 := valR_0 1000000 t (sk t p)
  have eT := te_dg dga
  generalize hq : sk t p = q at *
  refine am_go (fun p => p == 38) (fun K cal Q' hK hC hQ => ?_)
  refine And.intro (sk_87 O1.1) (And.intro (sk_87 O1.1) (hK _ _ _ _ ?_))
  show am_W _ _ _ _ _ 38 [.ref 87, .int (nI lo), .int (nI hi), .int (nI 0)] [] (am_pi h1 87 13 (am_i h1 87 10))
  rw [e1]
  have s2 : sf [] [10, 13] h1 (am_pi h1 87 13 (nI q)) := sf_pf sf_rf (by decide)
  have f2 : ∀ k, am_i (am_pi h1 87 13 (nI q)) 87 k = if k = 13 then nI q else am_i h1 87 k := fun k => i_pi_same _ _ _ _ _
  generalize am_pi h1 87 13 (nI q) = h2 at s2 f2 ⊢
  refine am_for (run isDg t q) (fun i L h' => q ≤ i ∧ sf [] [10, 13] h1 h' ∧ am_i h' 87 10 = nI i ∧ am_i h' 87 13 = nI q ∧ ∃ v, v ≤ 1000000 ∧ valR 1000000 t i v = min 1000000 (num t q) ∧ L = [.ref 87, .int (nI lo), .int (nI hi), .int (nI v)]) ?_ ?_ q (run_ge _ _ _) _ _ ⟨Nat.le_refl _, s2, (f2 10).trans e1, f2 13, 0, Nat.zero_le _, n0, rfl⟩
  · rintro i hi9 L h' ⟨qi, s, e10, e13, v, v1, v2, rfl⟩ next
    have hs' := s.1.sh O1.1
    have x' : mTx h' t := O1.2.1.mv s (by decide) (by decide)
    obtain ⟨m1, m2⟩ := run_mid _ _ _ rfl qi hi9
    have b := x'.2.2 i m1
    have d9 := of_decide_eq_true m2
    have e9 : am_i h' 87 9 = nI t.1 := x'.2.1
    have eL : am_i h' (am_r h' 87 5) (am_i h' 87 10).toNatClampNeg = nI (t.2 i) := by rw [e10]; exact x'.ld hs' m1
    refine am_go (fun p => p == 38) (fun K cal Q' hK hC hQ => ?_)
    refine And.intro (sk_87 hs') (And.intro (sk_87 hs') (And.intro (fun z => ?_) (fun _ => ?_)))
    · have z : am_i h' 87 9 ≤ am_i h' 87 10 := z
      rw [e10, e9] at z
      exact absurd z (nI_ge m1 (by omega))
    refine And.intro (sk_87 hs') (And.intro (sk_87 hs') (And.intro (x'.ck hs' m1 e10) (And.intro (fun z => ?_) (fun _ => ?_))))
    · have z : am_i h' (am_r h' 87 5) (am_i h' 87 10).toNatClampNeg < nI 48 := z
      rw [eL] at z
      exact absurd z (nI_nlt (by omega) (by omega))
    refine And.intro (sk_87 hs') (And.intro (sk_87 hs') (And.intro (x'.ck hs' m1 e10) (And.intro (fun z => ?_) (fun _ => ?_))))
    · have z : nI 57 < am_i h' (am_r h' 87 5) (am_i h' 87 10).toNatClampNeg := z
      rw [eL] at z
      exact absurd z (nI_nlt (by omega) (by omega))
    refine And.intro (sk_87 hs') (And.intro (sk_87 hs') (And.intro (x'.ck hs' m1 e10) ?_))
    have ev : (if nI 10 * nI v + am_i h' (am_r h' 87 5) (am_i h' 87 10).toNatClampNeg - nI 48 < nI 1000000 then nI 10 * nI v + am_i h' (am_r h' 87 5) (am_i h' 87 10).toNatClampNeg - nI 48 else nI 1000000) = nI (min 1000000 (10 * v + (t.2 i - 48))) := by
      have e8 : nI 10 * nI v + am_i h' (am_r h' 87 5) (am_i h' 87 10).toNatClampNeg - nI 48 = nI (10 * v + (t.2 i - 48)) := by
        rw [eL, pk_mul, nI_add, show 10 * v + t.2 i = 10 * v + (t.2 i - 48) + 48 by omega, ← nI_add, Int32.add_sub_cancel]
      rw [e8]
      by_cases z : 10 * v + (t.2 i - 48) < 1000000
      · rw [if_pos (nI_lt z (by omega))]; congr 1; omega
      · rw [if_neg (nI_nlt (by omega) (by omega))]; congr 1; omega
    refine And.intro (sk_87 hs') (And.intro (sk_87 hs') ?_)
    show K 38 [.ref 87, .int (nI lo), .int (nI hi), .int (if nI 10 * nI v + am_i h' (am_r h' 87 5) (am_i h' 87 10).toNatClampNeg - nI 48 < nI 1000000 then nI 10 * nI v + am_i h' (am_r h' 87 5) (am_i h' 87 10).toNatClampNeg - nI 48 else nI 1000000)] [] (am_pi h' 87 10 (am_i h' 87 10 + nI 1))
    rw [ev]
    refine hK _ _ _ _ (next _ _ ⟨by omega, sf_pf s (by decide), ?_, ?_, _, Nat.min_le_left _ _, by rw [← valR_in m1 m2]; exact v2, rfl⟩)
    · rw [i_pi_same, if_pos rfl, e10, nI_add]
    · rw [i_pi_same, if_neg (by decide)]; exact e13
  · rintro L h' ⟨qi, s, e10, e13, v, v1, v2, rfl⟩
    have st := run_stop isDg t q
    have rl := run_len (f := isDg) g2
    have ve : v = min 1000000 (num t q) := by rw [← v2, valR_out st]
    have hs' := s.1.sh O1.1
    have x' : mTx h' t := O1.2.1.mv s (by decide) (by decide)
    have e9 : am_i h' 87 9 = nI t.1 := x'.2.1
    have sA : sf [] [10, 11, 12, 13] h h' := sf_tr s1' (sf_mo s (subl_x rfl) (subl_x rfl))
    have O' : mO h' t (te t q) := ⟨hs', x', by rw [eT]; exact rl, (s.2 11 (by decide)).trans O1.2.2.2.1, run isDg t q, e10, rl, by rw [eT]⟩
    -- behind the number
    have fin : am_W xs (am_code at_Mo_reads) (am_hd ah_Mo_reads) (am_C xs am_P0 2) Q 113 [.ref 87, .int (nI lo), .int (nI hi), .int (nI v)] [] h' := by
      refine am_go (fun p => p == 135) (fun K cal Q' hK hC hQ => ?_)
      refine And.intro trivial (hC _ _ _ _ (w_isIn (p := decide (lo ≤ v ∧ v ≤ hi)) (by decide) ?_ ?_))
      · rw [q_L, q_L, q_L, nI_toInt (by omega), nI_toInt (by omega), nI_toInt (by omega)]
        refine decide_eq_decide.mpr ?_
        omega
      by_cases z : lo ≤ v ∧ v ≤ hi
      · rw [decide_eq_true z]
        have zz : lo ≤ num t q ∧ num t q ≤ hi := by omega
        rw [if_pos zz] at H1
        refine And.intro (fun _ => hK _ _ _ _ ?_) (fun y => absurd (Classical.not_not.mp y) q_t1)
        refine am_go (fun _ => false) (fun K cal Q' hK hC hQ => ?_)
        refine And.intro (sk_87 hs') (And.intro (fun y => absurd O'.2.2.2.1 y) (fun _ => And.intro trivial (hQ _ _ ?_)))
        have := H1 _ h' rfl sA O' e13
        rw [show num t q = v by omega] at this
        exact this
      · rw [decide_eq_false z]
        have zz : ¬ (lo ≤ num t q ∧ num t q ≤ hi) := by omega
        rw [if_neg zz] at H0
        refine And.intro (fun y => absurd rfl y) (fun _ => ?_)
        refine And.intro (sk_87 hs') (And.intro (sk_87 hs') ?_)
        show cal m_Mo_fails [.ref 87, .int (-nI 3), .int (am_i h' 87 13)] h' _
        rw [e13]
        refine hC _ _ _ _ (y_fails (by decide) (sk_87 hs') O'.2.2.2.1 (by decide) hs' (fun h3 s3 E3 => hK _ _ _ _ ?_))
        refine am_go (fun _ => false) (fun K cal Q' hK hC hQ => ?_)
        exact And.intro (sk_87 E3.1) (And.intro (fun _ => And.intro trivial (hQ _ _ (H0 _ h3 rfl (sf_tr sA (sf_mo s3 (subl_x rfl) (subl_x rfl))) E3))) (fun y => absurd (Classical.not_not.mp y) E3.ne))
    refine am_go (fun p => p == 113) (fun K cal Q' hK hC hQ => ?_)
    refine And.intro (sk_87 hs') (And.intro (sk_87 hs') (And.intro (fun _ => hK _ _ _ _ fin) (fun z => ?_)))
    have z : ¬ am_i h' 87 9 ≤ am_i h' 87 10 := z
    rw [e10, e9] at z
    have m1 : run isDg t q < t.1 := Nat.not_le.mp fun u => z (nI_le u (by omega))
    have m2 : isDg (t.2 (run isDg t q)) = false := st.resolve_left (by omega)
    have b := x'.2.2 _ m1
    have eL : am_i h' (am_r h' 87 5) (am_i h' 87 10).toNatClampNeg = nI (t.2 (run isDg t q)) := by rw [e10]; exact x'.ld hs' m1
    have d9 := of_decide_eq_false m2
    refine And.intro (sk_87 hs') (And.intro (sk_87 hs') (And.intro (x'.ck hs' m1 e10) (And.intro (fun _ => hK _ _ _ _ fin) (fun z1 => ?_))))
    refine And.intro (sk_87 hs') (And.intro (sk_87 hs') (And.intro (x'.ck hs' m1 e10) (And.intro (fun _ => hK _ _ _ _ fin) (fun z2 => ?_))))
    have z1 : ¬ am_i h' (am_r h' 87 5) (am_i h' 87 10).toNatClampNeg < nI 48 := z1
    have z2 : ¬ nI 57 < am_i h' (am_r h' 87 5) (am_i h' 87 10).toNatClampNeg := z2
    rw [eL] at z1 z2
    refine absurd ?_ d9
    exact ⟨Nat.not_lt.mp fun u => z1 (nI_lt u (by omega)), Nat.not_lt.mp fun u => z2 (nI_lt u (by omega))⟩
set_option maxHeartbeats 8000000 in
theorem y_takes (hd : 2 ≤ d) (O : mO h t p) {s : Nat} (hs8 : s < 8) (H0 : ∀ h', wIs t (sk t p) s = false → sf [] [10] h h' → mO h' t p → am_i h' 87 10 = nI (sk t p) → Q (.inl (some (.int 0))) h') (H1 : ∀ h', wIs t (sk t p) s = true → sf [] [10] h h' → mO h' t (te t (sk t p)) → Q (.inl (some (.int 1))) h') : am_C xs am_P0 d m_Mo_takes [.ref 87, sRef s] h Q := by
  have t7 := O.2.1.1
  have wl := wLen_pos s hs8
  have g2 := sk_len O.2.2.1
  have eN : (am_strs.getD (am_S0 + s - am_S0) []).length = wLen s := sRef_len s
  refine am_C_le hd (am_enter (d := 1) ap_Mo_takes rfl ?_) (fun _ _ k => k)
  refine am_go (fun p => p == 19) (fun K cal Q' hK hC hQ => ?_)
  refine And.intro (sk_87 O.1) (And.intro (fun _ => ?_) (fun z => absurd O.2.2.2.1 z))
  refine And.intro (sk_87 O.1) (hC _ _ _ _ (y_sees (by decide) O (fun h1 s1 O1 e1 => ?_)))
  refine And.intro (sk_87 O1.1) (hK _ _ _ _ ?_)
  show am_W _ _ _ _ _ 19 [.ref 87, sRef s, .int (am_i h1 87 10), am_J, am_J] [] h1
  rw [e1]
  have H0 := H0 h1
  have hs1 := O1.1
  have x1 := O1.2.1
  have e9 : am_i h1 87 9 = nI t.1 := x1.2.1
  have wte : wIs t (sk t p) s = true → te t (sk t p) = run isLt t (sk t p) := fun z => te_lt (wIs_lt hs8 z)
  have wdef : wIs t (sk t p) s = (decide (run isLt t (sk t p) - sk t p = wLen s) && decide (∀ k, k < wLen s → t.2 (sk t p + k) = wCh s k)) := rfl
  have O1at := fun (r : Nat) (h' : am_H) (s' : sf [] [10] h1 h') (e : am_i h' 87 10 = nI r) (hr : r ≤ t.1) => mO_at O1 s' e hr
  generalize hq : sk t p = q at *
  have g1 := run_ge isLt t q
  have rl := run_len (f := isLt) g2
  -- behind the letters
  have mid : am_W xs (am_code at_Mo_takes) (am_hd ah_Mo_takes) (am_C xs am_P0 1) Q 55 [.ref 87, sRef s, .int (nI (run isLt t q)), am_J, am_J] [] h1 := by
    have eS : nI (run isLt t q) - am_i h1 87 10 = nI (run isLt t q - q) := by
      rw [e1]
      have := nI_add (run isLt t q - q) q
      rw [show run isLt t q - q + q = run isLt t q by omega] at this
      rw [← this, Int32.add_sub_cancel]
    refine am_go (fun p => p == 77) (fun K cal Q' hK hC hQ => ?_)
    refine And.intro (sk_87 hs1) (And.intro (sRef_ck hs8) (And.intro (fun y => ?_) (fun y => hK _ _ _ _ ?_)))
    · -- another length
      have y : ¬ nI (run isLt t q) - am_i h1 87 10 = nI (am_strs.getD (am_S0 + s - am_S0) []).length := y
      rw [eS, eN] at y
      have e : wIs t q s = false := by
        rw [wdef, decide_eq_false (p := run isLt t q - q = wLen s) (fun u => y (by rw [u]))]
        rfl
      refine hK _ _ _ _ ?_
      refine am_go (fun p => p == 123) (fun K cal Q' hK hC hQ => ?_)
      refine And.intro (fun _ => hK _ _ _ _ ?_) (fun z => absurd rfl z)
      refine am_go (fun _ => false) (fun K cal Q' hK hC hQ => ?_)
      refine And.intro (fun _ => And.intro (Or.inl rfl) (hQ _ _ (H0 e s1 O1 e1))) (fun z => absurd rfl z)
    · have y : nI (run isLt t q) - am_i h1 87 10 = nI (am_strs.getD (am_S0 + s - am_S0) []).length := Classical.not_not.mp y
      rw [eS, eN] at y
      have yeq := (nI_eq (by omega) (by omega)).mp y
      show am_W _ _ _ _ _ 77 [.ref 87, sRef s, .int (nI (run isLt t q)), .int 1, .int (nI 0)] [] h1
      -- a letter that differs
      have no : ∀ i : Int32, wIs t q s = false → am_W xs (am_code at_Mo_takes) (am_hd ah_Mo_takes) (am_C xs am_P0 1) Q 77 [.ref 87, sRef s, .int (nI (run isLt t q)), .int 0, .int i] [] h1 := by
        intro i e
        refine am_go (fun p => p == 123) (fun K cal Q' hK hC hQ => ?_)
        refine And.intro (fun _ => hK _ _ _ _ ?_) (fun z => absurd rfl z)
        refine am_go (fun _ => false) (fun K cal Q' hK hC hQ => ?_)
        exact And.intro (fun _ => And.intro (Or.inl rfl) (hQ _ _ (H0 e s1 O1 e1))) (fun z => absurd rfl z)
      refine am_for (wLen s) (fun i L h' => h' = h1 ∧ L = [.ref 87, sRef s, .int (nI (run isLt t q)), .int 1, .int (nI i)] ∧ ∀ k, k < i → t.2 (q + k) = wCh s k) ?_ ?_ 0 (Nat.zero_le _) _ _ ⟨rfl, rfl, fun k z => absurd z (Nat.not_lt_zero _)⟩
      · rintro i hi9 L h' ⟨rfl, rfl, hw⟩ next
        have eI : am_inc (nI i) (Int.ofNat 1) = nI (i + 1) := nI_1 i
        rw [← eI] at next
        have qi : q + i < t.1 := by clear y; omega
        have eX : am_i h' 87 10 + nI i = nI (q + i) := by rw [e1, nI_add]
        have w256 : wCh s i < 128 := by
          have : ∀ s, s < 8 → ∀ i, i < 9 → wCh s i < 128 := by decide
          exact this s hs8 i (by omega)
        have eV : nI ((am_strs.getD (am_S0 + s - am_S0) []).getD (nI i).toNatClampNeg 0) = nI (wCh s i) := by rw [q_cl (by omega), Nat.add_sub_cancel_left]; rfl
        have eL : am_i h' (am_r h' 87 5) (am_i h' 87 10 + nI i).toNatClampNeg = nI (t.2 (q + i)) := by rw [eX]; exact x1.ld hs1 qi
        have b := (x1.2.2 _ qi).2
        refine am_go (fun p => p == 77) (fun K cal Q' hK hC hQ => ?_)
        refine And.intro (fun z => absurd z i1_0) (fun _ => ?_)
        refine And.intro (sRef_ck hs8) (And.intro (fun u => absurd u ?_) (fun _ => ?_))
        · show ¬ nI (am_strs.getD (am_S0 + s - am_S0) []).length ≤ nI i
          rw [eN]
          exact nI_ge hi9 (by omega)
        refine And.intro (sk_87 hs1) (And.intro (sk_87 hs1) (And.intro (x1.ck hs1 qi eX) (And.intro ⟨sRef_ck hs8, ?_⟩ ?_)))
        · rw [eN]
          exact vp_in_nI hi9 (by omega)
        refine And.intro (fun u => hK _ _ _ _ ?_) (fun u => hK _ _ _ _ ?_)
        · have u : ¬ am_i h' (am_r h' 87 5) (am_i h' 87 10 + nI i).toNatClampNeg = nI ((am_strs.getD (am_S0 + s - am_S0) []).getD (nI i).toNatClampNeg 0) := u
          rw [eL, eV] at u
          have e : wIs t q s = false := by
            rw [wdef, decide_eq_false (p := ∀ k, k < wLen s → t.2 (q + k) = wCh s k) (fun v => u (by rw [v i hi9])), Bool.and_false]
          exact no _ e
        · have u : am_i h' (am_r h' 87 5) (am_i h' 87 10 + nI i).toNatClampNeg = nI ((am_strs.getD (am_S0 + s - am_S0) []).getD (nI i).toNatClampNeg 0) := Classical.not_not.mp u
          rw [eL, eV] at u
          have u := (nI_eq (by omega) (by omega)).mp u
          refine next _ _ ⟨rfl, rfl, fun k hk => ?_⟩
          by_cases e : k = i
          · rw [e]; exact u
          · exact hw k (by omega)
      · rintro L h' ⟨rfl, rfl, hw⟩
        have e : wIs t q s = true := by
          rw [wdef, decide_eq_true yeq, decide_eq_true hw]
          rfl
        refine am_go (fun _ => false) (fun K cal Q' hK hC hQ => ?_)
        refine And.intro (fun z => absurd z i1_0) (fun _ => ?_)
        refine And.intro (sRef_ck hs8) (And.intro (fun _ => ?_) (fun u => absurd ?_ u))
        · refine And.intro (fun z => absurd z i1_0) (fun _ => ?_)
          have s2 : sf [] [10] h' (am_pi h' 87 10 (nI (run isLt t q))) := sf_pf sf_rf (by decide)
          refine And.intro (sk_87 hs1) (And.intro (Or.inr rfl) (hQ _ _ (H1 _ e (sf_tr s1 s2) ?_)))
          rw [wte e]
          exact O1at _ _ s2 (by rw [i_pi_same, if_pos rfl]) rl
        · show nI (am_strs.getD (am_S0 + s - am_S0) []).length ≤ nI (wLen s)
          rw [eN]
          exact nI_le (Nat.le_refl _) (by omega)
  refine am_for (run isLt t q) (fun i L h' => h' = h1 ∧ q ≤ i ∧ L = [.ref 87, sRef s, .int (nI i), am_J, am_J]) ?_ ?_ q g1 _ _ ⟨rfl, Nat.le_refl _, rfl⟩
  · rintro i hi9 L h' ⟨rfl, qi, rfl⟩ next
    have eI : am_inc (nI i) (Int.ofNat 1) = nI (i + 1) := nI_1 i
    rw [← eI] at next
    obtain ⟨m1, m2⟩ := run_mid _ _ _ rfl qi hi9
    have b := (x1.2.2 i m1).2
    have d9 := of_decide_eq_true m2
    have eL : am_i h' (am_r h' 87 5) (nI i).toNatClampNeg = nI (t.2 i) := x1.ld hs1 m1
    refine am_go (fun p => p == 19) (fun K cal Q' hK hC hQ => ?_)
    refine And.intro (sk_87 hs1) (And.intro (fun z => ?_) (fun _ => ?_))
    · have z : am_i h' 87 9 ≤ nI i := z
      rw [e9] at z
      exact absurd z (nI_ge m1 (by omega))
    refine And.intro (sk_87 hs1) (And.intro (x1.ck hs1 m1 rfl) (And.intro (fun z => ?_) (fun _ => ?_)))
    · have z : am_i h' (am_r h' 87 5) (nI i).toNatClampNeg < nI 97 := z
      rw [eL] at z
      exact absurd z (nI_nlt (by omega) (by omega))
    refine And.intro (sk_87 hs1) (And.intro (x1.ck hs1 m1 rfl) (And.intro (fun z => ?_) (fun _ => ?_)))
    · have z : nI 122 < am_i h' (am_r h' 87 5) (nI i).toNatClampNeg := z
      rw [eL] at z
      exact absurd z (nI_nlt (by omega) (by omega))
    exact hK _ _ _ _ (next _ _ ⟨rfl, by omega, rfl⟩)
  · rintro L h' ⟨rfl, qi, rfl⟩
    have st := run_stop isLt t q
    refine am_go (fun p => p == 55) (fun K cal Q' hK hC hQ => ?_)
    refine And.intro (sk_87 hs1) (And.intro (fun _ => hK _ _ _ _ mid) (fun z => ?_))
    have z : ¬ am_i h' 87 9 ≤ nI (run isLt t q) := z
    rw [e9] at z
    have m1 : run isLt t q < t.1 := Nat.not_le.mp fun u => z (nI_le u (by omega))
    have m2 : isLt (t.2 (run isLt t q)) = false := st.resolve_left (by omega)
    have b := (x1.2.2 _ m1).2
    have d9 := of_decide_eq_false m2
    have eL : am_i h' (am_r h' 87 5) (nI (run isLt t q)).toNatClampNeg = nI (t.2 (run isLt t q)) := x1.ld hs1 m1
    refine And.intro (sk_87 hs1) (And.intro (x1.ck hs1 m1 rfl) (And.intro (fun _ => hK _ _ _ _ mid) (fun z1 => ?_)))
    refine And.intro (sk_87 hs1) (And.intro (x1.ck hs1 m1 rfl) (And.intro (fun _ => hK _ _ _ _ mid) (fun z2 => ?_)))
    have z1 : ¬ am_i h' (am_r h' 87 5) (nI (run isLt t q)).toNatClampNeg < nI 97 := z1
    have z2 : ¬ nI 122 < am_i h' (am_r h' 87 5) (nI (run isLt t q)).toNatClampNeg := z2
    rw [eL] at z1 z2
    refine absurd ?_ d9
    exact ⟨Nat.not_lt.mp fun u => z1 (nI_lt u (by omega)), Nat.not_lt.mp fun u => z2 (nI_lt u (by omega))⟩
end

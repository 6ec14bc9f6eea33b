/-! THE LAW'S OWN MODEL, 2: its search of all assignments -/
/-- of what was there the law's object (best, labels) and the row tr may have changed -/
def slf (tr c w : Nat) (h h' : am_H) : Prop := (am_n h ≤ am_n h' ∧ am_n h' ≤ am_n h + c ∧ am_cs h' ≤ am_cs h + w) ∧ (∀ x, x < am_n h ∨ am_n h' ≤ x → am_k h' x = am_k h x) ∧ (∀ x, x < am_n h → x ≠ 87 → x ≠ tr → am_i h' x = am_i h x ∧ am_r h' x = am_r h x) ∧ (∀ k, k ≠ 4 → am_i h' 87 k = am_i h 87 k) ∧ ∀ k, k ≠ 3 → am_r h' 87 k = am_r h 87 k
theorem slf.rf {tr : Nat} {h : am_H} : slf tr 0 0 h h := ⟨⟨Nat.le_refl _, Nat.le_refl _, Nat.le_refl _⟩, fun _ _ => rfl, fun _ _ _ _ => ⟨rfl, rfl⟩, fun _ _ => rfl, fun _ _ => rfl⟩
theorem slf.tr {tr c w c2 w2 : Nat} {h h1 h2 : am_H} (s : slf tr c w h h1) (t : slf tr c2 w2 h1 h2) : slf tr (c + c2) (w + w2) h h2 := by
  obtain ⟨⟨a1, a2, a3⟩, a4, a5, a6, a7⟩ := s
  obtain ⟨⟨b1, b2, b3⟩, b4, b5, b6, b7⟩ := t
  refine ⟨⟨by omega, by omega, by omega⟩, fun x hx => (b4 x (by omega)).trans (a4 x (by omega)), fun x hx h1' h2' => ?_, fun k hk => (b6 k hk).trans (a6 k hk), fun k hk => (b7 k hk).trans (a7 k hk)⟩
  have u := a5 x hx h1' h2'
  have v := b5 x (by omega) h1' h2'
  exact ⟨v.1.trans u.1, v.2.trans u.2⟩
theorem slf.mo {tr c w c2 w2 : Nat} {h h1 : am_H} (s : slf tr c w h h1) (hc : c ≤ c2) (hw : w ≤ w2) : slf tr c2 w2 h h1 := ⟨⟨s.1.1, by have := s.1.2.1; omega, by have := s.1.2.2; omega⟩, s.2⟩
theorem sh_no87 : ∀ q ∈ sh_rl, q.1 < 95 ∧ ¬ (q.1 = 87 ∧ q.2.1 = 3) := by decide +kernel
theorem slf_sh {tr c w : Nat} {h h1 : am_H} (s : slf tr c w h h1) (ht : 95 ≤ tr) (hs : sh h) : sh h1 := by
  have n5 := hs.2.2
  refine ⟨fun a ha => (s.2.1 a (Or.inl (by omega))).trans (hs.1 a ha), fun q hq => ?_, Nat.le_trans n5 s.1.1⟩
  obtain ⟨q1, q2⟩ := sh_no87 q hq
  rw [← hs.2.1 q hq]
  by_cases e : q.1 = 87
  · rw [e]
    exact s.2.2.2.2 _ (fun z => q2 ⟨e, z⟩)
  · rw [(s.2.2.1 q.1 (by omega) e (by omega)).2]
theorem slf_ml {tr c w n T : Nat} {C : Nat → Nat → Nat} {h h1 : am_H} (s : slf tr c w h h1) (ht : 95 ≤ tr) (hs : sh h) (m : mlO h n T C) : mlO h1 n T C := by
  have n5 := hs.2.2
  refine ⟨⟨(s.2.2.2.1 0 (by decide)).trans m.1.1, (s.2.2.2.1 1 (by decide)).trans m.1.2⟩, m.2.1, fun a ha b hb => ?_⟩
  rw [(s.2.2.1 (89 + a) (by omega) (by omega) (by omega)).1]
  exact m.2.2 a ha b hb
/-- the cost of an assignment by the matrix -/
def cfo (n : Nat) (C : Nat → Nat → Nat) (A : Nat → Nat) : Nat := lCost n C (fun v => nI (A v))
theorem cfo_ag {n : Nat} {C : Nat → Nat → Nat} {A B : Nat → Nat} (h : lag n A B) : cfo n C A = cfo n C B := fb_sm_cong fun a ha => fb_sm_cong fun b hb => by
  show (if nI (A a) = nI (A b) then 0 else C a b) = if nI (B a) = nI (B b) then 0 else C a b
  rw [h a ha, h b (by omega)]
/-- the first best of the valid assignments in X -/
def yin (n T : Nat) (cf : (Nat → Nat) → Nat) (X : (Nat → Nat) → Prop) (o : Option (Nat × (Nat → Nat))) : Prop := match o with
  | none => ∀ B, X B → ¬ avalid n T B
  | some (bc, bA) => X bA ∧ avalid n T bA ∧ bc = cf bA ∧ (∀ B, X B → avalid n T B → bc ≤ cf B) ∧ ∀ B, X B → avalid n T B → llt n B bA → bc < cf B
theorem yin.cong {n T : Nat} {cf : (Nat → Nat) → Nat} {X Y : (Nat → Nat) → Prop} {o : Option (Nat × (Nat → Nat))} (h : yin n T cf X o) (e : ∀ B, avalid n T B → (X B ↔ Y B)) : yin n T cf Y o := by
  cases o with
  | none => exact fun B hY hv => h B ((e B hv).mpr hY) hv
  | some q =>
    obtain ⟨a, b, c, d, f⟩ := h
    exact ⟨(e _ b).mp a, b, c, fun B hY hv => d B ((e B hv).mpr hY) hv, fun B hY hv => f B ((e B hv).mpr hY) hv⟩
def yst (h : am_H) (n N0 : Nat) (o : Option (Nat × (Nat → Nat))) : Prop := match o with
  | none => am_r h 87 3 = 0
  | some (bc, bA) => am_i h 87 4 = nI bc ∧ bc < 100000 ∧ ∃ f, am_r h 87 3 = f ∧ (N0 ≤ f ∧ f < am_n h ∧ f ≠ 0) ∧ am_k h f = (2, n) ∧ ∀ w, w < n → am_i h f w = nI (bA w)
theorem setA_v (p : Nat → Nat) (v t : Nat) : setA p v t v = t := if_pos rfl
theorem llt_set {v i : Nat} {p B : Nat → Nat} : xE (v + 1) (setA p v i) B ↔ (xE v p B ∨ (lag v B p ∧ B v < i)) := by
  have e1 : ∀ w, w < v → setA p v i w = p w := fun w hw9 => if_neg (by omega)
  have e2 : setA p v i v = i := if_pos rfl
  constructor
  · rintro ⟨u, u1, u2, u3⟩
    by_cases e : u = v
    · subst e
      rw [e2] at u3
      exact Or.inr ⟨fun w hw9 => (u2 w hw9).trans (e1 w hw9), u3⟩
    · rw [e1 u (by omega)] at u3
      exact Or.inl ⟨u, by omega, fun w hw9 => (u2 w hw9).trans (e1 w (by omega)), u3⟩
  · rintro (⟨u, u1, u2, u3⟩ | ⟨q1, q2⟩)
    · exact ⟨u, by omega, fun w hw9 => (u2 w hw9).trans (e1 w (by omega)).symm, by rw [e1 u u1]; exact u3⟩
    · exact ⟨v, by omega, fun w hw9 => (q1 w hw9).trans (e1 w hw9).symm, by rw [e2]; exact q2⟩
theorem cfo_le {n : Nat} {C : Nat → Nat → Nat} (hn : n ≤ 6) (hC : ∀ a, a < 6 → ∀ b, b < 6 → C a b ≤ 1000) (A : Nat → Nat) : cfo n C A ≤ 36000 := lCost_le hn hC _ n (Nat.le_refl _)
set_option maxHeartbeats 16000000 in
theorem c_La_search {xs : am_X} {n T TS tr N0 : Nat} {C : Nat → Nat → Nat} (hTS : TS < 2 ^ n) (htr : 95 ≤ tr) (hN0 : tr < N0) : ∀ (k v : Nat) (p : Nat → Nat) (h : am_H) (o : Option (Nat × (Nat → Nat))) (Q : am_Q), v + k = n → sh h → mlO h n T C → am_k h tr = (2, n) → N0 ≤ am_n h → am_n h + 6 ^ k ≤ 900000 → yst h n N0 o →
    (∀ w, w < v → am_i h tr w = nI (p w)) → (∀ w, w < v → TS.testBit (p w) = true ∧ (TS.testBit w = true → p w = w)) → yin n TS (cfo n C) (xE v p) o →
    (∀ h' o', slf tr (6 ^ k) (6 * 6 ^ k) h h' → yst h' n N0 o' → (∀ w, w < v → am_i h' tr w = nI (p w)) → yin n TS (cfo n C) (fun B => xE v p B ∨ lag v B p) o' → Q (.inl none) h') →
    am_C xs am_P0 (k + 2) m_La_search [.ref 87, .ref tr, .int (nI v), .int (nI TS)] h Q := by
  intro k
  induction k with
  | zero =>
    intro v p h o Q hvn hs m ktr hN hroom hst htrv hpv hin HQ
    have hvn : v = n := by omega
    subst hvn
    obtain ⟨⟨m0, m1⟩, ⟨hn, hT⟩, mC⟩ := id m
    have hk := sk_87 hs
    have hC1 : ∀ a, a < 6 → ∀ b, b < 6 → C a b ≤ 1000 := fun a ha b hb => (mC a ha b hb).2
    have hcf := cfo_le hn hC1 p
    have hr1 : am_n h + 1 ≤ 900000 := hroom
    have pv : avalid v TS p := hpv
    refine am_enter (d := 1) ap_La_search rfl ?_
    refine am_go (fun p => p == 31) (fun K cal Q' hK hC hQ => ?_)
    refine And.intro hk (And.intro (fun c => absurd (show nI v = am_i h 87 0 from m0.symm) c) (fun _ => ?_))
    refine And.intro hk (hC _ _ _ _ (c_La_cost (L := fun w => nI (p w)) (by decide) hs m ktr ⟨Nat.le_refl _, by omega⟩ htrv ?_))
    -- a new best
    have upd : (∀ B, xE v p B → avalid v TS B → cfo v C p < cfo v C B) → am_W xs (am_code at_La_search) (am_hd ah_La_search) (am_C xs am_P0 1) Q 31 [.ref 87, .ref tr, .int (nI v), .int (nI TS), .int (nI (cfo v C p))] [] h := by
      intro hbest
      refine am_go (fun _ => false) (fun K cal Q' hK hC hQ => ?_)
      have k1 : am_k (am_pi h 87 4 (nI (cfo v C p))) tr = (2, v) := ktr
      refine And.intro hk (And.intro ⟨congrArg Prod.fst k1, by show am_n h < 1000000; omega⟩ (And.intro ?_ (And.intro trivial (hQ _ _ ?_))))
      · show am_k (am_clo (am_pi h 87 4 (nI (cfo v C p))) tr) 87 = (1, 9)
        rw [k_clo, if_neg (show (87 : Nat) ≠ am_n (am_pi h 87 4 (nI (cfo v C p))) by show (87 : Nat) ≠ am_n h; omega)]
        exact hk
      show Q (.inl none) (am_pr (am_clo (am_pi h 87 4 (nI (cfo v C p))) tr) 87 3 (am_n h))
      have hi87 : ∀ x, x ≠ am_n h → am_i (am_pr (am_clo (am_pi h 87 4 (nI (cfo v C p))) tr) 87 3 (am_n h)) x = am_i (am_pi h 87 4 (nI (cfo v C p))) x := fun x hx => by
        show am_i (am_clo (am_pi h 87 4 (nI (cfo v C p))) tr) x = _
        rw [i_clo, if_neg (show x ≠ am_n (am_pi h 87 4 (nI (cfo v C p))) from hx)]
      have hk87 : ∀ x, am_k (am_pr (am_clo (am_pi h 87 4 (nI (cfo v C p))) tr) 87 3 (am_n h)) x = if x = am_n h then (2, v) else am_k h x := fun x => by
        show am_k (am_clo (am_pi h 87 4 (nI (cfo v C p))) tr) x = _
        rw [k_clo]
        show (if x = am_n h then am_k h tr else am_k h x) = _
        rw [ktr]
      have hr87 : ∀ x, x ≠ 87 → x ≠ am_n h → am_r (am_pr (am_clo (am_pi h 87 4 (nI (cfo v C p))) tr) 87 3 (am_n h)) x = am_r h x := fun x hx hx2 => by
        rw [r_pr_ne hx, r_clo_ne (show x ≠ am_n (am_pi h 87 4 (nI (cfo v C p))) from hx2)]
        rfl
      refine HQ _ (some (cfo v C p, p)) ⟨⟨?_, ?_, ?_⟩, fun x hx => ?_, fun x hx h1 h2 => ⟨?_, ?_⟩, fun j hj => ?_, fun j hj => ?_⟩ ⟨?_, by omega, am_n h, ?_, ⟨hN, ?_, by omega⟩, ?_, fun w hw => ?_⟩ (fun w hw => ?_) ⟨Or.inr fun _ _ => rfl, pv, rfl, fun B hB hv => ?_, fun B hB hv hl => ?_⟩
      · show am_n h ≤ am_n h + 1; omega
      · show am_n h + 1 ≤ am_n h + 1; omega
      · show am_cs h + (am_k h tr).2 ≤ am_cs h + 6 * 1; rw [ktr]; show am_cs h + v ≤ am_cs h + 6 * 1; omega
      · rw [hk87, if_neg]
        rcases hx with q | q
        · omega
        · have q : am_n h + 1 ≤ x := q
          omega
      · rw [hi87 x (by omega), i_pi_ne h1]
      · exact hr87 x h1 (by omega)
      · rw [hi87 87 (by omega), i_pi_same, if_neg hj]
      · rw [r_pr, if_pos rfl, if_neg hj]
        show am_r (am_clo (am_pi h 87 4 (nI (cfo v C p))) tr) 87 j = _
        rw [r_clo_ne (show (87 : Nat) ≠ am_n (am_pi h 87 4 (nI (cfo v C p))) by show (87 : Nat) ≠ am_n h; omega)]
        rfl
      · rw [hi87 87 (by omega), i_pi_same, if_pos rfl]
      · rw [r_pr, if_pos rfl, if_pos rfl]
      · show am_n h < am_n h + 1; omega
      · rw [hk87, if_pos rfl]
      · show am_i (am_clo (am_pi h 87 4 (nI (cfo v C p))) tr) (am_n (am_pi h 87 4 (nI (cfo v C p)))) w = _
        rw [i_clo, if_pos rfl, i_pi_ne (by omega)]
        exact htrv w hw
      · rw [hi87 tr (by omega), i_pi_ne (by omega)]
        exact htrv w hw
      · rcases hB with hB | hB
        · exact Nat.le_of_lt (hbest B hB hv)
        · exact Nat.le_of_eq (cfo_ag hB).symm
      · rcases hB with hB | hB
        · exact hbest B hB hv
        · obtain ⟨u, u1, u2, u3⟩ := hl
          rw [hB u u1] at u3
          exact absurd u3 (Nat.lt_irrefl _)
    refine And.intro hk ?_
    cases o with
    | none =>
      refine And.intro (fun _ => hK _ _ _ _ (upd fun B hB hv => absurd hv (hin B hB))) (fun z => absurd (show am_r h 87 3 = 0 from hst) z)
    | some q =>
      obtain ⟨bc, bA⟩ := q
      obtain ⟨s1, s2, f, s3, ⟨s4, s5, s6⟩, s7, s8⟩ := hst
      obtain ⟨b1, b2, b3, b4, b5⟩ := hin
      refine And.intro (fun z => absurd (s3.symm.trans (show am_r h 87 3 = 0 from z)) s6) (fun _ => ?_)
      refine And.intro hk (And.intro (fun z => ?_) (fun z => hK _ _ _ _ (upd fun B hB hv => ?_)))
      · have z : am_i h 87 4 ≤ nI (cfo v C p) := z
        rw [s1] at z
        have z := (nI_leI (by omega) (by omega)).mp z
        refine And.intro trivial (hQ _ _ (HQ h (some (bc, bA)) (slf.rf.mo (Nat.zero_le _) (Nat.zero_le _)) ⟨s1, s2, f, s3, ⟨s4, s5, s6⟩, s7, s8⟩ htrv ⟨Or.inl b1, b2, b3, fun B hB hv => ?_, fun B hB hv hl => ?_⟩))
        · rcases hB with hB | hB
          · exact b4 B hB hv
          · rw [cfo_ag hB]; exact z
        · rcases hB with hB | hB
          · exact b5 B hB hv hl
          · obtain ⟨u, u1, u2, u3⟩ := hl
            obtain ⟨y, y1, y2, y3⟩ := b1
            exfalso
            rcases Nat.lt_trichotomy u y with q | q | q
            · have := y2 u q
              rw [hB u u1] at u3
              omega
            · subst q
              rw [hB u u1] at u3
              omega
            · have := u2 y q
              rw [hB y y1] at this
              omega
      · have z : ¬ am_i h 87 4 ≤ nI (cfo v C p) := z
        rw [s1] at z
        have z : cfo v C p < bc := Nat.not_le.mp fun q => z ((nI_leI (by omega) (by omega)).mpr q)
        exact Nat.lt_of_lt_of_le z (b4 B hB hv)
  | succ k ih =>
    intro v p h o Q hvn hs m ktr hN hroom hst htrv hpv hin HQ
    obtain ⟨⟨m0, m1⟩, ⟨hn, hT⟩, mC⟩ := id m
    have hk := sk_87 hs
    have hTS31 : TS < 2 ^ 31 := Nat.lt_trans hTS (pow_le31 (by omega))
    have h6 : 6 ^ (k + 1) = 6 * 6 ^ k := by rw [Nat.pow_succ]; omega
    refine am_enter (d := k + 2) ap_La_search rfl ?_
    refine am_go (fun p => p == 52) (fun K cal Q' hK hC hQ => ?_)
    refine And.intro hk (And.intro (fun _ => hK _ _ _ _ ?_) (fun z => absurd (show nI v ≠ am_i h 87 0 from fun e => by rw [m0] at e; have := (nI_eq (by omega) (by omega)).mp e; omega) z))
    refine am_for n (fun i L h' => ∃ o', L = [.ref 87, .ref tr, .int (nI v), .int (nI TS), .int (nI i)] ∧ slf tr (i * 6 ^ k) (i * (6 * 6 ^ k)) h h' ∧ yst h' n N0 o' ∧ (∀ w, w < v → am_i h' tr w = nI (p w)) ∧ yin n TS (cfo n C) (fun B => xE v p B ∨ (lag v B p ∧ B v < i)) o') ?_ ?_ 0 (Nat.zero_le _) _ _ ⟨o, rfl, by rw [Nat.zero_mul, Nat.zero_mul]; exact slf.rf, hst, htrv, hin.cong fun B _ => ⟨Or.inl, fun q => q.elim id fun q => absurd q.2 (Nat.not_lt_zero _)⟩⟩
    · rintro i hi9 L h' ⟨o', rfl, s, hst', htr', hin'⟩ next
      have hs' := slf_sh s htr hs
      have m' := slf_ml s htr hs m
      have hk' := sk_87 hs'
      have m0' := m'.1.1
      have ktr' : am_k h' tr = (2, n) := (s.2.1 tr (Or.inl (by omega))).trans ktr
      have hi6 : i * 6 ^ k + 6 ^ k ≤ 6 * 6 ^ k := by
        have := Nat.mul_le_mul_right (6 ^ k) (show i + 1 ≤ 6 by omega)
        rw [Nat.add_mul, Nat.one_mul] at this
        exact this
      have hs1 : (i + 1) * 6 ^ k = i * 6 ^ k + 6 ^ k := by rw [Nat.add_mul, Nat.one_mul]
      have hs2 : (i + 1) * (6 * 6 ^ k) = i * (6 * 6 ^ k) + 6 * 6 ^ k := by rw [Nat.add_mul, Nat.one_mul]
      have hn' := s.1.2.1
      -- i isn't a choice here
      have skip : (∀ B, avalid n TS B → B v ≠ i) → am_W xs (am_code at_La_search) (am_hd ah_La_search) (am_C xs am_P0 (k + 2)) Q 101 [.ref 87, .ref tr, .int (nI v), .int (nI TS), .int (nI i)] [] h' := by
        intro hno
        refine am_go (fun p => p == 52) (fun K cal Q' hK hC hQ => ?_)
        refine hK _ _ _ _ (next _ _ ⟨o', ?_, s.mo (by omega) (by omega), hst', htr', hin'.cong fun B hv => ⟨fun q => q.imp id fun r => ⟨r.1, by omega⟩, fun q => q.imp id fun r => ⟨r.1, Nat.lt_of_le_of_ne (by omega) (hno B hv)⟩⟩⟩)
        rw [← nI_1 i]
        rfl
      refine am_go (fun p => p == 101 || p == 87) (fun K cal Q' hK hC hQ => ?_)
      refine And.intro hk' (And.intro (fun z => absurd z (q_ge m0' hi9 (by omega))) (fun _ => ?_))
      refine And.intro trivial (hC _ _ _ _ (c_La_in (by omega) hTS31 (by omega) ?_))
      refine And.intro (fun c => hK _ _ _ _ (skip fun B hv e => ?_)) (fun c => ?_)
      · have c : TS.testBit i = false := (bI_0 _).mp c
        have := (hv v (by omega)).1
        rw [e, c] at this
        cases this
      have ci : TS.testBit i = true := by
        cases q : TS.testBit i with
        | true => rfl
        | false => rw [q] at c; exact absurd rfl c
      -- i is a choice
      have go : (TS.testBit v = true → i = v) → am_W xs (am_code at_La_search) (am_hd ah_La_search) (am_C xs am_P0 (k + 2)) Q 87 [.ref 87, .ref tr, .int (nI v), .int (nI TS), .int (nI i)] [] h' := by
        intro hv1
        refine am_go (fun p => p == 52) (fun K cal Q' hK hC hQ => ?_)
        refine And.intro (ck_arr ktr' rfl (by omega) (by omega)) (And.intro hk' ?_)
        show cal m_La_search [.ref 87, .ref tr, .int (nI v + nI 1), .int (nI TS)] (am_pi h' tr (nI v).toNatClampNeg (nI i)) _
        rw [nI_add, q_cl (by omega)]
        have s1 : slf tr 0 0 h' (am_pi h' tr v (nI i)) := ⟨⟨Nat.le_refl _, Nat.le_refl _, Nat.le_refl _⟩, fun _ _ => rfl, fun x _ _ h2 => ⟨i_pi_ne h2, rfl⟩, fun k _ => by rw [i_pi_ne (by omega)], fun _ _ => rfl⟩
        have hA1 : ∀ w, w < v + 1 → am_i (am_pi h' tr v (nI i)) tr w = nI (setA p v i w) := by
          intro w hw9
          rw [i_pi_same]
          unfold setA
          by_cases e : w = v
          · rw [if_pos e, if_pos e]
          · rw [if_neg e, if_neg e]; exact htr' w (by omega)
        have hst1 : yst (am_pi h' tr v (nI i)) n N0 o' := by
          cases o' with
          | none => exact hst'
          | some q =>
            obtain ⟨x1, x2, f, x3, x4, x5, x6⟩ := hst'
            exact ⟨by rw [i_pi_ne (by omega)]; exact x1, x2, f, x3, x4, x5, fun w hw => by rw [i_pi_ne (by omega)]; exact x6 w hw⟩
        refine hC _ _ _ _ (ih (v + 1) (setA p v i) _ o' _ (by omega) (slf_sh s1 htr hs') (slf_ml s1 htr hs' m') ktr' (show N0 ≤ am_n h' by have := s.1.1; omega) (show am_n h' + 6 ^ k ≤ 900000 by omega) hst1 hA1 (fun w hw9 => ?_) (hin'.cong fun B _ => llt_set.symm) (fun h2 o2 s2 hst2 htr2 hin2 => ?_))
        · unfold setA
          by_cases e : w = v
          · rw [if_pos e, e]; exact ⟨ci, fun q => hv1 q⟩
          · rw [if_neg e]; exact hpv w (by omega)
        · refine hK _ _ _ _ (next _ _ ⟨o2, ?_, ((s.tr s1).tr s2).mo (by omega) (by omega), hst2, fun w hw9 => ?_, hin2.cong fun B _ => ?_⟩)
          · rw [← nI_1 i]
            rfl
          · rw [htr2 w (by omega)]; congr 1; exact if_neg (by omega)
          · rw [llt_set]
            constructor
            · rintro ((q | q) | q)
              · exact Or.inl q
              · exact Or.inr ⟨q.1, by omega⟩
              · refine Or.inr ⟨fun w hw9 => (q w (by omega)).trans (if_neg (by omega)), ?_⟩
                rw [q v (by omega), setA_v]
                omega
            · rintro (q | ⟨q1, q2⟩)
              · exact Or.inl (Or.inl q)
              · by_cases e : B v = i
                · refine Or.inr fun w hw9 => ?_
                  unfold setA
                  by_cases e3 : w = v
                  · rw [if_pos e3, e3]; exact e
                  · rw [if_neg e3]; exact q1 w (by omega)
                · exact Or.inl (Or.inr ⟨q1, by omega⟩)
      refine And.intro trivial (hC _ _ _ _ (c_La_in (by omega) hTS31 (by omega) ?_))
      refine And.intro (fun c2 => hK _ _ _ _ (go fun q => ?_)) (fun c2 => ?_)
      · have c2 : TS.testBit v = false := (bI_0 _).mp c2
        rw [c2] at q
        cases q
      have cv : TS.testBit v = true := by
        cases q : TS.testBit v with
        | true => rfl
        | false => rw [q] at c2; exact absurd rfl c2
      refine And.intro (fun c3 => hK _ _ _ _ (go fun _ => (nI_eq (by omega) (by omega)).mp (show nI i = nI v from c3))) (fun c3 => hK _ _ _ _ (skip fun B hv e => ?_))
      exact c3 (show nI i = nI v by rw [← e, (hv v (by omega)).2 cv])
    · rintro L h' ⟨o', rfl, s, hst', htr', hin'⟩
      have hs' := slf_sh s htr hs
      have m' := slf_ml s htr hs m
      have hi6 : n * 6 ^ k ≤ 6 * 6 ^ k := Nat.mul_le_mul_right _ hn
      have hi7 : n * (6 * 6 ^ k) ≤ 6 * (6 * 6 ^ k) := Nat.mul_le_mul_right _ hn
      refine am_go (fun _ => false) (fun K cal Q' hK hC hQ => ?_)
      refine And.intro (sk_87 hs') (And.intro (fun _ => And.intro trivial (hQ _ _ (HQ h' o' (s.mo (by omega) (by omega)) hst' htr' (hin'.cong fun B hv => ⟨fun q => q.imp id fun r => r.1, fun q => q.imp id fun r => ⟨r, q_T_lt hTS (hv v (by omega)).1⟩⟩)))) (fun c => absurd (q_le m'.1.1 (by omega)) c))

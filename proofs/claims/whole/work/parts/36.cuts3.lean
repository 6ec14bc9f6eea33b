/-! CUTS, 3: what a set of edges leaves joined; labels by sets -/
def est (lo hi : Nat → Nat) (rem R e : Nat) : Nat := if rem.testBit e = false ∧ (R.testBit (lo e) || R.testBit (hi e)) = true then R ||| (2 ^ lo e ||| 2 ^ hi e) else R
def pas (lo hi : Nat → Nat) (rem R : Nat) : Nat → Nat
  | 0 => R
  | e + 1 => est lo hi rem (pas lo hi rem R e) e
def rch (m : Nat) (lo hi : Nat → Nat) (rem s : Nat) : Nat → Nat
  | 0 => 2 ^ s
  | p + 1 => pas lo hi rem (rch m lo hi rem s p) m
theorem est_lt {n m : Nat} {lo hi : Nat → Nat} {rem R e : Nat} (hw : ∀ e, e < m → lo e < hi e ∧ hi e < n) (he : e < m) (hR : R < 2 ^ n) : est lo hi rem R e < 2 ^ n := by
  have := hw e he
  unfold est
  split
  · exact Nat.or_lt_two_pow hR (Nat.or_lt_two_pow (Nat.pow_lt_pow_right (by decide) (by omega)) (Nat.pow_lt_pow_right (by decide) (by omega)))
  · exact hR
theorem pas_lt {n m : Nat} {lo hi : Nat → Nat} {rem R : Nat} (hw : ∀ e, e < m → lo e < hi e ∧ hi e < n) (hR : R < 2 ^ n) : ∀ e, e ≤ m → pas lo hi rem R e < 2 ^ n
  | 0, _ => hR
  | e + 1, he => est_lt hw (by omega) (pas_lt hw hR e (by omega))
theorem rch_lt {n m : Nat} {lo hi : Nat → Nat} {rem s : Nat} (hw : ∀ e, e < m → lo e < hi e ∧ hi e < n) (hs : s < n) : ∀ p, rch m lo hi rem s p < 2 ^ n
  | 0 => Nat.pow_lt_pow_right (by decide) hs
  | p + 1 => pas_lt hw (rch_lt hw hs p) m (Nat.le_refl _)
theorem q_and_nz {a b : Nat} (ha : a < 2 ^ 30) : ¬ nI a &&& nI b = 0 ↔ ∃ i, a.testBit i = true ∧ b.testBit i = true := by
  rw [fa_and]
  have hl : a &&& b < 2 ^ 30 := Nat.lt_of_le_of_lt Nat.and_le_left ha
  rw [show (nI (a &&& b) = 0) = (nI (a &&& b) = nI 0) from rfl, nI_eq (by omega) (by omega)]
  constructor
  · intro h
    refine Classical.byContradiction fun w => h (Nat.eq_of_testBit_eq fun i => ?_)
    rw [Nat.zero_testBit, Nat.testBit_and]
    cases e : a.testBit i with
    | false => rfl
    | true =>
      cases e2 : b.testBit i with
      | false => rfl
      | true => exact absurd ⟨i, e, e2⟩ w
  · rintro ⟨i, h1, h2⟩ h
    have := congrArg (fun z => Nat.testBit z i) h
    simp only [Nat.testBit_and, h1, h2, Nat.zero_testBit] at this
    cases this
theorem q_ends_nz {x y R : Nat} (hx : x < 9) (hy : y < 9) : (¬ nI (2 ^ x ||| 2 ^ y) &&& nI R = 0) ↔ (R.testBit x || R.testBit y) = true := by
  rw [q_and_nz (Nat.or_lt_two_pow (Nat.pow_lt_pow_right (by decide) (by omega)) (Nat.pow_lt_pow_right (by decide) (by omega)))]
  constructor
  · rintro ⟨i, h1, h2⟩
    rw [Nat.testBit_or, q_tw, q_tw] at h1
    simp only [Bool.or_eq_true, decide_eq_true_eq] at h1 ⊢
    rcases h1 with h1 | h1 <;> rw [h1]
    · exact Or.inl h2
    · exact Or.inr h2
  · intro h
    simp only [Bool.or_eq_true] at h
    rcases h with h | h
    · exact ⟨x, by rw [Nat.testBit_or, q_tw, q_tw]; simp, h⟩
    · exact ⟨y, by rw [Nat.testBit_or, q_tw, q_tw]; simp, h⟩
set_option maxHeartbeats 4000000 in
theorem c_reachedFrom {xs : am_X} {d : Nat} {h : am_H} {a n m T : Nat} {lo hi : Nat → Nat} (hd : 2 ≤ d) (hg : cg h a n m T lo hi) {s rem : Nat} (hs : s < n) (hr : rem < 2 ^ 31) {Q : am_Q} (HQ : Q (.inl (some (.int (nI (rch m lo hi rem s (n - 1)))))) h) : am_C xs am_P0 d m_Cu_reachedFrom [.ref a, .int (nI s), .int (nI rem)] h Q := by
  have hg0 := hg
  obtain ⟨⟨hk, -⟩, ⟨h0, h1, h2⟩, he, ⟨hn, hm, hT⟩, hw⟩ := hg
  refine am_C_le hd (am_enter (d := 1) ap_Cu_reachedFrom rfl ?_) (fun _ _ k => k)
  refine am_go (fun p => p == 7) (fun K cal Q' hK hC hQ => hK _ _ _ _ ?_)
  have e0 : nI 1 <<< (nI s &&& 31) = nI (2 ^ s) := q_shl s (by omega)
  refine am_for (n - 1) (fun i L h' => ∃ v5 v6, h' = h ∧ L = [.ref a, .int (nI s), .int (nI rem), .int (nI (rch m lo hi rem s i)), .int (nI (i + 1)), v5, v6]) ?_ ?_ 0 (Nat.zero_le _) _ _ ⟨am_J, am_J, rfl, by rw [show rch m lo hi rem s 0 = 2 ^ s from rfl, ← e0]; rfl⟩
  · rintro i hi9 L h' ⟨v5, v6, rfl, rfl⟩ next
    refine am_go (fun p => p == 7 || p == 19) (fun K cal Q' hK hC hQ => ?_)
    refine And.intro hk (And.intro (fun z => absurd z (q_ge h0 (by omega) (by omega))) (fun _ => hK _ _ _ _ ?_))
    have hlt := fun e (z : e ≤ m) => pas_lt (rem := rem) hw (rch_lt (rem := rem) hw hs i) e z
    refine am_for m (fun e L h9 => ∃ v6, h9 = h' ∧ L = [.ref a, .int (nI s), .int (nI rem), .int (nI (pas lo hi rem (rch m lo hi rem s i) e)), .int (nI (i + 1)), .int (nI e), v6]) ?_ ?_ 0 (Nat.zero_le _) _ _ ⟨v6, rfl, rfl⟩
    · rintro e he9 L h9 ⟨v6, rfl, rfl⟩ next2
      obtain ⟨w1, w2⟩ := hw e he9
      have eI : am_inc (nI e) (Int.ofNat 1) = nI (e + 1) := nI_1 e
      rw [← eI] at next2
      have hR := Nat.lt_of_lt_of_le (hlt e (by omega)) (pow_le9 hn)
      refine am_go (fun p => p == 19) (fun K cal Q' hK hC hQ => ?_)
      refine And.intro hk (And.intro (fun z => absurd z (q_ge h1 he9 (by omega))) (fun _ => ?_))
      refine And.intro hk (hC _ _ _ _ (c_endsOf (by decide) hg0 he9 ?_))
      have eA : (nI rem >>> (nI e &&& 31)) &&& nI 1 = bI (rem.testBit e) := q_bit hr (by omega)
      refine And.intro (fun z => ?_) (fun z => ?_)
      · have z : ¬ bI (rem.testBit e) = 0 := fun q => z (eA.trans q)
        have z : rem.testBit e = true := by
          cases e3 : rem.testBit e with
          | true => rfl
          | false => rw [e3] at z; exact absurd rfl z
        exact hK _ _ _ _ (next2 _ _ ⟨_, rfl, by rw [pas, est, if_neg (fun q => by rw [z] at q; cases q.1)]; rfl⟩)
      · have z : bI (rem.testBit e) = 0 := eA.symm.trans (Classical.not_not.mp z)
        have z := (bI_0 _).mp z
        refine And.intro (fun z2 => ?_) (fun z2 => ?_)
        · refine hK _ _ _ _ (next2 _ _ ⟨_, rfl, by rw [pas, est, if_neg (fun q => (q_ends_nz (by omega) (by omega)).mpr q.2 z2)]; rfl⟩)
        · have z2 := (q_ends_nz (by omega) (by omega)).mp z2
          exact hK _ _ _ _ (next2 _ _ ⟨_, rfl, by rw [pas, est, if_pos ⟨z, z2⟩, ← fa_or (pas lo hi rem (rch m lo hi rem s i) e)]; rfl⟩)
    · rintro L h9 ⟨v6, rfl, rfl⟩
      have eI : am_inc (nI (i + 1)) (Int.ofNat 1) = nI (i + 1 + 1) := nI_1 (i + 1)
      refine am_go (fun p => p == 7) (fun K cal Q' hK hC hQ => ?_)
      exact And.intro hk (And.intro (fun _ => hK _ _ _ _ (next _ _ ⟨_, _, rfl, by rw [← eI]; rfl⟩)) (fun z => absurd (q_le h1 (by omega)) z))
  · rintro L h' ⟨v5, v6, rfl, rfl⟩
    refine am_go (fun p => p == 7) (fun K cal Q' hK hC hQ => ?_)
    exact And.intro hk (And.intro (fun _ => And.intro trivial (hQ _ _ HQ)) (fun z => absurd (by show am_i h' a 0 ≤ nI (n - 1 + 1); rw [h0]; exact nI_le (by omega) (by omega)) z))
/-- no terminal reaches another one -/
def kap (n m T : Nat) (lo hi : Nat → Nat) (rem : Nat) : Bool := decide (∀ v, v < n → T.testBit v = true → rch m lo hi rem v (n - 1) &&& T = 2 ^ v)
set_option maxHeartbeats 4000000 in
theorem c_keepsApart {xs : am_X} {d : Nat} {h : am_H} {a n m T : Nat} {lo hi : Nat → Nat} (hd : 3 ≤ d) (hg : cg h a n m T lo hi) {rem : Nat} (hr : rem < 2 ^ 31) {Q : am_Q} (HQ : Q (.inl (some (.int (bI (kap n m T lo hi rem))))) h) : am_C xs am_P0 d m_Cu_keepsApart [.ref a, .int (nI rem)] h Q := by
  have hg0 := hg
  obtain ⟨⟨hk, -⟩, ⟨h0, h1, h2⟩, he, ⟨hn, hm, hT⟩, hw⟩ := hg
  refine am_C_le hd (am_enter (d := 2) ap_Cu_keepsApart rfl ?_) (fun _ _ k => k)
  refine am_go (fun p => p == 2) (fun K cal Q' hK hC hQ => hK _ _ _ _ ?_)
  refine am_for n (fun i L h' => ∃ v3, h' = h ∧ L = [.ref a, .int (nI rem), .int (nI i), v3] ∧ ∀ v, v < i → T.testBit v = true → rch m lo hi rem v (n - 1) &&& T = 2 ^ v) ?_ ?_ 0 (Nat.zero_le _) _ _ ⟨am_J, rfl, rfl, fun v z => absurd z (Nat.not_lt_zero _)⟩
  · rintro i hi9 L h' ⟨v3, rfl, rfl, hno⟩ next
    have eI : am_inc (nI i) (Int.ofNat 1) = nI (i + 1) := nI_1 i
    rw [← eI] at next
    refine am_go (fun p => p == 2) (fun K cal Q' hK hC hQ => ?_)
    refine And.intro hk (And.intro (fun z => absurd z (q_ge h0 hi9 (by omega))) (fun _ => ?_))
    refine And.intro trivial (hC _ _ _ _ (c_reachedFrom (by decide) hg0 hi9 hr ?_))
    refine And.intro hk ?_
    refine And.intro hk (hC _ _ _ _ (c_isTerminal (by decide) hg0 _ ?_))
    rw [isT_nI hi9 (by omega)]
    have eA : nI (rch m lo hi rem i (n - 1)) &&& am_i h' a 2 = nI (rch m lo hi rem i (n - 1) &&& T) := by rw [h2]; exact fa_and _ _
    have eB : nI 1 <<< (nI i &&& 31) = nI (2 ^ i) := q_shl i (by omega)
    have hl1 : rch m lo hi rem i (n - 1) &&& T < 2 ^ 31 := Nat.lt_of_le_of_lt Nat.and_le_left (Nat.lt_trans (rch_lt hw hi9 _) (pow_le31 (by omega)))
    have hl2 : 2 ^ i < 2 ^ 31 := pow_le31 (by omega)
    cases hTi : T.testBit i with
    | false =>
      refine And.intro (fun _ => ?_) (fun z => absurd rfl z)
      refine hK _ _ _ _ (next _ _ ⟨_, rfl, rfl, fun v z1 z2 => ?_⟩)
      by_cases q : v < i
      · exact hno v q z2
      · rw [show v = i by omega, hTi] at z2; cases z2
    | true =>
      refine And.intro (fun z => absurd z q_t1) (fun _ => ?_)
      refine And.intro (fun z => ?_) (fun z => ?_)
      · have z := (nI_eq hl1 hl2).mp (eA.symm.trans (Eq.trans z eB))
        refine hK _ _ _ _ (next _ _ ⟨_, rfl, rfl, fun v z1 z2 => ?_⟩)
        by_cases q : v < i
        · exact hno v q z2
        · rw [show v = i by omega]; exact z
      · have z : ¬ rch m lo hi rem i (n - 1) &&& T = 2 ^ i := fun q => z (eA.trans ((congrArg nI q).trans eB.symm))
        refine And.intro (Or.inl rfl) (hQ _ _ ?_)
        rw [show kap n m T lo hi rem = false from decide_eq_false fun q => z (q i hi9 hTi)] at HQ
        exact HQ
  · rintro L h' ⟨v3, rfl, rfl, hno⟩
    refine am_go (fun p => p == 2) (fun K cal Q' hK hC hQ => ?_)
    refine And.intro hk (And.intro (fun _ => And.intro (Or.inr rfl) (hQ _ _ ?_)) (fun z => absurd (q_le h0 (by omega)) z))
    rw [show kap n m T lo hi rem = true from decide_eq_true hno] at HQ
    exact HQ

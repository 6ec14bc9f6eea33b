/-! CUTS, 3: what a set of edges leaves joined; labels by sets -/
def est (lo hi : Nat → Nat) (rem R e : Nat) : Nat := if rem.testBit e = false ∧ (R.testBit (lo e) || R.testBit (hi e)) = true then R ||| (2 ^ lo e ||| 2 ^ hi e) else R
def pas (lo hi : Nat → Nat) (rem R : Nat) : Nat → Nat
  | 0 => R
  | e + 1 => est lo hi rem (pas lo hi rem R e) e
def rch (m : Nat) (lo hi : Nat → Nat) (rem s : Nat) : Nat → Nat
  | 0 => 2 ^ s
  | p + 1 => pas lo hi rem (rch m lo hi rem s p) m
theorem est_lt {n m : Nat} {lo hi : Nat → Nat} {rem R e : Nat} (hw : ∀ e, e < m → lo e < hi e ∧ hi e < n) (he : e < m) (hR : R < 2 ^ n) : est lo hi rem R e < 2 ^ n := by
  have := hw e he
  unfold est
  split
  · exact Nat.or_lt_two_pow hR (Nat.or_lt_two_pow (Nat.pow_lt_pow_right (by decide) (by omega)) (Nat.pow_lt_pow_right (by decide) (by omega)))
  · exact hR
theorem pas_lt {n m : Nat} {lo hi : Nat → Nat} {rem R : Nat} (hw : ∀ e, e < m → lo e < hi e ∧ hi e < n) (hR : R < 2 ^ n) : ∀ e, e ≤ m → pas lo hi rem R e < 2 ^ n
  | 0, _ => hR
  | e + 1, he => est_lt hw (by omega) (pas_lt hw hR e (by omega))
theorem rch_lt {n m : Nat} {lo hi : Nat → Nat} {rem s : Nat} (hw : ∀ e, e < m → lo e < hi e ∧ hi e < n) (hs : s < n) : ∀ p, rch m lo hi rem s p < 2 ^ n
  | 0 => Nat.pow_lt_pow_right (by decide) hs
  | p + 1 => pas_lt hw (rch_lt hw hs p) m (Nat.le_refl _)
theorem q_and_nz {a b : Nat} (ha : a < 2 ^ 30) : ¬ nI a &&& nI b = 0 ↔ ∃ i, a.testBit i = true ∧ b.testBit i = true := by
  rw [fa_and]
  have hl : a &&& b < 2 ^ 30 := Nat.lt_of_le_of_lt Nat.and_le_left ha
  rw [show (nI (a &&& b) = 0) = (nI (a &&& b) = nI 0) from rfl, nI_eq (by omega) (by omega)]
  constructor
  · intro h
    refine Classical.byContradiction fun w => h (Nat.eq_of_testBit_eq fun i => ?_)
    rw [Nat.zero_testBit, Nat.testBit_and]
    cases e : a.testBit i with
    | false => rfl
    | true =>
      cases e2 : b.testBit i with
      | false => rfl
      | true => exact absurd ⟨i, e, e2⟩ w
  · rintro ⟨i, h1, h2⟩ h
    have := congrArg (fun z => Nat.testBit z i) h
    simp only [Nat.testBit_and, h1, h2, Nat.zero_testBit] at this
    cases this
theorem q_ends_nz {x y R : Nat} (hx : x < 9) (hy : y < 9) : (¬ nI (2 ^ x ||| 2 ^ y) &&& nI R = 0) ↔ (R.testBit x || R.testBit y) = true := by
  rw [q_and_nz (Nat.or_lt_two_pow (Nat.pow_lt_pow_right (by decide) (by omega)) (Nat.pow_lt_pow_right (by decide) (by omega)))]
  constructor
  · rintro ⟨i, h1, h2⟩
    rw [Nat.testBit_or, q_tw, q_tw] at h1
    simp only [Bool.or_eq_true, decide_eq_true_eq] at h1 ⊢
    rcases h1 with h1 | h1 <;> rw [h1]
    · exact Or.inl h2
    · exact Or.inr h2
  · intro h
    simp only [Bool.or_eq_true] at h
    rcases h with h | h
    · exact ⟨x, by rw [Nat.testBit_or, q_tw, q_tw]; simp, h⟩
    · exact ⟨y, by rw [Nat.testBit_or, q_tw, q_tw]; simp, h⟩
/-- no terminal reaches another one -/
def kap (n m T : Nat) (lo hi : Nat → Nat) (rem : Nat) : Bool := decide (∀ v, v < n → T.testBit v = true → rch m lo hi rem v (n - 1) &&& T = 2 ^ v)

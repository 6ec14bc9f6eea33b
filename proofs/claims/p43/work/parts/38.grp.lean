/-! ROUNDS -/
def orF (f : Nat → Nat) : Nat → Nat
  | 0 => 0
  | k + 1 => orF f k ||| f k
theorem orF_bit (f : Nat → Nat) (k i : Nat) : (orF f k).testBit i = true ↔ ∃ o, o < k ∧ (f o).testBit i = true := by
  induction k with
  | zero => simp [orF]
  | succ k ih =>
    unfold orF
    rw [Nat.testBit_or, Bool.or_eq_true, ih]
    constructor
    · rintro (⟨o, h1, h2⟩ | h)
      · exact ⟨o, by omega, h2⟩
      · exact ⟨k, by omega, h⟩
    · rintro ⟨o, h1, h2⟩
      by_cases e : o = k
      · subst e; exact Or.inr h2
      · exact Or.inl ⟨o, by omega, h2⟩
theorem orF_lt {f : Nat → Nat} {b : Nat} (h : ∀ o, f o < 2 ^ b) : ∀ k, orF f k < 2 ^ b
  | 0 => Nat.two_pow_pos b
  | k + 1 => Nat.or_lt_two_pow (orF_lt h k) (h k)
/-- the groups of the others -/
def oth (n T : Nat) (G : Nat → Nat) (t : Nat) : Nat := orF (fun o => if o ≠ t ∧ T.testBit o = true then G o else 0) n
theorem oth_bit (n T : Nat) (G : Nat → Nat) (t i : Nat) : (oth n T G t).testBit i = true ↔ ∃ o, o < n ∧ o ≠ t ∧ T.testBit o = true ∧ (G o).testBit i = true := by
  unfold oth
  rw [orF_bit]
  constructor
  · rintro ⟨o, h1, h2⟩
    by_cases e : o ≠ t ∧ T.testBit o = true
    · rw [if_pos e] at h2; exact ⟨o, h1, e.1, e.2, h2⟩
    · rw [if_neg e, Nat.zero_testBit] at h2; cases h2
  · rintro ⟨o, h1, h2, h3, h4⟩
    exact ⟨o, h1, by rw [if_pos ⟨h2, h3⟩]; exact h4⟩
noncomputable def gst (n T : Nat) (c : Nat → Nat) (t : Nat) (G : Nat → Nat) : Nat → Nat := fun v => if v = t ∧ T.testBit t = true then bset n c true (G t) (oth n T G t) else G v
noncomputable def gro (n T : Nat) (c : Nat → Nat) (G : Nat → Nat) : Nat → Nat → Nat
  | 0 => G
  | t + 1 => gst n T c t (gro n T c G t)
noncomputable def grs (n T : Nat) (c : Nat → Nat) : Nat → Nat → Nat
  | 0 => fun v => if T.testBit v then 2 ^ v else 0
  | k + 1 => gro n T c (grs n T c k) n
def GI (n T : Nat) (G : Nat → Nat) : Prop := (∀ t, T.testBit t = false → G t = 0) ∧ (∀ t, G t < 2 ^ n) ∧ ∀ t u i, t ≠ u → (G t).testBit i = true → (G u).testBit i = false
theorem q_T_lt {n T t : Nat} (hT : T < 2 ^ n) (h : T.testBit t = true) : t < n := by
  refine Nat.not_le.mp fun q => ?_
  rw [Nat.testBit_lt_two_pow (Nat.lt_of_lt_of_le hT (Nat.pow_le_pow_right (by decide) q))] at h
  cases h
theorem GI.cn {n T : Nat} {G : Nat → Nat} (g : GI n T G) (t : Nat) : cnd n (G t) (oth n T G t) (G t) := ⟨g.2.1 t, fun _ h => h, fun i h => by
  obtain ⟨o, h1, h2, h3, h4⟩ := (oth_bit n T G t i).mp h
  exact g.2.2 o t i h2 h4⟩
theorem GI.new {n T : Nat} {c : Nat → Nat} {G : Nat → Nat} (g : GI n T G) (t : Nat) : cnd n (G t) (oth n T G t) (bset n c true (G t) (oth n T G t)) := (bset_isb ⟨_, g.cn t⟩).1
theorem gst_GI {n T : Nat} {c : Nat → Nat} {G : Nat → Nat} (hT : T < 2 ^ n) (g : GI n T G) (t : Nat) : GI n T (gst n T c t G) ∧ ∀ u i, (G u).testBit i = true → (gst n T c t G u).testBit i = true := by
  obtain ⟨s1, s2, s3⟩ := g.new (c := c) t
  have same : ∀ v, ¬ (v = t ∧ T.testBit t = true) → gst n T c t G v = G v := fun v h => if_neg h
  have new : T.testBit t = true → gst n T c t G t = bset n c true (G t) (oth n T G t) := fun h => if_pos ⟨rfl, h⟩
  have hno : ∀ u i, u ≠ t → T.testBit t = true → (gst n T c t G t).testBit i = true → (G u).testBit i = false := by
    intro u i hu hTt hi
    rw [new hTt] at hi
    cases e : (G u).testBit i with
    | false => rfl
    | true =>
      have hTu : T.testBit u = true := by
        cases e2 : T.testBit u with
        | true => rfl
        | false => rw [g.1 u e2, Nat.zero_testBit] at e; cases e
      rw [s3 i ((oth_bit n T G t i).mpr ⟨u, q_T_lt hT hTu, hu, hTu, e⟩)] at hi
      cases hi
  refine ⟨⟨fun v hv => ?_, fun v => ?_, fun v u i hvu hi => ?_⟩, fun u i hi => ?_⟩
  · rw [same v fun q => by rw [q.1, q.2] at hv; cases hv]; exact g.1 v hv
  · by_cases e : v = t ∧ T.testBit t = true
    · rw [e.1, new e.2]; exact s1
    · rw [same v e]; exact g.2.1 v
  · by_cases e : v = t ∧ T.testBit t = true
    · rw [e.1] at hi hvu
      rw [same u fun q => hvu q.1.symm]
      exact hno u i (Ne.symm hvu) e.2 hi
    · rw [same v e] at hi
      by_cases e2 : u = t ∧ T.testBit t = true
      · cases e3 : (gst n T c t G u).testBit i with
        | false => rfl
        | true =>
          rw [e2.1] at e3 hvu
          rw [hno v i hvu e2.2 e3] at hi
          cases hi
      · rw [same u e2]; exact g.2.2 v u i hvu hi
  · by_cases e : u = t ∧ T.testBit t = true
    · rw [e.1, new e.2]; rw [e.1] at hi; exact s2 i hi
    · rw [same u e]; exact hi
theorem gro_GI {n T : Nat} {c : Nat → Nat} {G : Nat → Nat} (hT : T < 2 ^ n) (g : GI n T G) : ∀ t, GI n T (gro n T c G t) ∧ ∀ u i, (G u).testBit i = true → (gro n T c G t u).testBit i = true
  | 0 => ⟨g, fun _ _ h => h⟩
  | t + 1 => by
    obtain ⟨a1, a2⟩ := gro_GI hT g t
    obtain ⟨b1, b2⟩ := gst_GI (c := c) hT a1 t
    exact ⟨b1, fun u i h => b2 u i (a2 u i h)⟩
theorem grs_GI {n T : Nat} {c : Nat → Nat} (hT : T < 2 ^ n) : ∀ k, GI n T (grs n T c k)
  | 0 => by
    refine ⟨fun t h => if_neg (by rw [h]; decide), fun t => ?_, fun t u i h1 h2 => ?_⟩
    · show (if T.testBit t then 2 ^ t else 0) < _
      split
      · rename_i h; exact Nat.pow_lt_pow_right (by decide) (q_T_lt hT h)
      · exact Nat.two_pow_pos n
    · have h2 : (if T.testBit t then 2 ^ t else 0).testBit i = true := h2
      show (if T.testBit u then 2 ^ u else 0).testBit i = false
      split at h2
      · rw [q_tw] at h2
        have h2 := of_decide_eq_true h2
        subst h2
        split
        · rw [q_tw]; exact decide_eq_false (Ne.symm h1)
        · exact Nat.zero_testBit _
      · rw [Nat.zero_testBit] at h2; cases h2
  | k + 1 => (gro_GI hT (grs_GI hT k) n).1
theorem grs_up {n T : Nat} {c : Nat → Nat} (hT : T < 2 ^ n) (k u i : Nat) (h : (grs n T c k u).testBit i = true) : (grs n T c (k + 1) u).testBit i = true := (gro_GI hT (grs_GI hT k) n).2 u i h
def chg (n T : Nat) (c : Nat → Nat) (k : Nat) : Prop := ∃ t, t < n ∧ grs n T c (k + 1) t ≠ grs n T c k t
theorem ct_lt {p q : Nat → Bool} : ∀ {n : Nat}, (∀ k, k < n → p k = true → q k = true) → (∃ k, k < n ∧ p k = false ∧ q k = true) → fb_ct p n < fb_ct q n
  | 0, _, ⟨k, h, _⟩ => absurd h (Nat.not_lt_zero k)
  | n + 1, h, ⟨k, hk, h1, h2⟩ => by
    rw [fb_ct_succ, fb_ct_succ]
    have hs : ∀ k, k < n → p k = true → q k = true := fun k z => h k (by omega)
    by_cases e : k = n
    · subst e
      rw [h1, h2]
      have := fb_ct_sub hs
      simp only [Bool.false_eq_true, if_false, if_true]
      omega
    · have := ct_lt hs ⟨k, by omega, h1, h2⟩
      have h3 : (if p n then 1 else 0) ≤ (if q n then 1 else 0) := by
        cases e2 : p n with
        | false => simp
        | true => rw [h n (by omega) e2]; exact Nat.le_refl _
      omega
theorem chg_lt {n T : Nat} {c : Nat → Nat} (hn : n ≤ 9) (hT : T < 2 ^ n) {k : Nat} (h : chg n T c k) : pcn (orF (grs n T c k) 9) < pcn (orF (grs n T c (k + 1)) 9) := by
  obtain ⟨t, ht, hne⟩ := h
  obtain ⟨g1, g2, g3⟩ := grs_GI (c := c) hT (k + 1)
  have hx : ∃ i, (grs n T c k t).testBit i = false ∧ (grs n T c (k + 1) t).testBit i = true := by
    refine Classical.byContradiction fun w => hne (Nat.eq_of_testBit_eq fun i => ?_)
    cases e : (grs n T c k t).testBit i with
    | true => exact grs_up hT k t i e
    | false =>
      cases e2 : (grs n T c (k + 1) t).testBit i with
      | false => rfl
      | true => exact absurd ⟨i, e, e2⟩ w
  obtain ⟨i, i1, i2⟩ := hx
  have hin : i < n := by
    refine Nat.not_le.mp fun q => ?_
    rw [Nat.testBit_lt_two_pow (Nat.lt_of_lt_of_le (g2 t) (Nat.pow_le_pow_right (by decide) q))] at i2
    cases i2
  refine ct_lt (fun j hj h => ?_) ⟨i, by omega, ?_, (orF_bit _ _ _).mpr ⟨t, by omega, i2⟩⟩
  · obtain ⟨o, o1, o2⟩ := (orF_bit _ _ _).mp h
    exact (orF_bit _ _ _).mpr ⟨o, o1, grs_up hT k o j o2⟩
  · cases e : (orF (grs n T c k) 9).testBit i with
    | false => rfl
    | true =>
      obtain ⟨o, o1, o2⟩ := (orF_bit _ _ _).mp e
      by_cases z : o = t
      · rw [z, i1] at o2; cases o2
      · rw [g3 o t i z (grs_up hT k o i o2)] at i2; cases i2
theorem chg_all {n T : Nat} {c : Nat → Nat} (hn : n ≤ 9) (hT : T < 2 ^ n) (h0 : T ≠ 0) : ∀ k, (∀ j, j < k → chg n T c j) → k + 1 ≤ pcn (orF (grs n T c k) 9)
  | 0, _ => by
    have hx : ∃ t, T.testBit t = true := by
      refine Classical.byContradiction fun w => h0 (Nat.eq_of_testBit_eq fun i => ?_)
      cases e : T.testBit i with
      | false => exact (Nat.zero_testBit _).symm
      | true => exact absurd ⟨i, e⟩ w
    obtain ⟨t, ht⟩ := hx
    have := q_T_lt hT ht
    refine fb_ct_pos.mpr ⟨t, by omega, (orF_bit _ _ _).mpr ⟨t, by omega, ?_⟩⟩
    show (if T.testBit t then 2 ^ t else 0).testBit t = true
    rw [if_pos ht, q_tw]
    simp
  | k + 1, h => by
    have a := chg_all hn hT h0 k (fun j z => h j (by omega))
    have b := chg_lt hn hT (h k (by omega))
    omega
theorem chg_no {n T : Nat} {c : Nat → Nat} (hn : n ≤ 9) (hT : T < 2 ^ n) (h0 : T ≠ 0) : ¬ ∀ j, j < 9 → chg n T c j := fun h => by
  have a := chg_all hn hT h0 9 h
  have b := pcn_le (orF (grs n T c 9) 9)
  omega
/-- how many rounds -/
def isR (n T : Nat) (c : Nat → Nat) (R : Nat) : Prop := (T = 0 ∧ R = 0) ∨ (T ≠ 0 ∧ 1 ≤ R ∧ R ≤ 9 ∧ (∀ k, k + 1 < R → chg n T c k) ∧ ¬ chg n T c (R - 1))
theorem isR.one {n T : Nat} {c : Nat → Nat} {a b : Nat} (ha : isR n T c a) (hb : isR n T c b) : a = b := by
  rcases ha with ⟨a1, a2⟩ | ⟨a1, a2, a3, a4, a5⟩ <;> rcases hb with ⟨b1, b2⟩ | ⟨b1, b2, b3, b4, b5⟩
  · omega
  · exact absurd a1 b1
  · exact absurd b1 a1
  · rcases Nat.lt_trichotomy a b with h | h | h
    · exact absurd (b4 (a - 1) (by omega)) a5
    · exact h
    · exact absurd (a4 (b - 1) (by omega)) b5
/-- the first of some -/
def fnd (p : Nat → Bool) : Nat → Option Nat
  | 0 => none
  | k + 1 => match fnd p k with
    | some x => some x
    | none => if p k then some k else none
theorem fnd_no {p : Nat → Bool} : ∀ {N : Nat}, (∀ k, k < N → p k = false) → fnd p N = none
  | 0, _ => rfl
  | N + 1, h => by rw [fnd, fnd_no (fun k z => h k (by omega))]; simp only; rw [if_neg (by rw [h N (by omega)]; decide)]
theorem fnd_hit {p : Nat → Bool} {i : Nat} (h : ∀ k, k < i → p k = false) (hi : p i = true) : ∀ {N : Nat}, i < N → fnd p N = some i
  | 0, z => absurd z (Nat.not_lt_zero _)
  | N + 1, z => by
    by_cases e : i = N
    · subst e; rw [fnd, fnd_no h]; simp only; rw [if_pos hi]
    · rw [fnd, fnd_hit h hi (by omega)]
theorem fnd_cong {p q : Nat → Bool} : ∀ {N : Nat}, (∀ k, k < N → p k = q k) → fnd p N = fnd q N
  | 0, _ => rfl
  | N + 1, h => by rw [fnd, fnd, fnd_cong (fun k z => h k (by omega)), h N (by omega)]

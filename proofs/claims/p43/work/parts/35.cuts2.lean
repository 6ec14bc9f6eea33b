/-! CUTS, 2 -/
theorem nat_min {p : Nat → Prop} (h : ∃ n, p n) : ∃ n, p n ∧ ∀ m, p m → n ≤ m := by
  obtain ⟨n, hn⟩ := h
  induction n using Nat.strongRecOn with
  | ind n ih =>
    by_cases e : ∃ m, m < n ∧ p m
    · obtain ⟨m, h1, h2⟩ := e
      exact ih m h1 h2
    · exact ⟨n, hn, fun m hm => Nat.not_lt.mp fun q => e ⟨m, q, hm⟩⟩
theorem isb_ex {key : Nat → Nat} {cand : Nat → Prop} (h : ∃ S, cand S) : ∃ b, isb key cand b := by
  obtain ⟨k, ⟨S, h1, h2⟩, h3⟩ := nat_min (p := fun k => ∃ S, cand S ∧ key S = k) (by obtain ⟨S, hS⟩ := h; exact ⟨key S, S, hS, rfl⟩)
  obtain ⟨b, ⟨g1, g2⟩, g3⟩ := nat_min (p := fun b => cand b ∧ key b = k) ⟨S, h1, h2⟩
  refine ⟨b, g1, fun S hS => by rw [g2]; exact h3 _ ⟨S, hS, rfl⟩, fun S hS hl => ?_⟩
  have a1 := h3 _ ⟨S, hS, rfl⟩
  refine Nat.lt_of_le_of_ne (by rw [g2]; exact a1) fun e => ?_
  have := g3 S ⟨hS, by rw [← e, g2]⟩
  omega
theorem bst_isb {key : Nat → Nat} {cand : Nat → Prop} (h : ∃ S, cand S) : isb key cand (bst key cand) := Classical.epsilon_spec (isb_ex h)
theorem bset_isb {n : Nat} {c : Nat → Nat} {l : Bool} {W X : Nat} (h : ∃ S, cnd n W X S) : isb (skey c l) (cnd n W X) (bset n c l W X) := bst_isb h
/-- the isolating set of t -/
noncomputable def iso (n : Nat) (c : Nat → Nat) (T t : Nat) : Nat := bset n c false (2 ^ t) (andn T (2 ^ t))
theorem q_tw (t i : Nat) : (2 ^ t).testBit i = decide (t = i) := Nat.testBit_two_pow
theorem iso_ex {n T t : Nat} (ht : t < n) : ∃ S, cnd n (2 ^ t) (andn T (2 ^ t)) S := ⟨2 ^ t, Nat.pow_lt_pow_right (by decide) ht, fun i h => h, fun i h => by
  rw [andn_bit] at h
  cases e : (2 ^ t).testBit i with
  | false => rfl
  | true => rw [e] at h; simp at h⟩
theorem iso_isb {n : Nat} {c : Nat → Nat} {T t : Nat} (ht : t < n) : isb (skey c false) (cnd n (2 ^ t) (andn T (2 ^ t))) (iso n c T t) := bset_isb (iso_ex ht)
theorem iso_lt {n : Nat} {c : Nat → Nat} {T t : Nat} (ht : t < n) : iso n c T t < 2 ^ n := (iso_isb ht).1.1
theorem q_all_bit (n i : Nat) : (2 ^ n - 1).testBit i = decide (i < n) := Nat.testBit_two_pow_sub_one n i
set_option maxHeartbeats 4000000 in
theorem c_setOf {xs : am_X} {d : Nat} {h : am_H} {a n m T : Nat} {lo hi co : Nat → Nat} (hd : 4 ≤ d) (hg : cg h a n m T lo hi) (hc : cco h a m co) {t : Nat} (ht : t < n) (hTt : T.testBit t = true) {Q : am_Q} (HQ : Q (.inl (some (.int (nI (iso n (cutc m lo hi co) T t))))) h) : am_C xs am_P0 d m_Cu_setOf [.ref a, .int (nI t)] h Q := by
  have hg0 := hg
  obtain ⟨⟨hk, -⟩, ⟨h0, h1, h2⟩, he, ⟨hn, hm, hT⟩, hw⟩ := hg
  refine am_C_le hd (am_enter (d := 3) ap_Cu_setOf rfl ?_) (fun _ _ k => k)
  refine am_go (fun _ => false) (fun K cal Q' hK hC hQ => ?_)
  refine And.intro hk (hC _ _ _ _ (c_allVertices (by decide) hk h0 hn ?_))
  refine And.intro hk (And.intro trivial ?_)
  have e1 : nI (2 ^ n - 1) &&& (am_i h a 2 ^^^ -nI 1) = nI (andn (2 ^ n - 1) T) := by rw [h2]; exact q_andn _ _
  have e2 : nI 1 <<< (nI t &&& 31) = nI (2 ^ t) := q_shl t (by omega)
  show cal m_Cu_cheapestSet [.ref a, .int (nI 1 <<< (nI t &&& 31)), .int (nI (2 ^ n - 1) &&& (am_i h a 2 ^^^ -nI 1)), .int (bI false)] h _
  rw [e1, e2]
  refine hC _ _ _ _ (c_cheapestSet (X := andn T (2 ^ t)) (by decide) hg0 hc false (Nat.pow_lt_pow_right (by decide) ht) (fun i => ?_) (fun i z => ?_) ?_)
  · rw [andn_bit, andn_bit, q_all_bit, q_tw]
    by_cases z : t = i
    · subst z; simp [hTt]
    · simp [z]
  · rw [andn_bit] at z
    cases e : (2 ^ t).testBit i with
    | false => rfl
    | true => rw [e] at z; simp at z
  · exact And.intro trivial (hQ _ _ HQ)
/-- its value -/
noncomputable def isv (n m T : Nat) (lo hi co : Nat → Nat) (t : Nat) : Nat := cutc m lo hi co (iso n (cutc m lo hi co) T t)
theorem c_valueOf {xs : am_X} {d : Nat} {h : am_H} {a n m T : Nat} {lo hi co : Nat → Nat} (hd : 5 ≤ d) (hg : cg h a n m T lo hi) (hc : cco h a m co) {t : Nat} (ht : t < n) (hTt : T.testBit t = true) {Q : am_Q} (HQ : Q (.inl (some (.int (nI (isv n m T lo hi co t))))) h) : am_C xs am_P0 d m_Cu_valueOf [.ref a, .int (nI t)] h Q := by
  have hn := hg.2.2.2.1.1
  refine am_C_le hd (am_enter (d := 4) ap_Cu_valueOf rfl ?_) (fun _ _ k => k)
  refine am_go (fun _ => false) (fun K cal Q' hK hC hQ => ?_)
  refine And.intro trivial (hC _ _ _ _ (c_setOf (by decide) hg hc ht hTt ?_))
  refine And.intro hg.1.1 (hC _ _ _ _ (c_costOfSet (by decide) hg hc (Nat.lt_trans (iso_lt ht) (pow_le31 (by omega))) ?_))
  exact And.intro trivial (hQ _ _ HQ)
theorem cutc_le {m : Nat} {lo hi co : Nat → Nat} (hm : m ≤ 20) (hc : ∀ e, e < m → co e ≤ 9999) (S : Nat) : cutc m lo hi co S ≤ 20 * 9999 := Nat.le_trans (sumE_le hc) (Nat.mul_le_mul_right _ hm)
/-- the dearest of the first v: the first greatest -/
def dea (val : Nat → Nat) (T : Nat) : Nat → Option Nat
  | 0 => none
  | v + 1 => if T.testBit v then (match dea val T v with
    | none => some v
    | some b => if val b < val v then some v else some b) else dea val T v
def oI (o : Option Nat) : Int32 := match o with
  | none => -nI 1
  | some v => nI v
def oV (val : Nat → Nat) (o : Option Nat) : Int32 := match o with
  | none => -nI 1
  | some v => nI (val v)
theorem dea_lt {val : Nat → Nat} {T : Nat} : ∀ {v b : Nat}, dea val T v = some b → b < v ∧ T.testBit b = true
  | 0, b, h => by cases h
  | v + 1, b, h => by
    unfold dea at h
    split at h
    · rename_i hT
      split at h
      · cases h; exact ⟨Nat.lt_succ_self _, hT⟩
      · rename_i b0 e
        split at h
        · cases h; exact ⟨Nat.lt_succ_self _, hT⟩
        · cases h; exact ⟨Nat.lt_succ_of_lt (dea_lt e).1, (dea_lt e).2⟩
    · exact ⟨Nat.lt_succ_of_lt (dea_lt h).1, (dea_lt h).2⟩
theorem nI_m1 : (-nI 1 : Int32).toInt = -1 := by decide
theorem oI_eq {v : Nat} {o : Option Nat} (hv : v < 1000) (ho : ∀ b, o = some b → b < 1000) : nI v = oI o ↔ o = some v := by
  cases o with
  | none =>
    constructor
    · intro h
      rw [fa_eq, nI_toInt (by omega)] at h
      have : (oI none).toInt = -1 := nI_m1
      omega
    · intro h; cases h
  | some b =>
    have := ho b rfl
    show nI v = nI b ↔ _
    rw [nI_eq (by omega) (by omega)]
    exact ⟨fun h => by rw [h], fun h => (Option.some.inj h).symm⟩
set_option maxHeartbeats 4000000 in
theorem c_dearestOf {xs : am_X} {d : Nat} {h : am_H} {a n m T : Nat} {lo hi co : Nat → Nat} (hd : 6 ≤ d) (hg : cg h a n m T lo hi) (hc : cco h a m co) {Q : am_Q} (HQ : Q (.inl (some (.int (oI (dea (isv n m T lo hi co) T n))))) h) : am_C xs am_P0 d m_Cu_dearestOf [.ref a] h Q := by
  have hg0 := hg
  obtain ⟨⟨hk, -⟩, ⟨h0, h1, h2⟩, he, ⟨hn, hm, hT⟩, hw⟩ := hg
  have vle : ∀ t, isv n m T lo hi co t ≤ 20 * 9999 := fun t => cutc_le hm (fun e he => (hc e he).2.2) _
  refine am_C_le hd (am_enter (d := 5) ap_Cu_dearestOf rfl ?_) (fun _ _ k => k)
  refine am_go (fun p => p == 6) (fun K cal Q' hK hC hQ => hK _ _ _ _ ?_)
  refine am_for n (fun i L h' => ∃ v4, h' = h ∧ L = [.ref a, .int (oI (dea (isv n m T lo hi co) T i)), .int (oV (isv n m T lo hi co) (dea (isv n m T lo hi co) T i)), .int (nI i), v4]) ?_ ?_ 0 (Nat.zero_le _) _ _ ⟨am_J, rfl, rfl⟩
  · rintro i hi9 L h' ⟨v4, rfl, rfl⟩ next
    refine am_go (fun p => p == 6) (fun K cal Q' hK hC hQ => ?_)
    refine And.intro hk (And.intro (fun z => absurd z (q_ge h0 hi9 (by omega))) (fun _ => ?_))
    refine And.intro hk (hC _ _ _ _ (c_isTerminal (by decide) hg0 _ ?_))
    rw [isT_nI hi9 (by omega)]
    have eI : am_inc (nI i) (Int.ofNat 1) = nI (i + 1) := nI_1 i
    rw [← eI] at next
    cases hTi : T.testBit i with
    | false =>
      refine And.intro (fun z => ?_) (fun z => absurd rfl z)
      have e9 : dea (isv n m T lo hi co) T (i + 1) = dea (isv n m T lo hi co) T i := by
        rw [dea, if_neg (by rw [hTi]; decide)]
      refine And.intro (fun _ => ?_) (fun z => absurd ?_ z)
      · exact hK _ _ _ _ (next _ _ ⟨_, rfl, by rw [e9]; rfl⟩)
      · show -nI 1 ≤ oV _ (dea _ T i)
        rw [fa_le, nI_m1]
        cases dea (isv n m T lo hi co) T i with
        | none => exact Int.le_refl _
        | some b => have := vle b; show _ ≤ (nI _).toInt; rw [nI_toInt (by omega)]; omega
    | true =>
      refine And.intro (fun z => absurd z q_t1) (fun _ => ?_)
      refine And.intro trivial (hC _ _ _ _ (c_valueOf (by decide) hg0 hc hi9 hTi ?_))
      have hv := vle i
      have e9 : dea (isv n m T lo hi co) T (i + 1) = (match dea (isv n m T lo hi co) T i with | none => some i | some b => if isv n m T lo hi co b < isv n m T lo hi co i then some i else some b) := by
        rw [dea, if_pos hTi]
      cases hD : dea (isv n m T lo hi co) T i with
      | none =>
        rw [hD] at e9
        refine And.intro (fun z => absurd z ?_) (fun _ => ?_)
        · show ¬ nI (isv n m T lo hi co i) ≤ -nI 1
          rw [fa_le, nI_m1, nI_toInt (by omega)]
          omega
        · exact hK _ _ _ _ (next _ _ ⟨_, rfl, by rw [e9]; rfl⟩)
      | some b =>
        rw [hD] at e9
        have hvb := vle b
        refine And.intro (fun z => ?_) (fun z => ?_)
        · have z := (nI_leI (by omega) (by omega)).mp z
          exact hK _ _ _ _ (next _ _ ⟨_, rfl, by rw [e9]; simp only; rw [if_neg (by omega)]; rfl⟩)
        · have z := Nat.not_le.mp fun q => z ((nI_leI (by omega) (by omega)).mpr q)
          exact hK _ _ _ _ (next _ _ ⟨_, rfl, by rw [e9]; simp only; rw [if_pos (by omega)]; rfl⟩)
  · rintro L h' ⟨v4, rfl, rfl⟩
    refine am_go (fun p => p == 6) (fun K cal Q' hK hC hQ => ?_)
    exact And.intro hk (And.intro (fun _ => And.intro trivial (hQ _ _ HQ)) (fun z => absurd (q_le h0 (by omega)) z))
/-- the edges of the union cut -/
def uniB (n : Nat) (lo hi : Nat → Nat) (S : Nat → Nat) (T : Nat) (o : Option Nat) (e : Nat) : Bool := decide (∃ v, v < n ∧ T.testBit v = true ∧ o ≠ some v ∧ crs lo hi (S v) e = true)

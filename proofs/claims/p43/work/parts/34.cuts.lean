/-! CUTS: the class's searches over sets of vertices -/
def pcn (s : Nat) : Nat := fb_ct s.testBit 9
theorem pcn_le (s : Nat) : pcn s ≤ 9 := fb_ct_le _ 9
def ush (x : Int32) (k : Int32) : Int32 := (x.toUInt32 >>> (k.toUInt32 &&& Int32.toUInt32 31)).toInt32
def bc1 (x : Int32) : Int32 := x - (ush x (nI 1) &&& nI 1431655765)
def bc2 (x : Int32) : Int32 := (x &&& nI 858993459) + (ush x (nI 2) &&& nI 858993459)
def bc3 (x : Int32) : Int32 := (x + ush x (nI 4)) &&& nI 252645135
def bc4 (x : Int32) : Int32 := x + ush x (nI 8)
def bc5 (x : Int32) : Int32 := x + ush x (nI 16)
theorem q_bc : ∀ s, s < 512 → bc5 (bc4 (bc3 (bc2 (bc1 (nI s))))) &&& nI 63 = nI (pcn s) := by decide +kernel
set_option maxHeartbeats 4000000 in
theorem c_bitCount {xs : am_X} {d : Nat} {h : am_H} (hd : 1 ≤ d) {s : Nat} (hs : s < 512) {Q : am_Q} (HQ : Q (.inl (some (.int (nI (pcn s))))) h) : am_C xs am_P0 d m_JI_bitCount [.int (nI s)] h Q := by
  refine am_C_le hd (am_enter (d := 0) ap_JI_bitCount rfl ?_) (fun _ _ k => k)
  refine am_go (fun _ => false) (fun K cal Q' hK hC hQ => ?_)
  refine And.intro trivial (hQ _ _ ?_)
  rw [← q_bc s hs] at HQ
  exact HQ
/-- the best set: the first in their order with the least key -/
def isb (key : Nat → Nat) (cand : Nat → Prop) (b : Nat) : Prop := cand b ∧ (∀ S, cand S → key b ≤ key S) ∧ ∀ S, cand S → S < b → key b < key S
theorem isb.one {key : Nat → Nat} {cand : Nat → Prop} {a b : Nat} (ha : isb key cand a) (hb : isb key cand b) : a = b := by
  rcases Nat.lt_trichotomy a b with h | h | h
  · have h1 := hb.2.2 a ha.1 h
    have h2 := ha.2.1 b hb.1
    omega
  · exact h
  · have h1 := ha.2.2 b hb.1 h
    have h2 := hb.2.1 a ha.1
    omega
noncomputable def bst (key : Nat → Nat) (cand : Nat → Prop) : Nat := Classical.epsilon (isb key cand)
theorem bst_eq {key : Nat → Nat} {cand : Nat → Prop} {b : Nat} (h : isb key cand b) : bst key cand = b := isb.one (Classical.epsilon_spec ⟨b, h⟩) h
def skey (c : Nat → Nat) (large : Bool) (S : Nat) : Nat := c S * 16 + (if large then 9 - pcn S else pcn S)
/-- sets of vertices with W, without X -/
def cnd (n W X S : Nat) : Prop := S < 2 ^ n ∧ (∀ i, W.testBit i = true → S.testBit i = true) ∧ ∀ i, X.testBit i = true → S.testBit i = false
noncomputable def bset (n : Nat) (c : Nat → Nat) (large : Bool) (W X : Nat) : Nat := bst (skey c large) (cnd n W X)
theorem q_or_add {a b : Nat} (ha : a < 2 ^ 9) (hb : b < 2 ^ 9) (h : ∀ i, a.testBit i = true → b.testBit i = false) : a ||| b = a + b := by
  have e : BitVec.ofNat 32 a + BitVec.ofNat 32 b = BitVec.ofNat 32 a ||| BitVec.ofNat 32 b := BitVec.add_eq_or_of_and_eq_zero _ _ (by
    apply BitVec.eq_of_getLsbD_eq
    intro i hi
    rw [BitVec.getLsbD_and, BitVec.getLsbD_ofNat, BitVec.getLsbD_ofNat]
    cases e : a.testBit i with
    | false => simp
    | true => simp [h i e])
  have e2 := congrArg BitVec.toNat e
  rw [BitVec.toNat_add, BitVec.toNat_or, BitVec.toNat_ofNat, BitVec.toNat_ofNat, Nat.mod_eq_of_lt (show a < 2 ^ 32 by omega), Nat.mod_eq_of_lt (show b < 2 ^ 32 by omega), Nat.mod_eq_of_lt (show a + b < 2 ^ 32 by omega)] at e2
  exact e2.symm
theorem q_andn_0 {x f : Nat} : andn x f = 0 ↔ ∀ i, x.testBit i = true → f.testBit i = true := by
  constructor
  · intro h i hi
    have := congrArg (fun z => Nat.testBit z i) h
    simp only [andn_bit, hi, Nat.zero_testBit] at this
    simpa using this
  · intro h
    apply Nat.eq_of_testBit_eq
    intro i
    rw [andn_bit, Nat.zero_testBit]
    cases e : x.testBit i with
    | false => rfl
    | true => rw [h i e]; rfl
theorem q_le_of_sub {x f : Nat} (h : ∀ i, x.testBit i = true → f.testBit i = true) : x ≤ f := by
  have e : x &&& f = x := by
    apply Nat.eq_of_testBit_eq
    intro i
    rw [Nat.testBit_and]
    cases e : x.testBit i with
    | false => rfl
    | true => rw [h i e]; rfl
  rw [← e]
  exact Nat.and_le_right
theorem skey_lt {c : Nat → Nat} {large : Bool} {S b : Nat} : skey c large S < skey c large b ↔ c S < c b ∨ (c S = c b ∧ (if large then pcn b < pcn S else pcn S < pcn b)) := by
  unfold skey
  have h1 := pcn_le S
  have h2 := pcn_le b
  cases large <;> simp only [Bool.false_eq_true, if_false, if_true] <;> omega
theorem pow_le9 {n : Nat} (h : n ≤ 9) : 2 ^ n ≤ 2 ^ 9 := Nat.pow_le_pow_right (by decide) h
theorem pow_le31 {n : Nat} (h : n ≤ 30) : 2 ^ n < 2 ^ 31 := Nat.pow_lt_pow_right (by decide) (by omega)
/-- the loop's own result: the best of base and some of the free ones, up to k -/
def cnk (base free k S : Nat) : Prop := ∃ x, x ≤ k ∧ (∀ i, x.testBit i = true → free.testBit i = true) ∧ S = base ||| x
theorem q_subI {a b : Nat} (ha : a < 1000) (hb : b < 1000) : (nI a - nI b).toInt = (a : Int) - b := by
  rw [fb_subI] <;> rw [nI_toInt (by omega), nI_toInt (by omega)] <;> omega
set_option maxHeartbeats 4000000 in
theorem c_cheapestSet {xs : am_X} {d : Nat} {h : am_H} {a n m T : Nat} {lo hi co : Nat → Nat} (hd : 3 ≤ d) (hg : cg h a n m T lo hi) (hc : cco h a m co) {base free X : Nat} (large : Bool) (hb : base < 2 ^ n) (hf : ∀ i, free.testBit i = (decide (i < n) && !base.testBit i && !X.testBit i)) (hX : ∀ i, X.testBit i = true → base.testBit i = false) {Q : am_Q} (HQ : Q (.inl (some (.int (nI (bset n (cutc m lo hi co) large base X))))) h) : am_C xs am_P0 d m_Cu_cheapestSet [.ref a, .int (nI base), .int (nI free), .int (bI large)] h Q := by
  have hg0 := hg
  obtain ⟨⟨hk, -⟩, ⟨h0, h1, h2⟩, he, ⟨hn, hm, hT⟩, hw⟩ := hg
  have hn9 := pow_le9 hn
  have hfl : free < 2 ^ n := q_lt_of_bits fun i hi => by rw [hf]; simp [Nat.not_lt.mpr hi]
  have hbf : ∀ i, base.testBit i = true → free.testBit i = false := fun i z => by rw [hf, z]; simp
  have cle : ∀ S, cutc m lo hi co S ≤ 20 * 9999 := fun S => Nat.le_trans (sumE_le (c := 9999) (fun e he => (hc e he).2.2)) (Nat.mul_le_mul_right _ hm)
  generalize hcc : cutc m lo hi co = c at HQ cle
  have orlt : ∀ x, x ≤ free → base ||| x < 512 := fun x hx => Nat.or_lt_two_pow (n := 9) (by omega) (by omega)
  have addx : ∀ x, (∀ i, x.testBit i = true → free.testBit i = true) → base ||| x = base + x := fun x hx => q_or_add (by omega) (by have := q_le_of_sub hx; omega) (fun i z => by
    cases e : x.testBit i with
    | false => rfl
    | true => have := hx i e; rw [hbf i z] at this; cases this)
  have cS : ∀ x, x ≤ free → ∀ {Q : am_Q}, Q (.inl (some (.int (nI (c (base ||| x)))))) h → am_C xs am_P0 2 m_Gr_costOfSet [.ref a, .int (nI (base ||| x))] h Q := fun x hx Q q => c_costOfSet (by decide) hg0 hc (by have := orlt x hx; omega) (by rw [hcc]; exact q)
  refine am_C_le hd (am_enter (d := 2) ap_Cu_cheapestSet rfl ?_) (fun _ _ k => k)
  refine am_go (fun p => p == 13) (fun K cal Q' hK hC hQ => ?_)
  have hS0 : base ||| 0 = base := Nat.or_zero base
  refine And.intro hk (hC _ _ _ _ (c_costOfSet (by decide) hg0 hc (by omega) ?_))
  rw [hcc]
  refine hK _ _ _ _ ?_
  refine am_for free (fun i L h' => ∃ b v7 v8 v9, h' = h ∧ L = [.ref a, .int (nI base), .int (nI free), .int (bI large), .int (nI b), .int (nI (c b)), .int (nI (i + 1)), v7, v8, v9] ∧ isb (skey c large) (cnk base free i) b) ?_ ?_ 0 (Nat.zero_le _) _ _ ⟨base, am_J, am_J, am_J, rfl, rfl, ?_⟩
  · rintro i hi9 L h' ⟨b, v7, v8, v9, rfl, rfl, hb9⟩ next
    obtain ⟨xb, xb1, xb2, xb3⟩ := hb9.1
    have hb5 : b < 512 := by rw [xb3]; exact orlt xb (by omega)
    refine am_go (fun p => p == 13) (fun K cal Q' hK hC hQ => ?_)
    refine And.intro (fun z => absurd z (nI_nlt (by omega) (by omega))) (fun _ => ?_)
    have eA : nI (i + 1) &&& (nI free ^^^ -nI 1) = nI (andn (i + 1) free) := q_andn _ _
    have keep : ¬ ((∀ j, (i + 1).testBit j = true → free.testBit j = true) ∧ skey c large (base ||| (i + 1)) < skey c large b) → isb (skey c large) (cnk base free (i + 1)) b := by
      intro hno
      refine ⟨⟨xb, by omega, xb2, xb3⟩, ?_, ?_⟩
      · rintro S ⟨x, x1, x2, rfl⟩
        by_cases z : x ≤ i
        · exact hb9.2.1 _ ⟨x, z, x2, rfl⟩
        · have : x = i + 1 := by omega
          subst this
          exact Nat.not_lt.mp fun w => hno ⟨x2, w⟩
      · rintro S ⟨x, x1, x2, rfl⟩ hlt
        by_cases z : x ≤ i
        · exact hb9.2.2 _ ⟨x, z, x2, rfl⟩ hlt
        · rw [addx x x2, xb3, addx xb xb2] at hlt
          omega
    refine And.intro (fun z => ?_) (fun z => ?_)
    · have hsub := q_andn_0.mp ((nI_eq (by have := andn_lt (k := 9) free (show i + 1 < 2 ^ 9 by omega); omega) (by omega)).mp ((eA.symm.trans z).trans nI_0.symm))
      have hS5 := orlt (i + 1) (by omega)
      have eO : nI base ||| nI (i + 1) = nI (base ||| (i + 1)) := fa_or _ _
      refine And.intro hk ?_
      rw [eO]
      refine hC _ _ _ _ (cS (i + 1) (by omega) ?_)
      refine And.intro trivial (hC _ _ _ _ (c_bitCount (by decide) hS5 ?_))
      refine And.intro trivial (hC _ _ _ _ (c_bitCount (by decide) hb5 ?_))
      have hp1 := pcn_le (base ||| (i + 1))
      have hp2 := pcn_le b
      have hc1 := cle (base ||| (i + 1))
      have hc2 := cle b
      have hsb := q_subI (a := pcn (base ||| (i + 1))) (b := pcn b) (by omega) (by omega)
      have upd9 : skey c large (base ||| (i + 1)) < skey c large b → isb (skey c large) (cnk base free (i + 1)) (base ||| (i + 1)) := by
        intro hlt
        refine ⟨⟨i + 1, Nat.le_refl _, hsub, rfl⟩, ?_, ?_⟩
        · rintro S ⟨x, x1, x2, rfl⟩
          by_cases z : x ≤ i
          · have := hb9.2.1 _ ⟨x, z, x2, rfl⟩; omega
          · have : x = i + 1 := by omega
            subst this
            exact Nat.le_refl _
        · rintro S ⟨x, x1, x2, rfl⟩ hl2
          by_cases z : x ≤ i
          · have := hb9.2.1 _ ⟨x, z, x2, rfl⟩; omega
          · have : x = i + 1 := by omega
            subst this
            omega
      have fU : skey c large (base ||| (i + 1)) < skey c large b → am_W xs (am_code at_Cu_cheapestSet) (am_hd ah_Cu_cheapestSet) (am_C xs am_P0 2) Q 13 [.ref a, .int (nI base), .int (nI free), .int (bI large), .int (nI (base ||| (i + 1))), .int (nI (c (base ||| (i + 1)))), .int (nI (i + 2)), .int (nI (base ||| (i + 1))), .int (nI (c (base ||| (i + 1)))), .int (nI (pcn (base ||| (i + 1))) - nI (pcn b))] [] h' := fun hlt => next _ _ ⟨_, _, _, _, rfl, rfl, upd9 hlt⟩
      have fK : ¬ skey c large (base ||| (i + 1)) < skey c large b → am_W xs (am_code at_Cu_cheapestSet) (am_hd ah_Cu_cheapestSet) (am_C xs am_P0 2) Q 13 [.ref a, .int (nI base), .int (nI free), .int (bI large), .int (nI b), .int (nI (c b)), .int (nI (i + 2)), .int (nI (base ||| (i + 1))), .int (nI (c (base ||| (i + 1)))), .int (nI (pcn (base ||| (i + 1))) - nI (pcn b))] [] h' := fun hlt => next _ _ ⟨_, _, _, _, rfl, rfl, keep fun w => hlt w.2⟩
      have eI : am_inc (nI (i + 1)) (Int.ofNat 1) = nI (i + 2) := nI_1 (i + 1)
      rw [← eI] at fU fK
      rw [skey_lt] at fU fK
      refine And.intro (fun w => ?_) (fun w => ?_)
      · exact hK _ _ _ _ (fU (Or.inl ((nI_ltI (by omega) (by omega)).mp w)))
      · have w := fun q => w ((nI_ltI (by omega) (by omega)).mpr q)
        refine And.intro (fun w2 => ?_) (fun w2 => ?_)
        · have w2 := fun q => w2 ((nI_eq (by omega) (by omega)).mpr q)
          exact hK _ _ _ _ (fK (fun q => q.elim w (fun q => w2 q.1)))
        · have w2 := (nI_eq (by omega) (by omega)).mp (Classical.not_not.mp w2)
          refine And.intro (fun w3 => ?_) (fun w3 => ?_)
          · have w3 := (bI_0 _).mp w3
            subst w3
            refine And.intro (fun w4 => ?_) (fun w4 => ?_)
            · have w4 : (0 : Int32) ≤ nI (pcn (base ||| (i + 1))) - nI (pcn b) := w4
              rw [fa_le, hsb] at w4
              have : (0 : Int32).toInt = 0 := rfl
              exact hK _ _ _ _ (fK (fun q => q.elim w (fun q => by simp at q; omega)))
            · have w4 : ¬ (0 : Int32) ≤ nI (pcn (base ||| (i + 1))) - nI (pcn b) := w4
              rw [fa_le, hsb] at w4
              have : (0 : Int32).toInt = 0 := rfl
              exact hK _ _ _ _ (fU (Or.inr ⟨w2, by simp; omega⟩))
          · have w3 : large = true := by cases large; exact absurd rfl w3; rfl
            subst w3
            refine And.intro (fun w4 => ?_) (fun w4 => ?_)
            · have w4 : nI (pcn (base ||| (i + 1))) - nI (pcn b) ≤ 0 := w4
              rw [fa_le, hsb] at w4
              have : (0 : Int32).toInt = 0 := rfl
              exact hK _ _ _ _ (fK (fun q => q.elim w (fun q => by simp at q; omega)))
            · have w4 : ¬ nI (pcn (base ||| (i + 1))) - nI (pcn b) ≤ 0 := w4
              rw [fa_le, hsb] at w4
              have : (0 : Int32).toInt = 0 := rfl
              exact hK _ _ _ _ (fU (Or.inr ⟨w2, by simp; omega⟩))
    · have z : ¬ nI (andn (i + 1) free) = 0 := fun q => z (eA.trans q)
      refine hK _ _ _ _ (next _ _ ⟨b, v7, v8, v9, rfl, by rw [← nI_1 (i + 1)]; rfl, keep fun w => z ?_⟩)
      rw [q_andn_0.mpr w.1]
      rfl
  · rintro L h' ⟨b, v7, v8, v9, rfl, rfl, hb9⟩
    refine am_go (fun p => p == 13) (fun K cal Q' hK hC hQ => ?_)
    refine And.intro (fun _ => And.intro trivial (hQ _ _ ?_)) (fun z => absurd (nI_lt (by omega) (by omega)) z)
    have cc : ∀ S, cnd n base X S ↔ cnk base free free S := by
      intro S
      constructor
      · rintro ⟨s1, s2, s3⟩
        have sub : ∀ i, (andn S base).testBit i = true → free.testBit i = true := by
          intro i z
          rw [andn_bit] at z
          rw [hf]
          cases e : S.testBit i with
          | false => rw [e] at z; cases z
          | true =>
            rw [e] at z
            have hin : i < n := by
              refine Nat.not_le.mp fun q => ?_
              rw [Nat.testBit_lt_two_pow (Nat.lt_of_lt_of_le s1 (Nat.pow_le_pow_right (by decide) q))] at e
              cases e
            have hx : X.testBit i = false := by
              cases ex : X.testBit i with
              | false => rfl
              | true => rw [s3 i ex] at e; cases e
            rw [hx]
            simpa [hin] using z
        refine ⟨andn S base, q_le_of_sub sub, sub, ?_⟩
        apply Nat.eq_of_testBit_eq
        intro i
        rw [Nat.testBit_or, andn_bit]
        cases e : base.testBit i with
        | false => simp
        | true => rw [s2 i e]; rfl
      · rintro ⟨x, x1, x2, rfl⟩
        refine ⟨Nat.or_lt_two_pow hb (by omega), fun i z => by rw [Nat.testBit_or, z]; rfl, fun i z => ?_⟩
        rw [Nat.testBit_or, hX i z]
        cases e : x.testBit i with
        | false => rfl
        | true =>
          have := x2 i e
          rw [hf, z] at this
          simp at this
    have hfin : bset n c large base X = b := bst_eq ⟨(cc b).mpr hb9.1, fun S hS => hb9.2.1 S ((cc S).mp hS), fun S hS => hb9.2.2 S ((cc S).mp hS)⟩
    rw [hfin] at HQ
    exact HQ
  · refine ⟨⟨0, Nat.le_refl _, (fun i z => by rw [Nat.zero_testBit] at z; cases z), hS0.symm⟩, ?_, ?_⟩
    · rintro S ⟨x, x1, x2, rfl⟩
      rw [show x = 0 by omega, hS0]
      exact Nat.le_refl _
    · rintro S ⟨x, x1, x2, rfl⟩ hl
      rw [show x = 0 by omega, hS0] at hl
      omega

/-! THE MODEL: the best set, the isolating sets, the others' groups -/
theorem cnd_iff {n W X S : Nat} : cnd n W X S ↔ S < 2 ^ n ∧ S &&& W = W ∧ S &&& X = 0 := by
  unfold cnd
  refine and_congr_right fun _ => and_congr ⟨fun a => Nat.eq_of_testBit_eq fun i => ?_, fun a i hi => ?_⟩ ⟨fun a => Nat.eq_of_testBit_eq fun i => ?_, fun a i hi => ?_⟩
  · rw [Nat.testBit_and]
    cases e : W.testBit i with
    | true => rw [a i e]; rfl
    | false => rw [Bool.and_false]
  · rw [← a, Nat.testBit_and, Bool.and_eq_true] at hi
    exact hi.1
  · rw [Nat.testBit_and, Nat.zero_testBit]
    cases e : X.testBit i with
    | true => rw [a i e]; rfl
    | false => rw [Bool.and_false]
  · cases e : S.testBit i with
    | false => rfl
    | true =>
      have : (S &&& X).testBit i = true := by rw [Nat.testBit_and, e, hi]; rfl
      rw [a, Nat.zero_testBit] at this
      cases this
def binv (key c : Nat → Nat) (cand : Nat → Prop) (i : Nat) (x y : Int32) : Prop := (x = -nI 1 ∧ y = nI 1000000000 ∧ ∀ S, S < i → ¬ cand S) ∨ ∃ b, isb key (fun S => cand S ∧ S < i) b ∧ x = nI b ∧ y = nI (c b)
theorem binv_skip {key c : Nat → Nat} {cand : Nat → Prop} {i : Nat} {x y : Int32} (B : binv key c cand i x y) (hn : ¬ cand i) : binv key c cand (i + 1) x y := by
  rcases B with ⟨a1, a2, a3⟩ | ⟨b, ⟨b1, b2, b3⟩, b4, b5⟩
  · exact Or.inl ⟨a1, a2, fun S hS z => by
      by_cases e : S = i
      · subst e; exact hn z
      · exact a3 S (by omega) z⟩
  · have k : ∀ S, cand S ∧ S < i + 1 → cand S ∧ S < i := fun S z => ⟨z.1, by
      by_cases e : S = i
      · subst e; exact absurd z.1 hn
      · have := z.2; omega⟩
    exact Or.inr ⟨b, ⟨⟨b1.1, by have := b1.2; omega⟩, fun S z => b2 S (k S z), fun S z => b3 S (k S z)⟩, b4, b5⟩
theorem binv_keep {key c : Nat → Nat} {cand : Nat → Prop} {i b : Nat} {x y : Int32} (B : isb key (fun S => cand S ∧ S < i) b) (hx : x = nI b) (hy : y = nI (c b)) (hk : key b ≤ key i) : binv key c cand (i + 1) x y := by
  obtain ⟨b1, b2, b3⟩ := B
  refine Or.inr ⟨b, ⟨⟨b1.1, by have := b1.2; omega⟩, fun S z => ?_, fun S z hl => ?_⟩, hx, hy⟩
  · by_cases e : S = i
    · subst e; exact hk
    · exact b2 S ⟨z.1, by have := z.2; omega⟩
  · exact b3 S ⟨z.1, by have := b1.2; omega⟩ hl
theorem binv_new {key c : Nat → Nat} {cand : Nat → Prop} {i : Nat} {x y : Int32} (B : binv key c cand i x y) (hc : cand i) (hk : ∀ b, isb key (fun S => cand S ∧ S < i) b → key i < key b) : binv key c cand (i + 1) (nI i) (nI (c i)) := by
  have old : ∀ S, cand S → S < i → key i < key S := fun S hS hl => by
    rcases B with ⟨a1, a2, a3⟩ | ⟨b, b1, b4, b5⟩
    · exact absurd hS (a3 S hl)
    · exact Nat.lt_of_lt_of_le (hk b b1) (b1.2.1 S ⟨hS, hl⟩)
  refine Or.inr ⟨i, ⟨⟨hc, Nat.lt_succ_self i⟩, fun S z => ?_, fun S z hl => old S z.1 hl⟩, rfl, rfl⟩
  by_cases e : S = i
  · subst e; exact Nat.le_refl _
  · exact Nat.le_of_lt (old S z.1 (by have := z.2; omega))
theorem q_n1 : ¬ nI 1 = 0 := by decide
section
variable {xs : am_X} {d : Nat} {h : am_H} {w : Nat} {g : gD} {Q : am_Q}
theorem gCC_le (m : mg h w g) (S : Nat) : gCC g S ≤ 20 * 9999 := cutc_le (mg_m20 m) (fun e he => (mg_co m he).2) S
set_option maxHeartbeats 8000000 in
theorem w_bestSet (hd : 4 ≤ d) (m : mg h w g) (hc : mco h g) {l : Bool} {W X : Nat} (hW : W < 2 ^ 31) (hX : X < 2 ^ 31) (hex : ∃ S, cnd (gN g) W X S) (HQ : ∀ b h', isb (skey (gCC g) l) (cnd (gN g) W X) b → sf [] [18] h h' → am_i h' 87 18 = nI (gCC g b) → Q (.inl (some (.int (nI b)))) h') : am_C xs am_P0 d m_Mo_bestSet [.ref 87, .int (nI W), .int (nI X), .int (bI (!l))] h Q := by
  have hn := mg_n9 m
  have hn9 := pow_le9 hn
  have h2p := Nat.two_pow_pos (gN g)
  refine am_C_le hd (am_enter (d := 3) ap_Mo_bestSet rfl ?_) (fun _ _ k => k)
  refine am_go (fun p => p == 12) (fun K cal Q' hK hC hQ => ?_)
  refine And.intro (sk_87 m.1.1) (hK _ _ _ _ ?_)
  refine am_for (2 ^ gN g) (fun i L h' => ∃ x y z, L = [.ref 87, .int (nI W), .int (nI X), .int (bI (!l)), .int x, .int (nI i), y, z] ∧ sf [] [18] h h' ∧ binv (skey (gCC g) l) (gCC g) (cnd (gN g) W X) i x (am_i h' 87 18)) ?_ ?_ 0 (Nat.zero_le _) _ _ ⟨_, _, _, rfl, sf_pf sf_rf List.mem_cons_self, Or.inl ⟨rfl, by rw [i_pi_same]; rfl, fun S z => absurd z (Nat.not_lt_zero S)⟩⟩
  · rintro i hi9 L h' ⟨x, y, z, rfl, s, B⟩ next
    have m' := sf_mg s m rfl (by decide)
    have c' := sf_mco s hc (by decide)
    have hi9' : i < 2 ^ 9 := by omega
    refine am_go (fun p => p == 12) (fun K cal Q' hK hC hQ => ?_)
    refine And.intro (sk_87 m'.1.1) (hC _ _ _ _ (w_all (by decide) m' ?_))
    refine And.intro (fun c => absurd ((nI_ltI (by omega) (by omega)).mp c) (by omega)) (fun _ => ?_)
    have eI : am_inc (nI i) (Int.ofNat 1) = nI (i + 1) := nI_1 i
    rw [← eI] at next
    have skip : ¬ cnd (gN g) W X i → ∀ y z, K 12 [.ref 87, .int (nI W), .int (nI X), .int (bI (!l)), .int x, .int (am_inc (nI i) (Int.ofNat 1)), y, z] [] h' := fun hn y z => hK _ _ _ _ (next _ _ ⟨x, y, z, rfl, s, binv_skip B hn⟩)
    refine And.intro (fun c => ?_) (fun c => ?_)
    · refine skip (fun q => c ?_) _ _
      show nI i &&& nI W = nI W
      rw [fa_and, (cnd_iff.mp q).2.1]
    · have c : nI i &&& nI W = nI W := Classical.not_not.mp c
      rw [fa_and] at c
      have c := (nI_eq (Nat.lt_of_le_of_lt Nat.and_le_right hW) hW).mp c
      refine And.intro (fun c2 => ?_) (fun c2 => ?_)
      rotate_left
      · refine skip (fun q => c2 ?_) _ _
        show nI i &&& nI X = 0
        rw [fa_and, (cnd_iff.mp q).2.2]
        rfl
      · have c2 : nI i &&& nI X = nI 0 := c2
        rw [fa_and] at c2
        have c2 := (nI_eq (Nat.lt_of_le_of_lt Nat.and_le_right hX) (by decide)).mp c2
        have hcand : cnd (gN g) W X i := cnd_iff.mpr ⟨hi9, c, c2⟩
        refine And.intro (sk_87 m'.1.1) (hC _ _ _ _ (w_cutOf (by decide) m' c' (Nat.lt_trans hi9' (by decide)) ?_))
        have lC := gCC_le m i
        have better : (∀ b, isb (skey (gCC g) l) (fun S => cnd (gN g) W X S ∧ S < i) b → skey (gCC g) l i < skey (gCC g) l b) → K 12 [.ref 87, .int (nI W), .int (nI X), .int (bI (!l)), .int (nI i), .int (am_inc (nI i) (Int.ofNat 1)), .int (nI (gCC g i)), .int (nI 1)] [] (am_pi h' 87 18 (nI (gCC g i))) := fun hk => hK _ _ _ _ (next _ _ ⟨_, _, _, rfl, sf_pf s List.mem_cons_self, by rw [i_pi_same, if_pos rfl]; exact binv_new B hcand hk⟩)
        have kept : ∀ b, isb (skey (gCC g) l) (fun S => cnd (gN g) W X S ∧ S < i) b → x = nI b → am_i h' 87 18 = nI (gCC g b) → skey (gCC g) l b ≤ skey (gCC g) l i → K 12 [.ref 87, .int (nI W), .int (nI X), .int (bI (!l)), .int x, .int (am_inc (nI i) (Int.ofNat 1)), .int (nI (gCC g i)), .int (nI 0)] [] h' := fun b hb hx hy hk => hK _ _ _ _ (next _ _ ⟨x, _, _, rfl, s, binv_keep hb hx hy hk⟩)
        have pi9 := pcn_le i
        rcases B with ⟨a1, a2, a3⟩ | ⟨b, b1, b2, b3⟩
        · refine And.intro (sk_87 m'.1.1) (And.intro (fun _ => ?_) (fun z => absurd ?_ z))
          · refine And.intro (fun _ => And.intro (sk_87 m'.1.1) (better fun b hb => absurd hb.1.1 (a3 b hb.1.2))) (fun z => absurd q_n1 z)
          · show nI (gCC g i) < am_i h' 87 18
            rw [a2]
            exact nI_lt (by omega) (by decide)
        · have lB := gCC_le m b
          have pb9 := pcn_le b
          have hb9 : b < 2 ^ 9 := by have := b1.1.2; omega
          have uni : ∀ b', isb (skey (gCC g) l) (fun S => cnd (gN g) W X S ∧ S < i) b' → b' = b := fun b' hb' => isb.one hb' b1
          refine And.intro (sk_87 m'.1.1) (And.intro (fun z => ?_) (fun z => ?_))
          · have z : nI (gCC g i) < am_i h' 87 18 := z
            rw [b3] at z
            have z := (nI_ltI (by omega) (by omega)).mp z
            refine And.intro (fun _ => And.intro (sk_87 m'.1.1) (better fun b' hb' => ?_)) (fun z => absurd q_n1 z)
            rw [uni b' hb']
            unfold skey
            split <;> omega
          · have z : ¬ nI (gCC g i) < am_i h' 87 18 := z
            rw [b3] at z
            have z := Nat.not_lt.mp fun q => z (nI_lt q (by omega))
            refine And.intro (sk_87 m'.1.1) (And.intro (fun z2 => ?_) (fun z2 => ?_))
            · have z2 : ¬ nI (gCC g i) = am_i h' 87 18 := z2
              rw [b3] at z2
              have z2 : gCC g i ≠ gCC g b := fun q => z2 (by rw [q])
              refine And.intro (fun z => absurd rfl z) (fun _ => kept b b1 b2 b3 ?_)
              unfold skey
              split <;> omega
            · have z2 : nI (gCC g i) = am_i h' 87 18 := Classical.not_not.mp z2
              rw [b3] at z2
              have z2 := (nI_eq (by omega) (by omega)).mp z2
              subst b2
              cases l with
              | true =>
                refine And.intro (fun _ => ?_) (fun z => absurd rfl z)
                refine And.intro trivial (hC _ _ _ _ (w_bitsOf (by decide) hi9' ?_))
                refine And.intro trivial (hC _ _ _ _ (w_bitsOf (by decide) hb9 ?_))
                refine And.intro (fun z3 => ?_) (fun z3 => ?_)
                · have z3 := (nI_leI (by omega) (by omega)).mp z3
                  refine And.intro (fun z => absurd rfl z) (fun _ => kept b b1 rfl b3 ?_)
                  unfold skey
                  rw [if_pos rfl, if_pos rfl]
                  omega
                · have z3 := Nat.not_le.mp fun q => z3 ((nI_leI (by omega) (by omega)).mpr q)
                  refine And.intro (fun _ => And.intro (sk_87 m'.1.1) (better fun b' hb' => ?_)) (fun z => absurd q_n1 z)
                  rw [uni b' hb']
                  unfold skey
                  rw [if_pos rfl, if_pos rfl]
                  omega
              | false =>
                refine And.intro (fun z => absurd z q_t1) (fun _ => ?_)
                refine And.intro trivial (hC _ _ _ _ (w_bitsOf (by decide) hi9' ?_))
                refine And.intro trivial (hC _ _ _ _ (w_bitsOf (by decide) hb9 ?_))
                refine And.intro (fun z3 => ?_) (fun z3 => ?_)
                · have z3 := (nI_leI (by omega) (by omega)).mp z3
                  refine And.intro (fun z => absurd rfl z) (fun _ => kept b b1 rfl b3 ?_)
                  unfold skey
                  rw [if_neg (by decide), if_neg (by decide)]
                  omega
                · have z3 := Nat.not_le.mp fun q => z3 ((nI_leI (by omega) (by omega)).mpr q)
                  refine And.intro (fun _ => And.intro (sk_87 m'.1.1) (better fun b' hb' => ?_)) (fun z => absurd q_n1 z)
                  rw [uni b' hb']
                  unfold skey
                  rw [if_neg (by decide), if_neg (by decide)]
                  omega
  · rintro L h' ⟨x, y, z, rfl, s, B⟩
    have m' := sf_mg s m rfl (by decide)
    refine am_go (fun p => p == 12) (fun K cal Q' hK hC hQ => ?_)
    refine And.intro (sk_87 m'.1.1) (hC _ _ _ _ (w_all (by decide) m' ?_))
    refine And.intro (fun _ => And.intro trivial (hQ _ _ ?_)) (fun c => absurd (nI_lt (by omega) (by omega)) c)
    rcases B with ⟨a1, a2, a3⟩ | ⟨b, b1, b2, b3⟩
    · obtain ⟨S, hS⟩ := hex
      exact absurd hS (a3 S hS.1)
    · subst b2
      exact HQ b h' ⟨b1.1.1, fun S hS => b1.2.1 S ⟨hS, hS.1⟩, fun S hS hl => b1.2.2 S ⟨hS, hS.1⟩ hl⟩ s b3
end

/-! THE EXACT ASSIGNMENT: the model's step to the next one -/
/-- the model's kinds -/
def mkd (h : am_H) (km : Nat) (kd : Nat → Nat) : Prop := am_i h 87 26 = nI km ∧ ∀ k, k < km → am_i h 99 k = nI (kd k)
def mtr (h : am_H) (n : Nat) (A : Nat → Nat) : Prop := ∀ v, v < n → am_i h 97 v = nI (A v)
section
variable {xs : am_X} {d : Nat} {h : am_H} {w : Nat} {g : gD} {Q : am_Q}
set_option maxHeartbeats 16000000 in
theorem w_goesOn (hd : 3 ≤ d) (m : mg h w g) {T km : Nat} {kd A : Nat → Nat} (hT : T < 2 ^ gN g) (K9 : kdn (gN g) T km kd) (hkm : 0 < km) (hA : avalid (gN g) T A) (hk : mkd h km kd) (ha : mtr h (gN g) A)
    (HQ : ∀ h' b, sf [97] [] h h' → (b = true → ∃ A2, avalid (gN g) T A2 ∧ mtr h' (gN g) A2 ∧ llt (gN g) A A2 ∧ ∀ C, avalid (gN g) T C → ¬ (llt (gN g) A C ∧ llt (gN g) C A2)) → (b = false → ∀ C, avalid (gN g) T C → ¬ llt (gN g) A C) → Q (.inl (some (.int (bI b)))) h') : am_C xs am_P0 d m_Mo_goesOn [.ref 87, .int (nI T)] h Q := by
  have hn := mg_n9 m
  have hT31 : T < 2 ^ 31 := Nat.lt_trans hT (Nat.pow_lt_pow_right (by decide) (by omega))
  have kd9 : ∀ k, k < km → kd k < 9 := fun k hk => by have := (K9.1 k hk).2; omega
  have km9 : km ≤ 9 := fb_holes 9 km kd kd9 fun i j hij hj => by have := K9.2.2 i j hij hj; omega
  refine am_C_le hd (am_enter (d := 2) ap_Mo_goesOn rfl ?_) (fun _ _ k => k)
  refine am_go (fun p => p == 7) (fun K cal Q' hK hC hQ => ?_)
  refine And.intro (sk_87 m.1.1) (hC _ _ _ _ (w_count (by decide) m (hK _ _ _ _ ?_)))
  have dn : ∀ j, j < gN g → nI (gN g - j) - nI 1 = nI (gN g - 1 - j) := fun j hj => by
    have := nI_pred (gN g - 1 - j)
    rw [show gN g - 1 - j + 1 = gN g - j by omega] at this
    exact this
  refine am_for (gN g) (fun j L h2 => ∃ v3, L = [.ref 87, .int (nI T), .int (nI (gN g - j) - nI 1), v3] ∧ sf [97] [] h h2 ∧ (∀ v, v < gN g → am_i h2 97 v = nI (if v < gN g - j then A v else if T.testBit v = true then v else kd 0)) ∧ ∀ v, gN g - j ≤ v → v < gN g → T.testBit v = false → A v = kd (km - 1)) ?_ ?_ 0 (Nat.zero_le _) _ _ ⟨_, rfl, sf_rf, fun v hv => by rw [if_pos (by omega)]; exact ha v hv, fun v a b => absurd a (by omega)⟩
  · rintro j hj9 L h2 ⟨v3, rfl, s, hl, hmax⟩ next
    have m2 := sf_mg s m rfl (by decide)
    have eJ : am_inc (nI (gN g - 1 - j)) (Int.negSucc 0) = nI (gN g - (j + 1)) - nI 1 := by
      show nI (gN g - 1 - j) - nI 1 = _
      rw [show gN g - 1 - j = gN g - (j + 1) by omega]
    rw [← eJ] at next
    rw [dn j hj9]
    have ev : gN g - (j + 1) = gN g - 1 - j := by omega
    have ev2 : gN g - j = gN g - 1 - j + 1 := by omega
    rw [ev] at next
    rw [ev2] at hl hmax
    have tb : gN g - 1 - j < gN g := by omega
    generalize gN g - 1 - j = v at next tb hl hmax
    have k26 : am_i h2 87 26 = nI km := (s.2 26 (by decide)).trans hk.1
    have k99 : ∀ k, k < km → am_i h2 99 k = nI (kd k) := fun k z => (s.1.i (by decide) k).trans (hk.2 k z)
    have r25 : am_r h2 87 25 = 99 := sr_87_25 m2.1.1
    have r23 : am_r h2 87 23 = 97 := sr_87_23 m2.1.1
    have kT : am_arr h2 (am_r h2 87 23) 2 (nI v) := ck_row r23 (sk_97 m2.1.1) rfl (by omega) (by omega)
    refine am_go (fun p => p == 7 || p == 24) (fun K cal Q' hK hC hQ => ?_)
    refine And.intro (fun c => absurd c (nI_pos (by omega))) (fun _ => ?_)
    refine And.intro trivial (hC _ _ _ _ (w_has (by decide) hT31 (by omega) ?_))
    cases hb : T.testBit v with
    | true =>
      refine And.intro (fun z => absurd z q_t1) (fun _ => ?_)
      refine hK _ _ _ _ (next _ _ ⟨v3, rfl, s, fun x hx => ?_, fun x hx hxn hxT => ?_⟩)
      · rw [hl x hx]
        by_cases q : x = v
        · subst q
          rw [if_pos (by omega), if_neg (by omega), if_pos hb, (hA x hx).2 hb]
        · have : (x < v + 1) ↔ (x < v) := by omega
          simp only [this]
      · by_cases q : x = v
        · subst q; rw [hb] at hxT; cases hxT
        · exact hmax x (by omega) hxn hxT
    | false =>
      refine And.intro (fun _ => hK _ _ _ _ ?_) (fun z => absurd rfl z)
      obtain ⟨k0, k1, k2⟩ := K9.2.1 (A v) (q_T_lt hT (hA v tb).1) (hA v tb).1
      have vT : am_i h2 (am_r h2 87 23) (nI v).toNatClampNeg = nI (kd k0) := by rw [r23, q_cl (by omega), hl v tb, if_pos (by omega), k2]
      refine am_for k0 (fun k L h3 => h3 = h2 ∧ L = [.ref 87, .int (nI T), .int (nI v), .int (nI k)]) ?_ ?_ 0 (Nat.zero_le _) _ _ ⟨rfl, rfl⟩
      · rintro k hk9 L h3 ⟨rfl, rfl⟩ next2
        have eI : am_inc (nI k) (Int.ofNat 1) = nI (k + 1) := nI_1 k
        rw [← eI] at next2
        refine am_go (fun p => p == 24) (fun K cal Q' hK hC hQ => ?_)
        have kK : am_arr h3 (am_r h3 87 25) 2 (nI k) := ck_row r25 (sk_99 m2.1.1) rfl (by omega) (by omega)
        have vK : am_i h3 (am_r h3 87 25) (nI k).toNatClampNeg = nI (kd k) := by rw [r25, q_cl (by omega)]; exact k99 k (by omega)
        refine And.intro (sk_87 m2.1.1) (And.intro kK (And.intro (sk_87 m2.1.1) (And.intro kT ?_)))
        refine And.intro (fun c => ?_) (fun _ => hK _ _ _ _ (next2 _ _ ⟨rfl, rfl⟩))
        have c : am_i h3 (am_r h3 87 25) (nI k).toNatClampNeg = am_i h3 (am_r h3 87 23) (nI v).toNatClampNeg := c
        rw [vK, vT] at c
        have b1 := kd9 k (by omega)
        have b2 := kd9 k0 k1
        have c := (nI_eq (by omega) (by omega)).mp c
        have := K9.2.2 k k0 hk9 k1
        omega
      · rintro L h3 ⟨rfl, rfl⟩
        refine am_go (fun p => p == 7) (fun K cal Q' hK hC hQ => ?_)
        have kK : am_arr h3 (am_r h3 87 25) 2 (nI k0) := ck_row r25 (sk_99 m2.1.1) rfl (by omega) (by omega)
        have vK : am_i h3 (am_r h3 87 25) (nI k0).toNatClampNeg = nI (kd k0) := by rw [r25, q_cl (by omega)]; exact k99 k0 k1
        refine And.intro (sk_87 m2.1.1) (And.intro kK (And.intro (sk_87 m2.1.1) (And.intro kT ?_)))
        refine And.intro (fun _ => ?_) (fun c => absurd (show am_i h3 (am_r h3 87 25) (nI k0).toNatClampNeg = am_i h3 (am_r h3 87 23) (nI v).toNatClampNeg from vK.trans vT.symm) c)
        have eK : nI k0 + nI 1 = nI (k0 + 1) := nI_add _ _
        refine And.intro (sk_87 m2.1.1) (And.intro (fun c => ?_) (fun c => ?_))
        · have c : am_i h3 87 26 ≤ nI k0 + nI 1 := c
          rw [k26, eK] at c
          have c := (nI_leI (by omega) (by omega)).mp c
          have kl : k0 = km - 1 := by omega
          have k00 : am_arr h3 (am_r h3 87 25) 2 (nI 0) := ck_row r25 (sk_99 m2.1.1) rfl (by omega) (by omega)
          refine And.intro (sk_87 m2.1.1) (And.intro (sk_87 m2.1.1) (And.intro k00 (And.intro kT ?_)))
          rw [show am_r h3 87 (599 % 64) = 97 from r23, show am_r h3 87 (601 % 64) = 99 from r25, q_cl (show v < 2 ^ 31 by omega), q_cl (show 0 < 2 ^ 31 by omega), k99 0 hkm]
          refine hK _ _ _ _ (next _ _ ⟨_, rfl, sf_pi s (by decide) (by decide), fun x hx => ?_, fun x hx hxn hxT => ?_⟩)
          · rw [i_pi_same]
            by_cases q : x = v
            · subst q
              rw [if_pos rfl, if_neg (by omega), if_neg (by rw [hb]; decide)]
            · rw [if_neg q, hl x hx]
              have : (x < v + 1) ↔ (x < v) := by omega
              simp only [this]
          · by_cases q : x = v
            · subst q; rw [← kl]; exact k2.symm
            · exact hmax x (by omega) hxn hxT
        · have c : ¬ am_i h3 87 26 ≤ nI k0 + nI 1 := c
          rw [k26, eK] at c
          have c : k0 + 1 < km := Nat.not_le.mp fun z => c (nI_le z (by omega))
          have k01 : am_arr h3 (am_r h3 87 25) 2 (nI k0 + nI 1) := ck_row r25 (sk_99 m2.1.1) eK (by omega) (by omega)
          refine And.intro (sk_87 m2.1.1) (And.intro (sk_87 m2.1.1) (And.intro k01 (And.intro kT ?_)))
          rw [show am_r h3 87 (599 % 64) = 97 from r23, show am_r h3 87 (601 % 64) = 99 from r25, eK, q_cl (show v < 2 ^ 31 by omega), q_cl (show k0 + 1 < 2 ^ 31 by omega), k99 (k0 + 1) c]
          have nx := gnx_next hT K9 hA tb c k2.symm (fun x a b cc => hmax x (by omega) b cc)
          refine And.intro (Or.inr rfl) (hQ _ _ (HQ _ true (sf_pi s (by decide) (by decide)) (fun _ => ⟨gnx T kd A v (kd (k0 + 1)), gnx_valid hT K9 hkm hA hb (K9.1 (k0 + 1) c).1, fun x hx => ?_, nx.1, nx.2⟩) (fun z => by cases z)))
          rw [i_pi_same]
          unfold gnx
          by_cases q : x = v
          · rw [if_pos q, if_pos q]
          · rw [if_neg q, if_neg q, hl x hx]
            by_cases z : v < x
            · rw [if_pos z, if_neg (by omega)]
            · rw [if_neg z, if_pos (by omega)]
  · rintro L h2 ⟨v3, rfl, s, hl, hmax⟩
    refine am_go (fun _ => false) (fun K cal Q' hK hC hQ => ?_)
    rw [Nat.sub_self] at hmax
    refine And.intro (fun _ => And.intro (Or.inl rfl) (hQ _ _ (HQ h2 false s (fun z => by cases z) (fun _ => gnx_last hT K9 hA fun v hv hvT => hmax v (Nat.zero_le v) hv hvT)))) (fun c => absurd ?_ c)
    show nI (gN g - gN g) - nI 1 < 0
    rw [Nat.sub_self]
    decide
end

/-! THE MODEL: labels taken from the nearest terminals and from the union; isolating sets lie apart -/
theorem mrow_L {h h' : am_H} {b : Nat} {g : gD} {f : Nat → Int32} (r : mrow h b g)
    (o : ∀ k, k < 1472 → am_i h' 88 (b + k) = if 75 ≤ k ∧ k < 75 + gN g then f (k - 75) else am_i h 88 (b + k)) : mrow h' b (gL g f) := by
  obtain ⟨⟨a0, a1, a2, a3⟩, r1, r2, r3, r4, ⟨hw, h690⟩⟩ := r
  obtain ⟨n9, m20, hT⟩ := hw.1
  have s : ∀ k, k < 1472 → (k < 75 ∨ 75 + gN g ≤ k) → am_i h' 88 (b + k) = am_i h 88 (b + k) := fun k hk h1 => by rw [o k hk, if_neg (by omega)]
  refine ⟨⟨(s 0 (by decide) (by omega)).trans a0, (s 1 (by decide) (by omega)).trans a1, (s 2 (by decide) (by omega)).trans a2, (s 3 (by decide) (by omega)).trans a3⟩, fun x hx => ?_, fun k hk => ?_, fun x hx => ?_, fun k hk => ?_, ⟨hw, h690⟩⟩
  · have hx : x < gN g := hx
    exact (s _ (by omega) (by omega)).trans (r1 x hx)
  · have hk : k < gM g := hk
    have := r2 k hk
    exact ⟨(s _ (by omega) (by omega)).trans this.1, (s _ (by omega) (by omega)).trans this.2.1, (s _ (by omega) (by omega)).trans this.2.2⟩
  · have hx : x < gN g := hx
    show _ = f x
    rw [o _ (by omega), if_pos (by omega), Nat.add_sub_cancel_left]
  · have hk : k < ncs g := hk
    have z := r4 k hk
    rw [← s (84 + 2 * k) (by omega) (by omega), ← s (84 + 2 * k + 1) (by omega) (by omega)] at z
    exact z
/-- cuts of two sets and of their differences -/
theorem crs_diff (lo hi : Nat → Nat) (A B e : Nat) : (if crs lo hi (andn A B) e = true then 1 else 0) + (if crs lo hi (andn B A) e = true then 1 else 0) ≤ (if crs lo hi A e = true then 1 else 0) + (if crs lo hi B e = true then 1 else 0) := by
  unfold crs
  simp only [andn_bit]
  cases A.testBit (lo e) <;> cases A.testBit (hi e) <;> cases B.testBit (lo e) <;> cases B.testBit (hi e) <;> decide
theorem cutc_diff (m : Nat) (lo hi co : Nat → Nat) (A B : Nat) : cutc m lo hi co (andn A B) + cutc m lo hi co (andn B A) ≤ cutc m lo hi co A + cutc m lo hi co B := by
  unfold cutc sumE
  rw [← fb_sm_add, ← fb_sm_add]
  refine fb_sm_le fun e _ => ?_
  have h := crs_diff lo hi A B e
  show (if crs lo hi (andn A B) e = true then co e else 0) + (if crs lo hi (andn B A) e = true then co e else 0) ≤ (if crs lo hi A e = true then co e else 0) + (if crs lo hi B e = true then co e else 0)
  generalize crs lo hi (andn A B) e = a at h ⊢
  generalize crs lo hi (andn B A) e = b at h ⊢
  generalize crs lo hi A e = c at h ⊢
  generalize crs lo hi B e = d at h ⊢
  cases a <;> cases b <;> cases c <;> cases d <;> simp at h ⊢
theorem andn_cn {n T t u A B : Nat} (hA : cnd n (2 ^ t) (andn T (2 ^ t)) A) (hB : cnd n (2 ^ u) (andn T (2 ^ u)) B) (htT : T.testBit t = true) (htu : t ≠ u) : cnd n (2 ^ t) (andn T (2 ^ t)) (andn A B) := by
  refine ⟨andn_lt _ hA.1, fun i hi => ?_, fun i hi => ?_⟩
  · rw [andn_bit, hA.2.1 i hi, hB.2.2 i ?_]
    · rfl
    · rw [q_tw] at hi
      have hi := of_decide_eq_true hi
      subst hi
      rw [andn_bit, htT, q_tw, decide_eq_false (Ne.symm htu)]
      rfl
  · rw [andn_bit, hA.2.2 i hi]
    rfl
theorem iso_apart {n m T t u i : Nat} {lo hi co : Nat → Nat} (hn : n ≤ 9) (ht : t < n) (hu : u < n) (htT : T.testBit t = true) (huT : T.testBit u = true) (htu : t ≠ u) (h1 : (iso n (cutc m lo hi co) T t).testBit i = true) (h2 : (iso n (cutc m lo hi co) T u).testBit i = true) : False := by
  have A := iso_isb (c := cutc m lo hi co) (T := T) ht
  have B := iso_isb (c := cutc m lo hi co) (T := T) hu
  generalize iso n (cutc m lo hi co) T t = X at *
  generalize iso n (cutc m lo hi co) T u = Y at *
  have cA := andn_cn A.1 B.1 htT htu
  have cB := andn_cn B.1 A.1 huT (Ne.symm htu)
  have kA := A.2.1 _ cA
  have kB := B.2.1 _ cB
  have d := cutc_diff m lo hi co X Y
  have hi9 : i < 9 := by
    refine Nat.not_le.mp fun q => ?_
    rw [Nat.testBit_lt_two_pow (Nat.lt_of_lt_of_le A.1.1 (Nat.pow_le_pow_right (by decide) (by omega)))] at h1
    cases h1
  have p : pcn (andn X Y) < pcn X := ct_lt (fun k _ z => by rw [andn_bit, Bool.and_eq_true] at z; exact z.1) ⟨i, hi9, by rw [andn_bit, h1, h2]; rfl, h1⟩
  have p2 : pcn (andn Y X) < pcn Y := ct_lt (fun k _ z => by rw [andn_bit, Bool.and_eq_true] at z; exact z.1) ⟨i, hi9, by rw [andn_bit, h1, h2]; rfl, h2⟩
  have b1 := pcn_le X
  have b2 := pcn_le Y
  unfold skey at kA kB
  rw [if_neg (by decide), if_neg (by decide)] at kA kB
  omega
/-- the labels by the union, from above down to i -/
def lud (T : Nat) (S : Nat → Nat) (o : Option Nat) (n v : Nat) : Nat → Int32
  | 0 => oI o
  | k + 1 => if n - 1 - k ≠ n ∧ T.testBit (n - 1 - k) = true ∧ o ≠ some (n - 1 - k) ∧ (S (n - 1 - k)).testBit v = true then nI (n - 1 - k) else lud T S o n v k
theorem lun_no {T : Nat} {S : Nat → Nat} {o : Option Nat} {v : Nat} : ∀ {n : Nat}, (∀ t, t < n → ¬ (T.testBit t = true ∧ o ≠ some t ∧ (S t).testBit v = true)) → lun T S o n v = oI o
  | 0, _ => rfl
  | n + 1, h => by
    show (if _ then _ else _) = _
    rw [if_neg (h n (Nat.lt_succ_self n)), lun_no fun t ht => h t (by omega)]
theorem lun_yes {T : Nat} {S : Nat → Nat} {o : Option Nat} {v t : Nat} (h : T.testBit t = true ∧ o ≠ some t ∧ (S t).testBit v = true) : ∀ {n : Nat}, t < n → (∀ u, u < n → u ≠ t → ¬ (T.testBit u = true ∧ o ≠ some u ∧ (S u).testBit v = true)) → lun T S o n v = nI t
  | 0, z, _ => absurd z (Nat.not_lt_zero t)
  | n + 1, z, hu => by
    show (if _ then _ else _) = _
    by_cases q : n = t
    · subst q; rw [if_pos h]
    · rw [if_neg (hu n (Nat.lt_succ_self n) q), lun_yes h (by omega) fun u h1 h2 => hu u (by omega) h2]
theorem lud_no {T : Nat} {S : Nat → Nat} {o : Option Nat} {n v : Nat} : ∀ {k : Nat}, k ≤ n → (∀ t, t < n → ¬ (T.testBit t = true ∧ o ≠ some t ∧ (S t).testBit v = true)) → lud T S o n v k = oI o
  | 0, _, _ => rfl
  | k + 1, hk, h => by
    show (if _ then _ else _) = _
    rw [if_neg fun z => h (n - 1 - k) (by omega) z.2, lud_no (by omega) h]
theorem lud_yes {T : Nat} {S : Nat → Nat} {o : Option Nat} {n v t : Nat} (h : T.testBit t = true ∧ o ≠ some t ∧ (S t).testBit v = true) (ht : t < n) (hu : ∀ u, u < n → u ≠ t → ¬ (T.testBit u = true ∧ o ≠ some u ∧ (S u).testBit v = true)) : ∀ {k : Nat}, k ≤ n → n ≤ t + k → lud T S o n v k = nI t
  | 0, _, z => absurd z (by omega)
  | k + 1, hk, z => by
    show (if _ then _ else _) = _
    by_cases q : n - 1 - k = t
    · rw [if_pos ⟨by omega, by rw [q]; exact h⟩, q]
    · rw [if_neg fun z => hu (n - 1 - k) (by omega) q z.2, lud_yes h ht hu (by omega) (by omega)]
theorem lud_lun {n m T v : Nat} {lo hi co : Nat → Nat} (hn : n ≤ 9) (o : Option Nat) : lud T (iso n (cutc m lo hi co) T) o n v n = lun T (iso n (cutc m lo hi co) T) o n v := by
  by_cases h : ∃ t, t < n ∧ T.testBit t = true ∧ o ≠ some t ∧ (iso n (cutc m lo hi co) T t).testBit v = true
  · obtain ⟨t, ht, hh⟩ := h
    have hu : ∀ u, u < n → u ≠ t → ¬ (T.testBit u = true ∧ o ≠ some u ∧ (iso n (cutc m lo hi co) T u).testBit v = true) := fun u h1 h2 h3 => iso_apart hn ht h1 hh.1 h3.1 (Ne.symm h2) hh.2.2 h3.2.2
    rw [lun_yes hh ht hu, lud_yes hh ht hu (Nat.le_refl n) (by omega)]
  · have hno : ∀ t, t < n → ¬ (T.testBit t = true ∧ o ≠ some t ∧ (iso n (cutc m lo hi co) T t).testBit v = true) := fun t ht hh => h ⟨t, ht, hh⟩
    rw [lun_no hno, lud_no (Nat.le_refl n) hno]
section
variable {xs : am_X} {d : Nat} {h : am_H} {Q : am_Q}
theorem w_countv {w n : Nat} (hd : 2 ≤ d) (m : mw h w) (v0 : am_i h 88 (1472 * w + 0) = nI n) (HQ : Q (.inl (some (.int (nI n)))) h) : am_C xs am_P0 d m_Mo_count [.ref 87] h Q := by
  refine am_C_le hd (am_enter (d := 1) ap_Mo_count rfl ?_) (fun _ _ k => k)
  refine am_go (fun _ => false) (fun K cal Q' hK hC hQ => ?_)
  exact And.intro (sk_87 m.1) (hC _ _ _ _ (w_get (by decide) m (k := 0) rfl (by decide) v0 (And.intro trivial (hQ _ _ HQ))))
theorem w_isTermv {w T v : Nat} (hd : 2 ≤ d) (m : mw h w) (v2 : am_i h 88 (1472 * w + 2) = nI T) (hT : T < 2 ^ 31) (hv : v < 31) (HQ : Q (.inl (some (.int (bI (T.testBit v))))) h) : am_C xs am_P0 d m_Mo_isTerminal [.ref 87, .int (nI v)] h Q := by
  refine am_C_le hd (am_enter (d := 1) ap_Mo_isTerminal rfl ?_) (fun _ _ k => k)
  refine am_go (fun _ => false) (fun K cal Q' hK hC hQ => ?_)
  refine And.intro (sk_87 m.1) (hC _ _ _ _ (w_get (by decide) m (k := 2) rfl (by decide) v2 ?_))
  exact And.intro trivial (hC _ _ _ _ (w_has (by decide) hT hv (And.intro (bI_01 _) (hQ _ _ HQ))))
end
section
variable {xs : am_X} {d : Nat} {h : am_H} {st : stD} {Q : am_Q}
set_option maxHeartbeats 8000000 in
theorem q_useNearest (hd : 6 ≤ d) (I : MI h st) (HQ : ∀ h', MI h' (stC st (gUseN st.1)) → moF h h' → Q (.inl (some (.int (nI (gCost (gUseN st.1)))))) h') : am_C xs am_P0 d m_Mo_useNearest [.ref 87] h Q := by
  obtain ⟨w, I⟩ := I
  have I0 := MIw_0 I (nI 0)
  have s0 := s00 (h := h) (nI 0)
  have hn := mg_n9 I.1
  refine am_C_le hd (am_enter (d := 5) ap_Mo_useNearest rfl ?_) (fun _ _ k => k)
  refine am_go (fun p => p == 15) (fun K cal Q' hK hC hQ => ?_)
  refine And.intro (sk_87 I.1.1.1) (And.intro (sk_87 I.1.1.1) ?_)
  show cal m_Mo_laysNear _ (am_pi h 87 0 (nI 0)) _
  generalize am_pi h 87 0 (nI 0) = h0 at I0 s0
  have m : mg h0 w st.1 := I0.1
  refine hC _ _ _ _ (w_laysNear (by decide) m fun ha sa la => ?_)
  have Ia := MIw_q I0 (sfq_of sa rfl rfl)
  refine And.intro (sk_87 Ia.1.1.1) (hC _ _ _ _ (w_change (by decide) Ia fun h1 s1 I1 => hK _ _ _ _ ?_))
  have m1 : mg h1 ((w + 1) % 9) st.1 := I1.1
  have F1 : sfc h h1 := sfc_t (sfc_t (sfc_q s0) sa (by decide) (by decide)) s1 (by decide) (by decide)
  have l1 : ∀ v, v < gN st.1 → am_i h1 102 v = oG (gNe st.1 v) := fun v hv => (s1.1.i (by decide) v).trans (la v hv).1
  generalize (w + 1) % 9 = w2 at I1 m1
  refine am_for (gN st.1) (fun i L h2 => L = [.ref 87, .int (nI i)] ∧ sf [88] [] h1 h2 ∧ ∀ k, am_i h2 88 k = if 1472 * w2 + 75 ≤ k ∧ k < 1472 * w2 + 75 + i then oG (gNe st.1 (k - (1472 * w2 + 75))) else am_i h1 88 k) ?_ ?_ 0 (Nat.zero_le _) _ _ ⟨rfl, sf_rf, fun k => by rw [if_neg (by omega)]⟩
  · rintro i hi9 L h2 ⟨rfl, s, hk'⟩ next
    have mw2 : mw h2 w2 := ⟨s.1.sh m1.1.1, m1.1.2.1, (s.2 3 (by decide)).trans m1.1.2.2⟩
    have eI : am_inc (nI i) (Int.ofNat 1) = nI (i + 1) := nI_1 i
    rw [← eI] at next
    have v0 : am_i h2 88 (1472 * w2 + 0) = nI (gN st.1) := by rw [hk', if_neg (by omega)]; exact m1.2.1.1
    refine am_go (fun p => p == 15) (fun K cal Q' hK hC hQ => ?_)
    refine And.intro (sk_87 mw2.1) (hC _ _ _ _ (w_countv (by decide) mw2 v0 ?_))
    refine And.intro (fun c => absurd c (nI_ge hi9 (by omega))) (fun _ => ?_)
    have r1 : am_r h2 87 30 = 102 := sr_87_30 mw2.1
    refine And.intro (sk_87 mw2.1) (And.intro (ck_row r1 (sk_102 mw2.1) rfl (by omega) (by omega)) ?_)
    refine And.intro (sk_87 mw2.1) (hC _ _ _ _ (w_put (by decide) mw2 (k := 75 + i) (by rw [← nI_add]) (by omega) ?_))
    rw [show am_r h2 87 (606 % 64) = 102 from r1, q_cl (by omega), s.1.i (by decide) i, l1 i hi9]
    refine hK _ _ _ _ (next _ _ ⟨rfl, sf_pi s (by decide) (by decide), fun k => ?_⟩)
    rw [i_pi_same]
    by_cases q : k = 1472 * w2 + (75 + i)
    · rw [if_pos q, if_pos (by omega), q, show 1472 * w2 + (75 + i) - (1472 * w2 + 75) = i by omega]
    · rw [if_neg q, hk']
      have : (1472 * w2 + 75 ≤ k ∧ k < 1472 * w2 + 75 + i) ↔ (1472 * w2 + 75 ≤ k ∧ k < 1472 * w2 + 75 + (i + 1)) := by omega
      simp only [this]
  · rintro L h2 ⟨rfl, s, hk'⟩
    have mw2 : mw h2 w2 := ⟨s.1.sh m1.1.1, m1.1.2.1, (s.2 3 (by decide)).trans m1.1.2.2⟩
    have v0 : am_i h2 88 (1472 * w2 + 0) = nI (gN st.1) := by rw [hk', if_neg (by omega)]; exact m1.2.1.1
    refine am_go (fun p => p == 15) (fun K cal Q' hK hC hQ => ?_)
    refine And.intro (sk_87 mw2.1) (hC _ _ _ _ (w_countv (by decide) mw2 v0 ?_))
    refine And.intro (fun _ => ?_) (fun c => absurd (nI_le (Nat.le_refl _) (by omega)) c)
    have I9 := MIw_row (g := gUseN st.1) I1 (sf_mo s (subl_x (by decide)) (subl_x (by decide))) (fun k hk => by rw [hk', if_neg (by omega)]) (mrow_L m1.2 fun k hk => by
      rw [hk']
      have a1 : (1472 * w2 + 75 ≤ 1472 * w2 + k ∧ 1472 * w2 + k < 1472 * w2 + 75 + gN st.1) ↔ (75 ≤ k ∧ k < 75 + gN st.1) := by omega
      have a2 : 1472 * w2 + k - (1472 * w2 + 75) = k - 75 := by omega
      simp only [a1, a2])
    have m9 : mg h2 w2 (gUseN st.1) := I9.1
    refine And.intro (sk_87 m9.1.1) (hC _ _ _ _ (w_costNow (by decide) m9 fun h3 s3 _ _ => ?_))
    exact And.intro trivial (hQ _ _ (HQ h3 (MIw_I (MIw_q I9 (sfq_of s3 rfl rfl))) (sfc_F (sfc_t (sfc_t F1 s (by decide) (by decide)) s3 (by decide) (by decide)))))
end

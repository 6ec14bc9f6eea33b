/-! THE EXACT SEARCH -/
/-- an assignment's cost among the first v vertices -/
def acost (m : Nat) (lo hi co : Nat → Nat) (A : Nat → Nat) (v : Nat) : Nat := sumE co (fun e => decide (hi e < v) && decide (A (lo e) ≠ A (hi e))) m
def avalid (n T : Nat) (A : Nat → Nat) : Prop := ∀ v, v < n → T.testBit (A v) = true ∧ (T.testBit v = true → A v = v)
/-- smaller at the first of the first v vertices where they differ -/
def llt (v : Nat) (A B : Nat → Nat) : Prop := ∃ u, u < v ∧ (∀ w, w < u → A w = B w) ∧ A u < B u
def lag (v : Nat) (A B : Nat → Nat) : Prop := ∀ w, w < v → A w = B w
theorem llt_no {v : Nat} {A B : Nat → Nat} (h1 : llt v A B) (h2 : llt v B A) : False := by
  obtain ⟨u, a1, a2, a3⟩ := h1
  obtain ⟨w, b1, b2, b3⟩ := h2
  rcases Nat.lt_trichotomy u w with h | h | h
  · have := b2 u h; omega
  · subst h; omega
  · have := a2 w h; omega
theorem llt_or {v : Nat} {A B : Nat → Nat} : llt v A B ∨ lag v A B ∨ llt v B A := by
  induction v with
  | zero => exact Or.inr (Or.inl fun w h => absurd h (Nat.not_lt_zero _))
  | succ v ih =>
    rcases ih with ⟨u, a1, a2⟩ | h | ⟨u, a1, a2⟩
    · exact Or.inl ⟨u, by omega, a2⟩
    · rcases Nat.lt_trichotomy (A v) (B v) with q | q | q
      · exact Or.inl ⟨v, by omega, h, q⟩
      · exact Or.inr (Or.inl fun w hw => by
          by_cases e : w = v
          · rw [e]; exact q
          · exact h w (by omega))
      · exact Or.inr (Or.inr ⟨v, by omega, fun w hw => (h w hw).symm, q⟩)
    · exact Or.inr (Or.inr ⟨u, by omega, a2⟩)
/-- the best of the assignments X: its cost and itself; MAX: none yet -/
abbrev xMAX : Nat := 2147483647
def xin (n m T : Nat) (lo hi co : Nat → Nat) (X : (Nat → Nat) → Prop) (bc : Nat) (bA : Nat → Nat) : Prop :=
  bc ≤ xMAX ∧ (∀ B, X B → avalid n T B → bc ≤ acost m lo hi co B n) ∧ (bc = xMAX ∨ (X bA ∧ avalid n T bA ∧ bc = acost m lo hi co bA n ∧ ∀ B, X B → avalid n T B → llt n B bA → bc < acost m lo hi co B n))
theorem xin.cong {n m T : Nat} {lo hi co : Nat → Nat} {X Y : (Nat → Nat) → Prop} {bc : Nat} {bA : Nat → Nat} (h : xin n m T lo hi co X bc bA) (e : ∀ B, avalid n T B → (X B ↔ Y B)) : xin n m T lo hi co Y bc bA :=
  ⟨h.1, fun B hY hv => h.2.1 B ((e B hv).mpr hY) hv, h.2.2.imp id fun ⟨a, b, c, d⟩ => ⟨(e _ b).mp a, b, c, fun B hY hv => d B ((e B hv).mpr hY) hv⟩⟩
theorem acost_mono {m : Nat} {lo hi co : Nat → Nat} (A : Nat → Nat) {v w : Nat} (h : v ≤ w) : acost m lo hi co A v ≤ acost m lo hi co A w := fb_sm_le fun k hk => by
  by_cases e : (decide (hi k < v) && decide (A (lo k) ≠ A (hi k))) = true
  · rw [if_pos e, if_pos (by simp only [Bool.and_eq_true, decide_eq_true_eq] at e ⊢; exact ⟨by omega, e.2⟩)]
    exact Nat.le_refl _
  · rw [if_neg e]; exact Nat.zero_le _
theorem acost_ag {n m : Nat} {lo hi co : Nat → Nat} {A B : Nat → Nat} {v : Nat} (hw : ∀ e, e < m → lo e < hi e ∧ hi e < n) (h : lag v A B) : acost m lo hi co A v = acost m lo hi co B v := sumE_cong fun k hk => by
  have := hw k hk
  show (decide (hi k < v) && decide (A (lo k) ≠ A (hi k))) = (decide (hi k < v) && decide (B (lo k) ≠ B (hi k)))
  by_cases e : hi k < v
  · rw [h (hi k) e, h (lo k) (by omega)]
  · simp only [e, decide_false, Bool.false_and]
theorem acost_le {m : Nat} {lo hi co : Nat → Nat} {A : Nat → Nat} {v : Nat} (hm : m ≤ 20) (hc : ∀ e, e < m → co e ≤ 9999) : acost m lo hi co A v ≤ 20 * 9999 := Nat.le_trans (sumE_le hc) (Nat.mul_le_mul_right _ hm)
/-- what v adds -/
def aadd (lo hi : Nat → Nat) (A : Nat → Nat) (v : Nat) (e : Nat) : Bool := decide (hi e = v) && decide (A (lo e) ≠ A v)
theorem acost_s {m : Nat} {lo hi co : Nat → Nat} (A : Nat → Nat) (v : Nat) : acost m lo hi co A (v + 1) = acost m lo hi co A v + sumE co (aadd lo hi A v) m := by
  unfold acost sumE
  rw [← fb_sm_add]
  refine fb_sm_cong fun k hk => ?_
  unfold aadd
  by_cases e : hi k = v
  · simp [e]
  · by_cases e2 : hi k < v
    · have : hi k < v + 1 := by omega
      simp [e, e2, this]
    · have : ¬ hi k < v + 1 := by omega
      simp [e, e2, this]
set_option maxHeartbeats 4000000 in
theorem c_costToEarlier {xs : am_X} {d : Nat} {h : am_H} {n m T : Nat} {lo hi co : Nat → Nat} (hd : 1 ≤ d) (hs : sh h) (hg : cg h 3 n m T lo hi) (hc : cco h 3 m co) {A : Nat → Nat} {v : Nat} (hv : v < n) (hA : ∀ w, w ≤ v → am_i h 82 w = nI (A w)) (hAl : ∀ w, A w < 1000) {Q : am_Q} (HQ : Q (.inl (some (.int (nI (sumE co (aadd lo hi A v) m))))) h) : am_C xs am_P0 d m_Ex_costToEarlier [.ref 80, .ref 3, .int (nI v)] h Q := by
  obtain ⟨⟨hk, ⟨k1, k2, k3, k4, k5, k6⟩, r3, r4, r5, r6, r7, r8⟩, ⟨h0, h1, h2⟩, he, ⟨hn, hm, hT⟩, hw⟩ := id hg
  refine am_C_le hd (am_enter (d := 0) ap_Ex_costToEarlier rfl ?_) (fun _ _ k => k)
  refine am_go (fun p => p == 5) (fun K cal Q' hK hC hQ => hK _ _ _ _ ?_)
  refine am_for m (fun i L h' => h' = h ∧ L = [.ref 80, .ref 3, .int (nI v), .int (nI (sumE co (aadd lo hi A v) i)), .int (nI i)]) ?_ ?_ 0 (Nat.zero_le _) _ _ ⟨rfl, rfl⟩
  · rintro i hi9 L h' ⟨rfl, rfl⟩ next
    obtain ⟨e1, e2⟩ := he i hi9
    obtain ⟨w1, w2⟩ := hw i hi9
    have e3 := (hc i hi9).1
    have eI : am_inc (nI i) (Int.ofNat 1) = nI (i + 1) := nI_1 i
    rw [← eI] at next
    have eA : am_i h' (am_r h' 3 6) (nI i).toNatClampNeg = nI (hi i) := by rw [r6, q_cl (by omega)]; exact e2
    have eB : am_i h' (am_r h' 3 5) (nI i).toNatClampNeg = nI (lo i) := by rw [r5, q_cl (by omega)]; exact e1
    have eC : am_i h' (am_r h' 3 8) (nI i).toNatClampNeg = nI (co i) := by rw [r8, q_cl (by omega)]; exact e3
    have s0 : aadd lo hi A v i = false → am_W xs (am_code at_Ex_costToEarlier) (am_hd ah_Ex_costToEarlier) (am_C xs am_P0 0) Q 5 [.ref 80, .ref 3, .int (nI v), .int (nI (sumE co (aadd lo hi A v) i)), .int (am_inc (nI i) (Int.ofNat 1))] [] h' := fun z => next _ _ ⟨rfl, by rw [sumE_s, z]; rfl⟩
    refine am_go (fun p => p == 5) (fun K cal Q' hK hC hQ => ?_)
    refine And.intro hk (And.intro (fun z => absurd z (q_ge h1 hi9 (by omega))) (fun _ => ?_))
    refine And.intro hk (And.intro (ck_row r6 k4 rfl (by omega) (by omega)) ?_)
    refine And.intro (fun z => ?_) (fun z => ?_)
    · have z : ¬ hi i = v := fun q => z (by rw [← q]; exact eA)
      exact hK _ _ _ _ (s0 (by unfold aadd; rw [decide_eq_false z]; rfl))
    · have z : hi i = v := (nI_eq (by omega) (by omega)).mp (eA.symm.trans (Classical.not_not.mp z))
      refine And.intro (sk_80 hs) (And.intro hk (And.intro (ck_row r5 k3 rfl (by omega) (by omega)) ?_))
      refine And.intro (ck_row (sr_80_2 hs) (sk_82 hs) eB (by omega) (by omega)) ?_
      refine And.intro (sk_80 hs) (And.intro (ck_row (sr_80_2 hs) (sk_82 hs) rfl (by omega) (by omega)) ?_)
      have eD : am_i h' (am_r h' 80 2) (am_i h' (am_r h' 3 5) (nI i).toNatClampNeg).toNatClampNeg = nI (A (lo i)) := by rw [eB, sr_80_2 hs, q_cl (by omega)]; exact hA _ (by omega)
      have eE : am_i h' (am_r h' 80 2) (nI v).toNatClampNeg = nI (A v) := by rw [sr_80_2 hs, q_cl (by omega)]; exact hA _ (by omega)
      have l1 := hAl (lo i)
      have l2 := hAl v
      refine And.intro (fun w => ?_) (fun w => ?_)
      · have w := (nI_eq (by omega) (by omega)).mp (eD.symm.trans (Eq.trans w eE))
        exact hK _ _ _ _ (s0 (by unfold aadd; rw [decide_eq_false (p := A (lo i) ≠ A v) (fun q => q w), Bool.and_false]))
      · have w : A (lo i) ≠ A v := fun q => w (eD.trans ((congrArg nI q).trans eE.symm))
        refine And.intro hk (And.intro (ck_row r8 k6 rfl (by omega) (by omega)) ?_)
        refine hK _ _ _ _ (next _ _ ⟨rfl, ?_⟩)
        rw [sumE_s, if_pos (by unfold aadd; rw [decide_eq_true z, decide_eq_true w]; rfl), ← nI_add, ← eC]
        rfl
  · rintro L h' ⟨rfl, rfl⟩
    refine am_go (fun p => p == 5) (fun K cal Q' hK hC hQ => ?_)
    exact And.intro hk (And.intro (fun _ => And.intro trivial (hQ _ _ HQ)) (fun z => absurd (q_le h1 (by omega)) z))
/-- explored before the prefix p of length v -/
def xE (v : Nat) (p B : Nat → Nat) : Prop := llt v B p
def setA (p : Nat → Nat) (v t : Nat) : Nat → Nat := fun w => if w = v then t else p w
theorem lag_set {v t : Nat} {p : Nat → Nat} : lag v (setA p v t) p := fun w hw => if_neg (by omega)
/-- the state of the search on the machine -/
def xst (h : am_H) (n bc : Nat) (bA : Nat → Nat) : Prop := am_i h 80 1 = nI bc ∧ ∀ w, w < n → am_i h 81 w = (if bc = xMAX then -nI 1 else nI (bA w))
set_option maxHeartbeats 8000000 in
theorem c_extend {xs : am_X} {n m T TS : Nat} {lo hi co : Nat → Nat} (hTS : TS < 2 ^ n) : ∀ (k v : Nat) (p : Nat → Nat) (h : am_H) (bc : Nat) (bA : Nat → Nat) (Q : am_Q), v + k = n → sh h → cg h 3 n m T lo hi → cco h 3 m co → xst h n bc bA →
    (∀ w, w < v → am_i h 82 w = nI (p w)) → (∀ w, p w < 9) → (∀ w, w < v → TS.testBit (p w) = true ∧ (TS.testBit w = true → p w = w)) → xin n m TS lo hi co (xE v p) bc bA →
    (∀ h' bc' bA', sm [80, 81, 82] h h' → xst h' n bc' bA' → (∀ w, w < v → am_i h' 82 w = nI (p w)) → xin n m TS lo hi co (fun B => xE v p B ∨ lag v B p) bc' bA' → Q (.inl none) h') →
    am_C xs am_P0 (k + 2) m_Ex_extend [.ref 80, .ref 3, .int (nI TS), .int (nI v), .int (nI (acost m lo hi co p v))] h Q := by
  intro k
  induction k with
  | zero =>
    intro v p h bc bA Q hvk hs hg hc hst htr hp9 hpv hin HQ
    rw [Nat.add_zero] at hvk
    subst hvk
    obtain ⟨⟨hk, ⟨k1, k2, k3, k4, k5, k6⟩, r3, r4, r5, r6, r7, r8⟩, ⟨h0, h1, h2⟩, he, ⟨hn, hm, hT⟩, hw⟩ := id hg
    have hcl : acost m lo hi co p v ≤ 20 * 9999 := acost_le hm fun e he => (hc e he).2.2
    have hbc := hin.1
    have hM : xMAX = 2147483647 := rfl
    refine am_enter (d := 1) ap_Ex_extend rfl ?_
    refine am_go (fun _ => false) (fun K cal Q' hK hC hQ => ?_)
    refine And.intro (sk_80 hs) (And.intro (fun z => ?_) (fun z => ?_))
    · have z : nI (acost m lo hi co p v) < nI bc := by rw [← hst.1]; exact z
      have z := (nI_ltI (by omega) (by omega)).mp z
      refine And.intro hk (And.intro (fun q => absurd q ?_) (fun _ => ?_))
      · show ¬ nI v < am_i h 3 0
        rw [h0]
        exact nI_nlt (Nat.le_refl _) (by omega)
      · refine And.intro (sk_80 hs) (And.intro (sk_80 hs) (And.intro (sk_80 hs) (And.intro hk ?_)))
        have eT : am_r (am_pi h 80 (1 % 64) (nI (acost m lo hi co p v))) 80 (2 % 64) = 82 := sr_80_2 hs
        have eB : am_r (am_pi h 80 (1 % 64) (nI (acost m lo hi co p v))) 80 (0 % 64) = 81 := sr_80_0 hs
        have eN : am_i (am_pi h 80 (1 % 64) (nI (acost m lo hi co p v))) 3 (128 % 64) = nI v := by rw [i_pi_ne (by decide)]; exact h0
        rw [eT, eB, eN]
        have k81 : am_k (am_pi h 80 (1 % 64) (nI (acost m lo hi co p v))) 81 = (2, 9) := sk_81 hs
        have k82 : am_k (am_pi h 80 (1 % 64) (nI (acost m lo hi co p v))) 82 = (2, 9) := sk_82 hs
        have c0 : (nI 0).toNatClampNeg = 0 := rfl
        have cv : (nI v).toNatClampNeg = v := q_cl (by omega)
        refine And.intro ⟨⟨by rw [k81], by rw [k82]⟩, ⟨by decide, by decide, nI_pos (by omega)⟩, ?_, ?_⟩ ?_
        · rw [k82, c0, cv]; show 0 + v ≤ 9; omega
        · rw [k81, c0, cv]; show 0 + v ≤ 9; omega
        · refine And.intro trivial (hQ _ _ ?_)
          rw [c0, cv]
          have ecp : ∀ a w, am_i (am_cp (am_pi h 80 (1 % 64) (nI (acost m lo hi co p v))) 82 0 81 0 v) a w = if a = 81 ∧ w < v then am_i h 82 w else am_i (am_pi h 80 (1 % 64) (nI (acost m lo hi co p v))) a w := by
            intro a w
            rw [i_cp]
            by_cases e : a = 81 ∧ w < v
            · rw [if_pos ⟨e.1, Nat.zero_le _, by omega⟩, if_pos e, i_pi_ne (by decide), Nat.sub_zero, Nat.zero_add]
            · rw [if_neg fun q => e ⟨q.1, by omega⟩, if_neg e]
          have ss : sm [80, 81, 82] h (am_cp (am_pi h 80 (1 % 64) (nI (acost m lo hi co p v))) 82 0 81 0 v) := (sm.rf.pi (by decide)).cp (by decide)
          refine HQ _ (acost m lo hi co p v) p ss ⟨?_, fun w hw9 => ?_⟩ (fun w hw9 => ?_) ?_
          · rw [ecp, if_neg (fun q => absurd q.1 (by decide))]; exact i_pi_at
          · rw [ecp, if_pos ⟨rfl, hw9⟩, htr w hw9, if_neg (by show ¬ _ = 2147483647; omega)]
          · rw [ecp, if_neg (fun q => absurd q.1 (by decide)), i_pi_ne (by decide)]; exact htr w hw9
          · refine ⟨by show _ ≤ 2147483647; omega, fun B hB hvB => ?_, Or.inr ⟨Or.inr fun w _ => rfl, fun w hw9 => hpv w hw9, rfl, fun B hB hvB hlt => ?_⟩⟩
            · rcases hB with hB | hB
              · have := hin.2.1 B hB hvB; omega
              · rw [acost_ag hw hB]; exact Nat.le_refl _
            · rcases hB with hB | hB
              · have := hin.2.1 B hB hvB; omega
              · obtain ⟨u, u1, u2, u3⟩ := hlt
                rw [hB u u1] at u3
                exact absurd u3 (Nat.lt_irrefl _)
    · have z : ¬ nI (acost m lo hi co p v) < nI bc := by rw [← hst.1]; exact z
      have z : bc ≤ acost m lo hi co p v := Nat.not_lt.mp fun q => z (nI_lt q (by omega))
      refine And.intro trivial (hQ _ _ (HQ _ bc bA sm.rf hst htr ?_))
      refine ⟨hin.1, fun B hB hvB => ?_, ?_⟩
      · rcases hB with hB | hB
        · exact hin.2.1 B hB hvB
        · rw [acost_ag hw hB]; exact z
      · refine hin.2.2.imp id fun ⟨a1, a2, a3, a4⟩ => ⟨Or.inl a1, a2, a3, fun B hB hvB hlt => ?_⟩
        rcases hB with hB | hB
        · exact a4 B hB hvB hlt
        · refine (llt_no hlt ?_).elim
          obtain ⟨u, u1, u2, u3⟩ := a1
          exact ⟨u, u1, fun w hw9 => (u2 w hw9).trans (hB w (by omega)).symm, by rw [hB u u1]; exact u3⟩
  | succ k ih =>
    intro v p h bc bA Q hvk hs hg hc hst htr hp9 hpv hin HQ
    obtain ⟨⟨hk, ⟨k1, k2, k3, k4, k5, k6⟩, r3, r4, r5, r6, r7, r8⟩, ⟨h0, h1, h2⟩, he, ⟨hn, hm, hT⟩, hw⟩ := id hg
    have hcl : ∀ A v, acost m lo hi co A v ≤ 20 * 9999 := fun A v => acost_le hm fun e he => (hc e he).2.2
    have hcl0 := hcl p v
    have hbc := hin.1
    have hM : xMAX = 2147483647 := rfl
    have hTS31 : TS < 2 ^ 31 := Nat.lt_trans hTS (pow_le31 (by omega))
    refine am_enter (d := k + 2) ap_Ex_extend rfl ?_
    refine am_go (fun p => p == 62) (fun K cal Q' hK hC hQ => ?_)
    refine And.intro (sk_80 hs) (And.intro (fun z => ?_) (fun z => ?_))
    · have z : nI (acost m lo hi co p v) < nI bc := by rw [← hst.1]; exact z
      have z := (nI_ltI (by omega) (by omega)).mp z
      refine And.intro hk (And.intro (fun _ => ?_) (fun q => absurd ?_ q))
      rotate_left
      · show nI v < am_i h 3 0
        rw [h0]
        exact nI_lt (by omega) (by omega)
      generalize hCh : (if TS.testBit v then 2 ^ v else TS) = Ch
      have hChl : Ch < 2 ^ 31 := by
        rw [← hCh]
        split
        · exact pow_le31 (by omega)
        · exact hTS31
      have chb : ∀ i, Ch.testBit i = true ↔ (TS.testBit i = true ∧ (TS.testBit v = true → i = v)) := by
        intro i
        rw [← hCh]
        by_cases q : TS.testBit v = true
        · rw [if_pos q, q_tw]
          exact ⟨fun w => by have w := of_decide_eq_true w; rw [← w]; exact ⟨q, fun _ => rfl⟩, fun w => decide_eq_true (w.2 q).symm⟩
        · rw [if_neg q]
          exact ⟨fun w => ⟨w, fun x => absurd x q⟩, fun w => w.1⟩
      have llt_set : ∀ i B, xE (v + 1) (setA p v i) B ↔ (xE v p B ∨ (lag v B p ∧ B v < i)) := by
        intro i B
        have e1 : ∀ w, w < v → setA p v i w = p w := fun w hw9 => if_neg (by omega)
        have e2 : setA p v i v = i := if_pos rfl
        constructor
        · rintro ⟨u, u1, u2, u3⟩
          by_cases e : u = v
          · subst e
            rw [e2] at u3
            exact Or.inr ⟨fun w hw9 => (u2 w hw9).trans (e1 w hw9), u3⟩
          · rw [e1 u (by omega)] at u3
            exact Or.inl ⟨u, by omega, fun w hw9 => (u2 w hw9).trans (e1 w (by omega)), u3⟩
        · rintro (⟨u, u1, u2, u3⟩ | ⟨q1, q2⟩)
          · exact ⟨u, by omega, fun w hw9 => (u2 w hw9).trans (e1 w (by omega)).symm, by rw [e1 u u1]; exact u3⟩
          · exact ⟨v, by omega, fun w hw9 => (q1 w hw9).trans (e1 w hw9).symm, by rw [e2]; exact q2⟩
      have W : am_W xs (am_code at_Ex_extend) (am_hd ah_Ex_extend) (am_C xs am_P0 (k + 2)) Q 62 [.ref 80, .ref 3, .int (nI TS), .int (nI v), .int (nI (acost m lo hi co p v)), .int (nI Ch), .int (nI 0), am_J] [] h := by
        refine am_for n (fun i L h' => ∃ bc bA v7, L = [.ref 80, .ref 3, .int (nI TS), .int (nI v), .int (nI (acost m lo hi co p v)), .int (nI Ch), .int (nI i), v7] ∧ sm [80, 81, 82] h h' ∧ xst h' n bc bA ∧ (∀ w, w < v → am_i h' 82 w = nI (p w)) ∧ xin n m TS lo hi co (fun B => xE v p B ∨ (lag v B p ∧ B v < i)) bc bA) ?_ ?_ 0 (Nat.zero_le _) _ _ ⟨bc, bA, am_J, rfl, sm.rf, hst, htr, hin.cong fun B _ => ⟨Or.inl, fun q => q.elim id fun w => absurd w.2 (Nat.not_lt_zero _)⟩⟩
        · rintro i hi9 L h' ⟨bc', bA', v7, rfl, s, hst', htr', hin'⟩ next
          have hs' := s.sh hs
          have hg' := hg.mv s (by decide) (by decide) (by decide)
          have hc' := hc.mv s (by decide)
          have eI : am_inc (nI i) (Int.ofNat 1) = nI (i + 1) := nI_1 i
          rw [← eI] at next
          have eA : (nI Ch >>> (nI i &&& 31)) &&& nI 1 = bI (Ch.testBit i) := q_bit hChl (by omega)
          refine am_go (fun p => p == 62) (fun K cal Q' hK hC hQ => ?_)
          refine And.intro hg'.1.1 (And.intro (fun z => absurd z (q_ge hg'.2.1.1 hi9 (by omega))) (fun _ => ?_))
          refine And.intro (fun w => ?_) (fun w => ?_)
          · have w := (bI_0 _).mp (eA.symm.trans w)
            refine hK _ _ _ _ (next _ _ ⟨bc', bA', v7, rfl, s, hst', htr', hin'.cong fun B hv => ⟨fun q => q.imp id fun r => ⟨r.1, by omega⟩, fun q => q.imp id fun r => ⟨r.1, Nat.lt_of_le_of_ne (by omega) fun x => ?_⟩⟩⟩)
            have := (chb i).mpr (by rw [← x]; exact hv v (by omega))
            rw [w] at this
            cases this
          · have w : Ch.testBit i = true := by
              cases e : Ch.testBit i with
              | true => rfl
              | false => rw [e] at eA; exact absurd eA w
            have wv := (chb i).mp w
            refine And.intro (sk_80 hs') (And.intro (ck_row (sr_80_2 hs') (sk_82 hs') rfl (by omega) (by omega)) ?_)
            have e82 : am_r h' 80 (2 % 64) = 82 := sr_80_2 hs'
            have ecl : (nI v).toNatClampNeg = v := q_cl (by omega)
            rw [e82, ecl]
            have s1 : sm [80, 81, 82] h' (am_pi h' 82 v (nI i)) := sm.rf.pi (by decide)
            have hs1 := s1.sh hs'
            have hg1 := hg'.mv s1 (by decide) (by decide) (by decide)
            have hc1 := hc'.mv s1 (by decide)
            have hA1 : ∀ w, w < v + 1 → am_i (am_pi h' 82 v (nI i)) 82 w = nI (setA p v i w) := by
              intro w hw9
              rw [i_pi_same]
              unfold setA
              by_cases e : w = v
              · rw [if_pos e, if_pos e]
              · rw [if_neg e, if_neg e]; exact htr' w (by omega)
            have hp1 : ∀ w, setA p v i w < 9 := fun w => by
              unfold setA
              split
              · omega
              · exact hp9 w
            refine And.intro (sk_80 hs1) (hC _ _ _ _ (c_costToEarlier (A := setA p v i) (by omega) hs1 hg1 hc1 (by omega) (fun w hw9 => hA1 w (by omega)) (fun w => by have := hp1 w; omega) ?_))
            have ecs : nI (acost m lo hi co p v) + nI (sumE co (aadd lo hi (setA p v i) v) m) = nI (acost m lo hi co (setA p v i) (v + 1)) := by
              rw [nI_add, acost_s, acost_ag hw (lag_set (v := v) (t := i) (p := p))]
            have ev1 : nI v + nI 1 = nI (v + 1) := nI_add v 1
            refine And.intro trivial ?_
            show cal m_Ex_extend [.ref 80, .ref 3, .int (nI TS), .int (nI v + nI 1), .int (nI (acost m lo hi co p v) + nI (sumE co (aadd lo hi (setA p v i) v) m))] _ _
            rw [ecs, ev1]
            refine hC _ _ _ _ (ih (v + 1) (setA p v i) _ bc' bA' _ (by omega) hs1 hg1 hc1 ⟨by rw [i_pi_ne (by decide)]; exact hst'.1, fun w hw9 => by rw [i_pi_ne (by decide)]; exact hst'.2 w hw9⟩ hA1 hp1 (fun w hw9 => ?_) (hin'.cong fun B _ => (llt_set i B).symm) (fun h2' bc2 bA2 s2 hst2 htr2 hin2 => ?_))
            · unfold setA
              by_cases e : w = v
              · rw [if_pos e, e]; exact wv
              · rw [if_neg e]; exact hpv w (by omega)
            · refine hK _ _ _ _ (next _ _ ⟨bc2, bA2, _, rfl, s.tr (s1.tr s2), hst2, fun w hw9 => ?_, hin2.cong fun B _ => ?_⟩)
              · rw [htr2 w (by omega)]; congr 1; exact if_neg (by omega)
              · rw [llt_set]
                constructor
                · rintro ((q | q) | q)
                  · exact Or.inl q
                  · exact Or.inr ⟨q.1, by omega⟩
                  · refine Or.inr ⟨fun w hw9 => (q w (by omega)).trans (if_neg (by omega)), ?_⟩
                    rw [q v (by omega), show setA p v i v = i from if_pos rfl]
                    omega
                · rintro (q | ⟨q1, q2⟩)
                  · exact Or.inl (Or.inl q)
                  · by_cases e : B v = i
                    · refine Or.inr fun w hw9 => ?_
                      unfold setA
                      by_cases e3 : w = v
                      · rw [if_pos e3, e3]; exact e
                      · rw [if_neg e3]; exact q1 w (by omega)
                    · exact Or.inl (Or.inr ⟨q1, by omega⟩)
        · rintro L h' ⟨bc', bA', v7, rfl, s, hst', htr', hin'⟩
          have hg' := hg.mv s (by decide) (by decide) (by decide)
          refine am_go (fun p => p == 62) (fun K cal Q' hK hC hQ => ?_)
          refine And.intro hg'.1.1 (And.intro (fun _ => And.intro trivial (hQ _ _ (HQ _ bc' bA' s hst' htr' (hin'.cong fun B hv => ⟨fun q => q.imp id fun r => r.1, fun q => q.imp id fun r => ⟨r, q_T_lt hTS (hv v (by omega)).1⟩⟩)))) (fun z => absurd (q_le hg'.2.1.1 (by omega)) z))
      have eA : (nI TS >>> (nI v &&& 31)) &&& nI 1 = bI (TS.testBit v) := q_bit hTS31 (by omega)
      have eB : nI 1 <<< (nI v &&& 31) = nI (2 ^ v) := q_shl v (by omega)
      refine And.intro (fun q => ?_) (fun q => ?_)
      · have q := (bI_0 _).mp (eA.symm.trans q)
        rw [if_neg (by rw [q]; decide)] at hCh
        rw [← hCh] at W
        exact hK _ _ _ _ W
      · have q : TS.testBit v = true := by
          cases e : TS.testBit v with
          | true => rfl
          | false => rw [e] at eA; exact absurd eA q
        rw [if_pos q] at hCh
        rw [← hCh, ← eB] at W
        exact hK _ _ _ _ W
    · have z : ¬ nI (acost m lo hi co p v) < nI bc := by rw [← hst.1]; exact z
      have z : bc ≤ acost m lo hi co p v := Nat.not_lt.mp fun q => z (nI_lt q (by omega))
      refine And.intro trivial (hQ _ _ (HQ _ bc bA sm.rf hst htr ?_))
      refine ⟨hin.1, fun B hB hvB => ?_, ?_⟩
      · rcases hB with hB | hB
        · exact hin.2.1 B hB hvB
        · have a1 := acost_ag (co := co) hw hB
          have a2 := acost_mono (m := m) (lo := lo) (hi := hi) (co := co) B (show v ≤ n by omega)
          omega
      · refine hin.2.2.imp id fun ⟨a1, a2, a3, a4⟩ => ⟨Or.inl a1, a2, a3, fun B hB hvB hlt => ?_⟩
        rcases hB with hB | hB
        · exact a4 B hB hvB hlt
        · refine (llt_no hlt ?_).elim
          obtain ⟨u, u1, u2, u3⟩ := a1
          exact ⟨u, by omega, fun w hw9 => (u2 w hw9).trans (hB w (by omega)).symm, by rw [hB u u1]; exact u3⟩

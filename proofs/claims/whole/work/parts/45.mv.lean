/-! THE BEST MOVE -/
/-- vertex, terminal, cost then -/
abbrev mvT : Type := Option (Nat × Nat × Nat)
def setL (lab : Nat → Int32) (v t : Nat) : Nat → Int32 := fun w => if w = v then nI t else lab w
def mvc (m : Nat) (lo hi co : Nat → Nat) (lab : Nat → Int32) (v t : Nat) : Nat := sumE co (dif lo hi (setL lab v t)) m
def mvu (o : mvT) (x : Nat × Nat × Nat) : mvT := match o with
  | none => some x
  | some q => if x.2.2 < q.2.2 then some x else some q
def mv1 (m T : Nat) (lo hi co : Nat → Nat) (lab : Nat → Int32) (v t : Nat) (o : mvT) : mvT :=
  if T.testBit v = false ∧ T.testBit t = true ∧ lab v ≠ nI t then mvu o (v, t, mvc m lo hi co lab v t) else o
def mvr (m T : Nat) (lo hi co : Nat → Nat) (lab : Nat → Int32) (v : Nat) (o : mvT) : Nat → mvT
  | 0 => o
  | t + 1 => mv1 m T lo hi co lab v t (mvr m T lo hi co lab v o t)
def mva (n m T : Nat) (lo hi co : Nat → Nat) (lab : Nat → Int32) : Nat → mvT
  | 0 => none
  | v + 1 => mvr m T lo hi co lab v (mva n m T lo hi co lab v) n
def oV1 (o : mvT) : Int32 := match o with
  | none => -nI 1
  | some q => nI q.1
def oT1 (o : mvT) : Int32 := match o with
  | none => -nI 1
  | some q => nI q.2.1
def oC1 (o : mvT) : Int32 := match o with
  | none => -nI 1
  | some q => nI q.2.2
def mst (h : am_H) (o : mvT) : Prop := am_i h 86 0 = oV1 o ∧ am_i h 86 1 = oT1 o ∧ am_i h 86 2 = oC1 o
def mok (n : Nat) (o : mvT) : Prop := ∀ q, o = some q → q.1 < n ∧ q.2.1 < n ∧ q.2.2 ≤ 20 * 9999
theorem mvc_le {m : Nat} {lo hi co : Nat → Nat} {lab : Nat → Int32} {v t : Nat} (hm : m ≤ 20) (hc : ∀ e, e < m → co e ≤ 9999) : mvc m lo hi co lab v t ≤ 20 * 9999 := Nat.le_trans (sumE_le hc) (Nat.mul_le_mul_right _ hm)
set_option maxHeartbeats 4000000 in
theorem c_consider {xs : am_X} {d : Nat} {h : am_H} {n m T : Nat} {lo hi co : Nat → Nat} {lab : Nat → Int32} (hd : 3 ≤ d) (hs : sh h) (hg : cg h 3 n m T lo hi) (hc : cco h 3 m co) (hl : ∀ v, v < n → am_i h 5 v = lab v) {o : mvT} (hm0 : mst h o) (ho : mok n o) {v t : Nat} (hv : v < n) (ht : t < n) {Q : am_Q}
    (HQ : ∀ h', sm [5, 86] h h' → (∀ w, am_i h' 5 w = am_i h 5 w) → mst h' (mvu o (v, t, mvc m lo hi co lab v t)) → Q (.inl none) h') : am_C xs am_P0 d m_Mv_consider [.ref 86, .ref 3, .int (nI v), .int (nI t)] h Q := by
  obtain ⟨⟨hk, ⟨k1, k2, k3, k4, k5, k6⟩, r3, r4, r5, r6, r7, r8⟩, ⟨h0, h1, h2⟩, he, ⟨hn, hm, hT⟩, hw⟩ := id hg
  refine am_C_le hd (am_enter (d := 2) ap_Mv_consider rfl ?_) (fun _ _ k => k)
  refine am_go (fun _ => false) (fun K cal Q' hK hC hQ => ?_)
  have cl : (nI v).toNatClampNeg = v := q_cl (by omega)
  refine And.intro hk (And.intro (ck_row r4 k2 rfl (by omega) (by omega)) ?_)
  refine And.intro hk (And.intro (ck_row r4 k2 rfl (by omega) (by omega)) ?_)
  have s1 : sm [5, 86] h (am_pi h 5 v (nI t)) := sm.rf.pi (by decide)
  have e4 : am_r h 3 (132 % 64) = 5 := r4
  rw [e4, cl]
  have hs1 := s1.sh hs
  have hg1 := hg.mv s1 (by decide) (by decide) (by decide)
  have hc1 := hc.mv s1 (by decide)
  refine And.intro (sk_3 hs1) (hC _ _ _ _ (c_presentCost (lab := setL lab v t) (by decide) hg1 hc1 (fun w hw9 => ?_) ?_))
  · show am_i (am_pi h 5 v (nI t)) 5 w = _
    rw [i_pi_same]
    unfold setL
    by_cases e : w = v
    · rw [if_pos e, if_pos e]
    · rw [if_neg e, if_neg e]; exact hl w hw9
  have hcl : mvc m lo hi co lab v t ≤ 20 * 9999 := mvc_le hm fun e he => (hc e he).2.2
  show am_ev _ _ _ _ _ _ _ _ _ _ (.int (nI (mvc m lo hi co lab v t)) :: _) _
  refine And.intro (sk_3 hs1) (And.intro (ck_row (sr_3_4 hs1) (sk_5 hs1) rfl (by omega) (by omega)) ?_)
  have e5 : am_r (am_pi h 5 v (nI t)) 3 (132 % 64) = 5 := r4
  rw [e5, cl]
  generalize hh2 : am_pi (am_pi h 5 v (nI t)) 5 v (am_i h 5 v) = h2'
  have s2 : sm [5, 86] h h2' := by rw [← hh2]; exact s1.pi (by decide)
  have hs2 := s2.sh hs
  have h5 : ∀ w, am_i h2' 5 w = am_i h 5 w := by
    intro w
    rw [← hh2, i_pi_same, i_pi_same]
    by_cases e : w = v
    · rw [if_pos e, e]
    · rw [if_neg e, if_neg e]
  have m2 : mst h2' o := by
    rw [← hh2]
    unfold mst
    rw [i_pi_ne (show (86 : Nat) ≠ 5 by decide), i_pi_ne (show (86 : Nat) ≠ 5 by decide)]
    exact hm0
  -- the write
  have wr : mvu o (v, t, mvc m lo hi co lab v t) = some (v, t, mvc m lo hi co lab v t) → Q (.inl none) (am_pi (am_pi (am_pi h2' 86 (320 % 64) (nI v)) 86 (321 % 64) (nI t)) 86 (322 % 64) (nI (mvc m lo hi co lab v t))) := by
    intro e
    refine HQ _ (((s2.pi (by decide)).pi (by decide)).pi (by decide)) (fun w => ?_) ?_
    · rw [i_pi_ne (by decide), i_pi_ne (by decide), i_pi_ne (by decide)]; exact h5 w
    · rw [e]
      refine ⟨?_, ?_, ?_⟩
      · rw [i_pi_k (by decide), i_pi_k (by decide)]; exact i_pi_at
      · rw [i_pi_k (by decide)]; exact i_pi_at
      · exact i_pi_at
  have kp : mvu o (v, t, mvc m lo hi co lab v t) = o → Q (.inl none) h2' := fun e => HQ _ s2 h5 (by rw [e]; exact m2)
  cases o with
  | none =>
    refine And.intro (sk_86 hs2) (And.intro (fun _ => ?_) (fun z => absurd m2.1 z))
    exact And.intro (sk_86 hs2) (And.intro (sk_86 hs2) (And.intro (sk_86 hs2) (And.intro trivial (hQ _ _ (wr rfl)))))
  | some q =>
    obtain ⟨q1, q2, q3⟩ := ho q rfl
    refine And.intro (sk_86 hs2) (And.intro (fun z => absurd (m2.1.symm.trans z) (nI_neg1 (by omega))) (fun _ => ?_))
    refine And.intro (sk_86 hs2) (And.intro (fun z => ?_) (fun z => ?_))
    · have z : nI q.2.2 ≤ nI (mvc m lo hi co lab v t) := by rw [← show am_i h2' 86 2 = nI q.2.2 from m2.2.2]; exact z
      have z := (nI_leI (by omega) (by omega)).mp z
      exact And.intro trivial (hQ _ _ (kp (if_neg fun r => by have r : mvc m lo hi co lab v t < q.2.2 := r; omega)))
    · have z : ¬ nI q.2.2 ≤ nI (mvc m lo hi co lab v t) := by rw [← show am_i h2' 86 2 = nI q.2.2 from m2.2.2]; exact z
      have z := Nat.not_le.mp fun r => z (nI_le r (by omega))
      exact And.intro (sk_86 hs2) (And.intro (sk_86 hs2) (And.intro (sk_86 hs2) (And.intro trivial (hQ _ _ (wr (if_pos z))))))
theorem mvu_ok {n : Nat} {o : mvT} {x : Nat × Nat × Nat} (ho : mok n o) (h1 : x.1 < n) (h2 : x.2.1 < n) (h3 : x.2.2 ≤ 20 * 9999) : mok n (mvu o x) := by
  intro q hq
  unfold mvu at hq
  split at hq
  · cases hq; exact ⟨h1, h2, h3⟩
  · split at hq
    · cases hq; exact ⟨h1, h2, h3⟩
    · cases hq; exact ho _ rfl
theorem mv1_ok {n m T : Nat} {lo hi co : Nat → Nat} {lab : Nat → Int32} {v t : Nat} {o : mvT} (hm : m ≤ 20) (hc : ∀ e, e < m → co e ≤ 9999) (ho : mok n o) (hv : v < n) (ht : t < n) : mok n (mv1 m T lo hi co lab v t o) := by
  unfold mv1
  split
  · exact mvu_ok ho hv ht (mvc_le hm hc)
  · exact ho
theorem mvr_ok {n m T : Nat} {lo hi co : Nat → Nat} {lab : Nat → Int32} {v : Nat} {o : mvT} (hm : m ≤ 20) (hc : ∀ e, e < m → co e ≤ 9999) (ho : mok n o) (hv : v < n) : ∀ t, t ≤ n → mok n (mvr m T lo hi co lab v o t)
  | 0, _ => ho
  | t + 1, h => mv1_ok hm hc (mvr_ok hm hc ho hv t (by omega)) hv (by omega)
theorem mva_ok {n m T : Nat} {lo hi co : Nat → Nat} {lab : Nat → Int32} (hm : m ≤ 20) (hc : ∀ e, e < m → co e ≤ 9999) : ∀ v, v ≤ n → mok n (mva n m T lo hi co lab v)
  | 0, _ => fun q h => by cases h
  | v + 1, h => mvr_ok hm hc (mva_ok hm hc v (by omega)) (by omega) n (Nat.le_refl _)
set_option maxHeartbeats 4000000 in
theorem c_Mv_run {xs : am_X} {d : Nat} {h : am_H} {n m T : Nat} {lo hi co : Nat → Nat} {lab : Nat → Int32} (hd : 4 ≤ d) (hs : sh h) (hg : cg h 3 n m T lo hi) (hc : cco h 3 m co) (hl : ∀ v, v < n → am_i h 5 v = lab v) {Q : am_Q}
    (HQ : ∀ h', sm [5, 86] h h' → (∀ w, am_i h' 5 w = am_i h 5 w) → mst h' (mva n m T lo hi co lab n) → Q (.inl none) h') : am_C xs am_P0 d m_Mv_run [.ref 86, .ref 3] h Q := by
  obtain ⟨⟨hk, -⟩, ⟨h0, h1, h2⟩, he, ⟨hn, hm, hT⟩, hw⟩ := id hg
  have hcl : ∀ e, e < m → co e ≤ 9999 := fun e he => (hc e he).2.2
  refine am_C_le hd (am_enter (d := 3) ap_Mv_run rfl ?_) (fun _ _ k => k)
  refine am_go (fun p => p == 17) (fun K cal Q' hK hC hQ => ?_)
  refine And.intro (sk_86 hs) (And.intro (sk_86 hs) (And.intro (sk_86 hs) (hK _ _ _ _ ?_)))
  have s0 : sm [5, 86] h (am_pi (am_pi (am_pi h 86 (320 % 64) (-nI 1)) 86 (321 % 64) (-nI 1)) 86 (322 % 64) (-nI 1)) := ((sm.rf.pi (by decide)).pi (by decide)).pi (by decide)
  refine am_for n (fun i L h' => ∃ v3, L = [.ref 86, .ref 3, .int (nI i), v3] ∧ sm [5, 86] h h' ∧ (∀ w, am_i h' 5 w = am_i h 5 w) ∧ mst h' (mva n m T lo hi co lab i)) ?_ ?_ 0 (Nat.zero_le _) _ _ ⟨am_J, rfl, s0, fun w => by rw [i_pi_ne (by decide), i_pi_ne (by decide), i_pi_ne (by decide)], ?_, ?_, ?_⟩
  · rintro i hi9 L h' ⟨v3, rfl, s, h5, hst⟩ next
    have hg' := hg.mv s (by decide) (by decide) (by decide)
    refine am_go (fun p => p == 17 || p == 27) (fun K cal Q' hK hC hQ => ?_)
    refine And.intro hg'.1.1 (And.intro (fun z => absurd z (q_ge hg'.2.1.1 hi9 (by omega))) (fun _ => hK _ _ _ _ ?_))
    refine am_for n (fun t L h9 => L = [.ref 86, .ref 3, .int (nI i), .int (nI t)] ∧ sm [5, 86] h h9 ∧ (∀ w, am_i h9 5 w = am_i h 5 w) ∧ mst h9 (mvr m T lo hi co lab i (mva n m T lo hi co lab i) t)) ?_ ?_ 0 (Nat.zero_le _) _ _ ⟨rfl, s, h5, hst⟩
    · rintro t ht9 L h9 ⟨rfl, s9, h59, hst9⟩ next2
      have hs9 := s9.sh hs
      have hg9 := hg.mv s9 (by decide) (by decide) (by decide)
      have hc9 := hc.mv s9 (by decide)
      have hl9 : ∀ v, v < n → am_i h9 5 v = lab v := fun v z => (h59 v).trans (hl v z)
      have eI : am_inc (nI t) (Int.ofNat 1) = nI (t + 1) := nI_1 t
      rw [← eI] at next2
      have hok := mvr_ok (T := T) (lo := lo) (hi := hi) (lab := lab) hm hcl (mva_ok (T := T) (lo := lo) (hi := hi) (lab := lab) hm hcl i (by omega)) hi9 t (by omega)
      have skip : ¬ (T.testBit i = false ∧ T.testBit t = true ∧ lab i ≠ nI t) → am_W xs (am_code at_Mv_run) (am_hd ah_Mv_run) (am_C xs am_P0 3) Q 27 [.ref 86, .ref 3, .int (nI i), .int (am_inc (nI t) (Int.ofNat 1))] [] h9 := fun z => next2 _ _ ⟨rfl, s9, h59, by rw [mvr, mv1, if_neg z]; exact hst9⟩
      refine am_go (fun p => p == 27) (fun K cal Q' hK hC hQ => ?_)
      refine And.intro hg9.1.1 (And.intro (fun z => absurd z (q_ge hg9.2.1.1 ht9 (by omega))) (fun _ => ?_))
      refine And.intro hg9.1.1 (hC _ _ _ _ (c_isTerminal (by decide) hg9 _ ?_))
      rw [isT_nI hi9 (by omega)]
      cases hTi : T.testBit i with
      | true =>
        refine And.intro (fun _ => ?_) (fun z => absurd q_t1 z)
        exact hK _ _ _ _ (skip fun z => by rw [hTi] at z; cases z.1)
      | false =>
        refine And.intro (fun z => absurd rfl z) (fun _ => ?_)
        refine And.intro hg9.1.1 (hC _ _ _ _ (c_isTerminal (by decide) hg9 _ ?_))
        rw [isT_nI ht9 (by omega)]
        cases hTt : T.testBit t with
        | false =>
          refine And.intro (fun _ => ?_) (fun z => absurd rfl z)
          exact hK _ _ _ _ (skip fun z => by rw [hTt] at z; cases z.2.1)
        | true =>
          refine And.intro (fun z => absurd z q_t1) (fun _ => ?_)
          refine And.intro hg9.1.1 (And.intro (ck_row (sr_3_4 hs9) (sk_5 hs9) rfl (by omega) (by omega)) ?_)
          have eL : am_i h9 (am_r h9 3 4) (nI i).toNatClampNeg = lab i := by rw [sr_3_4 hs9, q_cl (by omega)]; exact hl9 i hi9
          refine And.intro (fun z => ?_) (fun z => ?_)
          · have z : lab i = nI t := eL.symm.trans z
            exact hK _ _ _ _ (skip fun q => q.2.2 z)
          · have z : lab i ≠ nI t := fun q => z (eL.trans q)
            refine And.intro (sk_86 hs9) (hC _ _ _ _ (c_consider (by decide) hs9 hg9 hc9 hl9 hst9 hok hi9 ht9 (fun h10 s10 h510 hst10 => ?_)))
            exact hK _ _ _ _ (next2 _ _ ⟨rfl, s9.tr s10, fun w => (h510 w).trans (h59 w), by rw [mvr, mv1, if_pos ⟨hTi, hTt, z⟩]; exact hst10⟩)
    · rintro L h9 ⟨rfl, s9, h59, hst9⟩
      have hg9 := hg.mv s9 (by decide) (by decide) (by decide)
      have eI : am_inc (nI i) (Int.ofNat 1) = nI (i + 1) := nI_1 i
      refine am_go (fun p => p == 17) (fun K cal Q' hK hC hQ => ?_)
      exact And.intro hg9.1.1 (And.intro (fun _ => hK _ _ _ _ (next _ _ ⟨_, by rw [← eI]; rfl, s9, h59, hst9⟩)) (fun z => absurd (q_le hg9.2.1.1 (by omega)) z))
  · rintro L h' ⟨v3, rfl, s, h5, hst⟩
    have hg' := hg.mv s (by decide) (by decide) (by decide)
    refine am_go (fun p => p == 17) (fun K cal Q' hK hC hQ => ?_)
    exact And.intro hg'.1.1 (And.intro (fun _ => And.intro trivial (hQ _ _ (HQ _ s h5 hst))) (fun z => absurd (q_le hg'.2.1.1 (by omega)) z))
  · rw [i_pi_k (by decide), i_pi_k (by decide)]; exact i_pi_at
  · rw [i_pi_k (by decide)]; exact i_pi_at
  · exact i_pi_at
/-- whether the best move improves -/
def mvi (m : Nat) (lo hi co : Nat → Nat) (lab : Nat → Int32) (o : mvT) : Bool := match o with
  | none => false
  | some q => decide (q.2.2 < sumE co (dif lo hi lab) m)
def mvl (lab : Nat → Int32) (o : mvT) : Nat → Int32 := match o with
  | none => lab
  | some q => setL lab q.1 q.2.1
set_option maxHeartbeats 4000000 in
theorem c_makeImprovement {xs : am_X} {d : Nat} {h : am_H} {n m T : Nat} {lo hi co : Nat → Nat} {lab : Nat → Int32} (hd : 5 ≤ d) (hs : sh h) (hg : cg h 3 n m T lo hi) (hc : cco h 3 m co) (hl : ∀ v, v < n → am_i h 5 v = lab v) {Q : am_Q}
    (HQ : ∀ h', sm [5, 86] h h' → (∀ v, v < n → am_i h' 5 v = if mvi m lo hi co lab (mva n m T lo hi co lab n) = true then mvl lab (mva n m T lo hi co lab n) v else lab v) → Q (.inl (some (.int (bI (mvi m lo hi co lab (mva n m T lo hi co lab n)))))) h') : am_C xs am_P0 d m_Mv_makeImprovement [.ref 86, .ref 3] h Q := by
  obtain ⟨⟨hk, -⟩, ⟨h0, h1, h2⟩, he, ⟨hn, hm, hT⟩, hw⟩ := id hg
  have hcl : ∀ e, e < m → co e ≤ 9999 := fun e he => (hc e he).2.2
  refine am_C_le hd (am_enter (d := 4) ap_Mv_makeImprovement rfl ?_) (fun _ _ k => k)
  refine am_go (fun _ => false) (fun K cal Q' hK hC hQ => ?_)
  refine And.intro (sk_86 hs) (hC _ _ _ _ (c_Mv_run (by decide) hs hg hc hl (fun h1' s h5 hst => ?_)))
  have hok := mva_ok (T := T) (lo := lo) (hi := hi) (lab := lab) hm hcl n (Nat.le_refl _)
  generalize mva n m T lo hi co lab n = o at HQ hst hok
  have hs1 := s.sh hs
  have hg1 := hg.mv s (by decide) (by decide) (by decide)
  have hc1 := hc.mv s (by decide)
  have hl1 : ∀ v, v < n → am_i h1' 5 v = lab v := fun v z => (h5 v).trans (hl v z)
  have hsc : sumE co (dif lo hi lab) m ≤ 20 * 9999 := Nat.le_trans (sumE_le hcl) (Nat.mul_le_mul_right _ hm)
  cases o with
  | none =>
    refine And.intro (sk_86 hs1) (And.intro (fun _ => And.intro (Or.inl rfl) (hQ _ _ (HQ _ s fun v z => ?_))) (fun z => absurd hst.1 z))
    exact (hl1 v z).trans (if_neg Bool.false_ne_true).symm
  | some q =>
    obtain ⟨q1, q2, q3⟩ := hok q rfl
    refine And.intro (sk_86 hs1) (And.intro (fun z => absurd (hst.1.symm.trans z) (nI_neg1 (by omega))) (fun _ => ?_))
    refine And.intro (sk_86 hs1) (And.intro (sk_3 hs1) (hC _ _ _ _ (c_presentCost (by decide) hg1 hc1 hl1 ?_)))
    have eC : am_i h1' 86 2 = nI q.2.2 := hst.2.2
    refine And.intro (fun z => ?_) (fun z => ?_)
    · have z : nI q.2.2 < nI (sumE co (dif lo hi lab) m) := by rw [← eC]; exact z
      have z := (nI_ltI (by omega) (by omega)).mp z
      have e9 : mvi m lo hi co lab (some q) = true := decide_eq_true z
      rw [e9] at HQ
      refine And.intro (sk_3 hs1) (And.intro (sk_86 hs1) (And.intro (sk_86 hs1) ?_))
      have eV : am_i h1' 86 0 = nI q.1 := hst.1
      have eT : am_i h1' 86 1 = nI q.2.1 := hst.2.1
      have e4 : am_r h1' 3 4 = 5 := sr_3_4 hs1
      refine And.intro (ck_row e4 (sk_5 hs1) eV (by omega) (by omega)) (And.intro (Or.inr rfl) (hQ _ _ ?_))
      show Q _ (am_pi h1' (am_r h1' 3 4) (am_i h1' 86 0).toNatClampNeg (am_i h1' 86 1))
      rw [e4, eV, eT, q_cl (by omega)]
      refine HQ _ (s.pi (by decide)) fun v z => ?_
      rw [if_pos rfl, i_pi_same]
      show _ = setL lab q.1 q.2.1 v
      unfold setL
      by_cases e : v = q.1
      · rw [if_pos e, if_pos e]
      · rw [if_neg e, if_neg e]; exact hl1 v z
    · have z : ¬ nI q.2.2 < nI (sumE co (dif lo hi lab) m) := by rw [← eC]; exact z
      have e9 : mvi m lo hi co lab (some q) = false := decide_eq_false fun r => z (nI_lt r (by omega))
      rw [e9] at HQ
      refine And.intro (Or.inl rfl) (hQ _ _ (HQ _ s fun v z => ?_))
      rw [if_neg (by decide)]
      exact hl1 v z

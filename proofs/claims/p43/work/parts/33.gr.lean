/-! GRAPH: reads -/
/-- the graph at a: its numbers and its edges -/
def cg (h : am_H) (a n m T : Nat) (lo hi : Nat → Nat) : Prop := gs h a ∧ (am_i h a 0 = nI n ∧ am_i h a 1 = nI m ∧ am_i h a 2 = nI T) ∧ (∀ e, e < m → am_i h (a + 3) e = nI (lo e) ∧ am_i h (a + 4) e = nI (hi e)) ∧ (n ≤ 9 ∧ m ≤ 20 ∧ T < 2 ^ n) ∧ ∀ e, e < m → lo e < hi e ∧ hi e < n
def cco (h : am_H) (a m : Nat) (co : Nat → Nat) : Prop := ∀ e, e < m → am_i h (a + 6) e = nI (co e) ∧ 1 ≤ co e ∧ co e ≤ 9999
set_option maxHeartbeats 4000000 in
theorem c_hasVertex {xs : am_X} {d : Nat} {h : am_H} {a n : Nat} (hd : 1 ≤ d) (hk : am_k h a = (1, 2)) (h0 : am_i h a 0 = nI n) (v : Int32) {Q : am_Q} (HQ : Q (.inl (some (.int (bI (decide (0 ≤ v ∧ v < nI n)))))) h) : am_C xs am_P0 d m_Gr_hasVertex [.ref a, .int v] h Q := by
  refine am_C_le hd (am_enter (d := 0) ap_Gr_hasVertex rfl ?_) (fun _ _ k => k)
  refine am_go (fun _ => false) (fun K cal Q' hK hC hQ => ?_)
  refine And.intro (fun c1 => ?_) (fun c1 => ?_)
  · refine And.intro (Or.inl rfl) (hQ _ _ ?_)
    have c1 : v < 0 := c1
    rw [show decide (0 ≤ v ∧ v < nI n) = false from decide_eq_false fun z => by have := z.1; rw [fa_le] at this; rw [fa_lt] at c1; omega] at HQ
    exact HQ
  · refine And.intro hk ?_
    refine And.intro (fun c2 => ?_) (fun c2 => ?_)
    · refine And.intro (Or.inl rfl) (hQ _ _ ?_)
      have c2 : am_i h a 0 ≤ v := c2
      rw [h0] at c2
      rw [show decide (0 ≤ v ∧ v < nI n) = false from decide_eq_false fun z => by have := z.2; rw [fa_le] at c2; rw [fa_lt] at this; omega] at HQ
      exact HQ
    · refine And.intro (Or.inr rfl) (hQ _ _ ?_)
      have c2 : ¬ am_i h a 0 ≤ v := c2
      have c1 : ¬ v < 0 := c1
      rw [h0] at c2
      rw [show decide (0 ≤ v ∧ v < nI n) = true from decide_eq_true ⟨by rw [fa_lt] at c1; rw [fa_le]; omega, by rw [fa_le] at c2; rw [fa_lt]; omega⟩] at HQ
      exact HQ
theorem q_range {n k : Nat} (hk : k < n) (hn : n < 1000) : decide (0 ≤ nI k ∧ nI k < nI n) = true := decide_eq_true ⟨nI_pos' (by omega), nI_lt hk (by omega)⟩
theorem q_range_of {n : Nat} {v : Int32} (hn : n < 1000) (h : decide (0 ≤ v ∧ v < nI n) = true) : ∃ k, k < n ∧ v = nI k := by
  have h := of_decide_eq_true h
  obtain ⟨j, hj, e⟩ := nI_of (x := v) (by have := h.1; rw [fa_le] at this; rw [fa_lt]; omega)
  refine ⟨j, ?_, e⟩
  have h2 := h.2
  rw [e] at h2
  exact (nI_ltI hj (by omega)).mp h2
/-- is a terminal: a number within, or not -/
def isT (n T : Nat) (v : Int32) : Bool := decide (0 ≤ v ∧ v < nI n) && T.testBit v.toNatClampNeg
theorem isT_nI {n T k : Nat} (hk : k < n) (hn : n < 1000) : isT n T (nI k) = T.testBit k := by unfold isT; rw [q_range hk hn, q_cl (by omega)]; rfl
set_option maxHeartbeats 4000000 in
theorem c_isTerminal {xs : am_X} {d : Nat} {h : am_H} {a n m T : Nat} {lo hi : Nat → Nat} (hd : 2 ≤ d) (hg : cg h a n m T lo hi) (v : Int32) {Q : am_Q} (HQ : Q (.inl (some (.int (bI (isT n T v))))) h) : am_C xs am_P0 d m_Gr_isTerminal [.ref a, .int v] h Q := by
  obtain ⟨⟨hk, -⟩, ⟨h0, h1, h2⟩, -, ⟨hn, hm, hT⟩, -⟩ := hg
  refine am_C_le hd (am_enter (d := 1) ap_Gr_isTerminal rfl ?_) (fun _ _ k => k)
  refine am_go (fun _ => false) (fun K cal Q' hK hC hQ => ?_)
  refine And.intro hk (hC _ _ _ _ (c_hasVertex (by decide) hk h0 v ?_))
  refine And.intro (fun c1 => ?_) (fun c1 => ?_)
  · refine And.intro (Or.inl rfl) (hQ _ _ ?_)
    have c1 := (bI_0 _).mp c1
    unfold isT at HQ
    rw [c1] at HQ
    exact HQ
  · have c1 : decide (0 ≤ v ∧ v < nI n) = true := by
      cases e : decide (0 ≤ v ∧ v < nI n) with
      | true => rfl
      | false => rw [e] at c1; exact absurd rfl c1
    obtain ⟨k, hk9, rfl⟩ := q_range_of (by omega) c1
    rw [isT_nI hk9 (by omega)] at HQ
    refine And.intro hk ?_
    have e1 : (am_i h a 2 >>> (nI k &&& 31)) &&& 1 = bI (T.testBit k) := by rw [h2]; exact q_bit (Nat.lt_of_lt_of_le hT (Nat.pow_le_pow_right (by decide) (by omega))) (by omega)
    refine And.intro (fun c2 => ?_) (fun c2 => ?_)
    · refine And.intro (Or.inl rfl) (hQ _ _ ?_)
      have c2 : bI (T.testBit k) = 0 := e1.symm.trans c2
      rw [(bI_0 _).mp c2] at HQ
      exact HQ
    · refine And.intro (Or.inr rfl) (hQ _ _ ?_)
      have c2 : ¬ bI (T.testBit k) = 0 := fun z => c2 (e1.trans z)
      cases e : T.testBit k with
      | true => rw [e] at HQ; exact HQ
      | false => rw [e] at c2; exact absurd rfl c2
set_option maxHeartbeats 4000000 in
theorem c_allVertices {xs : am_X} {d : Nat} {h : am_H} {a n : Nat} (hd : 1 ≤ d) (hk : am_k h a = (1, 2)) (h0 : am_i h a 0 = nI n) (hn : n ≤ 9) {Q : am_Q} (HQ : Q (.inl (some (.int (nI (2 ^ n - 1))))) h) : am_C xs am_P0 d m_Gr_allVertices [.ref a] h Q := by
  refine am_C_le hd (am_enter (d := 0) ap_Gr_allVertices rfl ?_) (fun _ _ k => k)
  refine am_go (fun _ => false) (fun K cal Q' hK hC hQ => ?_)
  refine And.intro hk ?_
  refine And.intro trivial (hQ _ _ ?_)
  have e : nI 1 <<< (am_i h a 0 &&& 31) - 1 = nI (2 ^ n - 1) := by
    rw [h0, q_shl n (by omega)]
    have := Nat.two_pow_pos n
    have e2 := nI_pred (2 ^ n - 1)
    rw [show 2 ^ n - 1 + 1 = 2 ^ n by omega] at e2
    exact e2
  rw [← e] at HQ
  exact HQ
/-- the edges with just one end in S; the cost of some edges; what an assignment cuts -/
def crs (lo hi : Nat → Nat) (S : Nat) (e : Nat) : Bool := S.testBit (lo e) != S.testBit (hi e)
def dif (lo hi : Nat → Nat) (lab : Nat → Int32) (e : Nat) : Bool := decide (lab (lo e) ≠ lab (hi e))
set_option maxHeartbeats 4000000 in
theorem c_endsOf {xs : am_X} {d : Nat} {h : am_H} {a n m T : Nat} {lo hi : Nat → Nat} (hd : 1 ≤ d) (hg : cg h a n m T lo hi) {e : Nat} (hlt : e < m) {Q : am_Q} (HQ : Q (.inl (some (.int (nI (2 ^ lo e ||| 2 ^ hi e))))) h) : am_C xs am_P0 d m_Gr_endsOf [.ref a, .int (nI e)] h Q := by
  obtain ⟨⟨hk, ⟨k1, k2, k3, k4, k5, k6⟩, r3, r4, r5, r6, r7, r8⟩, ⟨h0, h1, h2⟩, he, ⟨hn, hm, hT⟩, hw⟩ := hg
  obtain ⟨e1, e2⟩ := he e hlt
  obtain ⟨w1, w2⟩ := hw e hlt
  refine am_C_le hd (am_enter (d := 0) ap_Gr_endsOf rfl ?_) (fun _ _ k => k)
  refine am_go (fun _ => false) (fun K cal Q' hK hC hQ => ?_)
  refine And.intro hk (And.intro (ck_row r5 k3 rfl (by omega) (by omega)) ?_)
  refine And.intro hk (And.intro (ck_row r6 k4 rfl (by omega) (by omega)) ?_)
  refine And.intro trivial (hQ _ _ ?_)
  rw [r5, r6, q_cl (by omega), e1, e2, q_shl _ (by omega), q_shl _ (by omega), fa_or]
  exact HQ
set_option maxHeartbeats 4000000 in
theorem c_lengthOf {xs : am_X} {d : Nat} {h : am_H} {a n m T : Nat} {lo hi co : Nat → Nat} (hd : 1 ≤ d) (hg : cg h a n m T lo hi) (hc : cco h a m co) {e : Nat} (hlt : e < m) {Q : am_Q} (HQ : Q (.inl (some (.int (nI (10000 / co e))))) h) : am_C xs am_P0 d m_Gr_lengthOf [.ref a, .int (nI e)] h Q := by
  obtain ⟨⟨hk, ⟨k1, k2, k3, k4, k5, k6⟩, r3, r4, r5, r6, r7, r8⟩, ⟨h0, h1, h2⟩, he, ⟨hn, hm, hT⟩, hw⟩ := hg
  obtain ⟨e1, w1, w2⟩ := hc e hlt
  refine am_C_le hd (am_enter (d := 0) ap_Gr_lengthOf rfl ?_) (fun _ _ k => k)
  refine am_go (fun _ => false) (fun K cal Q' hK hC hQ => ?_)
  have eA : am_i h (am_r h a 8) (nI e).toNatClampNeg = nI (co e) := by rw [r8, q_cl (by omega), e1]
  refine And.intro hk (And.intro (ck_row r8 k6 rfl (by omega) (by omega)) ?_)
  refine And.intro (fun c => absurd c ?_) (fun c => ?_)
  · show ¬ am_i h (am_r h a 8) (nI e).toNatClampNeg ≤ 0
    rw [eA]
    exact nI_nle (by omega) (by omega)
  · refine And.intro hk (And.intro (ck_row r8 k6 rfl (by omega) (by omega)) (And.intro ?_ ?_))
    · show ¬ am_i h (am_r h a 8) (nI e).toNatClampNeg = 0
      rw [eA]
      exact nI_ne0 (by omega) (by omega)
    · refine And.intro trivial (hQ _ _ ?_)
      rw [eA, q_div (by omega) (by omega)]
      exact HQ
set_option maxHeartbeats 4000000 in
theorem c_borderOf {xs : am_X} {d : Nat} {h : am_H} {a n m T : Nat} {lo hi : Nat → Nat} (hd : 1 ≤ d) (hg : cg h a n m T lo hi) {S : Nat} (hS : S < 2 ^ 31) {Q : am_Q} (HQ : Q (.inl (some (.int (nI (cutm (crs lo hi S) m))))) h) : am_C xs am_P0 d m_Gr_borderOf [.ref a, .int (nI S)] h Q := by
  obtain ⟨⟨hk, ⟨k1, k2, k3, k4, k5, k6⟩, r3, r4, r5, r6, r7, r8⟩, ⟨h0, h1, h2⟩, he, ⟨hn, hm, hT⟩, hw⟩ := hg
  refine am_C_le hd (am_enter (d := 0) ap_Gr_borderOf rfl ?_) (fun _ _ k => k)
  refine am_go (fun p => p == 4) (fun K cal Q' hK hC hQ => hK _ _ _ _ ?_)
  refine am_for m (fun i L h' => h' = h ∧ L = [.ref a, .int (nI S), .int (nI (cutm (crs lo hi S) i)), .int (nI i)]) ?_ ?_ 0 (Nat.zero_le _) _ _ ⟨rfl, rfl⟩
  · rintro i hi9 L h' ⟨rfl, rfl⟩ next
    obtain ⟨e1, e2⟩ := he i hi9
    obtain ⟨w1, w2⟩ := hw i hi9
    refine am_go (fun p => p == 4) (fun K cal Q' hK hC hQ => ?_)
    refine And.intro hk (And.intro (fun c => absurd c (q_ge h1 hi9 (by omega))) (fun _ => ?_))
    refine And.intro hk (And.intro (ck_row r5 k3 rfl (by omega) (by omega)) ?_)
    refine And.intro hk (And.intro (ck_row r6 k4 rfl (by omega) (by omega)) ?_)
    have eA : (nI S >>> (am_i h' (am_r h' a 5) (nI i).toNatClampNeg &&& 31)) &&& 1 = bI (S.testBit (lo i)) := by rw [r5, q_cl (by omega), e1]; exact q_bit hS (by omega)
    have eB : (nI S >>> (am_i h' (am_r h' a 6) (nI i).toNatClampNeg &&& 31)) &&& 1 = bI (S.testBit (hi i)) := by rw [r6, q_cl (by omega), e2]; exact q_bit hS (by omega)
    refine And.intro (fun c => ?_) (fun c => ?_)
    · have c : bI (S.testBit (lo i)) = bI (S.testBit (hi i)) := eA.symm.trans (Eq.trans c eB)
      have e9 : cutm (crs lo hi S) (i + 1) = cutm (crs lo hi S) i := by
        have : crs lo hi S i = false := by unfold crs; rw [bI_inj c]; cases S.testBit (hi i) <;> rfl
        simp [cutm, this]
      exact hK _ _ _ _ (next _ _ ⟨rfl, by rw [e9, ← nI_1 i]; rfl⟩)
    · have c : ¬ bI (S.testBit (lo i)) = bI (S.testBit (hi i)) := fun z => c (Eq.trans eA (z.trans eB.symm))
      have e9 : cutm (crs lo hi S) (i + 1) = cutm (crs lo hi S) i ||| 2 ^ i := by
        have : crs lo hi S i = true := by
          unfold crs
          cases e8 : S.testBit (lo i) <;> cases e7 : S.testBit (hi i) <;> rw [e8, e7] at c <;> first | rfl | exact absurd rfl c
        simp [cutm, this]
      exact hK _ _ _ _ (next _ _ ⟨rfl, by rw [e9, ← nI_1 i, ← q_orb (by omega)]; rfl⟩)
  · rintro L h' ⟨rfl, rfl⟩
    refine am_go (fun p => p == 4) (fun K cal Q' hK hC hQ => ?_)
    exact And.intro hk (And.intro (fun _ => And.intro trivial (hQ _ _ HQ)) (fun c => absurd (q_le h1 (by omega)) c))
set_option maxHeartbeats 4000000 in
theorem c_costOfEdges {xs : am_X} {d : Nat} {h : am_H} {a n m T : Nat} {lo hi co : Nat → Nat} (hd : 1 ≤ d) (hg : cg h a n m T lo hi) (hc : cco h a m co) {E : Nat} (hE : E < 2 ^ 31) {Q : am_Q} (HQ : Q (.inl (some (.int (nI (sumE co E.testBit m))))) h) : am_C xs am_P0 d m_Gr_costOfEdges [.ref a, .int (nI E)] h Q := by
  obtain ⟨⟨hk, ⟨k1, k2, k3, k4, k5, k6⟩, r3, r4, r5, r6, r7, r8⟩, ⟨h0, h1, h2⟩, he, ⟨hn, hm, hT⟩, hw⟩ := hg
  refine am_C_le hd (am_enter (d := 0) ap_Gr_costOfEdges rfl ?_) (fun _ _ k => k)
  refine am_go (fun p => p == 4) (fun K cal Q' hK hC hQ => hK _ _ _ _ ?_)
  refine am_for m (fun i L h' => h' = h ∧ L = [.ref a, .int (nI E), .int (nI (sumE co E.testBit i)), .int (nI i)]) ?_ ?_ 0 (Nat.zero_le _) _ _ ⟨rfl, rfl⟩
  · rintro i hi9 L h' ⟨rfl, rfl⟩ next
    obtain ⟨e1, -⟩ := hc i hi9
    refine am_go (fun p => p == 4) (fun K cal Q' hK hC hQ => ?_)
    refine And.intro hk (And.intro (fun c => absurd c (q_ge h1 hi9 (by omega))) (fun _ => ?_))
    have eA : (nI E >>> (nI i &&& 31)) &&& 1 = bI (E.testBit i) := q_bit hE (by omega)
    refine And.intro (fun c => ?_) (fun c => ?_)
    · have c := (bI_0 _).mp (eA.symm.trans c)
      exact hK _ _ _ _ (next _ _ ⟨rfl, by rw [sumE_s, c, ← nI_1 i]; rfl⟩)
    · have c : E.testBit i = true := by
        cases e : E.testBit i with
        | true => rfl
        | false => rw [e] at eA; exact absurd eA c
      refine And.intro hk (And.intro (ck_row r8 k6 rfl (by omega) (by omega)) ?_)
      have eB : am_i h' (am_r h' a 8) (nI i).toNatClampNeg = nI (co i) := by rw [r8, q_cl (by omega), e1]
      exact hK _ _ _ _ (next _ _ ⟨rfl, by rw [sumE_s, c, if_pos rfl, ← nI_1 i, ← nI_add, ← eB]; rfl⟩)
  · rintro L h' ⟨rfl, rfl⟩
    refine am_go (fun p => p == 4) (fun K cal Q' hK hC hQ => ?_)
    exact And.intro hk (And.intro (fun _ => And.intro trivial (hQ _ _ HQ)) (fun c => absurd (q_le h1 (by omega)) c))
/-- the cut cost of a set -/
def cutc (m : Nat) (lo hi co : Nat → Nat) (S : Nat) : Nat := sumE co (crs lo hi S) m
theorem sumE_cutm (co : Nat → Nat) (p : Nat → Bool) (m : Nat) : sumE co (cutm p m).testBit m = sumE co p m := sumE_cong fun e he => by rw [cutm_bit]; simp [he]
theorem c_costOfSet {xs : am_X} {d : Nat} {h : am_H} {a n m T : Nat} {lo hi co : Nat → Nat} (hd : 2 ≤ d) (hg : cg h a n m T lo hi) (hc : cco h a m co) {S : Nat} (hS : S < 2 ^ 31) {Q : am_Q} (HQ : Q (.inl (some (.int (nI (cutc m lo hi co S))))) h) : am_C xs am_P0 d m_Gr_costOfSet [.ref a, .int (nI S)] h Q := by
  have hm := hg.2.2.2.1.2.1
  refine am_C_le hd (am_enter (d := 1) ap_Gr_costOfSet rfl ?_) (fun _ _ k => k)
  refine am_go (fun _ => false) (fun K cal Q' hK hC hQ => ?_)
  refine And.intro hg.1.1 (hC _ _ _ _ (c_borderOf (by decide) hg hS ?_))
  refine And.intro hg.1.1 (hC _ _ _ _ (c_costOfEdges (by decide) hg hc (cutm_lt31 _ hm) ?_))
  refine And.intro trivial (hQ _ _ ?_)
  rw [sumE_cutm]
  exact HQ
set_option maxHeartbeats 4000000 in
theorem c_presentCut {xs : am_X} {d : Nat} {h : am_H} {a n m T : Nat} {lo hi : Nat → Nat} {lab : Nat → Int32} (hd : 1 ≤ d) (hg : cg h a n m T lo hi) (hl : ∀ v, v < n → am_i h (a + 2) v = lab v) {Q : am_Q} (HQ : Q (.inl (some (.int (nI (cutm (dif lo hi lab) m))))) h) : am_C xs am_P0 d m_Gr_presentCut [.ref a] h Q := by
  obtain ⟨⟨hk, ⟨k1, k2, k3, k4, k5, k6⟩, r3, r4, r5, r6, r7, r8⟩, ⟨h0, h1, h2⟩, he, ⟨hn, hm, hT⟩, hw⟩ := hg
  refine am_C_le hd (am_enter (d := 0) ap_Gr_presentCut rfl ?_) (fun _ _ k => k)
  refine am_go (fun p => p == 4) (fun K cal Q' hK hC hQ => hK _ _ _ _ ?_)
  refine am_for m (fun i L h' => h' = h ∧ L = [.ref a, .int (nI (cutm (dif lo hi lab) i)), .int (nI i)]) ?_ ?_ 0 (Nat.zero_le _) _ _ ⟨rfl, rfl⟩
  · rintro i hi9 L h' ⟨rfl, rfl⟩ next
    obtain ⟨e1, e2⟩ := he i hi9
    obtain ⟨w1, w2⟩ := hw i hi9
    refine am_go (fun p => p == 4) (fun K cal Q' hK hC hQ => ?_)
    refine And.intro hk (And.intro (fun c => absurd c (q_ge h1 hi9 (by omega))) (fun _ => ?_))
    have eA : am_i h' (am_r h' a 5) (nI i).toNatClampNeg = nI (lo i) := by rw [r5, q_cl (by omega), e1]
    have eB : am_i h' (am_r h' a 6) (nI i).toNatClampNeg = nI (hi i) := by rw [r6, q_cl (by omega), e2]
    refine And.intro hk (And.intro hk (And.intro (ck_row r5 k3 rfl (by omega) (by omega)) ?_))
    refine And.intro (ck_row r4 k2 eA (by omega) (by omega)) ?_
    refine And.intro hk (And.intro hk (And.intro (ck_row r6 k4 rfl (by omega) (by omega)) ?_))
    refine And.intro (ck_row r4 k2 eB (by omega) (by omega)) ?_
    have eC : am_i h' (am_r h' a 4) (am_i h' (am_r h' a 5) (nI i).toNatClampNeg).toNatClampNeg = lab (lo i) := by rw [eA, r4, q_cl (by omega), hl _ (by omega)]
    have eD : am_i h' (am_r h' a 4) (am_i h' (am_r h' a 6) (nI i).toNatClampNeg).toNatClampNeg = lab (hi i) := by rw [eB, r4, q_cl (by omega), hl _ (by omega)]
    refine And.intro (fun c => ?_) (fun c => ?_)
    · have c : lab (lo i) = lab (hi i) := eC.symm.trans (Eq.trans c eD)
      have e9 : cutm (dif lo hi lab) (i + 1) = cutm (dif lo hi lab) i := by
        have : dif lo hi lab i = false := decide_eq_false fun z => z c
        simp [cutm, this]
      exact hK _ _ _ _ (next _ _ ⟨rfl, by rw [e9, ← nI_1 i]; rfl⟩)
    · have c : ¬ lab (lo i) = lab (hi i) := fun z => c (Eq.trans eC (z.trans eD.symm))
      have e9 : cutm (dif lo hi lab) (i + 1) = cutm (dif lo hi lab) i ||| 2 ^ i := by
        have : dif lo hi lab i = true := decide_eq_true c
        simp [cutm, this]
      exact hK _ _ _ _ (next _ _ ⟨rfl, by rw [e9, ← nI_1 i, ← q_orb (by omega)]; rfl⟩)
  · rintro L h' ⟨rfl, rfl⟩
    refine am_go (fun p => p == 4) (fun K cal Q' hK hC hQ => ?_)
    exact And.intro hk (And.intro (fun _ => And.intro trivial (hQ _ _ HQ)) (fun c => absurd (q_le h1 (by omega)) c))
theorem c_presentCost {xs : am_X} {d : Nat} {h : am_H} {a n m T : Nat} {lo hi co : Nat → Nat} {lab : Nat → Int32} (hd : 2 ≤ d) (hg : cg h a n m T lo hi) (hc : cco h a m co) (hl : ∀ v, v < n → am_i h (a + 2) v = lab v) {Q : am_Q} (HQ : Q (.inl (some (.int (nI (sumE co (dif lo hi lab) m))))) h) : am_C xs am_P0 d m_Gr_presentCost [.ref a] h Q := by
  have hm := hg.2.2.2.1.2.1
  refine am_C_le hd (am_enter (d := 1) ap_Gr_presentCost rfl ?_) (fun _ _ k => k)
  refine am_go (fun _ => false) (fun K cal Q' hK hC hQ => ?_)
  refine And.intro hg.1.1 (hC _ _ _ _ (c_presentCut (by decide) hg hl ?_))
  refine And.intro hg.1.1 (hC _ _ _ _ (c_costOfEdges (by decide) hg hc (cutm_lt31 _ hm) ?_))
  refine And.intro trivial (hQ _ _ ?_)
  rw [sumE_cutm]
  exact HQ
/-- whether an edge joins a and b -/
def joins (m : Nat) (lo hi : Nat → Nat) (u v : Nat) : Bool := decide (∃ e, e < m ∧ lo e = Nat.min u v ∧ hi e = Nat.max u v)
theorem q_ends {u v x y : Nat} (h1 : x < y) (h2 : u ≠ v) (h : 2 ^ x ||| 2 ^ y = 2 ^ u ||| 2 ^ v) : x = Nat.min u v ∧ y = Nat.max u v := by
  have k : ∀ i, (x = i ∨ y = i) ↔ (u = i ∨ v = i) := by
    intro i
    have := congrArg (fun z => Nat.testBit z i) h
    simp only [Nat.testBit_or, Nat.testBit_two_pow] at this
    constructor
    · intro z
      have : (decide (u = i) || decide (v = i)) = true := by rw [← this]; simpa using z
      simpa using this
    · intro z
      have : (decide (x = i) || decide (y = i)) = true := by rw [this]; simpa using z
      simpa using this
  have a1 := (k x).mp (Or.inl rfl)
  have a2 := (k y).mp (Or.inr rfl)
  have a3 := (k u).mpr (Or.inl rfl)
  have a4 := (k v).mpr (Or.inr rfl)
  show x = min u v ∧ y = max u v
  omega
set_option maxHeartbeats 4000000 in
theorem c_hasEdgeBetween {xs : am_X} {d : Nat} {h : am_H} {a n m T : Nat} {lo hi : Nat → Nat} (hd : 2 ≤ d) (hg : cg h a n m T lo hi) {u v : Nat} (hu : u < 9) (hv : v < 9) (huv : u ≠ v) {Q : am_Q} (HQ : Q (.inl (some (.int (bI (joins m lo hi u v))))) h) : am_C xs am_P0 d m_Gr_hasEdgeBetween [.ref a, .int (nI u), .int (nI v)] h Q := by
  have hg0 := hg
  obtain ⟨⟨hk, ⟨k1, k2, k3, k4, k5, k6⟩, r3, r4, r5, r6, r7, r8⟩, ⟨h0, h1, h2⟩, he, ⟨hn, hm, hT⟩, hw⟩ := hg
  refine am_C_le hd (am_enter (d := 1) ap_Gr_hasEdgeBetween rfl ?_) (fun _ _ k => k)
  refine am_go (fun p => p == 11) (fun K cal Q' hK hC hQ => hK _ _ _ _ ?_)
  have eX : (nI 1 <<< (nI u &&& 31)) ||| (nI 1 <<< (nI v &&& 31)) = nI (2 ^ u ||| 2 ^ v) := by rw [q_shl u (by omega), q_shl v (by omega), fa_or]
  have b2 : ∀ {x y : Nat}, x < 9 → y < 9 → 2 ^ x ||| 2 ^ y < 2 ^ 31 := fun {x y} hx hy => Nat.or_lt_two_pow (Nat.pow_lt_pow_right (by decide) (by omega)) (Nat.pow_lt_pow_right (by decide) (by omega))
  refine am_for m (fun i L h' => h' = h ∧ L = [.ref a, .int (nI u), .int (nI v), .int (nI (2 ^ u ||| 2 ^ v)), .int (nI i)] ∧ ∀ e, e < i → ¬ (lo e = Nat.min u v ∧ hi e = Nat.max u v)) ?_ ?_ 0 (Nat.zero_le _) _ _ ⟨rfl, by rw [← eX]; rfl, fun e he => absurd he (Nat.not_lt_zero _)⟩
  · rintro i hi9 L h' ⟨rfl, rfl, hno⟩ next
    obtain ⟨w1, w2⟩ := hw i hi9
    refine am_go (fun p => p == 11) (fun K cal Q' hK hC hQ => ?_)
    refine And.intro hk (And.intro (fun c => absurd c (q_ge h1 hi9 (by omega))) (fun _ => ?_))
    refine And.intro hk (hC _ _ _ _ (c_endsOf (by decide) hg0 hi9 ?_))
    refine And.intro (fun c => ?_) (fun c => ?_)
    · refine hK _ _ _ _ (next _ _ ⟨rfl, by rw [← nI_1 i]; rfl, fun e he2 => ?_⟩)
      by_cases z : e < i
      · exact hno e z
      · rintro ⟨q1, q2⟩
        refine c ?_
        rw [show e = i by omega] at q1 q2
        rw [q1, q2]
        show nI (2 ^ min u v ||| 2 ^ max u v) = nI (2 ^ u ||| 2 ^ v)
        congr 1
        rcases Nat.le_total u v with z9 | z9
        · rw [Nat.min_eq_left z9, Nat.max_eq_right z9]
        · rw [Nat.min_eq_right z9, Nat.max_eq_left z9, Nat.or_comm]
    · refine And.intro (Or.inr rfl) (hQ _ _ ?_)
      have c : nI (2 ^ lo i ||| 2 ^ hi i) = nI (2 ^ u ||| 2 ^ v) := Classical.not_not.mp c
      have c := (nI_eq (b2 (by omega) (by omega)) (b2 hu hv)).mp c
      rw [show joins m lo hi u v = true from decide_eq_true ⟨i, hi9, q_ends w1 huv c⟩] at HQ
      exact HQ
  · rintro L h' ⟨rfl, rfl, hno⟩
    refine am_go (fun p => p == 11) (fun K cal Q' hK hC hQ => ?_)
    refine And.intro hk (And.intro (fun _ => And.intro (Or.inl rfl) (hQ _ _ ?_)) (fun c => absurd (q_le h1 (by omega)) c))
    rw [show joins m lo hi u v = false from decide_eq_false fun ⟨e, z1, z2⟩ => hno e z1 z2] at HQ
    exact HQ

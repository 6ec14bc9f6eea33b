/-! THE LAW'S OWN MODEL, 1: its small methods, cuts and costs by the matrix -/
/-- the law's own object at 87, its matrix at 88, the rows behind it -/
def mlO (h : am_H) (n T : Nat) (C : Nat → Nat → Nat) : Prop := (am_i h 87 0 = nI n ∧ am_i h 87 1 = nI T) ∧ (n ≤ 6 ∧ T < 2 ^ n) ∧ ∀ a, a < 6 → ∀ b, b < 6 → am_i h (89 + a) b = nI (C a b) ∧ C a b ≤ 1000
def bd (x : Int32) (n : Nat) : Nat := (x &&& 2147483647).toNatClampNeg % n
def cel (xs : am_X) (k : Nat) : Int32 := if k < xs.1 then xs.2 k else 0
def lCut (n : Nat) (C : Nat → Nat → Nat) (S : Nat) : Nat := fb_sm (fun a => fb_sm (fun b => if S.testBit a && !S.testBit b then C a b else 0) n) n
def lCost (n : Nat) (C : Nat → Nat → Nat) (L : Nat → Int32) : Nat := fb_sm (fun a => fb_sm (fun b => if L a = L b then 0 else C a b) a) n
theorem bd_lt (x : Int32) {n : Nat} (h : 0 < n) : bd x n < n := Nat.mod_lt _ h
theorem lw_row {h : am_H} (hs : sh h) {a : Nat} (ha : a < 6) : am_r h 88 a = 89 + a := by
  rcases (show a = 0 ∨ a = 1 ∨ a = 2 ∨ a = 3 ∨ a = 4 ∨ a = 5 by omega) with rfl | rfl | rfl | rfl | rfl | rfl
  · exact sr_88_0 hs
  · exact sr_88_1 hs
  · exact sr_88_2 hs
  · exact sr_88_3 hs
  · exact sr_88_4 hs
  · exact sr_88_5 hs
theorem lw_rk {h : am_H} (hs : sh h) {a : Nat} (ha : a < 6) : am_k h (89 + a) = (2, 6) := by
  rcases (show a = 0 ∨ a = 1 ∨ a = 2 ∨ a = 3 ∨ a = 4 ∨ a = 5 by omega) with rfl | rfl | rfl | rfl | rfl | rfl
  · exact sk_89 hs
  · exact sk_90 hs
  · exact sk_91 hs
  · exact sk_92 hs
  · exact sk_93 hs
  · exact sk_94 hs
theorem lw_rr {h : am_H} (hs : sh h) {a : Nat} (ha : a < 6) : am_r h (am_r h 87 2) (nI a).toNatClampNeg = 89 + a := by rw [sr_87_2 hs, q_cl (by omega)]; exact lw_row hs ha
theorem ck_rows {h : am_H} (hs : sh h) {a : Nat} (ha : a < 6) : am_arr h (am_r h 87 2) 7 (nI a) := ck_row (sr_87_2 hs) (sk_88 hs) rfl ha (by omega)
theorem ck_rowe {h : am_H} (hs : sh h) {a b : Nat} (ha : a < 6) (hb : b < 6) : am_arr h (am_r h (am_r h 87 2) (nI a).toNatClampNeg) 2 (nI b) := ck_row (lw_rr hs ha) (lw_rk hs ha) rfl hb (by omega)
theorem mlO.at {h : am_H} {n T : Nat} {C : Nat → Nat → Nat} (m : mlO h n T C) (hs : sh h) {a b : Nat} (ha : a < 6) (hb : b < 6) : am_i h (am_r h (am_r h 87 2) (nI a).toNatClampNeg) (nI b).toNatClampNeg = nI (C a b) := by rw [lw_rr hs ha, q_cl (by omega)]; exact (m.2.2 a ha b hb).1
theorem lCut_le {n : Nat} {C : Nat → Nat → Nat} (hn : n ≤ 6) (hC : ∀ a, a < 6 → ∀ b, b < 6 → C a b ≤ 1000) (S i : Nat) (hi : i ≤ n) : fb_sm (fun a => fb_sm (fun b => if S.testBit a && !S.testBit b then C a b else 0) n) i ≤ 36000 := by
  refine Nat.le_trans (fb_sm_bound (c := 6000) fun a ha => ?_) (by omega)
  refine Nat.le_trans (fb_sm_bound (c := 1000) fun b hb => ?_) (by omega)
  have := hC a (by omega) b (by omega)
  split <;> omega
theorem lCost_le {n : Nat} {C : Nat → Nat → Nat} (hn : n ≤ 6) (hC : ∀ a, a < 6 → ∀ b, b < 6 → C a b ≤ 1000) (L : Nat → Int32) (i : Nat) (hi : i ≤ n) : fb_sm (fun a => fb_sm (fun b => if L a = L b then 0 else C a b) a) i ≤ 36000 := by
  refine Nat.le_trans (fb_sm_bound (c := 6000) fun a ha => ?_) (by omega)
  refine Nat.le_trans (fb_sm_bound (c := 1000) fun b hb => ?_) (by omega)
  have := hC a (by omega) b (by omega)
  split <;> omega
theorem vI_inj {a b : Int32} : (Value.int a = Value.int b) ↔ a = b := ⟨fun e => by cases e; rfl, fun e => by rw [e]⟩
section
variable {xs : am_X} {d : Nat} {h : am_H} {Q : am_Q} {n T : Nat} {C : Nat → Nat → Nat}
theorem c_La_in (hd : 1 ≤ d) {s v : Nat} (hs : s < 2 ^ 31) (hv : v < 31) (HQ : Q (.inl (some (.int (bI (s.testBit v))))) h) : am_C xs am_P0 d m_La_in [.int (nI s), .int (nI v)] h Q := by
  refine am_C_le hd (am_enter (d := 0) ap_La_in rfl ?_) (fun _ _ k => k)
  refine am_go (fun _ => false) (fun K cal Q' hK hC hQ => ?_)
  have e : (nI s >>> (nI v &&& 31)) &&& nI 1 = bI (s.testBit v) := q_bit hs hv
  refine And.intro (fun c => ?_) (fun c => ?_)
  · have c : ¬ (nI s >>> (nI v &&& 31)) &&& nI 1 = nI 1 := c
    rw [e] at c
    have : s.testBit v = false := by cases q : s.testBit v with
      | false => rfl
      | true => rw [q] at c; exact absurd rfl c
    rw [this] at HQ
    exact And.intro (Or.inl rfl) (hQ _ _ HQ)
  · have c : (nI s >>> (nI v &&& 31)) &&& nI 1 = nI 1 := Classical.not_not.mp c
    rw [e] at c
    have : s.testBit v = true := (bI_1 _).mp c
    rw [this] at HQ
    exact And.intro (Or.inr rfl) (hQ _ _ HQ)
theorem c_La_bound (hd : 1 ≤ d) {x : Int32} {m : Nat} (h0 : 0 < m) (hm : m < 1000) (HQ : Q (.inl (some (.int (nI (bd x m))))) h) : am_C xs am_P0 d m_La_bound [.int x, .int (nI m)] h Q := by
  refine am_C_le hd (am_enter (d := 0) ap_La_bound rfl ?_) (fun _ _ k => k)
  refine am_go (fun _ => false) (fun K cal Q' hK hC hQ => ?_)
  refine And.intro (nI_ne0 h0 (by omega)) (And.intro trivial (hQ _ _ ?_))
  show Q (.inl (some (.int ((x &&& nI 2147483647) - (x &&& nI 2147483647) / nI m * nI m)))) h
  obtain ⟨j, hj, ej⟩ := pk_andE x (m := nI 2147483647) 31 (by decide)
  have e2 : bd x m = j % m := by
    unfold bd
    rw [show x &&& 2147483647 = nI j from ej, q_cl hj]
  rw [ej, pk_rem hj h0 (by omega), ← e2]
  exact HQ
theorem c_La_cell (hd : 1 ≤ d) {k : Nat} (hk : k < 1000) (hx : xs.1 ≤ 1000) (HQ : Q (.inl (some (.int (cel xs k)))) h) : am_C xs am_P0 d m_La_cell [.ref am_scr, .int (nI k)] h Q := by
  refine am_C_le hd (am_enter (d := 0) ap_La_cell rfl ?_) (fun _ _ k => k)
  refine am_go (fun _ => false) (fun K cal Q' hK hC hQ => ?_)
  refine And.intro rfl (And.intro (fun c => ?_) (fun c => ?_))
  · have c : nI xs.1 ≤ nI k := c
    have c := (nI_leI (by omega) (by omega)).mp c
    unfold cel at HQ
    rw [if_neg (by omega)] at HQ
    exact And.intro trivial (hQ _ _ HQ)
  · have c : ¬ nI xs.1 ≤ nI k := c
    have c : k < xs.1 := Nat.not_le.mp fun q => c ((nI_leI (by omega) (by omega)).mpr q)
    unfold cel at HQ
    rw [if_pos c] at HQ
    refine And.intro ⟨rfl, vp_in_nI c (by omega)⟩ (And.intro trivial (hQ _ _ ?_))
    show Q (.inl (some (.int (xs.2 (nI k).toNatClampNeg)))) h
    rw [q_cl (by omega)]
    exact HQ
set_option maxHeartbeats 8000000 in
theorem c_La_cut (hd : 2 ≤ d) (hs : sh h) (m : mlO h n T C) {S : Nat} (hS : S < 2 ^ 31) (HQ : Q (.inl (some (.int (nI (lCut n C S))))) h) : am_C xs am_P0 d m_La_cut [.ref 87, .int (nI S)] h Q := by
  obtain ⟨⟨m0, m1⟩, ⟨hn, hT⟩, mC⟩ := id m
  have hk := sk_87 hs
  have hC1 : ∀ a, a < 6 → ∀ b, b < 6 → C a b ≤ 1000 := fun a ha b hb => (mC a ha b hb).2
  refine am_C_le hd (am_enter (d := 1) ap_La_cut rfl ?_) (fun _ _ k => k)
  refine am_go (fun p => p == 4) (fun K cal Q' hK hC hQ => hK _ _ _ _ ?_)
  refine am_for n (fun i L h' => h' = h ∧ ∃ v4, L = [.ref 87, .int (nI S), .int (nI (fb_sm (fun a => fb_sm (fun b => if S.testBit a && !S.testBit b then C a b else 0) n) i)), .int (nI i), v4]) ?_ ?_ 0 (Nat.zero_le _) _ _ ⟨rfl, _, rfl⟩
  · rintro i hi9 L h' ⟨rfl, v4, rfl⟩ next
    refine am_go (fun p => p == 15) (fun K cal Q' hK hC hQ => ?_)
    refine And.intro hk (And.intro (fun c => absurd c (q_ge m0 hi9 (by omega))) (fun _ => hK _ _ _ _ ?_))
    generalize hA : fb_sm (fun a => fb_sm (fun b => if S.testBit a && !S.testBit b then C a b else 0) n) i = A
    refine am_for n (fun j L h'' => h'' = h' ∧ L = [.ref 87, .int (nI S), .int (nI (A + fb_sm (fun b => if S.testBit i && !S.testBit b then C i b else 0) j)), .int (nI i), .int (nI j)]) ?_ ?_ 0 (Nat.zero_le _) _ _ ⟨rfl, rfl⟩
    · rintro j hj9 L h'' ⟨rfl, rfl⟩ next2
      refine am_go (fun p => p == 15 || p == 53) (fun K cal Q' hK hC hQ => ?_)
      -- behind the row
      have fin : ∀ x, (fb_sm (fun b => if S.testBit i && !S.testBit b then C i b else 0) (j + 1)) = x → am_W xs (am_code at_La_cut) (am_hd ah_La_cut) (am_C xs am_P0 1) Q 53 [.ref 87, .int (nI S), .int (nI (A + x)), .int (nI i), .int (nI j)] [] h'' := by
        intro x hx
        refine am_go (fun p => p == 15) (fun K cal Q' hK hC hQ => ?_)
        refine hK _ _ _ _ (next2 _ _ ⟨rfl, ?_⟩)
        rw [hx, ← nI_1 j]
        rfl
      refine And.intro hk (And.intro (fun c => absurd c (q_ge m0 hj9 (by omega))) (fun _ => ?_))
      refine And.intro trivial (hC _ _ _ _ (c_La_in (by decide) hS (by omega) ?_))
      refine And.intro (fun c => hK _ _ _ _ (fin _ ?_)) (fun c => ?_)
      · have c : S.testBit i = false := (bI_0 _).mp c
        rw [fb_sm_succ, if_neg (by rw [c]; exact Bool.false_ne_true)]
        rfl
      · have c : S.testBit i = true := by
          cases q : S.testBit i with
          | true => rfl
          | false => rw [q] at c; exact absurd rfl c
        refine And.intro trivial (hC _ _ _ _ (c_La_in (by decide) hS (by omega) ?_))
        refine And.intro (fun c2 => hK _ _ _ _ (fin _ ?_)) (fun c2 => ?_)
        · have c2 : S.testBit j = true := by
            cases q : S.testBit j with
            | true => rfl
            | false => rw [q] at c2; exact absurd rfl c2
          rw [fb_sm_succ, if_neg (by rw [c2]; cases S.testBit i <;> exact Bool.false_ne_true)]
          rfl
        · have c2 : S.testBit j = false := (bI_0 _).mp (Classical.not_not.mp c2)
          refine And.intro hk (And.intro (ck_rows hs (by omega)) (And.intro (ck_rowe hs (by omega) (by omega)) (hK _ _ _ _ ?_)))
          show am_W _ _ _ _ _ 53 [.ref 87, .int (nI S), .int (nI (A + fb_sm (fun b => if S.testBit i && !S.testBit b then C i b else 0) j) + am_i h'' (am_r h'' (am_r h'' 87 2) (nI i).toNatClampNeg) (nI j).toNatClampNeg), .int (nI i), .int (nI j)] [] h''
          rw [m.at hs (by omega) (by omega), nI_add, Nat.add_assoc]
          refine fin _ ?_
          rw [fb_sm_succ, if_pos (by rw [c, c2]; rfl)]
    · rintro L h'' ⟨rfl, rfl⟩
      refine am_go (fun p => p == 4) (fun K cal Q' hK hC hQ => ?_)
      refine And.intro hk (And.intro (fun _ => hK _ _ _ _ (next _ _ ⟨rfl, .int (nI n), ?_⟩)) (fun c => absurd (q_le m0 (by omega)) c))
      rw [fb_sm_succ, hA, ← nI_1 i]
      rfl
  · rintro L h' ⟨rfl, v4, rfl⟩
    refine am_go (fun p => p == 4) (fun K cal Q' hK hC hQ => ?_)
    exact And.intro hk (And.intro (fun _ => And.intro trivial (hQ _ _ HQ)) (fun c => absurd (q_le m0 (by omega)) c))
set_option maxHeartbeats 8000000 in
theorem c_La_cost (hd : 1 ≤ d) (hs : sh h) (m : mlO h n T C) {f q : Nat} {L : Nat → Int32} (kf : am_k h f = (2, q)) (hq : n ≤ q ∧ q < 1000) (hL : ∀ v, v < n → am_i h f v = L v) (HQ : Q (.inl (some (.int (nI (lCost n C L))))) h) : am_C xs am_P0 d m_La_cost [.ref 87, .ref f] h Q := by
  obtain ⟨⟨m0, m1⟩, ⟨hn, hT⟩, mC⟩ := id m
  have hk := sk_87 hs
  refine am_C_le hd (am_enter (d := 0) ap_La_cost rfl ?_) (fun _ _ k => k)
  refine am_go (fun p => p == 4) (fun K cal Q' hK hC hQ => hK _ _ _ _ ?_)
  refine am_for n (fun i L' h' => h' = h ∧ ∃ v4, L' = [.ref 87, .ref f, .int (nI (fb_sm (fun a => fb_sm (fun b => if L a = L b then 0 else C a b) a) i)), .int (nI i), v4]) ?_ ?_ 0 (Nat.zero_le _) _ _ ⟨rfl, _, rfl⟩
  · rintro i hi9 L' h' ⟨rfl, v4, rfl⟩ next
    refine am_go (fun p => p == 15) (fun K cal Q' hK hC hQ => ?_)
    refine And.intro hk (And.intro (fun c => absurd c (q_ge m0 hi9 (by omega))) (fun _ => hK _ _ _ _ ?_))
    generalize hA : fb_sm (fun a => fb_sm (fun b => if L a = L b then 0 else C a b) a) i = A
    refine am_for i (fun j L' h'' => h'' = h' ∧ L' = [.ref 87, .ref f, .int (nI (A + fb_sm (fun b => if L i = L b then 0 else C i b) j)), .int (nI i), .int (nI j)]) ?_ ?_ 0 (Nat.zero_le _) _ _ ⟨rfl, rfl⟩
    · rintro j hj9 L' h'' ⟨rfl, rfl⟩ next2
      refine am_go (fun p => p == 15 || p == 43) (fun K cal Q' hK hC hQ => ?_)
      have fin : ∀ x, (fb_sm (fun b => if L i = L b then 0 else C i b) (j + 1)) = x → am_W xs (am_code at_La_cost) (am_hd ah_La_cost) (am_C xs am_P0 0) Q 43 [.ref 87, .ref f, .int (nI (A + x)), .int (nI i), .int (nI j)] [] h'' := by
        intro x hx
        refine am_go (fun p => p == 15) (fun K cal Q' hK hC hQ => ?_)
        refine hK _ _ _ _ (next2 _ _ ⟨rfl, ?_⟩)
        rw [hx, ← nI_1 j]
        rfl
      refine And.intro (fun c => absurd (show nI i ≤ nI j from c) (nI_ge hj9 (by omega))) (fun _ => ?_)
      refine And.intro (ck_arr kf rfl (by omega) (by omega)) (And.intro (ck_arr kf rfl (by omega) (by omega)) ?_)
      have ei : am_i h'' f (nI i).toNatClampNeg = L i := by rw [q_cl (by omega)]; exact hL i hi9
      have ej : am_i h'' f (nI j).toNatClampNeg = L j := by rw [q_cl (by omega)]; exact hL j (by omega)
      refine And.intro (fun c => hK _ _ _ _ (fin _ ?_)) (fun c => ?_)
      · have c : L i = L j := ei.symm.trans (Eq.trans c ej)
        rw [fb_sm_succ, if_pos c]
        rfl
      · have c : ¬ L i = L j := fun z => c (ei.trans (z.trans ej.symm))
        refine And.intro hk (And.intro (ck_rows hs (by omega)) (And.intro (ck_rowe hs (by omega) (by omega)) (hK _ _ _ _ ?_)))
        show am_W _ _ _ _ _ 43 [.ref 87, .ref f, .int (nI (A + fb_sm (fun b => if L i = L b then 0 else C i b) j) + am_i h'' (am_r h'' (am_r h'' 87 2) (nI i).toNatClampNeg) (nI j).toNatClampNeg), .int (nI i), .int (nI j)] [] h''
        rw [m.at hs (by omega) (by omega), nI_add, Nat.add_assoc]
        refine fin _ ?_
        rw [fb_sm_succ, if_neg c]
    · rintro L' h'' ⟨rfl, rfl⟩
      refine am_go (fun p => p == 4) (fun K cal Q' hK hC hQ => ?_)
      refine And.intro (fun _ => hK _ _ _ _ (next _ _ ⟨rfl, .int (nI i), ?_⟩)) (fun c => absurd (show nI i ≤ nI i from nI_le (Nat.le_refl _) (by omega)) c)
      rw [fb_sm_succ, hA, ← nI_1 i]
      rfl
  · rintro L' h' ⟨rfl, v4, rfl⟩
    refine am_go (fun p => p == 4) (fun K cal Q' hK hC hQ => ?_)
    exact And.intro hk (And.intro (fun _ => And.intro trivial (hQ _ _ HQ)) (fun c => absurd (q_le m0 (by omega)) c))
end

/-! THE MODEL'S STATE; what arguments have to be -/
def MI (h : am_H) (st : stD) : Prop := ∃ w, mg h w st.1 ∧ (am_i h 87 4 = nI st.2.1.length ∧ st.2.1.length ≤ 8 ∧ ∀ j g, st.2.1[j]? = some g → mrow h (1472 * ((w + 8 - j) % 9)) g) ∧ (st.2.2.1.1 ≤ 700 ∧ am_i h 87 7 = nI st.2.2.1.1 ∧ ∀ k, k < st.2.2.1.1 → am_i h 90 k = nI (st.2.2.1.2 k) ∧ st.2.2.1.2 k < 256) ∧ am_i h 87 8 = st.2.2.2
abbrev mX : List Nat := [88, 89, 90, 91, 92, 93, 94, 95, 96, 97, 98, 99, 100, 101, 102, 103]
/-- what a call of the model leaves alone -/
def moF (h h' : am_H) : Prop := sm (87 :: mX) h h'
abbrev XQ : List Nat := [91, 92, 93, 94, 95, 96, 97, 98, 99, 100, 101, 102, 103]
abbrev KQ : List Nat := [0, 18, 22, 26, 27, 32, 33, 34]
/-- a question's trace -/
abbrev sfq (h h' : am_H) : Prop := sf XQ KQ h h'
def subl (X Y : List Nat) : Bool := X.all fun x => Y.any fun y => Nat.beq x y
theorem subl_x {X Y : List Nat} (h : subl X Y = true) : ∀ x, x ∈ X → x ∈ Y := fun x hx => by
  have := List.all_eq_true.mp h x hx
  obtain ⟨y, h1, h2⟩ := List.any_eq_true.mp this
  rw [Nat.eq_of_beq_eq_true h2]
  exact h1
theorem sfq_of {X K : List Nat} {h h' : am_H} (s : sf X K h h') (h1 : subl X XQ = true) (h2 : subl K KQ = true) : sfq h h' := sf_mo s (subl_x h1) (subl_x h2)
theorem sfq_m {h h' : am_H} {w : Nat} {g : gD} (s : sfq h h') (m : mg h w g) : mg h' w g := sf_mg s m rfl (by decide)
theorem sfq_I {h h' : am_H} {st : stD} (s : sfq h h') (I : MI h st) : MI h' st ∧ moF h h' := by
  obtain ⟨w, m, ⟨i1, i2, i3⟩, ⟨j1, j2, j3⟩, i4⟩ := I
  have e88 : ∀ k, am_i h' 88 k = am_i h 88 k := fun k => s.1.i (by decide) k
  refine ⟨⟨w, sfq_m s m, ⟨(s.2 4 (by decide)).trans i1, i2, fun j g z => mrow_mv (i3 j g z) e88⟩, ⟨j1, (s.2 7 (by decide)).trans j2, fun k hk => ⟨(s.1.i (by decide) k).trans (j3 k hk).1, (j3 k hk).2⟩⟩, (s.2 8 (by decide)).trans i4⟩, s.1.mo (subl_x (by decide))⟩
theorem sfq_thr {h h' : am_H} (s : sfq h h') (v : Int32) : sfq h (am_pi h' 87 0 v) := sf_pf s (by decide)
theorem q_vin {n : Nat} (hn : n < 2 ^ 30) {v : Int32} {b : Int64} (hb : b.toInt = (n : Int) - 1) : vin n v = decide ((lN 0).toInt ≤ v.toInt64.toInt ∧ v.toInt64.toInt ≤ b.toInt) := by
  have e0 : (lN 0).toInt = 0 := by decide +kernel
  have e1 : (0 : Int32).toInt = 0 := by decide
  unfold vin
  refine decide_eq_decide.mpr ?_
  rw [e0, hb, q_L, fa_le, fa_lt, e1, nI_toInt (by omega)]
  omega
theorem q_pr {n : Nat} (hn : n < 2 ^ 30) : ((nI n - nI 1).toInt64).toInt = (n : Int) - 1 := by
  rw [q_L, pk_sub_toInt hn (by decide)]
  rfl
theorem q_pr' {n : Nat} (h0 : 0 < n) (hn : n < 2 ^ 30) : ((nI (n - 1)).toInt64).toInt = (n : Int) - 1 := by
  rw [q_L, nI_toInt (by omega)]
  omega
section
variable {xs : am_X} {d : Nat} {h : am_H} {w : Nat} {g : gD} {Q : am_Q}
set_option maxHeartbeats 4000000 in
theorem w_isIn (hd : 1 ≤ d) {x a b : Int64} {p : Bool} (hp : p = decide (a.toInt ≤ x.toInt ∧ x.toInt ≤ b.toInt)) (HQ : Q (.inl (some (.int (bI p)))) h) : am_C xs am_P0 d m_Mo_isIn [.long x, .long a, .long b] h Q := by
  refine am_C_le hd (am_enter (d := 0) ap_Mo_isIn rfl ?_) (fun _ _ k => k)
  refine am_go (fun _ => false) (fun K cal Q' hK hC hQ => ?_)
  subst hp
  refine And.intro (fun c => ?_) (fun c => ?_)
  · have c : ¬ a.toInt ≤ x.toInt := fun z => absurd (lc_ge.mpr z) (fun q => (fa_of_lt (show lg_cmp x a < 0 from c)).2.1 q)
    rw [decide_eq_false fun z => c z.1] at HQ
    exact And.intro (Or.inl rfl) (hQ _ _ HQ)
  · have c : a.toInt ≤ x.toInt := lc_ge.mp (fa_of_nlt c)
    refine And.intro (fun c2 => ?_) (fun c2 => ?_)
    · have c2 : ¬ x.toInt ≤ b.toInt := fun z => absurd (lc_le.mpr z) (fun q => (fa_of_lt (show 0 < lg_cmp x b from c2)).2.1 q)
      rw [decide_eq_false fun z => c2 z.2] at HQ
      exact And.intro (Or.inl rfl) (hQ _ _ HQ)
    · have c2 : x.toInt ≤ b.toInt := lc_le.mp (fa_of_nlt c2)
      rw [decide_eq_true ⟨c, c2⟩] at HQ
      exact And.intro (Or.inr rfl) (hQ _ _ HQ)
set_option maxHeartbeats 4000000 in
theorem w_right (hd : 1 ≤ d) (hk : am_k h 87 = (1, 9)) (h0 : am_i h 87 0 = nI 0) {p : Bool} {c : Nat} (c0 : 0 < c) (c9 : c < 10) (H1 : p = true → Q (.inl (some (.int 1))) h) (H2 : p = false → Q (.inl (some (.int 0))) (am_pi h 87 0 (nI c))) : am_C xs am_P0 d m_Mo_right [.ref 87, .int (bI p), .int (nI c)] h Q := by
  refine am_C_le hd (am_enter (d := 0) ap_Mo_right rfl ?_) (fun _ _ k => k)
  refine am_go (fun _ => false) (fun K cal Q' hK hC hQ => ?_)
  refine And.intro hk (And.intro (fun z => absurd h0 z) (fun _ => ?_))
  cases p with
  | true =>
    refine And.intro (fun _ => ?_) (fun z => absurd q_t1 z)
    exact And.intro hk (And.intro (fun z => absurd h0 z) (fun _ => And.intro (Or.inr rfl) (hQ _ _ (H1 rfl))))
  | false =>
    refine And.intro (fun z => absurd rfl z) (fun _ => ?_)
    refine And.intro hk (And.intro hk ?_)
    have e : am_i (am_pi h 87 0 (nI c)) 87 0 = nI c := by rw [i_pi_same, if_pos rfl]
    refine And.intro (fun _ => And.intro (Or.inl rfl) (hQ _ _ (H2 rfl))) (fun z => absurd (e.symm.trans (Classical.not_not.mp z)) (nI_ne0 c0 (by omega)))
theorem w_isVertex (hd : 3 ≤ d) (m : mg h w g) (h0 : am_i h 87 0 = nI 0) {v : Int32} (H1 : ∀ k, k < gN g → v = nI k → Q (.inl (some (.int 1))) h) (H2 : vin (gN g) v = false → Q (.inl (some (.int 0))) (am_pi h 87 0 (nI 1))) : am_C xs am_P0 d m_Mo_isVertex [.ref 87, .int v] h Q := by
  have hn := mg_n9 m
  refine am_C_le hd (am_enter (d := 2) ap_Mo_isVertex rfl ?_) (fun _ _ k => k)
  refine am_go (fun _ => false) (fun K cal Q' hK hC hQ => ?_)
  refine And.intro (sk_87 m.1.1) (hC _ _ _ _ (w_count (by decide) m ?_))
  refine And.intro trivial (hC _ _ _ _ (w_isIn (by decide) (q_vin (n := gN g) (by omega) (q_pr (by omega))) ?_))
  refine And.intro (sk_87 m.1.1) (hC _ _ _ _ (w_right (by decide) (sk_87 m.1.1) h0 (by decide) (by decide) (fun e => ?_) (fun e => ?_)))
  · obtain ⟨k, k1, k2⟩ := q_range_of (by omega) e
    exact And.intro (Or.inr rfl) (hQ _ _ (H1 k k1 k2))
  · exact And.intro (Or.inl rfl) (hQ _ _ (H2 e))
theorem w_isEdge (hd : 3 ≤ d) (m : mg h w g) {v : Int32} (H1 : ∀ k, k < gM g → v = nI k → Q (.inl (some (.int 1))) (am_pi h 87 0 (nI 0))) (H2 : vin (gM g) v = false → Q (.inl (some (.int 0))) (am_pi (am_pi h 87 0 (nI 0)) 87 0 (nI 1))) : am_C xs am_P0 d m_Mo_isEdge [.ref 87, .int v] h Q := by
  have hm := mg_m20 m
  have m' : mg (am_pi h 87 0 (nI 0)) w g := sfq_m (sfq_thr sf_rf _) m
  refine am_C_le hd (am_enter (d := 2) ap_Mo_isEdge rfl ?_) (fun _ _ k => k)
  refine am_go (fun _ => false) (fun K cal Q' hK hC hQ => ?_)
  refine And.intro (sk_87 m.1.1) (And.intro (sk_87 m.1.1) (hC _ _ _ _ (w_edges (by decide) m' ?_)))
  refine And.intro trivial (hC _ _ _ _ (w_isIn (by decide) (q_vin (n := gM g) (by omega) (q_pr (by omega))) ?_))
  refine And.intro (sk_87 m.1.1) (hC _ _ _ _ (w_right (by decide) (sk_87 m'.1.1) (by rw [i_pi_same]; rfl) (by decide) (by decide) (fun e => ?_) (fun e => ?_)))
  · obtain ⟨k, k1, k2⟩ := q_range_of (by omega) e
    exact And.intro (Or.inr rfl) (hQ _ _ (H1 k k1 k2))
  · exact And.intro (Or.inl rfl) (hQ _ _ (H2 e))
theorem w_mustBe (hd : 3 ≤ d) (m : mg h w g) {v : Int32} (H1 : ∀ k, k < gN g → v = nI k → (gT g).testBit k = true → Q (.inl (some (.int 1))) (am_pi h 87 0 (nI 0))) (H2 : isT (gN g) (gT g) v = false → Q (.inl (some (.int 0))) (am_pi (am_pi h 87 0 (nI 0)) 87 0 (nI 1))) : am_C xs am_P0 d m_Mo_mustBe [.ref 87, .int v] h Q := by
  have hn := mg_n9 m
  have m' : mg (am_pi h 87 0 (nI 0)) w g := sfq_m (sfq_thr sf_rf _) m
  refine am_C_le hd (am_enter (d := 2) ap_Mo_mustBe rfl ?_) (fun _ _ k => k)
  refine am_go (fun _ => false) (fun K cal Q' hK hC hQ => ?_)
  refine And.intro (sk_87 m.1.1) (And.intro (sk_87 m.1.1) (hC _ _ _ _ (w_count (by decide) m' ?_)))
  refine And.intro trivial (hC _ _ _ _ (w_isIn (by decide) (q_vin (n := gN g) (by omega) (q_pr (by omega))) ?_))
  have e0 : am_i (am_pi h 87 0 (nI 0)) 87 0 = nI 0 := by rw [i_pi_same]; rfl
  have no : isT (gN g) (gT g) v = false → ∀ q : am_Q, q (.inl (some (.int 0))) (am_pi (am_pi h 87 0 (nI 0)) 87 0 (nI 1)) → cal m_Mo_right [.ref 87, .int (bI false), .int (nI 1)] (am_pi h 87 0 (nI 0)) q := fun e q hq => hC _ _ _ _ (w_right (by decide) (sk_87 m'.1.1) e0 (by decide) (by decide) (fun q => absurd q (by decide)) (fun _ => hq))
  cases e : vin (gN g) v with
  | false =>
    have e2 : isT (gN g) (gT g) v = false := by unfold isT; rw [show decide (0 ≤ v ∧ v < nI (gN g)) = false from e]; rfl
    exact And.intro (fun _ => And.intro (sk_87 m.1.1) (no e2 _ (And.intro (Or.inl rfl) (hQ _ _ (H2 e2))))) (fun z => absurd rfl z)
  | true =>
    obtain ⟨k, k1, k2⟩ := q_range_of (by omega) e
    refine And.intro (fun z => absurd z q_t1) (fun _ => ?_)
    refine And.intro (sk_87 m.1.1) ?_
    show cal m_Mo_isTerminal [.ref 87, .int v] (am_pi h 87 0 (nI 0)) _
    rw [k2]
    refine hC _ _ _ _ (w_isTerm (by decide) m' (by omega) ?_)
    cases e2 : (gT g).testBit k with
    | false => exact And.intro (fun _ => And.intro (sk_87 m.1.1) (no (by rw [k2, isT_nI k1 (by omega)]; exact e2) _ (And.intro (Or.inl rfl) (hQ _ _ (H2 (by rw [k2, isT_nI k1 (by omega)]; exact e2)))))) (fun z => absurd rfl z)
    | true => exact And.intro (fun z => absurd z q_t1) (fun _ => And.intro (sk_87 m.1.1) (hC _ _ _ _ (w_right (p := true) (by decide) (sk_87 m'.1.1) e0 (by decide) (by decide) (fun _ => And.intro (Or.inr rfl) (hQ _ _ (H1 k k1 k2 e2))) (fun q => absurd q (by decide)))))
theorem w_hasTerminal (hd : 2 ≤ d) (m : mg h w g) (H1 : gT g ≠ 0 → Q (.inl (some (.int 1))) (am_pi h 87 0 (nI 0))) (H2 : gT g = 0 → Q (.inl (some (.int 0))) (am_pi (am_pi h 87 0 (nI 0)) 87 0 (nI 1))) : am_C xs am_P0 d m_Mo_hasTerminal [.ref 87] h Q := by
  have m' : mg (am_pi h 87 0 (nI 0)) w g := sfq_m (sfq_thr sf_rf _) m
  have e0 : am_i (am_pi h 87 0 (nI 0)) 87 0 = nI 0 := by rw [i_pi_same]; rfl
  refine am_C_le hd (am_enter (d := 1) ap_Mo_hasTerminal rfl ?_) (fun _ _ k => k)
  refine am_go (fun _ => false) (fun K cal Q' hK hC hQ => ?_)
  refine And.intro (sk_87 m.1.1) (And.intro (sk_87 m.1.1) (hC _ _ _ _ (w_get (by decide) m'.1 (k := 2) rfl (by decide) m'.2.1.2.2.1 ?_)))
  refine And.intro (fun z => ?_) (fun z => ?_)
  · have z := (nI_eq (mg_T31 m) (by decide)).mp (show nI (gT g) = nI 0 from z)
    exact And.intro (sk_87 m.1.1) (hC _ _ _ _ (w_right (p := false) (by decide) (sk_87 m'.1.1) e0 (by decide) (by decide) (fun q => absurd q (by decide)) (fun _ => And.intro (Or.inl rfl) (hQ _ _ (H2 z)))))
  · have z : gT g ≠ 0 := fun q => z (by rw [q]; rfl)
    exact And.intro (sk_87 m.1.1) (hC _ _ _ _ (w_right (p := true) (by decide) (sk_87 m'.1.1) e0 (by decide) (by decide) (fun _ => And.intro (Or.inr rfl) (hQ _ _ (H1 z))) (fun q => absurd q (by decide))))
end

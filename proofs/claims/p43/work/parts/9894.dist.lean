/-! THE LAW'S OWN MODEL, 5: areDistances -/
theorem i_mul (h : am_H) (n k x : Nat) : am_i (am_mul h n k) x = if am_n h ≤ x ∧ x ≤ am_n h + n then (fun _ => 0) else am_i h x := rfl
theorem r_mul_ne {h : am_H} {n k x : Nat} (hx : x < am_n h) : am_r (am_mul h n k) x = am_r h x := by
  show (if x = am_n h then _ else if am_n h < x ∧ x ≤ am_n h + n then _ else h.2.2.2.1 x) = _
  rw [if_neg (by omega), if_neg (by omega)]
  rfl
theorem r_mul_at (h : am_H) (n k j : Nat) : am_r (am_mul h n k) (am_n h) j = if j < n then am_n h + 1 + j else 0 := by
  show (if am_n h = am_n h then (fun j => if j < n then am_n h + 1 + j else 0) else _) j = _
  rw [if_pos rfl]
/-- the law's rows of distances at f -/
def fro (h : am_H) (f n : Nat) : Prop := am_k h f = (7, n) ∧ ∀ a, a < n → am_r h f a = f + 1 + a ∧ am_k h (f + 1 + a) = (2, n)
/-- nothing but these rows' ints has changed -/
def fzr (f n : Nat) (h h' : am_H) : Prop := (am_n h' = am_n h ∧ am_cs h' = am_cs h) ∧ (∀ x, am_k h' x = am_k h x) ∧ (∀ x, am_r h' x = am_r h x) ∧ ∀ x, ¬ (f < x ∧ x ≤ f + n) → am_i h' x = am_i h x
theorem fzr.rf {f n : Nat} {h : am_H} : fzr f n h h := ⟨⟨rfl, rfl⟩, fun _ => rfl, fun _ => rfl, fun _ _ => rfl⟩
theorem fzr.pi {f n a k : Nat} {v : Int32} {h h1 : am_H} (s : fzr f n h h1) (ha : f < a ∧ a ≤ f + n) : fzr f n h (am_pi h1 a k v) := ⟨s.1, s.2.1, s.2.2.1, fun x hx => (i_pi_ne (fun e => hx (by rw [e]; exact ha))).trans (s.2.2.2 x hx)⟩
theorem fzr_fro {f n : Nat} {h h1 : am_H} (s : fzr f n h h1) (F : fro h f n) : fro h1 f n := ⟨(s.2.1 f).trans F.1, fun a ha => ⟨by rw [s.2.2.1]; exact (F.2 a ha).1, (s.2.1 _).trans (F.2 a ha).2⟩⟩
theorem fzr_sh {f n : Nat} {h h1 : am_H} (s : fzr f n h h1) (hs : sh h) : sh h1 := ⟨fun a ha => (s.2.1 a).trans (hs.1 a ha), fun q hq => by rw [s.2.2.1]; exact hs.2.1 q hq, by rw [s.1.1]; exact hs.2.2⟩
theorem fzr_ml {f n n' T : Nat} {C : Nat → Nat → Nat} {h h1 : am_H} (s : fzr f n h h1) (hf : 95 ≤ f) (m : mlO h n' T C) : mlO h1 n' T C := ⟨⟨by rw [s.2.2.2 87 (by omega)]; exact m.1.1, by rw [s.2.2.2 87 (by omega)]; exact m.1.2⟩, m.2.1, fun a ha b hb => by rw [s.2.2.2 (89 + a) (by omega)]; exact m.2.2 a ha b hb⟩
theorem fr_row {h : am_H} {f n a : Nat} (F : fro h f n) (ha : a < n) (hn : n < 1000) : am_r h f (nI a).toNatClampNeg = f + 1 + a := by rw [q_cl (by omega)]; exact (F.2 a ha).1
theorem ck_fr {h : am_H} {f n a : Nat} (F : fro h f n) (ha : a < n) (hn : n < 1000) : am_arr h f 7 (nI a) := ck_arr F.1 rfl ha (by omega)
theorem ck_fe {h : am_H} {f n a b : Nat} (F : fro h f n) (ha : a < n) (hb : b < n) (hn : n < 1000) : am_arr h (am_r h f (nI a).toNatClampNeg) 2 (nI b) := ck_row (fr_row F ha hn) (F.2 a ha).2 rfl hb (by omega)
/-- the rows hold M -/
def frM (h : am_H) (f n : Nat) (M : Nat → Nat → Nat) : Prop := ∀ a, a < n → ∀ b, b < n → am_i h (f + 1 + a) b = nI (M a b)
theorem frM_at {h : am_H} {f n a b : Nat} {M : Nat → Nat → Nat} (F : fro h f n) (hM : frM h f n M) (ha : a < n) (hb : b < n) (hn : n < 1000) : am_i h (am_r h f (nI a).toNatClampNeg) (nI b).toNatClampNeg = nI (M a b) := by rw [fr_row F ha hn, q_cl (by omega)]; exact hM a ha b hb
def mset (M : Nat → Nat → Nat) (a b x : Nat) : Nat → Nat → Nat := fun i j => if i = a ∧ j = b then x else M i j
theorem frM_set {h : am_H} {f n a b x : Nat} {M : Nat → Nat → Nat} (hM : frM h f n M) : frM (am_pi h (f + 1 + a) b (nI x)) f n (mset M a b x) := fun i hi j hj => by
  rw [i_pi]
  unfold mset
  by_cases e : i = a
  · subst e
    rw [if_pos rfl]
    by_cases e2 : j = b
    · rw [if_pos e2, if_pos ⟨rfl, e2⟩]
    · rw [if_neg e2, if_neg (fun z => e2 z.2)]; exact hM i hi j hj
  · rw [if_neg (by omega), if_neg (fun z => e z.1)]; exact hM i hi j hj
theorem frM_cg {h : am_H} {f n : Nat} {M N : Nat → Nat → Nat} (hM : frM h f n M) (e : ∀ a, a < n → ∀ b, b < n → M a b = N a b) : frM h f n N := fun a ha b hb => by rw [← e a ha b hb]; exact hM a ha b hb
/-- the first rows and the first entries of the next are of A, the others of B -/
def mix (A B : Nat → Nat → Nat) (i j : Nat) : Nat → Nat → Nat := fun a b => if a < i ∨ (a = i ∧ b < j) then A a b else B a b
theorem mix_next {A B : Nat → Nat → Nat} {i j a b : Nat} : mset (mix A B i j) i j (A i j) a b = mix A B i (j + 1) a b := by
  unfold mset mix
  by_cases e : a = i ∧ b = j
  · rw [if_pos e, if_pos (by omega), e.1, e.2]
  · rw [if_neg e]
    by_cases q : a < i ∨ (a = i ∧ b < j)
    · rw [if_pos q, if_pos (by omega)]
    · rw [if_neg q, if_neg (by omega)]
theorem mix_row {A B : Nat → Nat → Nat} {i n a b : Nat} (hb : b < n) : mix A B i n a b = mix A B (i + 1) 0 a b := by
  unfold mix
  by_cases q : a < i ∨ (a = i ∧ b < n)
  · rw [if_pos q, if_pos (by omega)]
  · rw [if_neg q, if_neg (by omega)]
theorem mix_0 {A B : Nat → Nat → Nat} {a b : Nat} : mix A B 0 0 a b = B a b := if_neg (by omega)
theorem mix_n {A B : Nat → Nat → Nat} {n a b : Nat} (ha : a < n) : mix A B n 0 a b = A a b := if_pos (Or.inl ha)
def oN (o : Option Nat) : Int32 := match o with
  | none => -nI 1
  | some s => nI s
section
variable {xs : am_X} {d : Nat} {h : am_H} {Q : am_Q} {n T f : Nat} {C : Nat → Nat → Nat} {st : stD}
set_option maxHeartbeats 8000000 in
theorem w_d1 (hs : sh h) (m : mlO h n T C) (hf : 95 ≤ f) (F : fro h f n) {v4 v5 : Value} (M0 : frM h f n (fun _ _ => 0))
    (K0 : ∀ h' v4, fzr f n h h' → frM h' f n (d0 C) → am_W xs (am_code at_La_areDistances) (am_hd ah_La_areDistances) (am_C xs am_P0 d) Q 93 [.ref 87, .ref 1, .ref f, .int (nI n), v4, v5] [] h') :
    am_W xs (am_code at_La_areDistances) (am_hd ah_La_areDistances) (am_C xs am_P0 d) Q 15 [.ref 87, .ref 1, .ref f, .int (nI 0), v4, v5] [] h := by
  have hn := m.2.1.1
  refine am_for n (fun i L h' => fzr f n h h' ∧ frM h' f n (mix (d0 C) (fun _ _ => 0) i 0) ∧ ∃ v4, L = [.ref 87, .ref 1, .ref f, .int (nI i), v4, v5]) ?_ ?_ 0 (Nat.zero_le _) _ _ ⟨fzr.rf, frM_cg M0 fun a _ b _ => (mix_0 (A := d0 C) (B := fun _ _ => 0)).symm, _, rfl⟩
  · rintro i hi9 L h' ⟨s, M, v4, rfl⟩ next
    have m' := fzr_ml s hf m
    have hk' := sk_87 (fzr_sh s hs)
    refine am_go (fun p => p == 26) (fun K cal Q' hK hC hQ => ?_)
    refine And.intro hk' (And.intro (fun c => absurd c (q_ge m'.1.1 hi9 (by omega))) (fun _ => hK _ _ _ _ ?_))
    refine am_for n (fun j L h'' => fzr f n h h'' ∧ frM h'' f n (mix (d0 C) (fun _ _ => 0) i j) ∧ L = [.ref 87, .ref 1, .ref f, .int (nI i), .int (nI j), v5]) ?_ ?_ 0 (Nat.zero_le _) _ _ ⟨s, M, rfl⟩
    · rintro j hj9 L h'' ⟨s2, M2, rfl⟩ next2
      have hs2 := fzr_sh s2 hs
      have m2 := fzr_ml s2 hf m
      have F2 := fzr_fro s2 F
      -- the store
      have put : am_W xs (am_code at_La_areDistances) (am_hd ah_La_areDistances) (am_C xs am_P0 d) Q 80 [.ref 87, .ref 1, .ref f, .int (nI i), .int (nI j), v5] [.int (nI (d0 C i j)), .int (nI j), .ref (am_r h'' f (nI i).toNatClampNeg)] h'' := by
        refine am_go (fun p => p == 26) (fun K cal Q' hK hC hQ => ?_)
        refine And.intro (ck_fe F2 hi9 hj9 (by omega)) (hK _ _ _ _ (next2 _ _ ?_))
        rw [fr_row F2 hi9 (by omega), q_cl (by omega)]
        refine ⟨s2.pi ⟨by omega, by omega⟩, frM_cg (frM_set M2) fun a _ b _ => mix_next, ?_⟩
        rw [← nI_1 j]
        rfl
      refine am_go (fun p => p == 80) (fun K cal Q' hK hC hQ => ?_)
      refine And.intro (sk_87 hs2) (And.intro (fun c => absurd c (q_ge m2.1.1 hj9 (by omega))) (fun _ => ?_))
      refine And.intro (ck_fr F2 hi9 (by omega)) (And.intro (fun c => ?_) (fun c => hK _ _ _ _ ?_))
      · have c : ¬ nI i = nI j := c
        have cij : i ≠ j := fun e => c (by rw [e])
        have eC := m2.at hs2 (show i < 6 by omega) (show j < 6 by omega)
        refine And.intro (sk_87 hs2) (And.intro (ck_rows hs2 (by omega)) (And.intro (ck_rowe hs2 (by omega) (by omega)) (And.intro (fun c2 => ?_) (fun c2 => hK _ _ _ _ ?_))))
        · have c2 : ¬ am_i h'' (am_r h'' (am_r h'' 87 2) (nI i).toNatClampNeg) (nI j).toNatClampNeg = 0 := c2
          rw [eC] at c2
          have c3 : C i j ≠ 0 := fun e => c2 (by rw [e]; rfl)
          refine And.intro (sk_87 hs2) (And.intro (ck_rows hs2 (by omega)) (And.intro (ck_rowe hs2 (by omega) (by omega)) (And.intro ?_ (hK _ _ _ _ ?_))))
          · show ¬ am_i h'' (am_r h'' (am_r h'' 87 2) (nI i).toNatClampNeg) (nI j).toNatClampNeg = 0
            rw [eC]
            exact c2
          · show am_W _ _ _ _ _ 80 _ [.int (nI 10000 / am_i h'' (am_r h'' (am_r h'' 87 2) (nI i).toNatClampNeg) (nI j).toNatClampNeg), .int (nI j), .ref (am_r h'' f (nI i).toNatClampNeg)] h''
            have hb := (m2.2.2 i (by omega) j (by omega)).2
            rw [eC, q_div (by decide) (by omega)]
            have e : d0 C i j = 10000 / C i j := by unfold d0; rw [if_neg cij, if_neg c3]
            rw [← e]
            exact put
        · have c2 : am_i h'' (am_r h'' (am_r h'' 87 2) (nI i).toNatClampNeg) (nI j).toNatClampNeg = 0 := Classical.not_not.mp c2
          rw [eC] at c2
          have hb := (m2.2.2 i (by omega) j (by omega)).2
          have c3 : C i j = 0 := (nI_eq (by omega) (by decide)).mp (show nI (C i j) = nI 0 from c2)
          have e : d0 C i j = 100000000 := by unfold d0; rw [if_neg cij, if_pos c3]
          rw [e] at put
          exact put
      · have c : nI i = nI j := Classical.not_not.mp c
        have c := (nI_eq (by omega) (by omega)).mp c
        have e : d0 C i j = 0 := if_pos c
        rw [e] at put
        exact put
    · rintro L h'' ⟨s2, M2, rfl⟩
      have hs2 := fzr_sh s2 hs
      have m2 := fzr_ml s2 hf m
      refine am_go (fun p => p == 15) (fun K cal Q' hK hC hQ => ?_)
      refine And.intro (sk_87 hs2) (And.intro (fun _ => hK _ _ _ _ (next _ _ ⟨s2, frM_cg M2 fun a _ b hb => mix_row hb, .int (nI n), ?_⟩)) (fun c => absurd (q_le m2.1.1 (by omega)) c))
      rw [← nI_1 i]
      rfl
  · rintro L h' ⟨s, M, v4, rfl⟩
    have m' := fzr_ml s hf m
    refine am_go (fun p => p == 93) (fun K cal Q' hK hC hQ => ?_)
    exact And.intro (sk_87 (fzr_sh s hs)) (And.intro (fun _ => hK _ _ _ _ (K0 h' v4 s (frM_cg M fun a ha b _ => mix_n ha))) (fun c => absurd (q_le m'.1.1 (by omega)) c))
set_option maxHeartbeats 8000000 in
theorem w_d2 (hs : sh h) (m : mlO h n T C) (hf : 95 ≤ f) (F : fro h f n) {v4 v5 : Value} (M0 : frM h f n (d0 C))
    (K0 : ∀ h' v4 v5, fzr f n h h' → frM h' f n (fwD C n) → am_W xs (am_code at_La_areDistances) (am_hd ah_La_areDistances) (am_C xs am_P0 d) Q 175 [.ref 87, .ref 1, .ref f, .int (nI n), v4, v5] [] h') :
    am_W xs (am_code at_La_areDistances) (am_hd ah_La_areDistances) (am_C xs am_P0 d) Q 95 [.ref 87, .ref 1, .ref f, .int (nI 0), v4, v5] [] h := by
  have hn := m.2.1.1
  refine am_for n (fun k L h' => fzr f n h h' ∧ frM h' f n (fwD C k) ∧ ∃ v4 v5, L = [.ref 87, .ref 1, .ref f, .int (nI k), v4, v5]) ?_ ?_ 0 (Nat.zero_le _) _ _ ⟨fzr.rf, M0, _, _, rfl⟩
  · rintro k hk9 L h0 ⟨s0, M0, v4, v5, rfl⟩ next0
    have m0' := fzr_ml s0 hf m
    refine am_go (fun p => p == 106) (fun K cal Q' hK hC hQ => ?_)
    refine And.intro (sk_87 (fzr_sh s0 hs)) (And.intro (fun c => absurd c (q_ge m0'.1.1 hk9 (by omega))) (fun _ => hK _ _ _ _ ?_))
    refine am_for n (fun i L h' => fzr f n h h' ∧ frM h' f n (mix (fwD C (k + 1)) (fwD C k) i 0) ∧ ∃ v5, L = [.ref 87, .ref 1, .ref f, .int (nI k), .int (nI i), v5]) ?_ ?_ 0 (Nat.zero_le _) _ _ ⟨s0, frM_cg M0 fun a _ b _ => mix_0.symm, _, rfl⟩
    · rintro i hi9 L h' ⟨s, M, v5, rfl⟩ next
      have m' := fzr_ml s hf m
      refine am_go (fun p => p == 118) (fun K cal Q' hK hC hQ => ?_)
      refine And.intro (sk_87 (fzr_sh s hs)) (And.intro (fun c => absurd c (q_ge m'.1.1 hi9 (by omega))) (fun _ => hK _ _ _ _ ?_))
      refine am_for n (fun j L h'' => fzr f n h h'' ∧ frM h'' f n (mix (fwD C (k + 1)) (fwD C k) i j) ∧ L = [.ref 87, .ref 1, .ref f, .int (nI k), .int (nI i), .int (nI j)]) ?_ ?_ 0 (Nat.zero_le _) _ _ ⟨s, M, rfl⟩
      · rintro j hj9 L h'' ⟨s2, M2, rfl⟩ next2
        have hs2 := fzr_sh s2 hs
        have m2 := fzr_ml s2 hf m
        have F2 := fzr_fro s2 F
        have eij : mix (fwD C (k + 1)) (fwD C k) i j i j = fwD C k i j := if_neg (by omega)
        have eik : mix (fwD C (k + 1)) (fwD C k) i j i k = fwD C k i k := by
          unfold mix
          split
          · exact fw_col C k i
          · rfl
        have ekj : mix (fwD C (k + 1)) (fwD C k) i j k j = fwD C k k j := by
          unfold mix
          split
          · exact fw_row C k j
          · rfl
        have b1 := fw_leI C k i j
        have b2 := fw_leI C k i k
        have b3 := fw_leI C k k j
        have b0 : FI = 100000000 := rfl
        refine am_go (fun p => p == 118) (fun K cal Q' hK hC hQ => ?_)
        refine And.intro (sk_87 hs2) (And.intro (fun c => absurd c (q_ge m2.1.1 hj9 (by omega))) (fun _ => ?_))
        refine And.intro (ck_fr F2 hi9 (by omega)) (And.intro (ck_fr F2 hi9 (by omega)) (And.intro (ck_fe F2 hi9 hj9 (by omega)) (And.intro (ck_fr F2 hi9 (by omega)) (And.intro (ck_fe F2 hi9 hk9 (by omega)) (And.intro (ck_fr F2 hk9 (by omega)) (And.intro (ck_fe F2 hk9 hj9 (by omega)) (And.intro (ck_fe F2 hi9 hj9 (by omega)) (hK _ _ _ _ (next2 _ _ ?_)))))))))
        have eV : (if am_i h'' (am_r h'' f (nI i).toNatClampNeg) (nI k).toNatClampNeg + am_i h'' (am_r h'' f (nI k).toNatClampNeg) (nI j).toNatClampNeg < am_i h'' (am_r h'' f (nI i).toNatClampNeg) (nI j).toNatClampNeg then am_i h'' (am_r h'' f (nI i).toNatClampNeg) (nI k).toNatClampNeg + am_i h'' (am_r h'' f (nI k).toNatClampNeg) (nI j).toNatClampNeg else am_i h'' (am_r h'' f (nI i).toNatClampNeg) (nI j).toNatClampNeg) = nI (fwD C (k + 1) i j) := by
          rw [frM_at F2 M2 hi9 hj9 (by omega), frM_at F2 M2 hi9 hk9 (by omega), frM_at F2 M2 hk9 hj9 (by omega), eij, eik, ekj, nI_add]
          show _ = nI (if fwD C k i k + fwD C k k j < fwD C k i j then fwD C k i k + fwD C k k j else fwD C k i j)
          by_cases q : fwD C k i k + fwD C k k j < fwD C k i j
          · rw [if_pos q, if_pos (nI_lt q (by omega))]
          · rw [if_neg q, if_neg (nI_nlt (by omega) (by omega))]
        show fzr f n h (am_pi h'' (am_r h'' f (nI i).toNatClampNeg) (nI j).toNatClampNeg (if am_i h'' (am_r h'' f (nI i).toNatClampNeg) (nI k).toNatClampNeg + am_i h'' (am_r h'' f (nI k).toNatClampNeg) (nI j).toNatClampNeg < am_i h'' (am_r h'' f (nI i).toNatClampNeg) (nI j).toNatClampNeg then am_i h'' (am_r h'' f (nI i).toNatClampNeg) (nI k).toNatClampNeg + am_i h'' (am_r h'' f (nI k).toNatClampNeg) (nI j).toNatClampNeg else am_i h'' (am_r h'' f (nI i).toNatClampNeg) (nI j).toNatClampNeg)) ∧ frM (am_pi h'' (am_r h'' f (nI i).toNatClampNeg) (nI j).toNatClampNeg (if am_i h'' (am_r h'' f (nI i).toNatClampNeg) (nI k).toNatClampNeg + am_i h'' (am_r h'' f (nI k).toNatClampNeg) (nI j).toNatClampNeg < am_i h'' (am_r h'' f (nI i).toNatClampNeg) (nI j).toNatClampNeg then am_i h'' (am_r h'' f (nI i).toNatClampNeg) (nI k).toNatClampNeg + am_i h'' (am_r h'' f (nI k).toNatClampNeg) (nI j).toNatClampNeg else am_i h'' (am_r h'' f (nI i).toNatClampNeg) (nI j).toNatClampNeg)) f n _ ∧ _
        rw [eV, fr_row F2 hi9 (by omega), q_cl (by omega)]
        refine ⟨s2.pi ⟨by omega, by omega⟩, frM_cg (frM_set M2) fun a _ b _ => mix_next, ?_⟩
        rw [← nI_1 j]
        rfl
      · rintro L h'' ⟨s2, M2, rfl⟩
        have hs2 := fzr_sh s2 hs
        have m2 := fzr_ml s2 hf m
        refine am_go (fun p => p == 106) (fun K cal Q' hK hC hQ => ?_)
        refine And.intro (sk_87 hs2) (And.intro (fun _ => hK _ _ _ _ (next _ _ ⟨s2, frM_cg M2 fun a _ b hb => mix_row hb, .int (nI n), ?_⟩)) (fun c => absurd (q_le m2.1.1 (by omega)) c))
        rw [← nI_1 i]
        rfl
    · rintro L h' ⟨s, M, v5, rfl⟩
      have hs2 := fzr_sh s hs
      have m2 := fzr_ml s hf m
      refine am_go (fun p => p == 95) (fun K cal Q' hK hC hQ => ?_)
      refine And.intro (sk_87 hs2) (And.intro (fun _ => hK _ _ _ _ (next0 _ _ ⟨s, frM_cg M fun a ha b hb => mix_n ha, .int (nI n), v5, ?_⟩)) (fun c => absurd (q_le m2.1.1 (by omega)) c))
      rw [← nI_1 k]
      rfl
  · rintro L h' ⟨s, M, v4, v5, rfl⟩
    have m' := fzr_ml s hf m
    refine am_go (fun p => p == 175) (fun K cal Q' hK hC hQ => ?_)
    exact And.intro (sk_87 (fzr_sh s hs)) (And.intro (fun _ => hK _ _ _ _ (K0 h' v4 v5 s M)) (fun c => absurd (q_le m'.1.1 (by omega)) c))
end

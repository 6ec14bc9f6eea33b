/-! THE ENTRY: what the Statement gives of the start; the law's walk closed -/
abbrev st_nar : Cond := Jvm.Cond.and given_1 narrow_1
def st_ix (j : Nat) : Nat := match j with
  | 0 => 103
  | 1 => 114
  | 2 => 119
  | 3 => 124
  | 4 => 129
  | 5 => 170
  | 6 => 172
  | _ => 174
abbrev st_tm (j : Nat) : Term := .string "MultiwayCut$SetupReader" (st_ix j)
abbrev st_val (j : Nat) : Term := .field (st_tm j) "java/lang/String" "value" "[B"
theorem st_sl : ∀ q ∈ am_sl_, Cond.stringRef (am_cn q.1) q.2.1 (am_txt q.2.2) ∈ lw_tbl := by decide +kernel
theorem st_xl : ∀ q ∈ am_xl_, Cond.stringRef (am_cn q.1) q.2.2.1 q.2.2.2.2.2 ∈ lw_tbl := by decide +kernel
theorem st_se : ∀ q ∈ am_sl_, q.2.2 < 8 ∧ (Term.string (am_cn q.1) q.2.1 = st_tm q.2.2 ∨ Cond.eq (st_tm q.2.2) (Term.string (am_cn q.1) q.2.1) ∈ flatC st_nar) := by decide +kernel
theorem st_xe : ∀ q ∈ am_xl_, Cond.exactly (Term.string (am_cn q.1) q.2.2.1) "java/lang/String" ∈ flatC st_nar := by decide +kernel
theorem st_ex : ∀ j, j < 8 → Cond.exactly (st_tm j) "java/lang/String" ∈ flatC st_nar ∧ Cond.eq (.field (st_tm j) "java/lang/String" "coder" "B") (.int 0) ∈ flatC st_nar ∧ Cond.arrayOf (st_val j) .byte ∈ flatC st_nar ∧ Cond.eq (.length (st_val j)) (.int (Int32.ofNat (am_strs.getD j []).length)) ∈ flatC st_nar := by decide +kernel
theorem st_el : ∀ j, j < 8 → ∀ i, i < (am_strs.getD j []).length → Cond.eq (.elem (st_val j) (.int (Int32.ofNat i))) (.int (nI ((am_strs.getD j []).getD i 0))) ∈ flatC st_nar := by decide +kernel
theorem st_nc : ∀ a, a < 4 → ∀ b, b < 4 → (a = 0 ∨ b = 0 ∨ a = b) ∨ Cond.not (.castable (am_ex a) (am_ex b)) ∈ flatC st_nar := by decide +kernel
theorem st_len : ∀ j, j < 8 → (am_strs.getD j []).length < 2 ^ 31 := by decide +kernel
theorem st_eq {args : Array Value} {s : State} {t u : Term} {a : Nat} (h : (Cond.eq t u).before args s = true) (ht : t.eval args s none [] s = some (.ref a)) : u.eval args s none [] s = some (.ref a) := by
  cases hu : u.eval args s none [] s with
  | none => simp [Cond.before, Cond.holds, Cond.value, ht, hu] at h
  | some w =>
    simp only [Cond.before, Cond.holds, Cond.value, ht, hu] at h
    cases w <;> simp_all
set_option maxHeartbeats 4000000 in
theorem st_strs {args : Array Value} {s : State} {A : Nat → Prop} (hs : ∀ c ∈ flatC st_nar, c.before args s = true) (hA : ∀ a : Nat, a < s.heap.size → ¬ A a) :
    ∃ ad : Nat → Nat, ∀ j, j < 8 → (st_tm j).eval args s none [] s = some (.ref (ad j)) ∧ ∃ v, am_ST1 (ad j) v (am_strs.getD j []) A s s.heap := by
  have h0 : ∀ j : Nat, ∃ q : Nat, j < 8 → (st_tm j).eval args s none [] s = some (.ref q) ∧ ∃ v, am_ST1 q v (am_strs.getD j []) A s s.heap := by
    intro j
    by_cases hj : j < 8
    · obtain ⟨e1, e2, e3, e4⟩ := st_ex j hj
      obtain ⟨a, c, cA, kA, q1, q2, q3, q4, q5, q6, -⟩ := Cond.exactly_spec (args := args) (first := s) (o := none) (s := s) (idx := []) (t := st_tm j) (cls := "java/lang/String") (hs _ e1)
      obtain ⟨t, ht, hT⟩ := va_Tof (f := fun i => .int (nI ((am_strs.getD j []).getD i 0))) (A := A) (st_len j hj) (hs _ e3) (va_eqt (hs _ e4)) (fun i hi => va_eqt (hs _ (st_el j hj i hi))) hA
      exact ⟨a, fun _ => ⟨q1, t, ⟨cA, q3, q5, by rw [q6]; exact q2, hA a (Array.getElem?_eq_some_iff.mp q3).1⟩, vk_OFof q1 (va_eqt (hs _ e2)) hA, vk_OFof q1 ht hA, hT⟩⟩
    · exact ⟨0, fun h => absurd h hj⟩
  obtain ⟨ad, had⟩ := Classical.axiomOfChoice h0
  exact ⟨ad, fun j hj => had j hj⟩
theorem st_cls {args : Array Value} {s : State} (hts : ∀ w ∈ lw_tbl, w.before args s = true) : ∃ (dC : Nat → ClassId) (dI : Nat → Nat → Nat), ∀ (k : Nat) (q : vw_C), am_cl[k]? = some q → u_Kn s q.1 q.2.1 q.2.2 (dC k) (dI k) := by
  have h0 : ∀ k : Nat, ∃ x : ClassId × (Nat → Nat), k < 10 → u_Kn s (am_cn k) (am_tf k) (am_nf k) x.1 x.2 := by
    intro k
    by_cases hk : k < 10
    · obtain ⟨g1, g2, g3, -⟩ := am_ci_ok k hk
      obtain ⟨c, i, h⟩ := u_known hts (fun w hw => (g3 w hw).1) (hts _ g1)
      exact ⟨(c, i), fun _ => h⟩
    · exact ⟨(0, fun _ => 0), fun h => absurd h hk⟩
  obtain ⟨f, hf⟩ := Classical.axiomOfChoice h0
  refine ⟨fun k => (f k).1, fun k => (f k).2, fun k q hq => ?_⟩
  have hk : k < 10 := (List.getElem?_eq_some_iff.mp hq).1
  have e := (am_ci_ok k hk).2.2.2
  cases hq.symm.trans e
  exact hf k hk
theorem st_arr {args : Array Value} {s : State} {ty : FieldType} (h : (Cond.arrayClass ty).before args s = true) (hp : ty = .int ∨ ty = .byte ∨ ty = .boolean ∨ ty = .long) : ∃ cA : ClassId, ArrOfT s cA ty ∧ va_RA s cA ty := by
  obtain ⟨cA, kA, comp, h1, h2, h3⟩ := Cond.arrayClass_spec h
  refine ⟨cA, fun n z => ⟨fun k h => (by cases h), kA, h2, comp, h3⟩, ?_⟩
  rcases hp with rfl | rfl | rfl | rfl <;> exact h1
theorem st_arrO {args : Array Value} {s : State} {C : String} (h : (Cond.arrayOver (.object C)).before args s = true) : ∃ cA : ClassId, ArrOfT s cA (.object C) ∧ va_RA s cA (.object C) := by
  obtain ⟨comp, cA, kA, f4, f0, f2, f3, f1⟩ := Cond.arrayOver_spec h
  exact ⟨cA, fun N z => ⟨(fun k h => by cases h), kA, f2, comp, f3⟩, kA, comp, f2, f3, f4, f1⟩
set_option maxHeartbeats 4000000 in
theorem st_SF {args : Array Value} {s : State} {b L : Nat} {xs : Nat → Int32} (hts : ∀ w ∈ lw_tbl, w.before args s = true) (hgv : st_nar.before args s = true) (hX : va_X b L xs s s.heap) (hbl : b < s.heap.size) :
    ∃ G : am_G, G.2.2.2.2.2 = b ∧ G.2.2.1 + 1 = s.heap.size ∧ am_SF G (L, xs) s := by
  have hs := flat_of_before _ hgv
  have hA : ∀ a : Nat, a < s.heap.size → ¬ (fun q : Nat => s.heap.size - 1 + 1 ≤ q) a := fun a h z => by
    have z : s.heap.size - 1 + 1 ≤ a := z
    omega
  obtain ⟨ad, had⟩ := st_strs (A := fun q : Nat => s.heap.size - 1 + 1 ≤ q) hs hA
  obtain ⟨dC, dI, hK⟩ := st_cls hts
  obtain ⟨c2, a2⟩ := st_arr (hts (.arrayClass .int) (by decide +kernel)) (Or.inl rfl)
  obtain ⟨c3, a3⟩ := st_arr (hts (.arrayClass .byte) (by decide +kernel)) (Or.inr (Or.inl rfl))
  obtain ⟨c4, a4⟩ := st_arr (hts (.arrayClass .boolean) (by decide +kernel)) (Or.inr (Or.inr (Or.inl rfl)))
  obtain ⟨c5, a5⟩ := st_arr (hts (.arrayClass .long) (by decide +kernel)) (Or.inr (Or.inr (Or.inr rfl)))
  have hov := hts (.arrayOver (.object "MultiwayCut$Graph")) (by decide +kernel)
  obtain ⟨c6, a6⟩ := st_arrO hov
  obtain ⟨dA, hdA⟩ : ∃ dA : Nat → ClassId, dA 2 = c2 ∧ dA 3 = c3 ∧ dA 4 = c4 ∧ dA 5 = c5 ∧ dA 6 = c6 := ⟨fun k => if k = 2 then c2 else if k = 3 then c3 else if k = 4 then c4 else if k = 5 then c5 else c6, rfl, rfl, rfl, rfl, rfl⟩
  obtain ⟨rfl, rfl, rfl, rfl, rfl⟩ := hdA
  refine ⟨((dC, dI), dA, s.heap.size - 1, ad, fun _ => 0, b), rfl, by show s.heap.size - 1 + 1 = s.heap.size; omega, ⟨hK, ?_⟩, ?_, ?_, hX, ?_, ?_, va_AO.of hov, ?_, ?_, ?_, ?_, ?_⟩
  · intro k q hq
    match k, hq with
    | 0, hq => cases hq; exact a2
    | 1, hq => cases hq; exact a3
    | 2, hq => cases hq; exact a4
    | 3, hq => cases hq; exact a5
    | 4, hq => cases hq; exact a6
    | k + 5, hq => simp at hq
  · intro q hq
    obtain ⟨h8, h9⟩ := st_se q hq
    refine vk_R.of (hts _ (st_sl q hq)) ?_
    rcases h9 with h9 | h9
    · rw [h9]
      exact (had _ h8).1
    · exact st_eq (hs _ h9) (had _ h8).1
  · intro q hq
    obtain ⟨a, c, cA, kA, q1, -⟩ := Cond.exactly_spec (args := args) (first := s) (o := none) (s := s) (idx := []) (hs _ (st_xe q hq))
    exact ⟨a, vk_R.of (hts _ (st_xl q hq)) q1⟩
  · show b < s.heap.size - 1 + 1
    omega
  · show s.heap.size - 1 + 1 ≤ s.heap.size
    omega
  · exact vx_Zqof (hts _ (by decide +kernel)) (hts _ (by decide +kernel)) (hs _ (by decide +kernel)) hA
  · exact vx_Zqof (hts _ (by decide +kernel)) (hts _ (by decide +kernel)) (hs _ (by decide +kernel)) hA
  · exact fun w m g => am_nw_of g (hts w m)
  · exact ⟨fun j hj => (had j hj).2, va_Zof (hts _ (by decide +kernel)) (hts _ (by decide +kernel)) (va_eqt (hs _ (by decide +kernel))) hA, va_Zqof (hts _ (by decide +kernel)) (hts _ (by decide +kernel)) (hs _ (by decide +kernel)) hA⟩
  · intro a b h1 h2 h3 h4 h5
    rcases st_nc a (by omega) b (by omega) with z | z
    · omega
    · exact va_Nc.of (hs _ z)
theorem st_Rel {G : am_G} {H : Heap} (h : G.2.2.1 + 1 = H.size) : am_Rel G i0 H := by
  refine ⟨h.symm, by decide, by decide, fun a _ => rfl, fun a ha => absurd rfl ha⟩
theorem st_okt : am_okt am_i_La_law at_La_law = true := by
  have h := ak_La_law
  have h : (am_okt am_i_La_law at_La_law && am_okh am_i_La_law ah_La_law && (am_i_La_law.2.2.2.1 == 9)) = true := h
  simp only [Bool.and_eq_true] at h
  exact h.1.1

/-! THE ENTRY: what the Statement gives of the start; the law's walk closed -/
abbrev st_nar : Cond := Jvm.Cond.and given_1 narrow_1
def st_ix (j : Nat) : Nat := match j with
  | 0 => 103
  | 1 => 114
  | 2 => 119
  | 3 => 124
  | 4 => 129
  | 5 => 170
  | 6 => 172
  | 7 => 174
  | 8 => 111
  | 9 => 119
  | 10 => 128
  | 11 => 133
  | 12 => 135
  | 13 => 137
  | _ => 139
def st_cl (j : Nat) : String := if j < 8 then "MultiwayCut$SetupReader" else "MultiwayCutLaw"
abbrev st_tm (j : Nat) : Term := .string (st_cl j) (st_ix j)
abbrev st_val (j : Nat) : Term := .field (st_tm j) "java/lang/String" "value" "[B"
theorem st_sl : ∀ q ∈ am_sl_, Cond.stringRef (am_cn q.1) q.2.1 (am_txt q.2.2) ∈ lw_tbl := by decide +kernel
theorem st_xl : ∀ q ∈ am_xl_, Cond.stringRef (am_cn q.1) q.2.2.1 q.2.2.2.2.2 ∈ lw_tbl := by decide +kernel
theorem st_se : ∀ q ∈ am_sl_, q.2.2 < 15 ∧ (Term.string (am_cn q.1) q.2.1 = st_tm q.2.2 ∨ Cond.eq (st_tm q.2.2) (Term.string (am_cn q.1) q.2.1) ∈ flatC st_nar) := by decide +kernel
theorem st_xe : ∀ q ∈ am_xl_, Cond.exactly (Term.string (am_cn q.1) q.2.2.1) "java/lang/String" ∈ flatC st_nar := by decide +kernel
theorem st_ex : ∀ j, j < 15 → Cond.exactly (st_tm j) "java/lang/String" ∈ flatC st_nar ∧ Cond.eq (.field (st_tm j) "java/lang/String" "coder" "B") (.int 0) ∈ flatC st_nar ∧ Cond.arrayOf (st_val j) .byte ∈ flatC st_nar ∧ Cond.eq (.length (st_val j)) (.int (Int32.ofNat (am_strs.getD j []).length)) ∈ flatC st_nar := by decide +kernel
def st_pe (C : String) (ix : Nat) (c : Cond) : Bool := match c with
  | .eq (.elem (.field (.string C' ix') _ _ _) _) _ => ix' == ix && C' == C
  | _ => false
theorem st_elf : ∀ j, j < 15 → (flatC st_nar).filter (st_pe (st_cl j) (st_ix j)) = (List.range (am_strs.getD j []).length).map (fun i => Cond.eq (.elem (st_val j) (.int (Int32.ofNat i))) (.int (nI ((am_strs.getD j []).getD i 0)))) := by decide +kernel
theorem st_el (j : Nat) (hj : j < 15) (i : Nat) (hi : i < (am_strs.getD j []).length) : Cond.eq (.elem (st_val j) (.int (Int32.ofNat i))) (.int (nI ((am_strs.getD j []).getD i 0))) ∈ flatC st_nar := by
  have h : Cond.eq (.elem (st_val j) (.int (Int32.ofNat i))) (.int (nI ((am_strs.getD j []).getD i 0))) ∈ (flatC st_nar).filter (st_pe (st_cl j) (st_ix j)) := by
    rw [st_elf j hj]
    exact List.mem_map.mpr ⟨i, List.mem_range.mpr hi, rfl⟩
  exact (List.mem_filter.mp h).1
theorem st_len : ∀ j, j < 15 → (am_strs.getD j []).length < 2 ^ 31 := by decide +kernel
theorem st_eq {args : Array Value} {s : State} {t u : Term} {a : Nat} (h : (Cond.eq t u).before args s = true) (ht : t.eval args s none [] s = some (.ref a)) : u.eval args s none [] s = some (.ref a) := by
  cases hu : u.eval args s none [] s with
  | none => simp [Cond.before, Cond.holds, Cond.value, ht, hu] at h
  | some w =>
    simp only [Cond.before, Cond.holds, Cond.value, ht, hu] at h
    cases w <;> simp_all
set_option maxHeartbeats 4000000 in
theorem st_strs {args : Array Value} {s : State} {A : Nat → Prop} (hs : ∀ c ∈ flatC st_nar, c.before args s = true) (hA : ∀ a : Nat, a < s.heap.size → ¬ A a) :
    ∃ f : Nat → Nat × Nat, ∀ j, j < 15 → (st_tm j).eval args s none [] s = some (.ref (f j).1) ∧ am_ST1 (f j).1 (f j).2 (am_strs.getD j []) A s s.heap := by
  have h0 : ∀ j : Nat, ∃ q : Nat × Nat, j < 15 → (st_tm j).eval args s none [] s = some (.ref q.1) ∧ am_ST1 q.1 q.2 (am_strs.getD j []) A s s.heap := by
    intro j
    by_cases hj : j < 15
    · obtain ⟨e1, e2, e3, e4⟩ := st_ex j hj
      obtain ⟨a, c, cA, kA, q1, q2, q3, q4, q5, q6, -⟩ := Cond.exactly_spec (args := args) (first := s) (o := none) (s := s) (idx := []) (t := st_tm j) (cls := "java/lang/String") (hs _ e1)
      obtain ⟨t, ht, hT⟩ := va_Tof (f := fun i => .int (nI ((am_strs.getD j []).getD i 0))) (A := A) (st_len j hj) (hs _ e3) (va_eqt (hs _ e4)) (fun i hi => va_eqt (hs _ (st_el j hj i hi))) hA
      exact ⟨(a, t), fun _ => ⟨q1, ⟨cA, q3, q5, by rw [q6]; exact q2, hA a (Array.getElem?_eq_some_iff.mp q3).1⟩, vk_OFof q1 (va_eqt (hs _ e2)) hA, vk_OFof q1 ht hA, hT⟩⟩
    · exact ⟨(0, 0), fun h => absurd h hj⟩
  exact Classical.axiomOfChoice h0
abbrev st_dt (n : String) : Term := .static "java/lang/Integer" n "[B"
theorem st_dx : (Cond.arrayOf (st_dt "DigitOnes") .byte ∈ flatC st_nar ∧ Cond.eq (.length (st_dt "DigitOnes")) (.int (Int32.ofNat 100)) ∈ flatC st_nar) ∧ Cond.arrayOf (st_dt "DigitTens") .byte ∈ flatC st_nar ∧ Cond.eq (.length (st_dt "DigitTens")) (.int (Int32.ofNat 100)) ∈ flatC st_nar := by decide +kernel
def st_pd (n : String) (c : Cond) : Bool := match c with
  | .eq (.elem (.static _ n' _) _) _ => n' == n
  | _ => false
theorem st_d1f : (flatC st_nar).filter (st_pd "DigitOnes") = (List.range 100).map (fun i => Cond.eq (.elem (st_dt "DigitOnes") (.int (Int32.ofNat i))) (.int (nI (48 + i % 10)))) := by decide +kernel
theorem st_d2f : (flatC st_nar).filter (st_pd "DigitTens") = (List.range 100).map (fun i => Cond.eq (.elem (st_dt "DigitTens") (.int (Int32.ofNat i))) (.int (nI (48 + i / 10)))) := by decide +kernel
theorem st_d1 (i : Nat) (hi : i < 100) : Cond.eq (.elem (st_dt "DigitOnes") (.int (Int32.ofNat i))) (.int (nI (48 + i % 10))) ∈ flatC st_nar := by
  have h : Cond.eq (.elem (st_dt "DigitOnes") (.int (Int32.ofNat i))) (.int (nI (48 + i % 10))) ∈ (flatC st_nar).filter (st_pd "DigitOnes") := by
    rw [st_d1f]
    exact List.mem_map.mpr ⟨i, List.mem_range.mpr hi, rfl⟩
  exact (List.mem_filter.mp h).1
theorem st_d2 (i : Nat) (hi : i < 100) : Cond.eq (.elem (st_dt "DigitTens") (.int (Int32.ofNat i))) (.int (nI (48 + i / 10))) ∈ flatC st_nar := by
  have h : Cond.eq (.elem (st_dt "DigitTens") (.int (Int32.ofNat i))) (.int (nI (48 + i / 10))) ∈ (flatC st_nar).filter (st_pd "DigitTens") := by
    rw [st_d2f]
    exact List.mem_map.mpr ⟨i, List.mem_range.mpr hi, rfl⟩
  exact (List.mem_filter.mp h).1
theorem st_cls {args : Array Value} {s : State} (hts : ∀ w ∈ lw_tbl, w.before args s = true) : ∃ (dC : Nat → ClassId) (dI : Nat → Nat → Nat), ∀ (k : Nat) (q : vw_C), am_cl[k]? = some q → u_Kn s q.1 q.2.1 q.2.2 (dC k) (dI k) := by
  have h0 : ∀ k : Nat, ∃ x : ClassId × (Nat → Nat), k < 12 → u_Kn s (am_cn k) (am_tf k) (am_nf k) x.1 x.2 := by
    intro k
    by_cases hk : k < 12
    · obtain ⟨g1, g2, g3, -⟩ := am_ci_ok k hk
      obtain ⟨c, i, h⟩ := u_known hts (fun w hw => (g3 w hw).1) (hts _ g1)
      exact ⟨(c, i), fun _ => h⟩
    · exact ⟨(0, fun _ => 0), fun h => absurd h hk⟩
  obtain ⟨f, hf⟩ := Classical.axiomOfChoice h0
  refine ⟨fun k => (f k).1, fun k => (f k).2, fun k q hq => ?_⟩
  have hk : k < 12 := (List.getElem?_eq_some_iff.mp hq).1
  have e := (am_ci_ok k hk).2.2.2
  cases hq.symm.trans e
  exact hf k hk
theorem st_arr {args : Array Value} {s : State} {ty : FieldType} (h : (Cond.arrayClass ty).before args s = true) (hp : ty = .int ∨ ty = .byte ∨ ty = .boolean ∨ ty = .long) : ∃ cA : ClassId, ArrOfT s cA ty ∧ va_RA s cA ty := by
  obtain ⟨cA, kA, comp, h1, h2, h3⟩ := Cond.arrayClass_spec h
  refine ⟨cA, fun n z => ⟨fun k h => (by cases h), kA, h2, comp, h3⟩, ?_⟩
  rcases hp with rfl | rfl | rfl | rfl <;> exact h1
theorem st_arrO {args : Array Value} {s : State} {C : String} (h : (Cond.arrayOver (.object C)).before args s = true) : ∃ cA : ClassId, ArrOfT s cA (.object C) ∧ va_RA s cA (.object C) := by
  obtain ⟨comp, cA, kA, f4, f0, f2, f3, f1⟩ := Cond.arrayOver_spec h
  exact ⟨cA, fun N z => ⟨(fun k h => by cases h), kA, f2, comp, f3⟩, kA, comp, f2, f3, f4, f1⟩
set_option maxHeartbeats 4000000 in
theorem st_SF {args : Array Value} {s : State} {b L : Nat} {xs : Nat → Int32} (hts : ∀ w ∈ lw_tbl, w.before args s = true) (hgv : st_nar.before args s = true) (hX : va_X b L xs s s.heap) (hbl : b < s.heap.size) :
    ∃ G : am_G, G.2.2.2.2.2 = b ∧ G.2.2.1 + 1 = s.heap.size ∧ am_SF G (L, xs) s := by
  have hs := flat_of_before _ hgv
  have hA : ∀ a : Nat, a < s.heap.size → ¬ (fun q : Nat => s.heap.size - 1 + 1 ≤ q) a := fun a h z => by
    have z : s.heap.size - 1 + 1 ≤ a := z
    omega
  obtain ⟨f, hf⟩ := st_strs (A := fun q : Nat => s.heap.size - 1 + 1 ≤ q) hs hA
  obtain ⟨t1, ht1, hT1⟩ := va_Tof (f := fun i => .int (nI (48 + i % 10))) (A := fun q : Nat => s.heap.size - 1 + 1 ≤ q) (by decide) (hs _ st_dx.1.1) (va_eqt (hs _ st_dx.1.2)) (fun i hi => va_eqt (hs _ (st_d1 i hi))) hA
  obtain ⟨t2, ht2, hT2⟩ := va_Tof (f := fun i => .int (nI (48 + i / 10))) (A := fun q : Nat => s.heap.size - 1 + 1 ≤ q) (by decide) (hs _ st_dx.2.1) (va_eqt (hs _ st_dx.2.2)) (fun i hi => va_eqt (hs _ (st_d2 i hi))) hA
  obtain ⟨ad, had, hadv, had1, had2⟩ : ∃ ad : Nat → Nat, (∀ j, j < 15 → ad j = (f j).1) ∧ (∀ j, j < 15 → ad (1000 + j) = (f j).2) ∧ ad 2000 = t1 ∧ ad 2001 = t2 := by
    refine ⟨fun n => if n < 1000 then (f n).1 else if n < 2000 then (f (n - 1000)).2 else if n = 2000 then t1 else t2, fun j hj => if_pos (by omega), fun j hj => ?_, ?_, ?_⟩
    · show (if 1000 + j < 1000 then _ else if 1000 + j < 2000 then (f (1000 + j - 1000)).2 else _) = _
      rw [if_neg (by omega), if_pos (by omega), show 1000 + j - 1000 = j by omega]
    · rfl
    · rfl
  obtain ⟨dC, dI, hK⟩ := st_cls hts
  obtain ⟨c2, a2⟩ := st_arr (hts (.arrayClass .int) (by decide +kernel)) (Or.inl rfl)
  obtain ⟨c3, a3⟩ := st_arr (hts (.arrayClass .byte) (by decide +kernel)) (Or.inr (Or.inl rfl))
  have hov := hts (.arrayOver (.object "MultiwayCut$Graph")) (by decide +kernel)
  obtain ⟨c6, a6⟩ := st_arrO hov
  have hao := hts (.arrayOver (.array .int)) (by decide +kernel)
  obtain ⟨comp7, c7, k7, f1, f4, f2, f3⟩ := am_AO.of hao
  have a7 : ArrOfT s c7 (.array .int) ∧ va_RA s c7 (.array .int) := ⟨fun N z => ⟨(fun k h => by cases h), k7, f2, comp7, f3⟩, f4⟩
  obtain ⟨dA, hdA⟩ : ∃ dA : Nat → ClassId, dA 2 = c2 ∧ dA 3 = c3 ∧ dA 7 = c7 ∧ dA 6 = c6 := ⟨fun k => if k = 2 then c2 else if k = 3 then c3 else if k = 7 then c7 else c6, rfl, rfl, rfl, rfl⟩
  obtain ⟨rfl, rfl, rfl, rfl⟩ := hdA
  refine ⟨((dC, dI), dA, s.heap.size - 1, ad, fun _ => 0, b), rfl, by show s.heap.size - 1 + 1 = s.heap.size; omega, ⟨hK, ?_⟩, ?_, ?_, hX, ?_, ?_, ⟨va_AO.of hov, am_AO.of hao⟩, ?_, ?_, ?_, ?_, ?_⟩
  · intro k q hq
    match k, hq with
    | 0, hq => cases hq; exact a2
    | 1, hq => cases hq; exact a3
    | 2, hq => cases hq; exact a7
    | 3, hq => cases hq; exact a6
    | k + 4, hq => simp at hq
  · intro q hq
    obtain ⟨h8, h9⟩ := st_se q hq
    refine vk_R.of (hts _ (st_sl q hq)) ?_
    rcases h9 with h9 | h9
    · rw [h9]
      show _ = some (Value.ref (ad q.2.2))
      rw [had _ h8]
      exact (hf _ h8).1
    · show _ = some (Value.ref (ad q.2.2))
      rw [had _ h8]
      exact st_eq (hs _ h9) (hf _ h8).1
  · intro q hq
    obtain ⟨a, c, cA, kA, q1, -⟩ := Cond.exactly_spec (args := args) (first := s) (o := none) (s := s) (idx := []) (hs _ (st_xe q hq))
    exact ⟨a, vk_R.of (hts _ (st_xl q hq)) q1⟩
  · show b < s.heap.size - 1 + 1
    omega
  · show s.heap.size - 1 + 1 ≤ s.heap.size
    omega
  · exact vx_Zqof (hts _ (by decide +kernel)) (hts _ (by decide +kernel)) (hs _ (by decide +kernel)) hA
  · exact vx_Zqof (hts _ (by decide +kernel)) (hts _ (by decide +kernel)) (hs _ (by decide +kernel)) hA
  · exact fun w m g => am_nw_of g (hts w m)
  · refine ⟨fun j hj => ?_, va_Zof (hts _ (by decide +kernel)) (hts _ (by decide +kernel)) (va_eqt (hs _ (by decide +kernel))) hA, va_Zqof (hts _ (by decide +kernel)) (hts _ (by decide +kernel)) (hs _ (by decide +kernel)) hA, ⟨?_, ?_⟩, ⟨?_, ?_⟩⟩
    · show am_ST1 (ad j) (ad (1000 + j)) _ _ _ _
      rw [had j hj, hadv j hj]
      exact (hf j hj).2
    · show va_Z am_ZI "DigitOnes" "[B" (.ref (ad 2000)) _ _ _
      rw [had1]
      exact va_Zof (hts _ (by decide +kernel)) (hts _ (by decide +kernel)) ht1 hA
    · show va_T .byte (ad 2000) 100 _ _ _ _
      rw [had1]
      exact hT1
    · show va_Z am_ZI "DigitTens" "[B" (.ref (ad 2001)) _ _ _
      rw [had2]
      exact va_Zof (hts _ (by decide +kernel)) (hts _ (by decide +kernel)) ht2 hA
    · show va_T .byte (ad 2001) 100 _ _ _ _
      rw [had2]
      exact hT2
  · exact fun a b h1 h2 h3 h4 h5 h6 => absurd h6 (by decide +kernel)
theorem st_Rel {G : am_G} {H : Heap} (h : G.2.2.1 + 1 = H.size) : am_Rel G i0 H := by
  refine ⟨h.symm, by decide, ⟨by decide, fun a ha => by cases ha⟩, fun a _ => rfl, fun a ha => absurd rfl ha⟩
theorem st_okt : am_okt am_i_La_law at_La_law = true := by
  have h := ak_La_law
  have h : (am_okt am_i_La_law at_La_law && am_okh am_i_La_law ah_La_law && (am_i_La_law.2.2.2.1 == 14)) = true := h
  simp only [Bool.and_eq_true] at h
  exact h.1.1

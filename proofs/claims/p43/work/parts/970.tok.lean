/-! THE SETUP TEXT: its tokens, its grammar, read by a function of its own -/
abbrev tX : Type := Nat × (Nat → Nat)
def isDg (c : Nat) : Bool := decide (48 ≤ c ∧ c ≤ 57)
def isLt (c : Nat) : Bool := decide (97 ≤ c ∧ c ≤ 122)
def isSp (c : Nat) : Bool := decide (c = 32)
def runF (f : Nat → Bool) (b : Nat → Nat) : Nat → Nat → Nat
  | 0, p => p
  | k + 1, p => if f (b p) = true then runF f b k (p + 1) else p
def run (f : Nat → Bool) (t : tX) (p : Nat) : Nat := runF f t.2 (t.1 - p) p
theorem run_in {f : Nat → Bool} {t : tX} {p : Nat} (h : p < t.1) (hf : f (t.2 p) = true) : run f t p = run f t (p + 1) := by
  unfold run
  rw [show t.1 - p = (t.1 - (p + 1)) + 1 by omega, runF, if_pos hf]
theorem run_out {f : Nat → Bool} {t : tX} {p : Nat} (h : t.1 ≤ p ∨ f (t.2 p) = false) : run f t p = p := by
  unfold run
  rcases h with h | h
  · rw [show t.1 - p = 0 by omega]; rfl
  · cases e : t.1 - p with
    | zero => rfl
    | succ k => rw [runF, if_neg (by rw [h]; decide)]
theorem runF_le (f : Nat → Bool) (b : Nat → Nat) : ∀ k p, p ≤ runF f b k p ∧ runF f b k p ≤ p + k
  | 0, p => ⟨Nat.le_refl _, Nat.le_refl _⟩
  | k + 1, p => by
    unfold runF
    split
    · have := runF_le f b k (p + 1); omega
    · omega
theorem run_ge (f : Nat → Bool) (t : tX) (p : Nat) : p ≤ run f t p := (runF_le _ _ _ _).1
theorem run_len {f : Nat → Bool} {t : tX} {p : Nat} (h : p ≤ t.1) : run f t p ≤ t.1 := by
  have := (runF_le f t.2 (t.1 - p) p).2
  unfold run
  omega
theorem runF_stop (f : Nat → Bool) (b : Nat → Nat) : ∀ k p, runF f b k p = p + k ∨ f (b (runF f b k p)) = false
  | 0, p => Or.inl rfl
  | k + 1, p => by
    unfold runF
    split
    · rcases runF_stop f b k (p + 1) with h | h
      · exact Or.inl (by omega)
      · exact Or.inr h
    · rename_i h
      exact Or.inr (by simpa using h)
theorem run_stop (f : Nat → Bool) (t : tX) (p : Nat) : t.1 ≤ run f t p ∨ f (t.2 (run f t p)) = false := by
  unfold run
  rcases runF_stop f t.2 (t.1 - p) p with h | h
  · exact Or.inl (by omega)
  · exact Or.inr h
/-- the first byte that is no space -/
def sk (t : tX) (p : Nat) : Nat := run isSp t p
theorem sk_ge (t : tX) (p : Nat) : p ≤ sk t p := run_ge _ _ _
theorem sk_len {t : tX} {p : Nat} (h : p ≤ t.1) : sk t p ≤ t.1 := run_len h
theorem sk_sk (t : tX) (p : Nat) : sk t (sk t p) = sk t p := run_out (run_stop _ _ _)
def dgAt (t : tX) (q : Nat) : Bool := decide (q < t.1) && isDg (t.2 q)
def ltAt (t : tX) (q : Nat) : Bool := decide (q < t.1) && isLt (t.2 q)
def isC (t : tX) (q c : Nat) : Bool := decide (q < t.1) && decide (t.2 q = c)
/-- where the token at q ends -/
def te (t : tX) (q : Nat) : Nat := if q < t.1 then (if isDg (t.2 q) = true then run isDg t q else if isLt (t.2 q) = true then run isLt t q else q + 1) else q
theorem te_len {t : tX} {q : Nat} (h : q ≤ t.1) : te t q ≤ t.1 := by
  unfold te
  split
  · split
    · exact run_len h
    · split
      · exact run_len h
      · omega
  · exact h
theorem te_dg {t : tX} {q : Nat} (h : dgAt t q = true) : te t q = run isDg t q := by
  unfold dgAt at h
  rw [Bool.and_eq_true, decide_eq_true_eq] at h
  unfold te
  rw [if_pos h.1, if_pos h.2]
theorem dg_lt {c : Nat} (h : isDg c = true) : isLt c = false := by
  unfold isDg at h
  unfold isLt
  rw [decide_eq_true_eq] at h
  rw [decide_eq_false_iff_not]
  omega
theorem te_lt {t : tX} {q : Nat} (h : ltAt t q = true) : te t q = run isLt t q := by
  unfold ltAt at h
  rw [Bool.and_eq_true, decide_eq_true_eq] at h
  unfold te
  rw [if_pos h.1]
  split
  · rename_i z
    rw [dg_lt z] at h
    exact absurd h.2 (by decide)
  · rw [if_pos h.2]
theorem te_dg_gt {t : tX} {q : Nat} (h : dgAt t q = true) : q < te t q := by
  rw [te_dg h]
  unfold dgAt at h
  rw [Bool.and_eq_true, decide_eq_true_eq] at h
  rw [run_in h.1 h.2]
  exact Nat.lt_of_lt_of_le (Nat.lt_succ_self q) (run_ge _ _ _)
/-- the number at q -/
def valU (b : Nat → Nat) : Nat → Nat → Nat → Nat
  | 0, _, v => v
  | k + 1, p, v => if isDg (b p) = true then valU b k (p + 1) (10 * v + (b p - 48)) else v
def valF (cap : Nat) (b : Nat → Nat) : Nat → Nat → Nat → Nat
  | 0, _, v => v
  | k + 1, p, v => if isDg (b p) = true then valF cap b k (p + 1) (min cap (10 * v + (b p - 48))) else v
theorem valF_min (cap : Nat) (b : Nat → Nat) : ∀ k p v, valF cap b k p (min cap v) = min cap (valU b k p v)
  | 0, p, v => rfl
  | k + 1, p, v => by
    unfold valF valU
    split
    · rw [← valF_min cap b k (p + 1), show min cap (10 * min cap v + (b p - 48)) = min cap (10 * v + (b p - 48)) by omega]
    · rfl
def num (t : tX) (q : Nat) : Nat := valU t.2 (t.1 - q) q 0
def valR (cap : Nat) (t : tX) (q v : Nat) : Nat := valF cap t.2 (t.1 - q) q v
theorem valR_0 (cap : Nat) (t : tX) (q : Nat) : valR cap t q 0 = min cap (num t q) := by
  have := valF_min cap t.2 (t.1 - q) q 0
  rw [Nat.min_zero] at this
  exact this
theorem valR_in {cap : Nat} {t : tX} {q v : Nat} (h : q < t.1) (hf : isDg (t.2 q) = true) : valR cap t q v = valR cap t (q + 1) (min cap (10 * v + (t.2 q - 48))) := by
  unfold valR
  rw [show t.1 - q = (t.1 - (q + 1)) + 1 by omega, valF, if_pos hf]
theorem valR_out {cap : Nat} {t : tX} {q v : Nat} (h : t.1 ≤ q ∨ isDg (t.2 q) = false) : valR cap t q v = v := by
  unfold valR
  rcases h with h | h
  · rw [show t.1 - q = 0 by omega]; rfl
  · cases e : t.1 - q with
    | zero => rfl
    | succ k => rw [valF, if_neg (by rw [h]; decide)]
/-- the word s stands at q -/
def wLen (s : Nat) : Nat := (am_strs.getD s []).length
def wCh (s k : Nat) : Nat := (am_strs.getD s []).getD k 0
def wIs (t : tX) (q s : Nat) : Bool := decide (run isLt t q - q = wLen s) && decide (∀ k, k < wLen s → t.2 (q + k) = wCh s k)
theorem wLen_pos : ∀ s, s < 8 → 0 < wLen s ∧ wLen s < 9 := by decide
theorem wIs_lt {t : tX} {q s : Nat} (hs : s < 8) (h : wIs t q s = true) : ltAt t q = true := by
  unfold wIs at h
  rw [Bool.and_eq_true, decide_eq_true_eq] at h
  have := (wLen_pos s hs).1
  cases e : ltAt t q with
  | true => rfl
  | false =>
    unfold ltAt at e
    rw [Bool.and_eq_false_iff, decide_eq_false_iff_not] at e
    have e2 : run isLt t q = q := run_out (e.imp (fun z => Nat.not_lt.mp z) id)
    omega
theorem wIs_te {t : tX} {q s : Nat} (hs : s < 8) (h : wIs t q s = true) : te t q = q + wLen s := by
  rw [te_lt (wIs_lt hs h)]
  unfold wIs at h
  rw [Bool.and_eq_true, decide_eq_true_eq] at h
  have := run_ge isLt t q
  have := (wLen_pos s hs).1
  omega
/-! the grammar: an error is its code (without its sign) and its place -/
abbrev pE : Type := Nat × Nat
abbrev pX : Type := pE ⊕ (Nat × List Int)
def pSym (t : tX) (c p : Nat) : pE ⊕ Nat := if isC t (sk t p) c = true then .inr (sk t p + 1) else .inl (2, sk t p)
/-- a number between two: its value and its place -/
def pNum (t : tX) (p least most : Nat) : pE ⊕ (Nat × Nat) := if dgAt t (sk t p) = true then (if least ≤ num t (sk t p) ∧ num t (sk t p) ≤ most then .inr (num t (sk t p), sk t p) else .inl (3, sk t p)) else .inl (2, sk t p)
def pFacQ (S : Option (Nat → List Int → pX)) (t : tX) (q : Nat) (cs : List Int) : pX :=
  if isC t q 40 = true then (match S with
    | none => .inl (6, q)
    | some f => match f (q + 1) cs with
      | .inl e => .inl e
      | .inr z => match pSym t 41 z.1 with
        | .inl e => .inl e
        | .inr p => .inr (p, z.2))
  else if dgAt t q = true then (if num t q ≤ 9999 then .inr (te t q, cs ++ [(num t q : Int)]) else .inl (3, q))
  else if wIs t q 5 = true then .inr (te t q, cs ++ [-1])
  else if wIs t q 6 = true then .inr (te t q, cs ++ [-2])
  else if wIs t q 7 = true then .inr (te t q, cs ++ [-3])
  else .inl (2, q)
def pFac (S : Option (Nat → List Int → pX)) (t : tX) (p : Nat) (cs : List Int) : pX := pFacQ S t (sk t p) cs
def pLoop (F : Nat → List Int → pX) (t : tX) (o1 o2 : Nat) (c1 c2 : Int) : Nat → Nat → List Int → pX
  | 0, p, cs => .inr (p, cs)
  | k + 1, p, cs => if isC t (sk t p) o1 = true ∨ isC t (sk t p) o2 = true then (match F (sk t p + 1) cs with
      | .inl e => .inl e
      | .inr z => pLoop F t o1 o2 c1 c2 k z.1 (z.2 ++ [if isC t (sk t p) o1 = true then c1 else c2])) else .inr (p, cs)
def pItem (F : Nat → List Int → pX) (t : tX) (o1 o2 : Nat) (c1 c2 : Int) (p : Nat) (cs : List Int) : pX := match F p cs with
  | .inl e => .inl e
  | .inr z => pLoop F t o1 o2 c1 c2 t.1 z.1 z.2
def pTerm (S : Option (Nat → List Int → pX)) (t : tX) : Nat → List Int → pX := pItem (pFac S t) t 42 47 (-6) (-7)
def pSumS (S : Option (Nat → List Int → pX)) (t : tX) : Nat → List Int → pX := pItem (pTerm S t) t 43 45 (-4) (-5)
/-- a sum within which k brackets may be opened -/
def pSum (t : tX) : Nat → Nat → List Int → pX
  | 0 => pSumS none t
  | k + 1 => pSumS (some (pSum t k)) t
def pSub (t : tX) : Nat → Option (Nat → List Int → pX)
  | 0 => none
  | k + 1 => some (pSum t k)
theorem pSum_eq (t : tX) (k : Nat) : pSum t k = pSumS (pSub t k) t := by cases k <;> rfl
/-- what a good reading yields: it goes on, its codes put one number on a pile that is not higher than H -/
def pGood (t : tX) (H : Nat) (F : Nat → List Int → pX) : Prop := ∀ p cs p' cs', p ≤ t.1 → F p cs = .inr (p', cs') → p < p' ∧ p' ≤ t.1 ∧ ∃ ds : List Int, cs' = cs ++ ds ∧ ds.length ≤ p' - p ∧ ∀ k rest j, k ≤ H → foOk rest (k + 1) j → foOk (ds ++ rest) k j
theorem isC_lt {t : tX} {q c : Nat} (h : isC t q c = true) : q < t.1 ∧ t.2 q = c := by
  unfold isC at h
  rw [Bool.and_eq_true, decide_eq_true_eq, decide_eq_true_eq] at h
  exact h
theorem pGood_fac {t : tX} {H : Nat} {S : Option (Nat → List Int → pX)} (hS : ∀ f, S = some f → pGood t H f) (hH : H ≤ 10) : pGood t H (pFac S t) := by
  intro p cs p' cs' hp h
  unfold pFac pFacQ at h
  have g1 := sk_ge t p
  have g2 := sk_len hp
  generalize sk t p = q at h g1 g2
  have one : ∀ c : Int, -4 < c ∧ c ≤ 9999 → ∀ k rest j, k ≤ H → foOk rest (k + 1) j → foOk ([c] ++ rest) k j := by
    intro c hc k rest j hk hr
    show foOk (c :: rest) k j
    unfold foOk
    rw [if_neg (by omega)]
    exact ⟨by omega, by omega, hr⟩
  have wd : ∀ s (c : Int), s < 8 → -4 < c ∧ c ≤ 9999 → wIs t q s = true → (te t q, cs ++ [c]) = (p', cs') → p < p' ∧ p' ≤ t.1 ∧ ∃ ds : List Int, cs' = cs ++ ds ∧ ds.length ≤ p' - p ∧ ∀ k rest j, k ≤ H → foOk rest (k + 1) j → foOk (ds ++ rest) k j := by
    intro s c hs hc hw e
    cases e
    have e2 := wIs_te hs hw
    have := (wLen_pos s hs).1
    have := te_len g2
    exact ⟨by omega, this, [c], rfl, by simp only [List.length_singleton]; omega, one c hc⟩
  split at h
  · rename_i hc
    have := (isC_lt hc).1
    cases S with
    | none => cases h
    | some f =>
      dsimp only at h
      cases e : f (q + 1) cs with
      | inl e2 => rw [e] at h; cases h
      | inr z =>
        rw [e] at h
        dsimp only at h
        obtain ⟨f1, f2, ds, f3, f4, f5⟩ := hS f rfl (q + 1) cs z.1 z.2 (by omega) e
        unfold pSym at h
        have g3 := sk_ge t z.1
        by_cases hc2 : isC t (sk t z.1) 41 = true
        · rw [if_pos hc2] at h
          cases h
          have := (isC_lt hc2).1
          exact ⟨by omega, by omega, ds, f3, by omega, f5⟩
        · rw [if_neg hc2] at h
          cases h
  · split at h
    · rename_i hd
      split at h
      · rename_i hn
        cases h
        have := te_dg_gt hd
        exact ⟨by omega, te_len g2, [(num t q : Int)], rfl, by simp only [List.length_singleton]; omega, one _ (by omega)⟩
      · cases h
    · split at h
      · rename_i hw
        exact wd 5 (-1) (by decide) (by decide) hw (Sum.inr.inj h)
      · split at h
        · rename_i hw
          exact wd 6 (-2) (by decide) (by decide) hw (Sum.inr.inj h)
        · split at h
          · rename_i hw
            exact wd 7 (-3) (by decide) (by decide) hw (Sum.inr.inj h)
          · cases h
theorem pGood_loop {t : tX} {H o1 o2 : Nat} {c1 c2 : Int} {F : Nat → List Int → pX} (hF : pGood t (H + 1) F) (h1 : -7 ≤ c1 ∧ c1 ≤ -4) (h2 : -7 ≤ c2 ∧ c2 ≤ -4) : ∀ n p cs p' cs', p ≤ t.1 → pLoop F t o1 o2 c1 c2 n p cs = .inr (p', cs') → p ≤ p' ∧ p' ≤ t.1 ∧ ∃ ds : List Int, cs' = cs ++ ds ∧ ds.length ≤ p' - p ∧ ∀ k rest j, k ≤ H → foOk rest (k + 1) j → foOk (ds ++ rest) (k + 1) j := by
  intro n
  induction n with
  | zero =>
    intro p cs p' cs' hp h
    cases h
    exact ⟨Nat.le_refl _, hp, [], (List.append_nil _).symm, Nat.zero_le _, fun k rest j _ hr => hr⟩
  | succ n ih =>
    intro p cs p' cs' hp h
    unfold pLoop at h
    split at h
    · rename_i hc
      have hq : sk t p < t.1 := hc.elim (fun z => (isC_lt z).1) (fun z => (isC_lt z).1)
      have g1 := sk_ge t p
      cases e : F (sk t p + 1) cs with
      | inl e2 => rw [e] at h; cases h
      | inr z =>
        rw [e] at h
        dsimp only at h
        obtain ⟨f1, f2, ds, f3, f4, f5⟩ := hF (sk t p + 1) cs z.1 z.2 (by omega) e
        obtain ⟨k1, k2, es, k3, k4, k5⟩ := ih _ _ _ _ f2 h
        generalize hcc : (if isC t (sk t p) o1 = true then c1 else c2) = c at k3
        have hc4 : -7 ≤ c ∧ c ≤ -4 := by
          rw [← hcc]
          split
          · exact h1
          · exact h2
        refine ⟨by omega, k2, ds ++ (c :: es), ?_, ?_, ?_⟩
        · rw [k3, f3]; simp
        · rw [List.length_append, List.length_cons]; omega
        · intro k rest j hk hr
          rw [List.append_assoc]
          refine f5 (k + 1) _ j (by omega) ?_
          show foOk (c :: (es ++ rest)) (k + 1 + 1) j
          unfold foOk
          rw [if_pos hc4.2]
          exact ⟨by omega, by omega, k5 k rest j hk hr⟩
    · cases h
      exact ⟨Nat.le_refl _, hp, [], (List.append_nil _).symm, Nat.zero_le _, fun k rest j _ hr => hr⟩
theorem pGood_item {t : tX} {H o1 o2 : Nat} {c1 c2 : Int} {F : Nat → List Int → pX} (hF : pGood t (H + 1) F) (h1 : -7 ≤ c1 ∧ c1 ≤ -4) (h2 : -7 ≤ c2 ∧ c2 ≤ -4) : pGood t H (pItem F t o1 o2 c1 c2) := by
  intro p cs p' cs' hp h
  unfold pItem at h
  cases e : F p cs with
  | inl e2 => rw [e] at h; cases h
  | inr z =>
    rw [e] at h
    dsimp only at h
    obtain ⟨f1, f2, ds, f3, f4, f5⟩ := hF p cs z.1 z.2 hp e
    obtain ⟨k1, k2, es, k3, k4, k5⟩ := pGood_loop hF h1 h2 _ _ _ _ _ f2 h
    refine ⟨by omega, k2, ds ++ es, ?_, ?_, ?_⟩
    · rw [k3, f3]; simp
    · rw [List.length_append]; omega
    · intro k rest j hk hr
      rw [List.append_assoc]
      exact f5 k _ j (by omega) (k5 k rest j hk hr)
theorem pGood_sumS {t : tX} {H : Nat} {S : Option (Nat → List Int → pX)} (hS : ∀ f, S = some f → pGood t (H + 2) f) (hH : H ≤ 8) : pGood t H (pSumS S t) := pGood_item (pGood_item (pGood_fac hS (by omega)) (by decide) (by decide)) (by decide) (by decide)
theorem pGood_sum (t : tX) : ∀ k, k ≤ 4 → pGood t (8 - 2 * k) (pSum t k)
  | 0, _ => pGood_sumS (fun f z => by cases z) (by decide)
  | k + 1, hk => pGood_sumS (fun f z => by
      cases z
      have := pGood_sum t k (by omega)
      rw [show 8 - 2 * (k + 1) + 2 = 8 - 2 * k by omega]
      exact this) (by omega)

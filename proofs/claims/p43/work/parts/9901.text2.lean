/-! THE LAW'S TEXT, 2: its head, the cost's statement, the whole; the matrix beside the graph -/
section
variable {t : tX} {p q c v : Nat} {u w : List Nat}
theorem fac_w {S : Option (Nat → List Int → pX)} {cs : List Int} (s : Nat) (hs : s = 5 ∨ s = 6 ∨ s = 7) (h : seg t (p + 1) (am_strs.getD s [] ++ [c])) (h0 : t.2 p = 32) (hc : isLt c = false) : pFac S t p cs = .inr (p + 1 + wLen s, cs ++ [if s = 5 then -1 else if s = 6 then -2 else -3]) := by
  have hs8 : s < 8 := by omega
  obtain ⟨a1, a2, a3, a4, a5⟩ := wd_ok hs8 h hc
  have hp : p + 1 < t.1 := (seg_l h 0 (wLen_pos s hs8).1).1
  have ek : sk t p = p + 1 := by
    have : run isSp t p = run isSp t (p + 1) := run_in (by omega) (by rw [h0]; rfl)
    exact this.trans a3
  unfold pFac pFacQ
  rw [ek, if_neg (by rw [a5]; decide), if_neg (by rw [a4]; decide), a1 5 (by decide), a1 6 (by decide), a1 7 (by decide), a2]
  rcases hs with rfl | rfl | rfl
  · rw [if_pos (by decide)]; rfl
  · rw [if_neg (by decide), if_pos (by decide)]; rfl
  · rw [if_neg (by decide), if_neg (by decide), if_pos (by decide)]; rfl
theorem fac_2 {S : Option (Nat → List Int → pX)} {cs : List Int} (h : seg t p [32, 50, 32]) : pFac S t p cs = .inr (p + 1 + 1, cs ++ [2]) := by
  obtain ⟨_, h1⟩ := seg_c h
  obtain ⟨a, b, e⟩ := num_ok (v := 2) (c := 32) h1 (by decide) (by decide)
  have ek : sk t p = p + 1 := skp_1 h (by decide)
  unfold pFac pFacQ
  rw [ek, if_neg (by rw [isC_n h1 (by decide)]; decide), if_pos a, b, if_pos (by decide), e]
  rfl
theorem loop_s {F : Nat → List Int → pX} {o1 o2 k : Nat} {c1 c2 : Int} {cs : List Int} {z : Nat × List Int} (h : isC t (sk t p) o1 = true ∨ isC t (sk t p) o2 = true) (hF : F (sk t p + 1) cs = .inr z) : pLoop F t o1 o2 c1 c2 (k + 1) p cs = pLoop F t o1 o2 c1 c2 k z.1 (z.2 ++ [if isC t (sk t p) o1 = true then c1 else c2]) := by
  show (if isC t (sk t p) o1 = true ∨ isC t (sk t p) o2 = true then _ else _) = _
  rw [if_pos h, hF]
theorem loop_e {F : Nat → List Int → pX} {o1 o2 k : Nat} {c1 c2 : Int} {cs : List Int} (h : ¬ (isC t (sk t p) o1 = true ∨ isC t (sk t p) o2 = true)) : pLoop F t o1 o2 c1 c2 k p cs = .inr (p, cs) := by
  cases k with
  | zero => rfl
  | succ k =>
    show (if isC t (sk t p) o1 = true ∨ isC t (sk t p) o2 = true then _ else _) = _
    rw [if_neg h]
theorem isC_or {o1 o2 : Nat} (h : seg t p (c :: w)) (h1 : c ≠ o1) (h2 : c ≠ o2) : ¬ (isC t p o1 = true ∨ isC t p o2 = true) := by
  rw [isC_n h h1, isC_n h h2]
  decide
theorem seg_at {n : Nat} (h : seg t p w) (k : Nat) (e : w.drop k = u) (hk : k + n = k + u.length) (hl : k + u.length ≤ w.length) : seg t (p + k) u := by
  have := seg_r (t := t) (p := p) (u := w.take k) (w := w.drop k) (by rw [List.take_append_drop]; exact h)
  rw [e, List.length_take, Nat.min_eq_left (by omega)] at this
  exact this
theorem seg_tk {k : Nat} (h : seg t p w) (e : w.take k = u) : seg t p u := by
  have := seg_l (t := t) (p := p) (u := w.take k) (w := w.drop k) (by rw [List.take_append_drop]; exact h)
  rw [e] at this
  exact this
theorem seg_dt (h : seg t p w) (k n : Nat) (e : (w.drop k).take n = u) (hk : k ≤ w.length) : seg t (p + k) u := by
  have := seg_r (t := t) (p := p) (u := w.take k) (w := w.drop k) (by rw [List.take_append_drop]; exact h)
  rw [List.length_take, Nat.min_eq_left hk] at this
  exact seg_tk this e
def lCs : List Int := [-1, 2, -6, -2, -4, -3, -5]
set_option maxHeartbeats 4000000 in
theorem sum_ok {S : Option (Nat → List Int → pX)} (h : seg t p (am_strs.getD 14 [])) : pSumS S t (p + 4) [] = .inr (p + 28, lCs) := by
  have hl : 29 ≤ t.1 := by have := (h 28 (by decide)).1; omega
  obtain ⟨k, hk⟩ : ∃ k, t.1 = k + 1 + 1 := ⟨t.1 - 2, by omega⟩
  have at1 : ∀ j, j < 29 → t.2 (p + j) = (am_strs.getD 14 []).getD j 0 := fun j hj => (h j hj).2
  have w1 : seg t (p + 4 + 1) (am_strs.getD 5 [] ++ [32]) := seg_dt h 5 7 rfl (by decide)
  have w2 : seg t (p + 17 + 1) (am_strs.getD 6 [] ++ [32]) := seg_dt h 18 4 rfl (by decide)
  have w3 : seg t (p + 23 + 1) (am_strs.getD 7 [] ++ [59]) := seg_dt h 24 5 rfl (by decide)
  have f1 : pFac S t (p + 4) [] = .inr (p + 11, [-1]) := fac_w 5 (Or.inl rfl) w1 (at1 4 (by decide)) (by decide)
  have f2 : pFac S t (p + 13) [-1] = .inr (p + 15, [-1, 2]) := fac_2 (seg_dt h 13 3 rfl (by decide))
  have f3 : pFac S t (p + 17) [-1, 2, -6] = .inr (p + 21, [-1, 2, -6, -2]) := fac_w 6 (Or.inr (Or.inl rfl)) w2 (at1 17 (by decide)) (by decide)
  have f4 : pFac S t (p + 23) [-1, 2, -6, -2, -4] = .inr (p + 28, [-1, 2, -6, -2, -4, -3]) := fac_w 7 (Or.inr (Or.inr rfl)) w3 (at1 23 (by decide)) (by decide)
  have s11 : seg t (p + 11) [32, 42] := seg_dt h 11 2 rfl (by decide)
  have s15 : seg t (p + 15) [32, 43] := seg_dt h 15 2 rfl (by decide)
  have s21 : seg t (p + 21) [32, 45] := seg_dt h 21 2 rfl (by decide)
  have s28 : seg t (p + 28) [59] := seg_dt h 28 1 rfl (by decide)
  have k11 : sk t (p + 11) = p + 12 := skp_1 s11 (by decide)
  have k15 : sk t (p + 15) = p + 16 := skp_1 s15 (by decide)
  have k21 : sk t (p + 21) = p + 22 := skp_1 s21 (by decide)
  have k28 : sk t (p + 28) = p + 28 := skp_0 s28 (by decide)
  have c12 := (seg_c s11).2
  have c16 := (seg_c s15).2
  have c22 := (seg_c s21).2
  have t1 : pTerm S t (p + 4) [] = .inr (p + 15, [-1, 2, -6]) := by
    unfold pTerm pItem
    rw [f1]
    dsimp only
    rw [hk, loop_s (z := (p + 15, [-1, 2])) (Or.inl (by rw [k11]; exact isC_y c12)) (by rw [k11]; exact f2), loop_e (by rw [k15]; exact isC_or c16 (by decide) (by decide)), if_pos (by rw [k11]; exact isC_y c12)]
    rfl
  have t2 : pTerm S t (p + 17) [-1, 2, -6] = .inr (p + 21, [-1, 2, -6, -2]) := by
    unfold pTerm pItem
    rw [f3]
    dsimp only
    rw [loop_e (by rw [k21]; exact isC_or c22 (by decide) (by decide))]
  have t3 : pTerm S t (p + 23) [-1, 2, -6, -2, -4] = .inr (p + 28, [-1, 2, -6, -2, -4, -3]) := by
    unfold pTerm pItem
    rw [f4]
    dsimp only
    rw [loop_e (by rw [k28]; exact isC_or s28 (by decide) (by decide))]
  unfold pSumS
  unfold pItem
  rw [t1]
  dsimp only
  rw [hk, loop_s (z := (p + 21, [-1, 2, -6, -2])) (Or.inl (by rw [k15]; exact isC_y c16)) (by rw [k15]; exact t2), if_pos (by rw [k15]; exact isC_y c16)]
  rw [loop_s (z := (p + 28, [-1, 2, -6, -2, -4, -3])) (Or.inr (by rw [k21]; exact isC_y c22)) (by rw [k21]; exact t3), if_neg (by rw [k21, isC_n c22 (by decide)]; decide)]
  rw [loop_e (by rw [k28]; exact isC_or s28 (by decide) (by decide))]
  rfl
theorem pStS_co {g : gD} {L : Nat} (h : seg t p (am_strs.getD 14 [])) (hg : gCs g = none) : pStS t p g L = .inr (p + 29, gCsS g lCs, L) := by
  have h1 : seg t p (am_strs.getD 4 [] ++ [32]) := seg_tk (k := 5) h rfl
  obtain ⟨a1, a2, a3, _⟩ := wd_ok (by decide) h1 (by decide)
  have e8 : wLen 4 = 4 := rfl
  rw [e8] at a2
  have e3 : pStm t p g L = .inr (p + 28, gCsS g lCs, L) := by
    unfold pStm pCoS
    rw [a3, a1 1 (by decide), if_neg (by decide), a1 2 (by decide), if_neg (by decide), a1 3 (by decide), if_neg (by decide), a1 4 (by decide), if_pos (by decide), hg, if_neg (by decide), a2, pSum_eq, sum_ok h]
  unfold pStS
  rw [e3]
  dsimp only
  rw [pSym_ok (seg_dt (u := [59]) h 28 1 rfl (by decide)) (by decide)]
theorem pHead_ok {n : Nat} (h : seg t 0 (am_strs.getD 8 [] ++ dec2 n ++ am_strs.getD 9 [])) (hn : 2 ≤ n ∧ n ≤ 9) : pHead t = .inr (n, (am_strs.getD 8 [] ++ dec2 n ++ am_strs.getD 9 []).length) := by
  have h : seg t 0 (am_strs.getD 0 [] ++ (32 :: (dec2 n ++ [59]))) := by
    rw [List.append_assoc] at h
    exact h
  have h1 : seg t 0 (am_strs.getD 0 [] ++ [32]) := seg_l (w := dec2 n ++ [59]) (by rw [List.append_assoc]; exact h)
  obtain ⟨a1, a2, a3, _⟩ := wd_ok (by decide) h1 (by decide)
  have h2 := seg_r h
  have e8 : wLen 0 = 5 := rfl
  have e8' : (am_strs.getD 0 []).length = 5 := rfl
  rw [e8'] at h2
  rw [e8] at a2
  obtain ⟨b1, b2⟩ := pNum_ok h2 (by omega) (by decide) hn.1 hn.2
  have h3 := seg_r (seg_c h2).2
  unfold pHead
  rw [a3, a1 0 (by decide), if_pos (by decide), a2, b1]
  dsimp only
  rw [b2, pSym_ok h3 (by decide)]
  dsimp only
  rw [List.length_append, List.length_append, show (am_strs.getD 8 []).length = 6 from rfl, show (am_strs.getD 9 []).length = 1 from rfl]
/-- texts that begin with tx are read to the graph g so far -/
def rdOK (n : Nat) (tx : List Nat) (g : gD) (L : Nat) : Prop := ∀ t : tX, seg t 0 tx → ∃ p0, pHead t = .inr (n, p0) ∧ ∃ N, N ≤ tx.length ∧ ∀ k, pStms t (k + N) p0 (g0 n) 0 = pStms t k tx.length g L
theorem rdOK_hd {n : Nat} (hn : 2 ≤ n ∧ n ≤ 9) : rdOK n (am_strs.getD 8 [] ++ dec2 n ++ am_strs.getD 9 []) (g0 n) 0 := fun _ h => ⟨_, pHead_ok h hn, 0, Nat.zero_le _, fun _ => rfl⟩
theorem rdOK.step {n c L L' : Nat} {tx w : List Nat} {g g' : gD} (R : rdOK n tx g L) (hc : c ≠ 32) (hS : ∀ t, seg t tx.length (c :: w) → pStS t tx.length g L = .inr (tx.length + (c :: w).length, g', L')) : rdOK n (tx ++ (c :: w)) g' L' := fun t h => by
  obtain ⟨p0, a, N, b, e⟩ := R t (seg_l h)
  have h2 := seg_r h
  rw [Nat.zero_add] at h2
  refine ⟨p0, a, N + 1, by rw [List.length_append, List.length_cons]; omega, fun k => ?_⟩
  rw [show k + (N + 1) = (k + 1) + N by omega, e (k + 1)]
  show (if t.1 ≤ sk t tx.length then (.inr (tx.length, g, L) : pY) else (match pStS t tx.length g L with
    | .inl e => (.inl e : pY)
    | .inr s => pStms t k s.1 s.2.1 s.2.2)) = _
  rw [if_neg (by rw [skp_0 h2 hc]; exact Nat.not_le.mpr (seg_c h2).1.1), hS t h2, List.length_append]
theorem rdOK.fin {n L : Nat} {tx : List Nat} {g : gD} (R : rdOK n tx g L) {t : tX} (h : seg t 0 tx) (ht : t.1 = tx.length) : pText t = .inr (tx.length, g, L) := by
  obtain ⟨p0, a, N, b, e⟩ := R t h
  unfold pText
  rw [a]
  dsimp only
  obtain ⟨k, hk⟩ : ∃ k, t.1 = k + N := ⟨t.1 - N, by omega⟩
  rw [hk, e k]
  cases k with
  | zero => rfl
  | succ k =>
    show (if t.1 ≤ sk t tx.length then _ else _) = _
    rw [if_pos (by rw [ht]; exact sk_ge _ _)]
end
/-! the cost of an edge -/
def cst (w l g : Nat) : Nat := max 1 (w * 2 + l - g)
theorem coF_cst {w l g : Nat} (hw : w ≤ 99) (hl : l ≤ 99) (hg : g ≤ 99) : coF (some lCs) w l g = cst w l g := by
  show (max 1 (min 9999 (foOp (-5) (foOp (-4) (foOp (-6) (w : Int) 2) (l : Int)) (g : Int)))).toNat = _
  have e6 : foOp (-6) (w : Int) 2 = w * 2 := by unfold foOp; rw [if_neg (by decide), if_neg (by decide), if_pos rfl]; omega
  have e4 : foOp (-4) ((w : Int) * 2) l = w * 2 + l := by unfold foOp; rw [if_pos rfl]; omega
  have e5 : foOp (-5) ((w : Int) * 2 + l) g = w * 2 + l - g := by unfold foOp; rw [if_neg (by decide), if_pos rfl]; omega
  rw [e6, e4, e5]
  unfold cst
  omega
def mput (C : Nat → Nat → Nat) (a b x : Nat) : Nat → Nat → Nat := fun i j => if (i = a ∧ j = b) ∨ (i = b ∧ j = a) then x else C i j
section
variable {n m : Nat} {lo hi co : Nat → Nat} {C : Nat → Nat → Nat}
theorem mrl_0 (n : Nat) (lo hi co : Nat → Nat) : mrl n 0 lo hi co (fun _ _ => 0) := ⟨fun _ _ => rfl, fun _ => rfl, fun _ h => absurd h (Nat.not_lt_zero _), fun _ h => absurd h (Nat.not_lt_zero _), fun _ _ h => absurd h (Nat.not_lt_zero _), fun _ _ _ _ h => absurd rfl h⟩
theorem mrl_co {co' : Nat → Nat} (R : mrl n m lo hi co C) (h : ∀ e, e < m → co' e = co e) : mrl n m lo hi co' C := ⟨R.1, R.2.1, R.2.2.1, fun e he => (R.2.2.2.1 e he).trans (h e he).symm, R.2.2.2.2⟩
theorem mrl_nj {a b : Nat} (R : mrl n m lo hi co C) (hco : ∀ e, e < m → co e ≠ 0) (h0 : C a b = 0) : ∀ e, e < m → ¬ (lo e = a ∧ hi e = b) := fun e he ⟨h1, h2⟩ => by
  have := R.2.2.2.1 e he
  rw [h1, h2, h0] at this
  exact hco e he this.symm
theorem mrl_add {a b x : Nat} (R : mrl n m lo hi co C) (hco : ∀ e, e < m → co e ≠ 0) (hab : a < b) (hb : b < n) (h0 : C a b = 0) : mrl n (m + 1) (setN lo m a) (setN hi m b) (setN co m x) (mput C a b x) := by
  have nj := mrl_nj R hco h0
  obtain ⟨r1, r2, r3, r4, r5, r6⟩ := R
  have lo' : ∀ f : Nat → Nat, ∀ y e, e < m → setN f m y e = f e := fun f y e he => if_neg (by omega)
  have lm : ∀ f : Nat → Nat, ∀ y, setN f m y m = y := fun f y => if_pos rfl
  refine ⟨fun i j => ?_, fun i => ?_, fun e he => ?_, fun e he => ?_, fun e e' he he' h1 h2 => ?_, fun i j hij hj hne => ?_⟩
  · unfold mput
    by_cases q : (i = a ∧ j = b) ∨ (i = b ∧ j = a)
    · rw [if_pos q, if_pos (by omega)]
    · rw [if_neg q, if_neg (by omega), r1]
  · unfold mput
    rw [if_neg (by omega)]
    exact r2 i
  · rcases Nat.lt_or_ge e m with q | q
    · rw [lo' _ _ _ q, lo' _ _ _ q]; exact r3 e q
    · have : e = m := by omega
      subst this
      rw [lm, lm]; exact ⟨hab, hb⟩
  · rcases Nat.lt_or_ge e m with q | q
    · rw [lo' _ _ _ q, lo' _ _ _ q, lo' _ _ _ q]
      have h3 := r3 e q
      have := nj e q
      unfold mput
      rw [if_neg (by omega)]
      exact r4 e q
    · have : e = m := by omega
      subst this
      rw [lm, lm, lm]
      unfold mput
      exact if_pos (Or.inl ⟨rfl, rfl⟩)
  · rcases Nat.lt_or_ge e m with q | q <;> rcases Nat.lt_or_ge e' m with q' | q'
    · rw [lo' _ _ _ q, lo' _ _ _ q'] at h1 h2
      exact r5 e e' q q' h1 h2
    · have : e' = m := by omega
      subst this
      rw [lo' _ _ _ q, lm] at h1 h2
      exact absurd ⟨h1, h2⟩ (nj e q)
    · have : e = m := by omega
      subst this
      rw [lo' _ _ _ q', lm] at h1 h2
      exact absurd ⟨h1.symm, h2.symm⟩ (nj e' q')
    · omega
  · by_cases q : i = a ∧ j = b
    · exact ⟨m, Nat.lt_succ_self m, by rw [lm]; exact q.1.symm, by rw [lm]; exact q.2.symm⟩
    · unfold mput at hne
      rw [if_neg (by omega)] at hne
      obtain ⟨e, he, h1, h2⟩ := r6 i j hij hj hne
      exact ⟨e, Nat.lt_succ_of_lt he, by rw [lo' _ _ _ he]; exact h1, by rw [lo' _ _ _ he]; exact h2⟩
end

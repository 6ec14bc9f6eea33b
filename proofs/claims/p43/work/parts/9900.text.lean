/-! THE LAW'S TEXT: how the grammar reads it -/
/-- the letters w stand at p -/
def seg (t : tX) (p : Nat) (w : List Nat) : Prop := ∀ j, j < w.length → p + j < t.1 ∧ t.2 (p + j) = w.getD j 0
section
variable {t : tX} {p q c v : Nat} {u w : List Nat}
theorem seg_l (h : seg t p (u ++ w)) : seg t p u := fun j hj => by
  have h2 : j < (u ++ w).length := by rw [List.length_append]; omega
  have := h j h2
  rcases gd_app h2 with ⟨_, e⟩ | ⟨z, _⟩
  · rw [e] at this; exact this
  · omega
theorem seg_r (h : seg t p (u ++ w)) : seg t (p + u.length) w := fun j hj => by
  have h2 : u.length + j < (u ++ w).length := by rw [List.length_append]; omega
  have := h _ h2
  rw [← Nat.add_assoc] at this
  rcases gd_app h2 with ⟨z, _⟩ | ⟨_, _, e⟩
  · omega
  · rw [e, show u.length + j - u.length = j by omega] at this; exact this
theorem seg_c (h : seg t p (c :: w)) : (p < t.1 ∧ t.2 p = c) ∧ seg t (p + 1) w := ⟨h 0 (Nat.succ_pos _), fun j hj => by
  have := h (j + 1) (Nat.succ_lt_succ hj)
  rw [show p + (j + 1) = p + 1 + j by omega] at this
  exact this⟩
theorem run_seg {f : Nat → Bool} : ∀ {w : List Nat} {p : Nat}, seg t p (w ++ [c]) → (∀ x, x ∈ w → f x = true) → f c = false → run f t p = p + w.length
  | [], p, h, _, hc => by
    have := (seg_c h).1
    exact run_out (Or.inr (by rw [this.2]; exact hc))
  | x :: w, p, h, hw, hc => by
    obtain ⟨⟨a, b⟩, h2⟩ := seg_c h
    rw [run_in a (by rw [b]; exact hw x (List.mem_cons_self ..)), run_seg h2 (fun y hy => hw y (List.mem_cons_of_mem _ hy)) hc, List.length_cons]
    omega
theorem skp_0 (h : seg t p (c :: w)) (hc : c ≠ 32) : sk t p = p := run_out (Or.inr (by rw [(seg_c h).1.2]; exact decide_eq_false hc))
theorem skp_1 (h : seg t p (32 :: c :: w)) (hc : c ≠ 32) : sk t p = p + 1 := by
  obtain ⟨⟨a, b⟩, h2⟩ := seg_c h
  have : run isSp t p = run isSp t (p + 1) := run_in a (by rw [b]; rfl)
  exact this.trans (skp_0 h2 hc)
theorem isC_y (h : seg t p (c :: w)) : isC t p c = true := by
  obtain ⟨⟨a, b⟩, _⟩ := seg_c h
  unfold isC
  rw [decide_eq_true a, decide_eq_true b]
  rfl
theorem isC_n {e : Nat} (h : seg t p (c :: w)) (hc : c ≠ e) : isC t p e = false := by
  obtain ⟨⟨a, b⟩, _⟩ := seg_c h
  unfold isC
  rw [decide_eq_false (show ¬ t.2 p = e by rw [b]; exact hc), Bool.and_false]
theorem pSym_ok (h : seg t p (c :: w)) (hc : c ≠ 32) : pSym t c p = .inr (p + 1) := by
  unfold pSym
  rw [skp_0 h hc, if_pos (isC_y h)]
theorem dgAt_y (h : seg t p (c :: w)) : dgAt t p = isDg c := by
  obtain ⟨⟨a, b⟩, _⟩ := seg_c h
  unfold dgAt
  rw [decide_eq_true a, b, Bool.true_and]
theorem valU_in {k v2 : Nat} (h : isDg (t.2 p) = true) : valU t.2 (k + 1) p v2 = valU t.2 k (p + 1) (10 * v2 + (t.2 p - 48)) := by
  show (if isDg (t.2 p) = true then _ else _) = _
  rw [if_pos h]
theorem valU_out {k v2 : Nat} (h : isDg (t.2 p) = false) : valU t.2 k p v2 = v2 := by
  cases k with
  | zero => rfl
  | succ k =>
    show (if isDg (t.2 p) = true then _ else _) = _
    rw [if_neg (by rw [h]; decide)]
theorem isDg_d {x : Nat} (h : x < 10) : isDg (48 + x) = true := by
  unfold isDg
  rw [decide_eq_true_eq]
  omega
/-- a number of one or two digits -/
theorem num_ok (h : seg t p (dec2 v ++ [c])) (hv : v < 100) (hc : isDg c = false) : dgAt t p = true ∧ num t p = v ∧ te t p = p + (dec2 v).length := by
  have hd : dgAt t p = true := by
    unfold dec2 at h
    split at h
    · rw [dgAt_y h]; exact isDg_d (by omega)
    · rw [dgAt_y h]; exact isDg_d (by omega)
  refine ⟨hd, ?_, ?_⟩
  · unfold num
    unfold dec2 at h
    split at h
    · rename_i z
      obtain ⟨⟨a, b⟩, h2⟩ := seg_c h
      obtain ⟨⟨a2, b2⟩, _⟩ := seg_c h2
      rw [show t.1 - p = (t.1 - (p + 1)) + 1 by omega, valU_in (by rw [b]; exact isDg_d z), valU_out (by rw [b2]; exact hc), b]
      omega
    · rename_i z
      obtain ⟨⟨a, b⟩, h2⟩ := seg_c h
      obtain ⟨⟨a2, b2⟩, h3⟩ := seg_c h2
      obtain ⟨⟨a3, b3⟩, _⟩ := seg_c h3
      rw [show t.1 - p = (t.1 - (p + 1 + 1)) + 1 + 1 by omega, valU_in (by rw [b]; exact isDg_d (by omega)), valU_in (by rw [b2]; exact isDg_d (by omega)), valU_out (by rw [b3]; exact hc), b, b2]
      omega
  · rw [te_dg hd]
    refine run_seg h (fun x hx => ?_) hc
    unfold dec2 at hx
    split at hx
    · rename_i z
      rw [List.mem_singleton.mp hx]
      exact isDg_d z
    · rename_i z
      rcases List.mem_cons.mp hx with e | hx
      · rw [e]; exact isDg_d (by omega)
      · rw [List.mem_singleton.mp hx]; exact isDg_d (by omega)
theorem dec2_hd (v : Nat) (hv : v < 100) : ∃ x r, dec2 v = x :: r ∧ x ≠ 32 := by
  unfold dec2
  split
  · exact ⟨_, _, rfl, by omega⟩
  · exact ⟨_, _, rfl, by omega⟩
theorem pNum_ok {lo hi : Nat} (h : seg t p (32 :: (dec2 v ++ [c]))) (hv : v < 100) (hc : isDg c = false) (h1 : lo ≤ v) (h2 : v ≤ hi) : pNum t p lo hi = .inr (v, p + 1) ∧ te t (p + 1) = p + 1 + (dec2 v).length := by
  obtain ⟨_, h3⟩ := seg_c h
  obtain ⟨a, b, e⟩ := num_ok h3 hv hc
  obtain ⟨x, r, q1, q2⟩ := dec2_hd v hv
  have es : sk t p = p + 1 := by
    rw [q1] at h
    exact skp_1 h q2
  refine ⟨?_, e⟩
  unfold pNum
  rw [es, if_pos a, b, if_pos ⟨h1, h2⟩]
theorem wd_lt : ∀ s, s < 8 → ∀ x, x ∈ am_strs.getD s [] → isLt x = true := by decide
theorem wd_df : ∀ s, s < 8 → ∀ s', s' < 8 → wLen s = wLen s' → (∀ k, k < wLen s' → wCh s k = wCh s' k) → s = s' := by decide
/-- a word -/
theorem wd_ok {s : Nat} (hs : s < 8) (h : seg t p (am_strs.getD s [] ++ [c])) (hc : isLt c = false) : (∀ s', s' < 8 → wIs t p s' = decide (s = s')) ∧ te t p = p + wLen s ∧ sk t p = p ∧ dgAt t p = false ∧ isC t p 40 = false := by
  have er : run isLt t p = p + wLen s := run_seg h (wd_lt s hs) hc
  have hh := seg_l h
  have hA : ∀ s', s' < 8 → wIs t p s' = decide (s = s') := fun s' hs' => by
    unfold wIs
    rw [er, show p + wLen s - p = wLen s by omega]
    by_cases e : s = s'
    · subst e
      rw [decide_eq_true rfl, decide_eq_true rfl, Bool.true_and]
      exact decide_eq_true (fun k hk => (hh k hk).2)
    · rw [decide_eq_false e]
      by_cases e2 : wLen s = wLen s'
      · rw [decide_eq_true e2, Bool.true_and, decide_eq_false_iff_not]
        intro z
        refine e (wd_df s hs s' hs' e2 fun k hk => ?_)
        rw [← z k hk]
        exact (hh k (by show k < wLen s; omega)).2.symm
      · rw [decide_eq_false e2]
        rfl
  have h0 := hh 0 (wLen_pos s hs).1
  have hl : isLt (t.2 p) = true := by
    have e : t.2 p = wCh s 0 := h0.2
    rw [e]
    have : ∀ s, s < 8 → isLt (wCh s 0) = true := by decide
    exact this s hs
  have hb : 97 ≤ t.2 p := by
    unfold isLt at hl
    rw [decide_eq_true_eq] at hl
    exact hl.1
  refine ⟨hA, wIs_te hs (by rw [hA s hs]; exact decide_eq_true rfl), run_out (Or.inr (decide_eq_false (by omega))), ?_, ?_⟩
  · unfold dgAt isDg
    rw [show decide (48 ≤ t.2 p ∧ t.2 p ≤ 57) = false from decide_eq_false (by omega), Bool.and_false]
  · unfold isC
    rw [show decide (t.2 p = 40) = false from decide_eq_false (by omega), Bool.and_false]
/-! statements -/
theorem dec2_1 : ∀ v, 1 ≤ (dec2 v).length := fun v => by rw [dec2_len]; split <;> omega
theorem pStS_ter {g : gD} {L : Nat} (h : seg t p (am_strs.getD 1 [] ++ 32 :: (dec2 v ++ [59]))) (hv : v < 100) (h5 : pcn (gT g) < 5) (hn : v ≤ gN g - 1) (hT : (gT g).testBit v = false) : pStS t p g L = .inr (p + (9 + (dec2 v).length + 1), gOn g v, L) := by
  have h1 : seg t p (am_strs.getD 1 [] ++ [32]) := seg_l (w := dec2 v ++ [59]) (by rw [List.append_assoc]; exact h)
  obtain ⟨a1, a2, a3, _⟩ := wd_ok (by decide) h1 (by decide)
  have h2 := seg_r h
  have e8 : wLen 1 = 8 := rfl
  have e8' : (am_strs.getD 1 []).length = 8 := rfl
  rw [e8'] at h2
  rw [e8] at a2
  obtain ⟨b1, b2⟩ := pNum_ok h2 hv (by decide) (Nat.zero_le v) hn
  have h3 := seg_r (seg_c h2).2
  have e3 : pStm t p g L = .inr (te t (p + 8 + 1), gOn g v, L) := by
    unfold pStm pTerS
    rw [a3, a1 1 (by decide), if_pos (by decide), if_neg (by omega), a2, b1]
    dsimp only
    rw [if_neg (by rw [hT]; decide)]
  unfold pStS
  rw [e3]
  dsimp only
  rw [b2, pSym_ok h3 (by decide)]
  dsimp only
  rw [show p + 8 + 1 + (dec2 v).length + 1 = p + (9 + (dec2 v).length + 1) by omega]
theorem pStS_ld {g : gD} {L x : Nat} (h : seg t p (am_strs.getD 3 [] ++ 32 :: (dec2 v ++ 32 :: (dec2 x ++ [59])))) (hv : v < 100) (hx : x < 100) (hn : v ≤ gN g - 1) (hL : L.testBit v = false) : pStS t p g L = .inr (p + (5 + (dec2 v).length + (1 + (dec2 x).length + 1)), gLdS g v x, L ||| 2 ^ v) := by
  have h1 : seg t p (am_strs.getD 3 [] ++ [32]) := seg_l (w := dec2 v ++ 32 :: (dec2 x ++ [59])) (by rw [List.append_assoc]; exact h)
  obtain ⟨a1, a2, a3, _⟩ := wd_ok (by decide) h1 (by decide)
  have h2 := seg_r h
  have e8 : wLen 3 = 4 := rfl
  have e8' : (am_strs.getD 3 []).length = 4 := rfl
  rw [e8'] at h2
  rw [e8] at a2
  have h2' : seg t (p + 4) (32 :: (dec2 v ++ [32])) := seg_l (w := dec2 x ++ [59]) (by
    rw [List.cons_append, List.append_assoc]; exact h2)
  obtain ⟨b1, b2⟩ := pNum_ok h2' hv (by decide) (Nat.zero_le v) hn
  have h3 := seg_r (seg_c h2).2
  obtain ⟨c1, c2⟩ := pNum_ok h3 hx (by decide) (Nat.zero_le x) (show x ≤ 99 by omega)
  have h4 := seg_r (seg_c h3).2
  have e3 : pStm t p g L = .inr (te t (p + 4 + 1 + (dec2 v).length + 1), gLdS g v x, L ||| 2 ^ v) := by
    unfold pStm pLdS
    rw [a3, a1 1 (by decide), if_neg (by decide), a1 2 (by decide), if_neg (by decide), a1 3 (by decide), if_pos (by decide), a2, b1]
    dsimp only
    rw [if_neg (by rw [hL]; decide), b2, c1]
  unfold pStS
  rw [e3]
  dsimp only
  rw [c2, pSym_ok h4 (by decide)]
  dsimp only
  rw [show p + 4 + 1 + (dec2 v).length + 1 + (dec2 x).length + 1 = p + (5 + (dec2 v).length + (1 + (dec2 x).length + 1)) by omega]
theorem pStS_ed {g : gD} {L x y : Nat} (h : seg t p (am_strs.getD 2 [] ++ 32 :: (dec2 v ++ 32 :: (dec2 x ++ 32 :: (dec2 y ++ [59]))))) (hv : v < 100) (hx : x < 100) (hy : 1 ≤ y ∧ y < 100) (hn : v ≤ gN g - 1) (hn2 : x ≤ gN g - 1) (h20 : gM g < 20) (hne : v ≠ x) (hj : joins (gM g) (gLo g) (gHi g) v x = false) : pStS t p g L = .inr (p + (5 + (dec2 v).length + (1 + (dec2 x).length + (1 + (dec2 y).length + 1))), gAdd g v x y, L) := by
  have h1 : seg t p (am_strs.getD 2 [] ++ [32]) := seg_l (w := dec2 v ++ 32 :: (dec2 x ++ 32 :: (dec2 y ++ [59]))) (by rw [List.append_assoc]; exact h)
  obtain ⟨a1, a2, a3, _⟩ := wd_ok (by decide) h1 (by decide)
  have h2 := seg_r h
  have e8 : wLen 2 = 4 := rfl
  have e8' : (am_strs.getD 2 []).length = 4 := rfl
  rw [e8'] at h2
  rw [e8] at a2
  have h2' : seg t (p + 4) (32 :: (dec2 v ++ [32])) := seg_l (w := dec2 x ++ 32 :: (dec2 y ++ [59])) (by
    rw [List.cons_append, List.append_assoc]; exact h2)
  obtain ⟨b1, b2⟩ := pNum_ok h2' hv (by decide) (Nat.zero_le v) hn
  have h3 := seg_r (seg_c h2).2
  have h3' : seg t (p + 4 + 1 + (dec2 v).length) (32 :: (dec2 x ++ [32])) := seg_l (w := dec2 y ++ [59]) (by
    rw [List.cons_append, List.append_assoc]; exact h3)
  obtain ⟨c1, c2⟩ := pNum_ok h3' hx (by decide) (Nat.zero_le x) hn2
  have h4 := seg_r (seg_c h3).2
  obtain ⟨d1, d2⟩ := pNum_ok h4 hy.2 (by decide) hy.1 (show y ≤ 99 by omega)
  have h5 := seg_r (seg_c h4).2
  have e3 : pStm t p g L = .inr (te t (p + 4 + 1 + (dec2 v).length + 1 + (dec2 x).length + 1), gAdd g v x y, L) := by
    unfold pStm pEdS
    rw [a3, a1 1 (by decide), if_neg (by decide), a1 2 (by decide), if_pos (by decide), if_neg (by omega), a2, b1]
    dsimp only
    rw [b2, c1]
    dsimp only
    rw [if_neg (by rw [hj]; simp [hne]), c2, d1]
  unfold pStS
  rw [e3]
  dsimp only
  rw [d2, pSym_ok h5 (by decide)]
  dsimp only
  rw [show p + 4 + 1 + (dec2 v).length + 1 + (dec2 x).length + 1 + (dec2 y).length + 1 = p + (5 + (dec2 v).length + (1 + (dec2 x).length + (1 + (dec2 y).length + 1))) by omega]
end

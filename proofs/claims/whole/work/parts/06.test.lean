def te_sum (m : Int32 → Int32) : Nat → Int32
  | 0 => 0
  | n + 1 => te_sum m n + m (nI n)
theorem te_costOfEdges_loop (xs : am_X) (h : am_H) (g E d m : Nat) (hk : am_k h g = (1, 2)) (hm : m ≤ 20) (hn : am_i h g 1 = nI m) (hc : am_k h (am_r h g 8) = (2, 20)) : ∀ (k i : Nat) (s x : Int32), i + k = m → x = nI i → am_W xs (am_code at_Gr_costOfEdges) ah_Gr_costOfEdges (am_C xs am_P0 d) (fun r h' => h' = h) 4 [.ref g, .int (nI E), .int s, .int x] [] h := by
  intro k
  induction k with
  | zero =>
    intro i s x hi hx
    refine am_go (fun p => p == 4) (fun K cal Q' hK hC hQ => ?_)
    refine And.intro hk ?_
    refine And.intro (fun hc => ?_) (fun hc => ?_)
    · refine And.intro trivial ?_
      exact hQ _ _ rfl
    · exact absurd (show am_i h g 1 ≤ x by rw [hn, hx]; exact nI_le (by omega) (by omega)) hc
  | succ k ih =>
    intro i s x hi hx
    have hlt : i < m := by omega
    refine am_go (fun p => p == 4) (fun K cal Q' hK hC hQ => ?_)
    refine And.intro hk ?_
    refine And.intro (fun hc => ?_) (fun hc => ?_)
    · exact absurd (show am_i h g 1 ≤ x from hc) (by rw [hn, hx]; exact nI_ge hlt (by omega))
    · refine And.intro (fun hb => ?_) (fun hb => ?_)
      · exact hK _ _ _ _ (ih (i + 1) s _ (by omega) (by rw [hx]; exact nI_1 i))
      · refine And.intro hk ?_
        refine And.intro (And.intro (by rw [hc]) (by rw [hc, hx]; exact vp_in_nI (by omega) (by omega))) ?_
        exact hK _ _ _ _ (ih (i + 1) _ _ (by omega) (by rw [hx]; exact nI_1 i))

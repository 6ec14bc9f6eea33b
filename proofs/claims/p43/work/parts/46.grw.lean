/-! GRAPH: the cost expression -/
/-- codes behind one another: what they leave on the pile -/
def foOp (c : Int) (x y : Int) : Int := max (-1000000) (min 1000000 (if c = -4 then x + y else if c = -5 then x - y else if c = -6 then x * y else if y = 0 then 0 else x.tdiv y))
def foVal (w l g : Int) (c : Int) : Int := if c = -1 then w else if c = -2 then l else if c = -3 then g else c
/-- one code on a pile (its top first) -/
def foPop (f : Int → Int → Int) : List Int → List Int
  | y :: x :: P => f x y :: P
  | P => P
def foStep (w l g : Int) (c : Int) (P : List Int) : List Int := if c ≤ -4 then foPop (foOp c) P else foVal w l g c :: P
def foRun (w l g : Int) : List Int → List Int → List Int
  | [], P => P
  | c :: cs, P => foRun w l g cs (foStep w l g c P)
/-- codes that are well made: from a pile of height k they come to one of height j, never above 11; an operation finds two -/
def foOk : List Int → Nat → Nat → Prop
  | [], k, j => k = j
  | c :: cs, k, j => (-7 ≤ c ∧ c ≤ 9999) ∧ (if c ≤ -4 then 2 ≤ k ∧ foOk cs (k - 1) j else k < 11 ∧ foOk cs (k + 1) j)
theorem foOp_rng (c x y : Int) : -1000000 ≤ foOp c x y ∧ foOp c x y ≤ 1000000 := by
  unfold foOp
  omega
set_option maxHeartbeats 4000000 in
theorem c_operand {xs : am_X} {d : Nat} {h : am_H} (hd : 1 ≤ d) {c w l g : Int32} {ci wi li gi : Int} (hc : c.toInt = ci) (hw : w.toInt = wi) (hl : l.toInt = li) (hg : g.toInt = gi) {Q : am_Q} (HQ : ∀ r : Int32, r.toInt = foVal wi li gi ci → Q (.inl (some (.int r))) h) : am_C xs am_P0 d m_Fo_operand [.int c, .int w, .int l, .int g] h Q := by
  have e1 : (-nI 1 : Int32).toInt = -1 := by decide
  have e2 : (-nI 2 : Int32).toInt = -2 := by decide
  have e3 : (-nI 3 : Int32).toInt = -3 := by decide
  refine am_C_le hd (am_enter (d := 0) ap_Fo_operand rfl ?_) (fun _ _ k => k)
  refine am_go (fun _ => false) (fun K cal Q' hK hC hQ => ?_)
  unfold foVal at HQ
  refine And.intro (fun z => ?_) (fun z => ?_)
  · have z : ci ≠ -1 := fun q => z ((fa_eq _ _).mpr (by rw [hc, e1, q]))
    rw [if_neg z] at HQ
    refine And.intro (fun z2 => ?_) (fun z2 => ?_)
    · have z2 : ci ≠ -2 := fun q => z2 ((fa_eq _ _).mpr (by rw [hc, e2, q]))
      rw [if_neg z2] at HQ
      refine And.intro (fun z3 => ?_) (fun z3 => ?_)
      · have z3 : ci ≠ -3 := fun q => z3 ((fa_eq _ _).mpr (by rw [hc, e3, q]))
        rw [if_neg z3] at HQ
        exact And.intro trivial (hQ _ _ (HQ _ hc))
      · have z3 : ci = -3 := by rw [← hc, ← e3]; exact (fa_eq _ _).mp (Classical.not_not.mp z3)
        rw [if_pos z3] at HQ
        exact And.intro trivial (hQ _ _ (HQ _ hg))
    · have z2 : ci = -2 := by rw [← hc, ← e2]; exact (fa_eq _ _).mp (Classical.not_not.mp z2)
      rw [if_pos z2] at HQ
      exact And.intro trivial (hQ _ _ (HQ _ hl))
  · have z : ci = -1 := by rw [← hc, ← e1]; exact (fa_eq _ _).mp (Classical.not_not.mp z)
    rw [if_pos z] at HQ
    exact And.intro trivial (hQ _ _ (HQ _ hw))

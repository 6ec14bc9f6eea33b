/-! THE BEST MOVE -/
/-- vertex, terminal, cost then -/
abbrev mvT : Type := Option (Nat × Nat × Nat)
def setL (lab : Nat → Int32) (v t : Nat) : Nat → Int32 := fun w => if w = v then nI t else lab w
def mvc (m : Nat) (lo hi co : Nat → Nat) (lab : Nat → Int32) (v t : Nat) : Nat := sumE co (dif lo hi (setL lab v t)) m
def mvu (o : mvT) (x : Nat × Nat × Nat) : mvT := match o with
  | none => some x
  | some q => if x.2.2 < q.2.2 then some x else some q
def mv1 (m T : Nat) (lo hi co : Nat → Nat) (lab : Nat → Int32) (v t : Nat) (o : mvT) : mvT :=
  if T.testBit v = false ∧ T.testBit t = true ∧ lab v ≠ nI t then mvu o (v, t, mvc m lo hi co lab v t) else o
def mvr (m T : Nat) (lo hi co : Nat → Nat) (lab : Nat → Int32) (v : Nat) (o : mvT) : Nat → mvT
  | 0 => o
  | t + 1 => mv1 m T lo hi co lab v t (mvr m T lo hi co lab v o t)
def mva (n m T : Nat) (lo hi co : Nat → Nat) (lab : Nat → Int32) : Nat → mvT
  | 0 => none
  | v + 1 => mvr m T lo hi co lab v (mva n m T lo hi co lab v) n
def oV1 (o : mvT) : Int32 := match o with
  | none => -nI 1
  | some q => nI q.1
def oT1 (o : mvT) : Int32 := match o with
  | none => -nI 1
  | some q => nI q.2.1
def oC1 (o : mvT) : Int32 := match o with
  | none => -nI 1
  | some q => nI q.2.2
def mst (h : am_H) (o : mvT) : Prop := am_i h 86 0 = oV1 o ∧ am_i h 86 1 = oT1 o ∧ am_i h 86 2 = oC1 o
def mok (n : Nat) (o : mvT) : Prop := ∀ q, o = some q → q.1 < n ∧ q.2.1 < n ∧ q.2.2 ≤ 20 * 9999
theorem mvc_le {m : Nat} {lo hi co : Nat → Nat} {lab : Nat → Int32} {v t : Nat} (hm : m ≤ 20) (hc : ∀ e, e < m → co e ≤ 9999) : mvc m lo hi co lab v t ≤ 20 * 9999 := Nat.le_trans (sumE_le hc) (Nat.mul_le_mul_right _ hm)
theorem mvu_ok {n : Nat} {o : mvT} {x : Nat × Nat × Nat} (ho : mok n o) (h1 : x.1 < n) (h2 : x.2.1 < n) (h3 : x.2.2 ≤ 20 * 9999) : mok n (mvu o x) := by
  intro q hq
  unfold mvu at hq
  split at hq
  · cases hq; exact ⟨h1, h2, h3⟩
  · split at hq
    · cases hq; exact ⟨h1, h2, h3⟩
    · cases hq; exact ho _ rfl
theorem mv1_ok {n m T : Nat} {lo hi co : Nat → Nat} {lab : Nat → Int32} {v t : Nat} {o : mvT} (hm : m ≤ 20) (hc : ∀ e, e < m → co e ≤ 9999) (ho : mok n o) (hv : v < n) (ht : t < n) : mok n (mv1 m T lo hi co lab v t o) := by
  unfold mv1
  split
  · exact mvu_ok ho hv ht (mvc_le hm hc)
  · exact ho
theorem mvr_ok {n m T : Nat} {lo hi co : Nat → Nat} {lab : Nat → Int32} {v : Nat} {o : mvT} (hm : m ≤ 20) (hc : ∀ e, e < m → co e ≤ 9999) (ho : mok n o) (hv : v < n) : ∀ t, t ≤ n → mok n (mvr m T lo hi co lab v o t)
  | 0, _ => ho
  | t + 1, h => mv1_ok hm hc (mvr_ok hm hc ho hv t (by omega)) hv (by omega)
theorem mva_ok {n m T : Nat} {lo hi co : Nat → Nat} {lab : Nat → Int32} (hm : m ≤ 20) (hc : ∀ e, e < m → co e ≤ 9999) : ∀ v, v ≤ n → mok n (mva n m T lo hi co lab v)
  | 0, _ => fun q h => by cases h
  | v + 1, h => mvr_ok hm hc (mva_ok hm hc v (by omega)) (by omega) n (Nat.le_refl _)
/-- whether the best move improves -/
def mvi (m : Nat) (lo hi co : Nat → Nat) (lab : Nat → Int32) (o : mvT) : Bool := match o with
  | none => false
  | some q => decide (q.2.2 < sumE co (dif lo hi lab) m)
def mvl (lab : Nat → Int32) (o : mvT) : Nat → Int32 := match o with
  | none => lab
  | some q => setL lab q.1 q.2.1

/-! HISTORY: one back; an edge dropped -/
theorem q_back8 : ∀ x, x < 8 → nI x + nI 8 - nI 1 - (nI x + nI 8 - nI 1) / nI 8 * nI 8 = nI ((x + 7) % 8) := by decide +kernel
/-- rows behind an edge come one nearer -/
def drp {α : Type} (e : Nat) (f : Nat → α) : Nat → α := fun k => if k < e then f k else f (k + 1)

/-! THE EXACT ASSIGNMENT, the model's order of assignments -/
theorem llt_tri (A B : Nat → Nat) : ∀ n, llt n A B ∨ lag n A B ∨ llt n B A
  | 0 => Or.inr (Or.inl fun _ z => absurd z (Nat.not_lt_zero _))
  | n + 1 => by
    rcases llt_tri A B n with ⟨u, u1, u2, u3⟩ | h | ⟨u, u1, u2, u3⟩
    · exact Or.inl ⟨u, by omega, u2, u3⟩
    · rcases Nat.lt_trichotomy (A n) (B n) with q | q | q
      · exact Or.inl ⟨n, by omega, h, q⟩
      · exact Or.inr (Or.inl fun w hw => by
          by_cases z : w = n
          · rw [z]; exact q
          · exact h w (by omega))
      · exact Or.inr (Or.inr ⟨n, by omega, fun w hw => (h w hw).symm, q⟩)
    · exact Or.inr (Or.inr ⟨u, by omega, u2, u3⟩)
def lval (A : Nat → Nat) : Nat → Nat
  | 0 => 0
  | n + 1 => lval A n * 10 + A n
theorem lval_ag {A B : Nat → Nat} : ∀ {n : Nat}, (∀ w, w < n → A w = B w) → lval A n = lval B n
  | 0, _ => rfl
  | n + 1, h => by
    show lval A n * 10 + A n = lval B n * 10 + B n
    rw [lval_ag fun w z => h w (by omega), h n (by omega)]
theorem lval_lt {A B : Nat → Nat} : ∀ {n : Nat}, (∀ w, w < n → A w < 10) → llt n A B → lval A n < lval B n
  | 0, _, ⟨u, z, _⟩ => absurd z (Nat.not_lt_zero u)
  | n + 1, hd, ⟨u, u1, u2, u3⟩ => by
    show lval A n * 10 + A n < lval B n * 10 + B n
    by_cases q : u = n
    · subst q
      rw [lval_ag u2]
      omega
    · have a := lval_lt (n := n) (fun w z => hd w (by omega)) ⟨u, by omega, u2, u3⟩
      have b := hd n (by omega)
      omega
theorem lval_b {A : Nat → Nat} : ∀ {n : Nat}, n ≤ 9 → (∀ w, w < n → A w < 10) → lval A n < 1000000000
  | n, hn, hd => by
    have key : ∀ k, k ≤ n → lval A k < 10 ^ k := by
      intro k
      induction k with
      | zero => intro _; show 0 < 1; decide
      | succ k ih =>
        intro hk
        have a := ih (by omega)
        have b := hd k (by omega)
        show lval A k * 10 + A k < 10 ^ k * 10
        omega
    have a := key n (Nat.le_refl n)
    have b : 10 ^ n ≤ 10 ^ 9 := Nat.pow_le_pow_right (by decide) hn
    omega
/-- the terminals in their order -/
def kdn (n T km : Nat) (kd : Nat → Nat) : Prop := (∀ k, k < km → T.testBit (kd k) = true ∧ kd k < n) ∧ (∀ t, t < n → T.testBit t = true → ∃ k, k < km ∧ kd k = t) ∧ ∀ i j, i < j → j < km → kd i < kd j
theorem kdn_le {n T km : Nat} {kd : Nat → Nat} (K : kdn n T km kd) {i j : Nat} (h : i ≤ j) (hj : j < km) : kd i ≤ kd j := by
  by_cases q : i = j
  · rw [q]; exact Nat.le_refl _
  · exact Nat.le_of_lt (K.2.2 i j (by omega) hj)
/-- the assignment that goesOn makes at v -/
def gnx (T : Nat) (kd A : Nat → Nat) (v x : Nat) : Nat → Nat := fun w => if w = v then x else if v < w then (if T.testBit w = true then w else kd 0) else A w
theorem gnx_valid {n T km : Nat} {kd A : Nat → Nat} (hT : T < 2 ^ n) (K : kdn n T km kd) (h0 : 0 < km) (hA : avalid n T A) {v x : Nat} (hv : T.testBit v = false) (hx : T.testBit x = true) : avalid n T (gnx T kd A v x) := by
  intro w hw
  unfold gnx
  by_cases a : w = v
  · rw [if_pos a]; exact ⟨hx, fun z => by rw [a, hv] at z; cases z⟩
  · rw [if_neg a]
    by_cases b : v < w
    · rw [if_pos b]
      by_cases c : T.testBit w = true
      · rw [if_pos c]; exact ⟨c, fun _ => rfl⟩
      · rw [if_neg c]; exact ⟨(K.1 0 h0).1, fun z => absurd z c⟩
    · rw [if_neg b]; exact hA w hw
theorem gnx_next {n T km : Nat} {kd A : Nat → Nat} (hT : T < 2 ^ n) (K : kdn n T km kd) (hA : avalid n T A) {v k : Nat} (hvn : v < n) (hk : k + 1 < km) (hAv : A v = kd k) (hmax : ∀ w, v < w → w < n → T.testBit w = false → A w = kd (km - 1)) : llt n A (gnx T kd A v (kd (k + 1))) ∧ ∀ C, avalid n T C → ¬ (llt n A C ∧ llt n C (gnx T kd A v (kd (k + 1)))) := by
  have lowe : ∀ w, w < v → gnx T kd A v (kd (k + 1)) w = A w := fun w hw => by unfold gnx; rw [if_neg (by omega), if_neg (by omega)]
  have at9 : gnx T kd A v (kd (k + 1)) v = kd (k + 1) := if_pos rfl
  have hk1 := K.2.2 k (k + 1) (by omega) hk
  refine ⟨⟨v, hvn, fun w hw => (lowe w hw).symm, by rw [at9, hAv]; exact hk1⟩, fun C hC ⟨⟨u, u1, u2, u3⟩, ⟨y, y1, y2, y3⟩⟩ => ?_⟩
  have kc : ∀ w, w < n → ∃ j, j < km ∧ kd j = C w := fun w hw => K.2.1 (C w) (q_T_lt hT (hC w hw).1) (hC w hw).1
  have uv : u ≤ v := by
    refine Nat.not_lt.mp fun q => ?_
    cases hu : T.testBit u with
    | true => rw [(hA u u1).2 hu, (hC u u1).2 hu] at u3; exact absurd u3 (Nat.lt_irrefl _)
    | false =>
      obtain ⟨j, j1, j2⟩ := kc u u1
      rw [hmax u q u1 hu, ← j2] at u3
      have := kdn_le K (show j ≤ km - 1 by omega) (by omega)
      omega
  by_cases q : u = v
  · subst q
    obtain ⟨j, j1, j2⟩ := kc u u1
    have jk : k < j := Nat.not_le.mp fun z => by
      have := kdn_le K z (by omega)
      rw [hAv, ← j2] at u3
      omega
    have ge := kdn_le K (show k + 1 ≤ j by omega) j1
    have yv : u ≤ y := Nat.not_lt.mp fun z => by
      rw [lowe y z, u2 y z] at y3
      exact absurd y3 (Nat.lt_irrefl _)
    by_cases yq : y = u
    · subst yq
      rw [at9, ← j2] at y3
      omega
    · have y3' : C y < (if T.testBit y = true then y else kd 0) := by
        have : gnx T kd A u (kd (k + 1)) y = if T.testBit y = true then y else kd 0 := by unfold gnx; rw [if_neg yq, if_pos (by omega)]
        rw [this] at y3
        exact y3
      by_cases hy : T.testBit y = true
      · rw [if_pos hy, (hC y y1).2 hy] at y3'
        exact absurd y3' (Nat.lt_irrefl _)
      · rw [if_neg hy] at y3'
        obtain ⟨i, i1, i2⟩ := kc y y1
        have := kdn_le K (Nat.zero_le i) i1
        omega
  · have lt : u < v := by omega
    rcases Nat.lt_trichotomy y u with z | z | z
    · rw [lowe y (by omega), u2 y z] at y3
      exact absurd y3 (Nat.lt_irrefl _)
    · subst z
      rw [lowe y lt] at y3
      omega
    · have := y2 u z
      rw [lowe u lt] at this
      omega
theorem gnx_last {n T km : Nat} {kd A : Nat → Nat} (hT : T < 2 ^ n) (K : kdn n T km kd) (hA : avalid n T A) (hmax : ∀ w, w < n → T.testBit w = false → A w = kd (km - 1)) : ∀ C, avalid n T C → ¬ llt n A C := by
  rintro C hC ⟨u, u1, u2, u3⟩
  cases hu : T.testBit u with
  | true => rw [(hA u u1).2 hu, (hC u u1).2 hu] at u3; exact absurd u3 (Nat.lt_irrefl _)
  | false =>
    obtain ⟨j, j1, j2⟩ := K.2.1 (C u) (q_T_lt hT (hC u u1).1) (hC u u1).1
    rw [hmax u u1 hu, ← j2] at u3
    have := kdn_le K (show j ≤ km - 1 by omega) (by omega)
    omega
/-- the best of the assignments up to A -/
def xbt (n m T : Nat) (lo hi co : Nat → Nat) (A B : Nat → Nat) : Prop := avalid n T B ∧ (∀ C, avalid n T C → ¬ llt n A C → acost m lo hi co B n ≤ acost m lo hi co C n) ∧ (∀ C, avalid n T C → llt n C B → acost m lo hi co B n < acost m lo hi co C n) ∧ ¬ llt n A B
theorem acost_lag {n m : Nat} {lo hi co : Nat → Nat} (hw : ∀ e, e < m → lo e < hi e ∧ hi e < n) {A B : Nat → Nat} (h : lag n A B) : acost m lo hi co A n = acost m lo hi co B n := acost_ag hw h
theorem xbt_step {n m T : Nat} {lo hi co : Nat → Nat} (hw : ∀ e, e < m → lo e < hi e ∧ hi e < n) {A A2 B : Nat → Nat} (h : xbt n m T lo hi co A B) (hA2 : avalid n T A2) (hlt : llt n A A2) (hnx : ∀ C, avalid n T C → ¬ (llt n A C ∧ llt n C A2)) : xbt n m T lo hi co A2 (if acost m lo hi co A2 n < acost m lo hi co B n then A2 else B) := by
  obtain ⟨b1, b2, b3, b4⟩ := h
  have tr : ∀ {X Y Z : Nat → Nat}, llt n X Y → llt n Y Z → llt n X Z := fun {X Y Z} ⟨u, u1, u2, u3⟩ ⟨y, y1, y2, y3⟩ => by
    rcases Nat.lt_trichotomy u y with z | z | z
    · exact ⟨u, u1, fun w hw => (u2 w hw).trans (y2 w (by omega)), by rw [← y2 u z]; exact u3⟩
    · subst z; exact ⟨u, u1, fun w hw => (u2 w hw).trans (y2 w hw), by omega⟩
    · exact ⟨y, y1, fun w hw => (u2 w (by omega)).trans (y2 w hw), by rw [u2 y z]; exact y3⟩
  have irr : ∀ X : Nat → Nat, ¬ llt n X X := fun X ⟨u, _, _, u3⟩ => absurd u3 (Nat.lt_irrefl _)
  have upto : ∀ C, avalid n T C → ¬ llt n A2 C → lag n C A2 ∨ ¬ llt n A C := fun C hC hc => by
    rcases llt_tri C A2 n with z | z | z
    · exact Or.inr fun q => hnx C hC ⟨q, z⟩
    · exact Or.inl z
    · exact absurd z hc
  by_cases c : acost m lo hi co A2 n < acost m lo hi co B n
  · rw [if_pos c]
    refine ⟨hA2, fun C hC hc => ?_, fun C hC hc => ?_, irr A2⟩
    · rcases upto C hC hc with z | z
      · rw [acost_lag hw z]; exact Nat.le_refl _
      · have := b2 C hC z; omega
    · have := b2 C hC fun q => hnx C hC ⟨q, hc⟩
      omega
  · rw [if_neg c]
    refine ⟨b1, fun C hC hc => ?_, b3, fun q => b4 (tr hlt q)⟩
    rcases upto C hC hc with z | z
    · rw [acost_lag hw z]; omega
    · exact b2 C hC z
theorem xbt_end {n m T : Nat} {lo hi co : Nat → Nat} {A B : Nat → Nat} (h : xbt n m T lo hi co A B) (hl : ∀ C, avalid n T C → ¬ llt n A C) : isx n m T lo hi co B := ⟨h.1, fun C hC => h.2.1 C hC (hl C hC), h.2.2.1⟩

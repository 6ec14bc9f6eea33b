/-! THE TIE, 1: what a state of the abstract machine says of the machine -/
/-- the classes (with their slots), the arrays' classes by tag, the base of the cells, the strings, their bytes, the script -/
abbrev am_G : Type := va_G × (Nat → ClassId) × Nat × (Nat → Nat) × (Nat → Nat) × Nat
abbrev am_tys (G : am_G) : List (ClassId × FieldType) := [(G.2.1 2, .int), (G.2.1 3, .byte), (G.2.1 7, .array .int), (G.2.1 6, .object "MultiwayCut$Graph")]
def am_ad (G : am_G) (a : Nat) : Nat := if a ≤ am_top then G.2.2.1 + a else if a < am_scr then G.2.2.2.1 (a - am_S0) else G.2.2.2.2.2
def am_v (G : am_G) (v : Value) : Value := match v with
  | .ref a => if a = 0 then .null else .ref (am_ad G a)
  | v => v
def am_cell (G : am_G) (h : am_H) (a : Nat) : va_E := match am_k h a with
  | (1, ci) => .inr (ci, (List.range (am_nf ci)).map (fun k => if am_isr ci k = true then am_v G (.ref (am_r h a k)) else .int (am_i h a k)))
  | (2, n) => .inl (G.2.1 2, n, .inl (am_i h a))
  | (3, n) => .inl (G.2.1 3, n, .inl (am_i h a))
  | (7, n) => .inl (G.2.1 7, n, .inr (.inr (.inr (.inr (fun j => if am_r h a j = 0 then none else some (am_ad G (am_r h a j)))))))
  | (_, n) => .inl (G.2.1 6, n, .inr (.inr (.inr (.inr (fun j => if am_r h a j = 0 then none else some (am_ad G (am_r h a j)))))))
/-- bytes are bytes -/
def am_bf (h : am_H) : Prop := ∀ a, (am_k h a).1 = 3 → ∀ j, j < (am_k h a).2 → fits .byte (.int (am_i h a j)) = true
theorem am_fitb (v : Int32) : fits .byte (.int (vp_nar .byte v)) = true := by
  have h1 := Int8.toInt_lt v.toInt8
  have h2 := Int8.le_toInt v.toInt8
  have e : (vp_nar .byte v).toInt = v.toInt8.toInt := Int8.toInt_toInt32 _
  have e1 : (-128 : Int32).toInt = -128 := by decide
  have e2 : (127 : Int32).toInt = 127 := by decide
  show (decide (-128 ≤ vp_nar .byte v) && decide (vp_nar .byte v ≤ 127)) = true
  rw [Bool.and_eq_true, decide_eq_true_eq, decide_eq_true_eq, Int32.le_iff_toInt_le, Int32.le_iff_toInt_le, e, e1, e2]
  omega
def am_Rel (G : am_G) (h : am_H) (H : Heap) : Prop := H.size = G.2.2.1 + am_n h ∧ am_n h ≤ am_top ∧ (1 ≤ am_n h ∧ am_bf h) ∧ (∀ a, a = 0 ∨ am_n h ≤ a → (am_k h a).1 = 0) ∧ ∀ a, (am_k h a).1 ≠ 0 → va_at G.1 am_cl (am_ad G a, am_cell G h a) H
def am_A (G : am_G) : Nat → Prop := fun q => G.2.2.1 + 1 ≤ q
theorem am_in {G : am_G} {h : am_H} {H : Heap} {a : Nat} (R : am_Rel G h H) (hk : (am_k h a).1 ≠ 0) : 1 ≤ a ∧ a < am_n h ∧ am_ad G a = G.2.2.1 + a := by
  obtain ⟨-, h2, -, h4, -⟩ := R
  have h1 : a ≠ 0 := fun e => hk (h4 a (Or.inl e))
  have h3 : a < am_n h := Nat.not_le.mp fun e => hk (h4 a (Or.inr e))
  refine ⟨by omega, h3, ?_⟩
  unfold am_ad
  rw [if_pos (by omega)]
theorem am_Rel.P1 {G : am_G} {h : am_H} {H : Heap} {a : Nat} (R : am_Rel G h H) (hk : (am_k h a).1 ≠ 0) {e : va_E} (he : am_cell G h a = e) : va_P G.1 am_cl [(am_ad G a, e)] H := by
  intro k q hq
  have hz : k < 1 := (List.getElem?_eq_some_iff.mp hq).1
  rw [show k = 0 by omega] at hq
  cases hq
  rw [← he]
  exact R.2.2.2.2 a hk
theorem am_cell_i {G : am_G} {h h' : am_H} {x : Nat} (e : am_cell G h' x = am_cell G h x) (k1 : am_k h' x = am_k h x) (k3 : (am_k h x).1 = 3) : am_i h' x = am_i h x := by
  have kk : am_k h x = (3, (am_k h x).2) := Prod.ext k3 rfl
  unfold am_cell at e
  rw [k1, kk] at e
  exact Sum.inl.inj (Prod.mk.inj (Prod.mk.inj (Sum.inl.inj e)).2).2
theorem am_Rel.wr {G : am_G} {h h' : am_H} {H H1 : Heap} {a : Nat} (R : am_Rel G h H) (ha : (am_k h a).1 ≠ 0) (hn : am_n h' = am_n h) (hk : ∀ x, am_k h' x = am_k h x) (hz : H1.size = H.size) (oq : ∀ q : Nat, q ≠ am_ad G a → H1[q]? = H[q]?) (hc : va_at G.1 am_cl (am_ad G a, am_cell G h' a) H1) (ho : ∀ x, x ≠ a → am_cell G h' x = am_cell G h x) (hb : (am_k h a).1 = 3 → ∀ j, j < (am_k h a).2 → fits .byte (.int (am_i h' a j)) = true) : am_Rel G h' H1 := by
  refine ⟨by rw [hz, hn]; exact R.1, by rw [hn]; exact R.2.1, ⟨by rw [hn]; exact R.2.2.1.1, fun x hx j hj => ?_⟩, fun x hx => by rw [hk]; rw [hn] at hx; exact R.2.2.2.1 x hx, fun x hx => ?_⟩
  · rw [hk] at hx hj
    by_cases hxa : x = a
    · subst hxa
      exact hb hx j hj
    · rw [am_cell_i (ho x hxa) (hk x) hx]
      exact R.2.2.1.2 x hx j hj
  by_cases hxa : x = a
  · subst hxa
    exact hc
  · rw [hk] at hx
    rw [ho x hxa]
    refine (R.2.2.2.2 x hx).kept (oq _ fun e => hxa ?_)
    have e1 := (am_in R hx).2.2
    have e2 := (am_in R ha).2.2
    have e3 : am_ad G x = am_ad G a := e
    omega
theorem am_Rel.nw {G : am_G} {h h' : am_H} {H H1 : Heap} (R : am_Rel G h H) (ht : am_n h < am_top) (hn : am_n h' = am_n h + 1) (hk : ∀ x, x ≠ am_n h → am_k h' x = am_k h x) (hz : H1.size = H.size + 1) (oq : ∀ q : Nat, q < H.size → H1[q]? = H[q]?) (hc : (am_k h' (am_n h)).1 ≠ 0 → va_at G.1 am_cl (am_ad G (am_n h), am_cell G h' (am_n h)) H1) (ho : ∀ x, x ≠ am_n h → am_cell G h' x = am_cell G h x) (hb : (am_k h' (am_n h)).1 = 3 → ∀ j, j < (am_k h' (am_n h)).2 → fits .byte (.int (am_i h' (am_n h) j)) = true) : am_Rel G h' H1 := by
  refine ⟨by rw [hz, hn, R.1]; rfl, by omega, ⟨by omega, fun x hx j hj => ?_⟩, fun x hx => ?_, fun x hx => ?_⟩
  · by_cases hxa : x = am_n h
    · subst hxa
      exact hb hx j hj
    · rw [hk x hxa] at hx hj
      rw [am_cell_i (ho x hxa) (hk x hxa) hx]
      exact R.2.2.1.2 x hx j hj
  · rw [hn] at hx
    have := R.2.2.1.1
    rw [hk x (by omega)]
    exact R.2.2.2.1 x (by omega)
  · by_cases hxa : x = am_n h
    · subst hxa
      exact hc hx
    · rw [hk x hxa] at hx
      rw [ho x hxa]
      refine (R.2.2.2.2 x hx).kept (oq _ ?_)
      exact (R.2.2.2.2 x hx).lt
theorem am_cell_eq {G : am_G} {h h' : am_H} {x : Nat} (h1 : am_k h' x = am_k h x) (h2 : am_i h' x = am_i h x) (h3 : am_l h' x = am_l h x) (h4 : am_r h' x = am_r h x) : am_cell G h' x = am_cell G h x := by
  unfold am_cell
  rw [h1, h2, h4]
/-- locals -/
def am_lh (G : am_G) (ls : Array Slot) (L : List Value) : Prop := ls.size = L.length ∧ lv_wf ls ∧ ∀ (i : Nat) (v : Value), L[i]? = some v → v ≠ am_J → ls[i]? = some (.val (am_v G v))
def am_as (G : am_G) (L : List Value) : List (Nat × Value) := (List.range L.length).filterMap (fun i => match L[i]? with
  | some v => if v = am_J then none else some (i, am_v G v)
  | none => none)
theorem am_as_mem {G : am_G} {L : List Value} {q : Nat × Value} : q ∈ am_as G L ↔ ∃ v, L[q.1]? = some v ∧ v ≠ am_J ∧ q.2 = am_v G v := by
  unfold am_as
  rw [List.mem_filterMap]
  constructor
  · rintro ⟨i, hi, he⟩
    cases hv : L[i]? with
    | none => rw [hv] at he; cases he
    | some v =>
      rw [hv] at he
      dsimp only at he
      by_cases hj : v = am_J
      · rw [if_pos hj] at he; cases he
      · rw [if_neg hj] at he
        cases he
        exact ⟨v, hv, hj, rfl⟩
  · rintro ⟨v, hv, hj, e⟩
    refine ⟨q.1, List.mem_range.mpr (List.getElem?_eq_some_iff.mp hv).1, ?_⟩
    rw [hv]
    dsimp only
    rw [if_neg hj, ← e]
theorem am_lh.has {G : am_G} {ls : Array Slot} {L : List Value} (h : am_lh G ls L) : lv_has ls L.length (am_as G L) :=
  ⟨h.1, h.2.1, fun q hq => by
    obtain ⟨v, h1, h2, h3⟩ := am_as_mem.mp hq
    rw [h3]
    exact h.2.2 q.1 v h1 h2⟩
theorem am_v_cat (G : am_G) (v : Value) : (am_v G v).category = v.category := by
  cases v <;> try rfl
  rename_i a
  unfold am_v
  dsimp only
  split <;> rfl
theorem am_set_len (L : List Value) (i : Nat) (v : Value) : (am_set L i v).length = L.length := by
  unfold am_set
  cases i with
  | zero => simp
  | succ j =>
    dsimp only
    split <;> simp
theorem am_set_get {L : List Value} {i : Nat} {v : Value} {j : Nat} {w : Value} (h : (am_set L i v)[j]? = some w) (hw : w ≠ am_J) : (j = i ∧ w = v) ∨ (j ≠ i ∧ L[j]? = some w ∧ ¬ (j + 1 = i ∧ w.category = 2)) := by
  unfold am_set at h
  cases i with
  | zero =>
    by_cases hj : j = 0
    · subst hj
      left
      refine ⟨rfl, ?_⟩
      simp [List.getElem?_set] at h
      exact h.2.symm
    · right
      dsimp only at h
      rw [List.getElem?_set_ne (Ne.symm hj)] at h
      exact ⟨hj, h, fun z => by omega⟩
  | succ k =>
    dsimp only at h
    have key : ∀ (L' : List Value), (∀ t, t ≠ k → L'[t]? = L[t]?) → (L'[k]? = some am_J ∨ L'[k]? = none ∨ (L'[k]? = L[k]? ∧ ∀ z, L[k]? = some z → z.category ≠ 2)) → (L'.set (k + 1) v)[j]? = some w → (j = k + 1 ∧ w = v) ∨ (j ≠ k + 1 ∧ L[j]? = some w ∧ ¬ (j + 1 = k + 1 ∧ w.category = 2)) := by
      intro L' h1 h2 h3
      by_cases hj : j = k + 1
      · subst hj
        left
        refine ⟨rfl, ?_⟩
        rw [List.getElem?_set] at h3
        simp at h3
        exact h3.2.symm
      · right
        rw [List.getElem?_set_ne (Ne.symm hj)] at h3
        refine ⟨hj, ?_⟩
        by_cases hk : j = k
        · subst hk
          rcases h2 with h2 | h2 | ⟨h2, h4⟩
          · rw [h2] at h3
            cases h3
            exact absurd rfl hw
          · rw [h2] at h3
            cases h3
          · rw [h2] at h3
            exact ⟨h3, fun z => h4 w h3 z.2⟩
        · rw [h1 j hk] at h3
          exact ⟨h3, fun z => by omega⟩
    have kJ : (L.set k am_J)[k]? = some am_J ∨ (L.set k am_J)[k]? = none := by
      rw [List.getElem?_set]
      simp
      omega
    split at h
    · exact key _ (fun t ht => List.getElem?_set_ne (Ne.symm ht)) (by rcases kJ with z | z; exact Or.inl z; exact Or.inr (Or.inl z)) h
    · exact key _ (fun t ht => List.getElem?_set_ne (Ne.symm ht)) (by rcases kJ with z | z; exact Or.inl z; exact Or.inr (Or.inl z)) h
    · rename_i n1 n2
      refine key _ (fun t ht => rfl) (Or.inr (Or.inr ⟨rfl, fun z hz hc => ?_⟩)) h
      cases z <;> simp [Value.category] at hc
      · exact n1 _ hz
      · exact n2 _ hz
theorem am_lh.store1 {G : am_G} {ls' : Array Slot} {L : List Value} {i : Nat} {v : Value} (h2 : lv_has ls' L.length ((i, am_v G v) :: (am_as G L).filter (fun q => !(q.1 == i) && !(q.1 + 1 == i && q.2.category == 2)))) : am_lh G ls' (am_set L i v) := by
  refine ⟨h2.1.trans (am_set_len L i v).symm, h2.2.1, fun j w hj hw => ?_⟩
  rcases am_set_get hj hw with ⟨rfl, rfl⟩ | ⟨n1, hl, n2⟩
  · exact h2.2.2 _ List.mem_cons_self
  · refine h2.2.2 (j, am_v G w) (List.mem_cons_of_mem _ (List.mem_filter.mpr ⟨am_as_mem.mpr ⟨w, hl, hw, rfl⟩, ?_⟩))
    dsimp only
    rw [am_v_cat]
    have e1 : (j == i) = false := by simpa using n1
    rw [e1]
    by_cases z : j + 1 = i
    · have : ¬ w.category = 2 := fun q => n2 ⟨z, q⟩
      simp [this]
    · simp [z]
theorem am_lh.store2 {G : am_G} {ls' : Array Slot} {L : List Value} {i : Nat} {v : Value} (h2 : lv_has ls' L.length ((i, am_v G v) :: (am_as G L).filter (fun q => !(q.1 == i) && (!(q.1 == i + 1) && !(q.1 + 1 == i && q.2.category == 2))))) : am_lh G ls' (am_set2 L i v) := by
  unfold am_set2
  refine ⟨h2.1.trans (by simp [am_set_len]), h2.2.1, fun j w hj hw => ?_⟩
  by_cases hj1 : j = i + 1
  · subst hj1
    rw [List.getElem?_set] at hj
    simp at hj
    exact absurd hj.2.symm hw
  rw [List.getElem?_set_ne (Ne.symm hj1)] at hj
  rcases am_set_get hj hw with ⟨rfl, rfl⟩ | ⟨n1, hl, n2⟩
  · exact h2.2.2 _ List.mem_cons_self
  · refine h2.2.2 (j, am_v G w) (List.mem_cons_of_mem _ (List.mem_filter.mpr ⟨am_as_mem.mpr ⟨w, hl, hw, rfl⟩, ?_⟩))
    dsimp only
    rw [am_v_cat]
    have e1 : (j == i) = false := by simpa using n1
    have e2 : (j == i + 1) = false := by simpa using hj1
    rw [e1, e2]
    by_cases z : j + 1 = i
    · have : ¬ w.category = 2 := fun q => n2 ⟨z, q⟩
      simp [this]
    · simp [z]

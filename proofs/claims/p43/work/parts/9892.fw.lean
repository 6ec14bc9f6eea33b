/-! FLOYD AND WARSHALL: the law's distances are the least lengths of walks -/
abbrev FI : Nat := 100000000
def d0 (C : Nat → Nat → Nat) (a b : Nat) : Nat := if a = b then 0 else if C a b = 0 then FI else 10000 / C a b
def fwD (C : Nat → Nat → Nat) : Nat → Nat → Nat → Nat
  | 0 => d0 C
  | k + 1 => fun a b => if fwD C k a k + fwD C k k b < fwD C k a b then fwD C k a k + fwD C k k b else fwD C k a b
section
variable {C : Nat → Nat → Nat} {n m T : Nat} {lo hi co : Nat → Nat}
theorem d0_le (C : Nat → Nat → Nat) (a b : Nat) : d0 C a b ≤ FI := by
  have : 10000 / C a b ≤ 10000 := Nat.div_le_self _ _
  unfold d0
  split
  · exact Nat.zero_le _
  · split
    · exact Nat.le_refl _
    · show _ ≤ 100000000; omega
theorem fw_s (C : Nat → Nat → Nat) (k a b : Nat) : fwD C (k + 1) a b ≤ fwD C k a b ∧ fwD C (k + 1) a b ≤ fwD C k a k + fwD C k k b ∧ (fwD C (k + 1) a b = fwD C k a b ∨ fwD C (k + 1) a b = fwD C k a k + fwD C k k b) := by
  have e : fwD C (k + 1) a b = if fwD C k a k + fwD C k k b < fwD C k a b then fwD C k a k + fwD C k k b else fwD C k a b := rfl
  rw [e]
  by_cases q : fwD C k a k + fwD C k k b < fwD C k a b
  · rw [if_pos q]; exact ⟨by omega, Nat.le_refl _, Or.inr rfl⟩
  · rw [if_neg q]; exact ⟨Nat.le_refl _, by omega, Or.inl rfl⟩
theorem fw_le (C : Nat → Nat → Nat) (a b : Nat) : ∀ k, fwD C k a b ≤ d0 C a b
  | 0 => Nat.le_refl _
  | k + 1 => Nat.le_trans (fw_s C k a b).1 (fw_le C a b k)
theorem fw_leI (C : Nat → Nat → Nat) (k a b : Nat) : fwD C k a b ≤ FI := Nat.le_trans (fw_le C a b k) (d0_le C a b)
theorem fw_diag (C : Nat → Nat → Nat) (k a : Nat) : fwD C k a a = 0 := by
  have h := fw_le C a a k
  have e : d0 C a a = 0 := if_pos rfl
  omega
theorem fw_row (C : Nat → Nat → Nat) (k b : Nat) : fwD C (k + 1) k b = fwD C k k b := by
  have h := fw_s C k k b
  rw [fw_diag] at h
  omega
theorem fw_col (C : Nat → Nat → Nat) (k a : Nat) : fwD C (k + 1) a k = fwD C k a k := by
  have h := fw_s C k a k
  rw [fw_diag] at h
  omega
theorem fw_sym (hC : ∀ a b, C a b = C b a) : ∀ k a b, fwD C k a b = fwD C k b a
  | 0, a, b => by
    show d0 C a b = d0 C b a
    unfold d0
    rw [hC a b]
    by_cases e : a = b
    · rw [if_pos e, if_pos e.symm]
    · rw [if_neg e, if_neg (show ¬ b = a from fun z => e z.symm)]
  | k + 1, a, b => by
    show (if fwD C k a k + fwD C k k b < fwD C k a b then fwD C k a k + fwD C k k b else fwD C k a b) = (if fwD C k b k + fwD C k k a < fwD C k b a then fwD C k b k + fwD C k k a else fwD C k b a)
    rw [fw_sym hC k a k, fw_sym hC k k b, fw_sym hC k a b, Nat.add_comm]
theorem fw_tri : ∀ k a b u, u < k → fwD C k a b ≤ fwD C k a u + fwD C k u b
  | 0, _, _, _, h => absurd h (Nat.not_lt_zero _)
  | k + 1, a, b, u, hu => by
    have h1 := fw_s C k a b
    by_cases e : u = k
    · subst e
      rw [fw_col, fw_row]
      exact h1.2.1
    · have hu : u < k := by omega
      have t1 := fw_tri k a b u hu
      have t2 := fw_tri k a k u hu
      have t3 := fw_tri k k b u hu
      rcases (fw_s C k a u).2.2 with q1 | q1 <;> rcases (fw_s C k u b).2.2 with q2 | q2 <;> omega
theorem wkE_cat {t u : Nat} {l1 : Nat} (w1 : wkE m lo hi co t u l1) : ∀ {k v l2 : Nat}, wk m lo hi co u k v l2 → wkE m lo hi co t v (l1 + l2)
  | 0, v, l2, h => by obtain ⟨rfl, rfl⟩ := h; exact w1
  | k + 1, v, l2, ⟨e, x, l', he, hends, w, q⟩ => by
    have := wkE_s he hends (wkE_cat w1 w)
    rw [q, ← Nat.add_assoc]
    exact this
theorem fw_snd (R : mrl n m lo hi co C) : ∀ k a b, k ≤ n → a < n → b < n → fwD C k a b < FI → wkE m lo hi co a b (fwD C k a b)
  | 0, a, b, _, ha, hb, h => by
    obtain ⟨r1, r2, r3, r4, r5, r6⟩ := R
    have h : d0 C a b < FI := h
    show wkE m lo hi co a b (d0 C a b)
    unfold d0 at h ⊢
    by_cases e : a = b
    · rw [if_pos e]; exact ⟨0, e.symm, rfl⟩
    · rw [if_neg e] at h ⊢
      by_cases z : C a b = 0
      · rw [if_pos z] at h; exact absurd h (Nat.lt_irrefl _)
      · rw [if_neg z]
        have one : ∀ e', e' < m → ((lo e' = a ∧ hi e' = b) ∨ (hi e' = a ∧ lo e' = b)) → co e' = C a b → wkE m lo hi co a b (10000 / C a b) := fun e' he hends hc => by
          have := wkE_s he hends (show wkE m lo hi co a a 0 from ⟨0, rfl, rfl⟩)
          rw [hc, Nat.zero_add] at this
          exact this
        rcases Nat.lt_or_ge a b with q | q
        · obtain ⟨e', he, h1, h2⟩ := r6 a b q hb z
          exact one e' he (Or.inl ⟨h1, h2⟩) (by rw [← r4 e' he, h1, h2])
        · obtain ⟨e', he, h1, h2⟩ := r6 b a (by omega) ha (by rw [r1]; exact z)
          exact one e' he (Or.inr ⟨h2, h1⟩) (by rw [← r4 e' he, h1, h2, r1])
  | k + 1, a, b, hk, ha, hb, h => by
    rcases (fw_s C k a b).2.2 with q | q
    · rw [q] at h ⊢
      exact fw_snd R k a b (by omega) ha hb h
    · rw [q] at h ⊢
      obtain ⟨j, w⟩ := fw_snd R k k b (by omega) (by omega) hb (by omega)
      exact wkE_cat (fw_snd R k a k (by omega) ha (by omega) (by omega)) w
theorem fw_cmp (R : mrl n m lo hi co C) (hc : ∀ e, e < m → 1 ≤ co e) {a : Nat} (ha : a < n) : ∀ {k b l : Nat}, wk m lo hi co a k b l → fwD C n a b ≤ l
  | 0, b, l, h => by obtain ⟨rfl, rfl⟩ := h; rw [fw_diag]; exact Nat.le_refl _
  | k + 1, b, l, ⟨e, u, l', he, hends, w, q⟩ => by
    have ih := fw_cmp R hc ha w
    obtain ⟨r1, r2, r3, r4, r5, r6⟩ := R
    have w3 := r3 e he
    have c1 := hc e he
    have hu : u < n ∧ u ≠ b ∧ C u b = co e := by
      rcases hends with ⟨h1, h2⟩ | ⟨h1, h2⟩
      · exact ⟨by omega, by omega, by rw [← r4 e he, h1, h2]⟩
      · exact ⟨by omega, by omega, by rw [← r4 e he, h1, h2, r1]⟩
    have t := fw_tri n a b u hu.1 (C := C)
    have t2 := fw_le C u b n
    have e0 : d0 C u b = 10000 / co e := by
      unfold d0
      rw [if_neg hu.2.1, hu.2.2, if_neg (by omega)]
    omega
/-- the law's nearest terminal among those from i on -/
def lnr (T n : Nat) (D : Nat → Nat) (i : Nat) (o : Option Nat) : Prop := match o with
  | none => ∀ t, i ≤ t → t < n → T.testBit t = true → ¬ D t < FI
  | some s => i ≤ s ∧ s < n ∧ T.testBit s = true ∧ D s < FI ∧ ∀ t, i ≤ t → t < n → T.testBit t = true → D t < FI → ole (D s, s) (D t, t)
theorem lnr.skip {D : Nat → Nat} {i : Nat} {o : Option Nat} (h : lnr T n D (i + 1) o) (hs : ¬ (T.testBit i = true ∧ D i < FI)) : lnr T n D i o := by
  have key : ∀ t, i ≤ t → T.testBit t = true → D t < FI → i + 1 ≤ t := fun t h1 h2 h3 => by
    by_cases e : t = i
    · subst e; exact absurd ⟨h2, h3⟩ hs
    · omega
  cases o with
  | none => exact fun t h1 h2 h3 h4 => h t (key t h1 h3 h4) h2 h3 h4
  | some s =>
    obtain ⟨h1, h2, h3, h4, h5⟩ := h
    exact ⟨by omega, h2, h3, h4, fun t q1 q2 q3 q4 => h5 t (key t q1 q3 q4) q2 q3 q4⟩
theorem lnr.take {D : Nat → Nat} {i : Nat} {o : Option Nat} (h : lnr T n D (i + 1) o) (hi : i < n) (hT : T.testBit i = true) (hD : D i < FI) (hb : ∀ s, o = some s → D i ≤ D s) : lnr T n D i (some i) := by
  refine ⟨Nat.le_refl _, hi, hT, hD, fun t q1 q2 q3 q4 => ?_⟩
  by_cases e : t = i
  · rw [e]; exact ole_rf _
  · cases o with
    | none => exact absurd q4 (h t (by omega) q2 q3)
    | some s =>
      obtain ⟨h1, h2, h3, h4, h5⟩ := h
      have a := h5 t (by omega) q2 q3 q4
      have b := hb s rfl
      unfold ole at a ⊢
      omega
theorem lnr.keep {D : Nat → Nat} {i s : Nat} (h : lnr T n D (i + 1) (some s)) (hb : D s < D i) : lnr T n D i (some s) := by
  obtain ⟨h1, h2, h3, h4, h5⟩ := h
  refine ⟨by omega, h2, h3, h4, fun t q1 q2 q3 q4 => ?_⟩
  by_cases e : t = i
  · rw [e]; exact Or.inl hb
  · exact h5 t (by omega) q2 q3 q4
theorem lnr_isN (R : mrl n m lo hi co C) (hn : n ≤ 6) (hc : ∀ e, e < m → 1 ≤ co e ∧ co e ≤ 9999) {v : Nat} (hv : v < n) {o : Option Nat} (h : lnr T n (fun t => fwD C n v t) 0 o) : isN m T lo hi co n v (o.map fun s => (fwD C n v s, s)) := by
  have cmp : ∀ t l, t < n → wkE m lo hi co t v l → fwD C n v t ≤ l := fun t l ht ⟨k, w⟩ => by
    rw [fw_sym R.1]
    exact fw_cmp R (fun e he => (hc e he).1) ht w
  -- lengths of walks stay below
  cases o with
  | none =>
    intro t l ht hT w
    -- a walk that is there has a short one
    refine h t (Nat.zero_le _) ht hT ?_
    obtain ⟨j, hj, hmin⟩ := nat_least (P := fun l => wkE m lo hi co t v l) w
    obtain ⟨k, hk, wk⟩ := wk_few R.2.2.1 hc hv hj hmin
    have a := wk_le wk
    have b := cmp t j ht hj
    show fwD C n v t < 100000000
    omega
  | some s =>
    obtain ⟨h1, h2, h3, h4, h5⟩ := h
    refine ⟨h2, h3, ?_, fun t l ht hT w => ?_⟩
    · show wkE m lo hi co s v (fwD C n v s)
      rw [fw_sym R.1]
      exact fw_snd R n s v (Nat.le_refl _) h2 hv (by rw [fw_sym R.1]; exact h4)
    · have q := cmp t l ht w
      by_cases z : fwD C n v t < FI
      · have := h5 t (Nat.zero_le _) ht hT z
        unfold ole at this ⊢
        show fwD C n v s < l ∨ fwD C n v s = l ∧ s ≤ t
        have this : fwD C n v s < fwD C n v t ∨ fwD C n v s = fwD C n v t ∧ s ≤ t := this
        omega
      · left
        show fwD C n v s < l
        have h4 : fwD C n v s < FI := h4
        omega
end

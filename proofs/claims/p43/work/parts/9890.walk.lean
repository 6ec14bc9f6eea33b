/-! NEAREST, the mathematics: walks, the least length, few edges; what the passes give -/
def wk (m : Nat) (lo hi co : Nat → Nat) (t : Nat) : Nat → Nat → Nat → Prop
  | 0, v, l => v = t ∧ l = 0
  | k + 1, v, l => ∃ e u l', e < m ∧ ((lo e = u ∧ hi e = v) ∨ (hi e = u ∧ lo e = v)) ∧ wk m lo hi co t k u l' ∧ l = l' + 10000 / co e
def wkE (m : Nat) (lo hi co : Nat → Nat) (t v l : Nat) : Prop := ∃ k, wk m lo hi co t k v l
theorem wkE_s {m : Nat} {lo hi co : Nat → Nat} {t u v l e : Nat} (he : e < m) (h : (lo e = u ∧ hi e = v) ∨ (hi e = u ∧ lo e = v)) (w : wkE m lo hi co t u l) : wkE m lo hi co t v (l + 10000 / co e) := by
  obtain ⟨k, w⟩ := w
  exact ⟨k + 1, e, u, l, he, h, w, rfl⟩
theorem wk_le {m : Nat} {lo hi co : Nat → Nat} {t : Nat} : ∀ {k v l : Nat}, wk m lo hi co t k v l → l ≤ 10000 * k
  | 0, v, l, h => by have := h.2; omega
  | k + 1, v, l, ⟨e, u, l', _, _, w, q⟩ => by
    have a := wk_le w
    have b : 10000 / co e ≤ 10000 := Nat.div_le_self _ _
    omega
theorem nat_least {P : Nat → Prop} : ∀ {l : Nat}, P l → ∃ j, P j ∧ ∀ i, P i → j ≤ i := by
  intro l
  induction l using Nat.strongRecOn with
  | ind l ih =>
    intro hl
    by_cases h : ∃ j, j < l ∧ P j
    · obtain ⟨j, j1, j2⟩ := h
      exact ih j j1 j2
    · exact ⟨l, hl, fun i hi => Nat.not_lt.mp fun q => h ⟨i, q, hi⟩⟩
noncomputable def cnB (P : Nat → Prop) : Nat → Bool := fun u => @decide (P u) (Classical.propDecidable _)
theorem cnB_t {P : Nat → Prop} {u : Nat} : cnB P u = true ↔ P u := @decide_eq_true_iff (P u) (Classical.propDecidable _)
theorem cnB_f {P : Nat → Prop} {u : Nat} : cnB P u = false ↔ ¬ P u := by unfold cnB; exact decide_eq_false_iff_not
/-- a least way of few edges -/
theorem wk_hop {n m : Nat} {lo hi co : Nat → Nat} (hw : ∀ e, e < m → lo e < hi e ∧ hi e < n) (hc : ∀ e, e < m → 1 ≤ co e ∧ co e ≤ 9999) {t : Nat} : ∀ l v, wkE m lo hi co t v l → (∀ l', wkE m lo hi co t v l' → l ≤ l') → ∃ k, k ≤ fb_ct (cnB fun u => ∃ j, j < l ∧ wkE m lo hi co t u j) n ∧ wk m lo hi co t k v l := by
  intro l
  induction l using Nat.strongRecOn with
  | ind l ih =>
    rintro v ⟨k0, w⟩ hmin
    rcases k0 with _ | k0
    · exact ⟨0, Nat.zero_le _, w⟩
    · obtain ⟨e, u, l', he, hends, w', q⟩ := w
      obtain ⟨w1, w2⟩ := hw e he
      have hu : u < n := by rcases hends with z | z <;> omega
      have hl : 1 ≤ 10000 / co e := by
        have := hc e he
        exact (Nat.le_div_iff_mul_le (by omega)).mpr (by omega)
      have umin : ∀ j, wkE m lo hi co t u j → l' ≤ j := fun j hj => by
        have := hmin _ (wkE_s he hends hj)
        omega
      obtain ⟨k, k1, k2⟩ := ih l' (by omega) u ⟨k0, w'⟩ umin
      refine ⟨k + 1, ?_, e, u, l', he, hends, k2, q⟩
      refine Nat.lt_of_le_of_lt k1 (ct_lt (fun x hx h => ?_) ⟨u, hu, ?_, ?_⟩)
      · obtain ⟨j, j1, j2⟩ := cnB_t.mp h
        exact cnB_t.mpr ⟨j, by omega, j2⟩
      · exact cnB_f.mpr fun ⟨j, j1, j2⟩ => by have := umin j j2; omega
      · exact cnB_t.mpr ⟨l', by omega, k0, w'⟩
theorem wk_few {n m : Nat} {lo hi co : Nat → Nat} (hw : ∀ e, e < m → lo e < hi e ∧ hi e < n) (hc : ∀ e, e < m → 1 ≤ co e ∧ co e ≤ 9999) {t l v : Nat} (hv : v < n) (w : wkE m lo hi co t v l) (hmin : ∀ l', wkE m lo hi co t v l' → l ≤ l') : ∃ k, k ≤ n - 1 ∧ wk m lo hi co t k v l := by
  obtain ⟨k, k1, k2⟩ := wk_hop hw hc l v w hmin
  have a : fb_ct (cnB fun u => ∃ j, j < l ∧ wkE m lo hi co t u j) n < fb_ct (fun _ => true) n := ct_lt (fun _ _ _ => rfl) ⟨v, hv, cnB_f.mpr fun ⟨j, j1, j2⟩ => by have := hmin j j2; omega, rfl⟩
  have b := fb_ct_le (fun _ => true) n
  exact ⟨k, by omega, k2⟩
def ole (a b : Nat × Nat) : Prop := a.1 < b.1 ∨ (a.1 = b.1 ∧ a.2 ≤ b.2)
theorem ole_tr {a b c : Nat × Nat} (h : ole a b) (h2 : ole b c) : ole a c := by unfold ole at *; omega
theorem ole_rf (a : Nat × Nat) : ole a a := Or.inr ⟨rfl, Nat.le_refl _⟩
theorem ole_an {a b : Nat × Nat} (h : ole a b) (h2 : ole b a) : a = b := by
  unfold ole at *
  exact Prod.ext (by omega) (by omega)
theorem ole_of_not {a b : Nat × Nat} (h : ¬ olt a b) : ole b a := by unfold olt at h; unfold ole; omega
def cov (S : Nat → Option (Nat × Nat)) (v : Nat) (x : Nat × Nat) : Prop := ∃ p, S v = some p ∧ ole p x
theorem ofr_mono {S : Nat → Option (Nat × Nat)} {u v w y : Nat} {x : Nat × Nat} (h : cov S y x) : cov (ofr S u v w) y x := by
  obtain ⟨p, hp, hx⟩ := h
  unfold ofr
  cases e : S u with
  | none => exact ⟨p, hp, hx⟩
  | some r =>
    by_cases q : y = v
    · subst q
      unfold cov
      simp only [if_pos rfl, hp]
      by_cases c : olt (r.1 + w, r.2) p
      · rw [if_pos c]
        refine ⟨_, rfl, ole_tr ?_ hx⟩
        unfold olt at c
        unfold ole
        simp only at c ⊢
        omega
      · rw [if_neg c]; exact ⟨p, rfl, hx⟩
    · unfold cov
      simp only [if_neg q]
      exact ⟨p, hp, hx⟩
theorem ofr_new {S : Nat → Option (Nat × Nat)} {u v w l t : Nat} (h : cov S u (l, t)) : cov (ofr S u v w) v (l + w, t) := by
  obtain ⟨p, hp, hx⟩ := h
  have hx2 : ole (p.1 + w, p.2) (l + w, t) := by unfold ole at *; simp only at hx ⊢; omega
  unfold ofr cov
  rw [hp]
  simp only [if_true]
  cases e : S v with
  | none => exact ⟨_, rfl, hx2⟩
  | some q =>
    dsimp only
    by_cases c : olt (p.1 + w, p.2) q
    · rw [if_pos c]; exact ⟨_, rfl, hx2⟩
    · rw [if_neg c]; exact ⟨q, rfl, ole_tr (ole_of_not c) hx2⟩
theorem nep_mono {lo hi co : Nat → Nat} {S : Nat → Option (Nat × Nat)} {y : Nat} {x : Nat × Nat} (h : cov S y x) : ∀ e, cov (nep lo hi co S e) y x
  | 0 => h
  | e + 1 => ofr_mono (ofr_mono (nep_mono h e))
theorem nep_new {lo hi co : Nat → Nat} {S : Nat → Option (Nat × Nat)} {u v l t e : Nat} (h : cov S u (l, t)) (hends : (lo e = u ∧ hi e = v) ∨ (hi e = u ∧ lo e = v)) : ∀ {m : Nat}, e < m → cov (nep lo hi co S m) v (l + 10000 / co e, t)
  | 0, z => absurd z (Nat.not_lt_zero e)
  | m + 1, z => by
    by_cases q : e = m
    · subst q
      show cov (ofr (ofr (nep lo hi co S e) (lo e) (hi e) (10000 / co e)) (hi e) (lo e) (10000 / co e)) v _
      rcases hends with ⟨a, b⟩ | ⟨a, b⟩
      · rw [a, b]; exact ofr_mono (ofr_new (nep_mono h e))
      · rw [a, b]; exact ofr_new (ofr_mono (nep_mono h e))
    · exact ofr_mono (ofr_mono (nep_new h hends (by omega)))
theorem ners_mono {m T : Nat} {lo hi co : Nat → Nat} {y : Nat} {x : Nat × Nat} {K : Nat} (h : cov (ners m T lo hi co 0) y x) : cov (ners m T lo hi co K) y x := by
  induction K with
  | zero => exact h
  | succ K ih => exact nep_mono ih m
theorem ners_cov {m T : Nat} {lo hi co : Nat → Nat} {t : Nat} (ht : T.testBit t = true) : ∀ {K k v l : Nat}, k ≤ K → wk m lo hi co t k v l → cov (ners m T lo hi co K) v (l, t)
  | K, 0, v, l, _, ⟨a, b⟩ => by
    subst a b
    refine ners_mono ⟨(0, v), ?_, ole_rf _⟩
    show (if T.testBit v then some (0, v) else none) = _
    rw [if_pos ht]
  | 0, k + 1, v, l, h, _ => absurd h (by omega)
  | K + 1, k + 1, v, l, h, ⟨e, u, l', he, hends, w, q⟩ => by
    rw [q]
    exact nep_new (ners_cov ht (by omega) w) hends he
/-- only ways from terminals -/
def snd9 (m T : Nat) (lo hi co : Nat → Nat) (S : Nat → Option (Nat × Nat)) : Prop := ∀ v p, S v = some p → T.testBit p.2 = true ∧ wkE m lo hi co p.2 v p.1
theorem ofr_snd {m T : Nat} {lo hi co : Nat → Nat} {S : Nat → Option (Nat × Nat)} {u v e : Nat} (h : snd9 m T lo hi co S) (he : e < m) (hends : (lo e = u ∧ hi e = v) ∨ (hi e = u ∧ lo e = v)) : snd9 m T lo hi co (ofr S u v (10000 / co e)) := by
  intro y p hp
  unfold ofr at hp
  cases e1 : S u with
  | none => rw [e1] at hp; exact h y p hp
  | some r =>
    rw [e1] at hp
    have hr := h u r e1
    have new : T.testBit r.2 = true ∧ wkE m lo hi co r.2 v (r.1 + 10000 / co e) := ⟨hr.1, wkE_s he hends hr.2⟩
    dsimp only at hp
    by_cases q : y = v
    · subst q
      rw [if_pos rfl] at hp
      cases e2 : S y with
      | none => rw [e2] at hp; cases hp; exact new
      | some z =>
        rw [e2] at hp
        dsimp only at hp
        split at hp
        · cases hp; exact new
        · cases hp; exact h y _ e2
    · rw [if_neg q] at hp
      exact h y p hp
theorem nep_snd {m T : Nat} {lo hi co : Nat → Nat} {S : Nat → Option (Nat × Nat)} (h : snd9 m T lo hi co S) : ∀ e, e ≤ m → snd9 m T lo hi co (nep lo hi co S e)
  | 0, _ => h
  | e + 1, z => ofr_snd (ofr_snd (nep_snd h e (by omega)) (by omega) (Or.inl ⟨rfl, rfl⟩)) (by omega) (Or.inr ⟨rfl, rfl⟩)
theorem ners_snd {m T : Nat} {lo hi co : Nat → Nat} : ∀ K, snd9 m T lo hi co (ners m T lo hi co K)
  | 0 => fun v p hp => by
    have hp : (if T.testBit v then some (0, v) else none) = some p := hp
    split at hp
    · rename_i z
      cases hp
      exact ⟨z, 0, rfl, rfl⟩
    · cases hp
  | K + 1 => nep_snd (ners_snd K) m (Nat.le_refl m)
/-- the nearest of the terminals below i -/
def isN (m T : Nat) (lo hi co : Nat → Nat) (i v : Nat) (o : Option (Nat × Nat)) : Prop := match o with
  | none => ∀ t l, t < i → T.testBit t = true → ¬ wkE m lo hi co t v l
  | some p => p.2 < i ∧ T.testBit p.2 = true ∧ wkE m lo hi co p.2 v p.1 ∧ ∀ t l, t < i → T.testBit t = true → wkE m lo hi co t v l → ole p (l, t)
theorem isN_one {m T : Nat} {lo hi co : Nat → Nat} {i v : Nat} {a b : Option (Nat × Nat)} (ha : isN m T lo hi co i v a) (hb : isN m T lo hi co i v b) : a = b := by
  cases a with
  | none =>
    cases b with
    | none => rfl
    | some q => exact absurd hb.2.2.1 (ha q.2 q.1 hb.1 hb.2.1)
  | some p =>
    cases b with
    | none => exact absurd ha.2.2.1 (hb p.2 p.1 ha.1 ha.2.1)
    | some q => exact congrArg some (ole_an (ha.2.2.2 q.2 q.1 hb.1 hb.2.1 hb.2.2.1) (hb.2.2.2 p.2 p.1 ha.1 ha.2.1 ha.2.2.1))
theorem ners_isN {n m T : Nat} {lo hi co : Nat → Nat} (hw : ∀ e, e < m → lo e < hi e ∧ hi e < n) (hc : ∀ e, e < m → 1 ≤ co e ∧ co e ≤ 9999) (hT : T < 2 ^ n) {v : Nat} (hv : v < n) : isN m T lo hi co n v (ners m T lo hi co (n - 1) v) := by
  have key : ∀ t l, T.testBit t = true → wkE m lo hi co t v l → cov (ners m T lo hi co (n - 1)) v (l, t) := fun t l ht w => by
    obtain ⟨j, j1, j2⟩ := nat_least w
    obtain ⟨k, k1, k2⟩ := wk_few hw hc hv j1 j2
    obtain ⟨p, p1, p2⟩ := ners_cov ht k1 k2
    refine ⟨p, p1, ole_tr p2 ?_⟩
    have := j2 l w
    unfold ole
    simp only
    omega
  cases e : ners m T lo hi co (n - 1) v with
  | none =>
    intro t l _ ht w
    obtain ⟨p, p1, -⟩ := key t l ht w
    rw [e] at p1
    cases p1
  | some p =>
    have s := ners_snd (m := m) (T := T) (lo := lo) (hi := hi) (co := co) (n - 1) v p e
    refine ⟨q_T_lt hT s.1, s.1, s.2, fun t l _ ht w => ?_⟩
    obtain ⟨q, q1, q2⟩ := key t l ht w
    rw [e] at q1
    cases q1
    exact q2

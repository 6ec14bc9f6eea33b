/-! SUMS: a graph's edges and the matrix of its costs; least cuts -/
theorem sm_nil {g : Nat → Nat} {n : Nat} (h : ∀ k, k < n → g k = 0) : fb_sm g n = 0 := by
  rw [fb_sm_cong (g := fun _ => 0) h, fb_sm_const]
  rfl
theorem sm_pt {g : Nat → Nat} {i n : Nat} (hi : i < n) (h : ∀ k, k < n → k ≠ i → g k = 0) : fb_sm g n = g i := by
  induction n with
  | zero => omega
  | succ n ih =>
    rw [fb_sm_succ]
    by_cases e : i = n
    · subst e
      rw [sm_nil (fun k hk => h k (by omega) (by omega))]
      omega
    · rw [ih (by omega) (fun k hk hne => h k (by omega) hne), h n (by omega) (fun q => e q.symm)]
      omega
theorem sm_swap (f : Nat → Nat → Nat) (m : Nat) : ∀ n, fb_sm (fun a => fb_sm (fun e => f a e) m) n = fb_sm (fun e => fb_sm (fun a => f a e) n) m
  | 0 => (sm_nil fun k hk => rfl).symm
  | n + 1 => by
    rw [fb_sm_succ, sm_swap f m n, ← fb_sm_add]
    exact fb_sm_cong (fun k hk => rfl)
theorem sm_tri (G : Nat → Nat → Nat) : ∀ n, fb_sm (fun a => fb_sm (fun b => G a b) n) n = fb_sm (fun b => fb_sm (fun a => G a b + G b a) b) n + fb_sm (fun a => G a a) n
  | 0 => rfl
  | n + 1 => by
    have e1 : fb_sm (fun a => fb_sm (fun b => G a b) (n + 1)) n = fb_sm (fun a => fb_sm (fun b => G a b) n) n + fb_sm (fun a => G a n) n := by
      rw [← fb_sm_add]
      exact fb_sm_cong fun a _ => rfl
    have e2 : fb_sm (fun a => G a n + G n a) n = fb_sm (fun a => G a n) n + fb_sm (fun a => G n a) n := fb_sm_add _ _ n
    show fb_sm (fun a => fb_sm (fun b => G a b) (n + 1)) n + (fb_sm (fun b => G n b) n + G n n) = (fb_sm (fun b => fb_sm (fun a => G a b + G b a) b) n + fb_sm (fun a => G a n + G n a) n) + (fb_sm (fun a => G a a) n + G n n)
    rw [e1, sm_tri G n, e2]
    omega
/-- the matrix of a graph's costs -/
def mrl (n m : Nat) (lo hi co : Nat → Nat) (C : Nat → Nat → Nat) : Prop := (∀ a b, C a b = C b a) ∧ (∀ a, C a a = 0) ∧ (∀ e, e < m → lo e < hi e ∧ hi e < n) ∧ (∀ e, e < m → C (lo e) (hi e) = co e) ∧ (∀ e e', e < m → e' < m → lo e = lo e' → hi e = hi e' → e = e') ∧ ∀ a b, a < b → b < n → C a b ≠ 0 → ∃ e, e < m ∧ lo e = a ∧ hi e = b
section
variable {n m T : Nat} {lo hi co : Nat → Nat} {C : Nat → Nat → Nat}
theorem mrl_sum (R : mrl n m lo hi co C) (P : Nat → Nat → Bool) : sumE co (fun e => P (lo e) (hi e)) m = fb_sm (fun b => fb_sm (fun a => if P a b then C a b else 0) b) n := by
  obtain ⟨r1, r2, r3, r4, r5, r6⟩ := R
  have pair : ∀ b, b < n → ∀ a, a < b → (if P a b then C a b else 0) = fb_sm (fun e => if lo e = a ∧ hi e = b then (if P (lo e) (hi e) then co e else 0) else 0) m := by
    intro b hb a ha
    by_cases z : ∃ e, e < m ∧ lo e = a ∧ hi e = b
    · obtain ⟨e, he, e1, e2⟩ := z
      rw [sm_pt he (fun k hk hne => if_neg fun q => hne (r5 k e hk he (q.1.trans e1.symm) (q.2.trans e2.symm))), if_pos (show lo e = a ∧ hi e = b from ⟨e1, e2⟩), ← r4 e he, e1, e2]
    · have : C a b = 0 := Classical.not_not.mp fun q => z (r6 a b ha hb q)
      rw [this, ite_self, sm_nil (fun k hk => if_neg fun q => z ⟨k, hk, q⟩)]
  rw [fb_sm_cong (fun b hb => (fb_sm_cong (fun a ha => pair b hb a ha)).trans (sm_swap (fun a e => if lo e = a ∧ hi e = b then (if P (lo e) (hi e) then co e else 0) else 0) m b)), sm_swap]
  refine fb_sm_cong fun e he => ?_
  have w := r3 e he
  rw [sm_pt w.2 (fun k hk hne => sm_nil fun a ha => if_neg fun q => hne q.2.symm), sm_pt w.1 (fun k hk hne => if_neg fun q => hne q.1.symm), if_pos (show lo e = lo e ∧ hi e = hi e from ⟨rfl, rfl⟩)]
theorem mrl_cost (R : mrl n m lo hi co C) (L : Nat → Int32) : sumE co (dif lo hi L) m = lCost n C L := by
  refine Eq.trans (mrl_sum R (fun a b => decide (L a ≠ L b))) ?_
  refine fb_sm_cong fun b hb => fb_sm_cong fun a ha => ?_
  rw [R.1 a b]
  by_cases e : L b = L a
  · rw [if_pos e, if_neg (by simp [e])]
  · rw [if_neg e, if_pos (by simp only [ne_eq, decide_eq_true_eq]; exact fun q => e q.symm)]
theorem mrl_cut (R : mrl n m lo hi co C) : cutc m lo hi co = lCut n C := by
  funext S
  refine Eq.trans (mrl_sum R (fun a b => S.testBit a != S.testBit b)) ?_
  unfold lCut
  rw [sm_tri, sm_nil (g := fun a => if S.testBit a && !S.testBit a then C a a else 0) (fun k hk => by cases S.testBit k <;> rfl), Nat.add_zero]
  refine fb_sm_cong fun b hb => fb_sm_cong fun a ha => ?_
  rw [R.1 b a]
  cases S.testBit a <;> cases S.testBit b <;> simp
theorem mrl_acost (R : mrl n m lo hi co C) {A : Nat → Nat} (hA : ∀ v, v < n → A v < 1000) : acost m lo hi co A n = cfo n C A := by
  unfold cfo
  rw [← mrl_cost R]
  refine sumE_cong fun e he => ?_
  have w := R.2.2.1 e he
  show (decide (hi e < n) && decide (A (lo e) ≠ A (hi e))) = decide (nI (A (lo e)) ≠ nI (A (hi e)))
  rw [decide_eq_true w.2, Bool.true_and]
  have h1 := hA (lo e) (by omega)
  have h2 := hA (hi e) w.2
  by_cases q : A (lo e) = A (hi e)
  · rw [q]; simp
  · exact (decide_eq_true q).trans (decide_eq_true (show nI (A (lo e)) ≠ nI (A (hi e)) from fun z => q ((nI_eq (by omega) (by omega)).mp z))).symm
theorem cut_sub (m : Nat) (lo hi co : Nat → Nat) (A B : Nat) : cutc m lo hi co (A &&& B) + cutc m lo hi co (A ||| B) ≤ cutc m lo hi co A + cutc m lo hi co B := by
  unfold cutc sumE
  rw [← fb_sm_add, ← fb_sm_add]
  refine fb_sm_le fun e he => ?_
  unfold crs
  rw [Nat.testBit_and, Nat.testBit_and, Nat.testBit_or, Nat.testBit_or]
  cases A.testBit (lo e) <;> cases A.testBit (hi e) <;> cases B.testBit (lo e) <;> cases B.testBit (hi e) <;> simp
theorem pcn_sub {M S : Nat} (h : pcn M ≤ pcn (M &&& S)) : ∀ i, i < 9 → M.testBit i = true → S.testBit i = true := by
  have e1 : fb_ct (fun k => (M &&& S).testBit k || (M.testBit k && !S.testBit k)) 9 = fb_ct (M &&& S).testBit 9 + fb_ct (fun k => M.testBit k && !S.testBit k) 9 := fb_ct_or fun k hk q => by
    rw [Nat.testBit_and] at q
    simp only [Bool.and_eq_true, Bool.not_eq_true'] at q
    rw [q.2.2] at q
    exact absurd q.1.2 Bool.false_ne_true
  have e2 : fb_ct (fun k => (M &&& S).testBit k || (M.testBit k && !S.testBit k)) 9 = fb_ct M.testBit 9 := fb_ct_cong fun k hk => by
    rw [Nat.testBit_and]
    cases M.testBit k <;> cases S.testBit k <;> rfl
  have h : fb_ct M.testBit 9 ≤ fb_ct (M &&& S).testBit 9 := h
  have e3 := fb_ct_zero.mp (show fb_ct (fun k => M.testBit k && !S.testBit k) 9 = 0 by omega)
  intro i hi hM
  have := e3 i hi
  rw [hM] at this
  cases q : S.testBit i with
  | true => rfl
  | false => rw [q] at this; cases this
/-- least cuts of one terminal meet in the smallest -/
theorem iso_sub {t S : Nat} (hn : n ≤ 9) (ht : t < n) (hS : cnd n (2 ^ t) (andn T (2 ^ t)) S) (hc : cutc m lo hi co S = cutc m lo hi co (iso n (cutc m lo hi co) T t)) : ∀ i, (iso n (cutc m lo hi co) T t).testBit i = true → S.testBit i = true := by
  obtain ⟨⟨a1, a2, a3⟩, b, -⟩ := iso_isb (c := cutc m lo hi co) (T := T) ht
  generalize iso n (cutc m lo hi co) T t = M at a1 a2 a3 b hc ⊢
  have lec : ∀ S, cnd n (2 ^ t) (andn T (2 ^ t)) S → cutc m lo hi co M ≤ cutc m lo hi co S := fun S hS => by
    have h1 : cutc m lo hi co M * 16 + pcn M ≤ cutc m lo hi co S * 16 + pcn S := b S hS
    have h2 := pcn_le S
    omega
  have cA : cnd n (2 ^ t) (andn T (2 ^ t)) (M &&& S) := ⟨Nat.lt_of_le_of_lt Nat.and_le_left a1, fun i hi => by rw [Nat.testBit_and, a2 i hi, hS.2.1 i hi]; rfl, fun i hi => by rw [Nat.testBit_and, a3 i hi]; rfl⟩
  have cO : cnd n (2 ^ t) (andn T (2 ^ t)) (M ||| S) := ⟨Nat.or_lt_two_pow a1 hS.1, fun i hi => by rw [Nat.testBit_or, a2 i hi]; rfl, fun i hi => by rw [Nat.testBit_or, a3 i hi, hS.2.2 i hi]; rfl⟩
  have h1 := lec _ cA
  have h2 := lec _ cO
  have h3 := cut_sub m lo hi co M S
  have h4 : cutc m lo hi co (M &&& S) = cutc m lo hi co M := by omega
  have h5 : cutc m lo hi co M * 16 + pcn M ≤ cutc m lo hi co (M &&& S) * 16 + pcn (M &&& S) := b _ cA
  have h6 := pcn_sub (M := M) (S := S) (by omega)
  intro i hi9
  refine h6 i ?_ hi9
  refine Nat.not_le.mp fun q => ?_
  rw [Nat.testBit_lt_two_pow (Nat.lt_of_lt_of_le a1 (Nat.pow_le_pow_right (by decide) (by omega)))] at hi9
  cases hi9
/-- the law's own test of a set -/
theorem cnt_iff {t S : Nat} (hTt : T.testBit t = true) : (S < 2 ^ n ∧ S.testBit t = true ∧ S &&& T = 2 ^ t) ↔ cnd n (2 ^ t) (andn T (2 ^ t)) S := by
  constructor
  · rintro ⟨h1, h2, h3⟩
    refine ⟨h1, fun i hi => ?_, fun i hi => ?_⟩
    · rw [q_tw] at hi
      rw [← of_decide_eq_true hi]; exact h2
    · rw [andn_bit, q_tw, Bool.and_eq_true] at hi
      have h4 := congrArg (fun x => x.testBit i) h3
      simp only [Nat.testBit_and, q_tw] at h4
      have : decide (t = i) = false := by
        cases q : decide (t = i) with
        | false => rfl
        | true => rw [q] at hi; exact absurd hi.2 (by decide)
      rw [this, hi.1, Bool.and_true] at h4
      exact h4
  · rintro ⟨h1, h2, h3⟩
    refine ⟨h1, h2 t (by rw [q_tw]; exact decide_eq_true rfl), Nat.eq_of_testBit_eq fun i => ?_⟩
    rw [Nat.testBit_and, q_tw]
    by_cases e : t = i
    · subst e
      rw [h2 t (by rw [q_tw]; exact decide_eq_true rfl), hTt, decide_eq_true rfl]
      rfl
    · rw [decide_eq_false e]
      cases q : T.testBit i with
      | false => exact Bool.and_false _
      | true => rw [h3 i (by rw [andn_bit, q_tw, q, decide_eq_false e]; rfl)]; rfl
/-- the law's scan of the sets below i -/
def scn (c : Nat → Nat) (cand : Nat → Prop) (i val com : Nat) : Prop := (val = xMAX ∧ com = 0 ∧ ∀ S, S < i → ¬ cand S) ∨ ((∃ S, S < i ∧ cand S ∧ c S = val) ∧ (∀ S, S < i → cand S → val ≤ c S) ∧ ∀ b, com.testBit b = true ↔ ∀ S, S < i → cand S → c S = val → S.testBit b = true)
theorem scn.skip {c : Nat → Nat} {cand : Nat → Prop} {i val com : Nat} (h : scn c cand i val com) (hn : ¬ cand i) : scn c cand (i + 1) val com := by
  have key : ∀ S, S < i + 1 → cand S → S < i := fun S h1 h2 => Nat.lt_of_le_of_ne (by omega) fun e => hn (e ▸ h2)
  rcases h with ⟨a, b, h⟩ | ⟨⟨S, h1, h2⟩, h3, h4⟩
  · exact Or.inl ⟨a, b, fun S h1 h2 => h S (key S h1 h2) h2⟩
  · exact Or.inr ⟨⟨S, by omega, h2⟩, fun S h1 h2 => h3 S (key S h1 h2) h2, fun b => ⟨fun hb S h1 h2 h5 => (h4 b).mp hb S (key S h1 h2) h2 h5, fun hb => (h4 b).mpr fun S h1 h2 h5 => hb S (by omega) h2 h5⟩⟩
theorem scn.more {c : Nat → Nat} {cand : Nat → Prop} {i val com : Nat} (h : scn c cand i val com) (hv : val < c i) (hm : c i < xMAX) : scn c cand (i + 1) val com := by
  rcases h with ⟨a, b, h⟩ | ⟨⟨S, h1, h2⟩, h3, h4⟩
  · omega
  · refine Or.inr ⟨⟨S, by omega, h2⟩, fun S h1 h2 => ?_, fun b => ⟨fun hb S h1 h2 h5 => (h4 b).mp hb S (Nat.lt_of_le_of_ne (by omega) fun e => ?_) h2 h5, fun hb => (h4 b).mpr fun S h1 h2 h5 => hb S (by omega) h2 h5⟩⟩
    · by_cases e : S = i
      · rw [e]; omega
      · exact h3 S (by omega) h2
    · rw [e] at h5; omega
theorem scn.less {c : Nat → Nat} {cand : Nat → Prop} {i val com : Nat} (h : scn c cand i val com) (hc : cand i) (hv : c i < val) : scn c cand (i + 1) (c i) i := by
  have low : ∀ S, S < i → cand S → c i < c S := fun S h1 h2 => by
    rcases h with ⟨a, b, h⟩ | ⟨-, h3, h4⟩
    · exact absurd h2 (h S h1)
    · have := h3 S h1 h2
      omega
  refine Or.inr ⟨⟨i, by omega, hc, rfl⟩, fun S h1 h2 => ?_, fun b => ⟨fun hb S h1 h2 h5 => ?_, fun hb => hb i (by omega) hc rfl⟩⟩
  · by_cases e : S = i
    · rw [e]; exact Nat.le_refl _
    · exact Nat.le_of_lt (low S (by omega) h2)
  · by_cases e : S = i
    · rw [e]; exact hb
    · have := low S (by omega) h2
      omega
theorem scn.same {c : Nat → Nat} {cand : Nat → Prop} {i val com : Nat} (h : scn c cand i val com) (hc : cand i) (hv : c i = val) (hm : c i < xMAX) : scn c cand (i + 1) val (com &&& i) := by
  rcases h with ⟨a, b, h⟩ | ⟨⟨S, h1, h2⟩, h3, h4⟩
  · omega
  · refine Or.inr ⟨⟨S, by omega, h2⟩, fun S h1 h2 => ?_, fun b => ?_⟩
    · by_cases e : S = i
      · rw [e]; omega
      · exact h3 S (by omega) h2
    · rw [Nat.testBit_and, Bool.and_eq_true, h4 b]
      constructor
      · rintro ⟨q1, q2⟩ S h1 h2 h5
        by_cases e : S = i
        · rw [e]; exact q2
        · exact q1 S (by omega) h2 h5
      · exact fun q => ⟨fun S h1 h2 h5 => q S (by omega) h2 h5, q i (by omega) hc hv⟩
theorem scn_fin {t val com : Nat} (hn : n ≤ 9) (ht : t < n) (hTt : T.testBit t = true) (h : scn (cutc m lo hi co) (fun S => S < 2 ^ n ∧ S.testBit t = true ∧ S &&& T = 2 ^ t) (2 ^ n) val com) : val = cutc m lo hi co (iso n (cutc m lo hi co) T t) ∧ com = iso n (cutc m lo hi co) T t := by
  have hb := iso_isb (c := cutc m lo hi co) (T := T) ht
  have hM : iso n (cutc m lo hi co) T t < 2 ^ n ∧ (iso n (cutc m lo hi co) T t).testBit t = true ∧ iso n (cutc m lo hi co) T t &&& T = 2 ^ t := (cnt_iff hTt).mpr hb.1
  have lec : ∀ S, cnd n (2 ^ t) (andn T (2 ^ t)) S → cutc m lo hi co (iso n (cutc m lo hi co) T t) ≤ cutc m lo hi co S := fun S hS => by
    have h1 : cutc m lo hi co (iso n (cutc m lo hi co) T t) * 16 + pcn (iso n (cutc m lo hi co) T t) ≤ cutc m lo hi co S * 16 + pcn S := hb.2.1 S hS
    have h2 := pcn_le S
    omega
  rcases h with ⟨a, b, h⟩ | ⟨⟨S, h1, h2, h3⟩, h4, h5⟩
  · exact absurd hM (h _ hM.1)
  · have e1 : val = cutc m lo hi co (iso n (cutc m lo hi co) T t) := by
      have q1 := h4 _ hM.1 hM
      have q2 := lec S ((cnt_iff hTt).mp h2)
      omega
    refine ⟨e1, Nat.eq_of_testBit_eq fun i => ?_⟩
    cases q : (iso n (cutc m lo hi co) T t).testBit i with
    | true => exact (h5 i).mpr fun S z1 z2 z3 => iso_sub hn ht ((cnt_iff hTt).mp z2) (z3.trans e1) i q
    | false =>
      cases q2 : com.testBit i with
      | false => rfl
      | true =>
        have := (h5 i).mp q2 _ hM.1 hM e1.symm
        rw [q] at this
        cases this
end

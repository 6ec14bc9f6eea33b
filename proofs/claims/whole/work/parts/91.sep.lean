/-! SEPARATES: ways over the edges that are left; what the class reaches, the model's least labels -/
def pk (m : Nat) (lo hi : Nat → Nat) (rem s : Nat) : Nat → Nat → Prop
  | 0, v => v = s
  | k + 1, v => ∃ e u, e < m ∧ rem.testBit e = false ∧ ((lo e = u ∧ hi e = v) ∨ (hi e = u ∧ lo e = v)) ∧ pk m lo hi rem s k u
def pkE (m : Nat) (lo hi : Nat → Nat) (rem s v : Nat) : Prop := ∃ k, pk m lo hi rem s k v
theorem pk_tr {m : Nat} {lo hi : Nat → Nat} {rem s u k : Nat} (h : pk m lo hi rem s k u) : ∀ {j v : Nat}, pk m lo hi rem u j v → pk m lo hi rem s (k + j) v
  | 0, v, q => by rw [show v = u from q]; exact h
  | j + 1, v, ⟨e, x, he, hr, hends, q⟩ => ⟨e, x, he, hr, hends, pk_tr h q⟩
theorem pk_sy {m : Nat} {lo hi : Nat → Nat} {rem s : Nat} : ∀ {k v : Nat}, pk m lo hi rem s k v → pk m lo hi rem v k s
  | 0, v, q => (show v = s from q).symm
  | k + 1, v, ⟨e, x, he, hr, hends, q⟩ => by
    have one : pk m lo hi rem v 1 x := ⟨e, v, he, hr, by omega, rfl⟩
    have := pk_tr one (pk_sy q)
    rw [Nat.add_comm] at this
    exact this
theorem pk_hop {n m : Nat} {lo hi : Nat → Nat} (hw : ∀ e, e < m → lo e < hi e ∧ hi e < n) {rem s : Nat} : ∀ k v, pk m lo hi rem s k v → (∀ j, pk m lo hi rem s j v → k ≤ j) → k ≤ fb_ct (cnB fun u => ∃ j, j < k ∧ pk m lo hi rem s j u) n
  | 0, _, _, _ => Nat.zero_le _
  | k + 1, v, ⟨e, u, he, hr, hends, q⟩, hmin => by
    obtain ⟨w1, w2⟩ := hw e he
    have hu : u < n := by rcases hends with z | z <;> omega
    have umin : ∀ j, pk m lo hi rem s j u → k ≤ j := fun j hj => by
      have := hmin (j + 1) ⟨e, u, he, hr, hends, hj⟩
      omega
    have ih := pk_hop hw k u q umin
    refine Nat.lt_of_le_of_lt ih (ct_lt (fun x hx h => ?_) ⟨u, hu, ?_, ?_⟩)
    · obtain ⟨j, j1, j2⟩ := cnB_t.mp h
      exact cnB_t.mpr ⟨j, by omega, j2⟩
    · exact cnB_f.mpr fun ⟨j, j1, j2⟩ => by have := umin j j2; omega
    · exact cnB_t.mpr ⟨k, by omega, q⟩
theorem pk_few {n m : Nat} {lo hi : Nat → Nat} (hw : ∀ e, e < m → lo e < hi e ∧ hi e < n) {rem s v : Nat} (hv : v < n) (h : pkE m lo hi rem s v) : ∃ k, k ≤ n - 1 ∧ pk m lo hi rem s k v := by
  obtain ⟨k0, h⟩ := h
  obtain ⟨k, k1, k2⟩ := nat_least (P := fun k => pk m lo hi rem s k v) h
  refine ⟨k, ?_, k1⟩
  have a := pk_hop hw k v k1 k2
  have b : fb_ct (cnB fun u => ∃ j, j < k ∧ pk m lo hi rem s j u) n < fb_ct (fun _ => true) n := ct_lt (fun _ _ _ => rfl) ⟨v, hv, cnB_f.mpr fun ⟨j, j1, j2⟩ => by have := k2 j j2; omega, rfl⟩
  have c := fb_ct_le (fun _ => true) n
  omega
theorem est_up {lo hi : Nat → Nat} {rem R e i : Nat} (h : R.testBit i = true) : (est lo hi rem R e).testBit i = true := by
  unfold est
  split
  · rw [Nat.testBit_or, h]; rfl
  · exact h
theorem est_new {lo hi : Nat → Nat} {rem R e u v : Nat} (hr : rem.testBit e = false) (hends : (lo e = u ∧ hi e = v) ∨ (hi e = u ∧ lo e = v)) (h : R.testBit u = true) : (est lo hi rem R e).testBit v = true := by
  unfold est
  have c : rem.testBit e = false ∧ (R.testBit (lo e) || R.testBit (hi e)) = true := ⟨hr, by rcases hends with ⟨a, b⟩ | ⟨a, b⟩ <;> rw [a, h] <;> simp⟩
  rw [if_pos c, Nat.testBit_or, Nat.testBit_or, q_tw, q_tw]
  rcases hends with ⟨a, b⟩ | ⟨a, b⟩ <;> rw [b] <;> simp
theorem pas_up {lo hi : Nat → Nat} {rem R i : Nat} (h : R.testBit i = true) : ∀ e, (pas lo hi rem R e).testBit i = true
  | 0 => h
  | e + 1 => est_up (pas_up h e)
theorem pas_new {lo hi : Nat → Nat} {rem R e u v : Nat} (hr : rem.testBit e = false) (hends : (lo e = u ∧ hi e = v) ∨ (hi e = u ∧ lo e = v)) (h : R.testBit u = true) : ∀ {m : Nat}, e < m → (pas lo hi rem R m).testBit v = true
  | 0, z => absurd z (Nat.not_lt_zero e)
  | m + 1, z => by
    by_cases q : e = m
    · subst q; exact est_new hr hends (pas_up h e)
    · exact est_up (pas_new hr hends h (by omega))
theorem rch_up {m : Nat} {lo hi : Nat → Nat} {rem s : Nat} : ∀ K, (rch m lo hi rem s K).testBit s = true
  | 0 => by show (2 ^ s).testBit s = true; rw [q_tw]; exact decide_eq_true rfl
  | K + 1 => pas_up (rch_up K) m
theorem rch_cov {m : Nat} {lo hi : Nat → Nat} {rem s : Nat} : ∀ {K k v : Nat}, k ≤ K → pk m lo hi rem s k v → (rch m lo hi rem s K).testBit v = true
  | K, 0, v, _, q => by rw [show v = s from q]; exact rch_up K
  | 0, k + 1, v, h, _ => absurd h (by omega)
  | K + 1, k + 1, v, h, ⟨e, u, he, hr, hends, q⟩ => pas_new hr hends (rch_cov (by omega) q) he
def rsn (m : Nat) (lo hi : Nat → Nat) (rem s R : Nat) : Prop := ∀ v, R.testBit v = true → pkE m lo hi rem s v
theorem est_snd {m : Nat} {lo hi : Nat → Nat} {rem s R e : Nat} (h : rsn m lo hi rem s R) (he : e < m) : rsn m lo hi rem s (est lo hi rem R e) := by
  intro v hv
  unfold est at hv
  by_cases c : rem.testBit e = false ∧ (R.testBit (lo e) || R.testBit (hi e)) = true
  · rw [if_pos c, Nat.testBit_or, Nat.testBit_or, q_tw, q_tw] at hv
    have both : pkE m lo hi rem s (lo e) ∧ pkE m lo hi rem s (hi e) := by
      have c2 := c.2
      rw [Bool.or_eq_true] at c2
      rcases c2 with z | z
      · obtain ⟨k, q⟩ := h _ z
        exact ⟨⟨k, q⟩, k + 1, e, lo e, he, c.1, Or.inl ⟨rfl, rfl⟩, q⟩
      · obtain ⟨k, q⟩ := h _ z
        exact ⟨⟨k + 1, e, hi e, he, c.1, Or.inr ⟨rfl, rfl⟩, q⟩, k, q⟩
    rw [Bool.or_eq_true, Bool.or_eq_true, decide_eq_true_iff, decide_eq_true_iff] at hv
    rcases hv with z | z | z
    · exact h v z
    · rw [← z]; exact both.1
    · rw [← z]; exact both.2
  · rw [if_neg c] at hv
    exact h v hv
theorem pas_snd {m : Nat} {lo hi : Nat → Nat} {rem s R : Nat} (h : rsn m lo hi rem s R) : ∀ e, e ≤ m → rsn m lo hi rem s (pas lo hi rem R e)
  | 0, _ => h
  | e + 1, z => est_snd (pas_snd h e (by omega)) (by omega)
theorem rch_snd {m : Nat} {lo hi : Nat → Nat} {rem s : Nat} : ∀ K, rsn m lo hi rem s (rch m lo hi rem s K)
  | 0 => fun v hv => by
    have hv : (2 ^ s).testBit v = true := hv
    rw [q_tw] at hv
    exact ⟨0, (of_decide_eq_true hv).symm⟩
  | K + 1 => pas_snd (rch_snd K) m (Nat.le_refl m)
/-- the class's answer: no two terminals are joined -/
theorem kap_iff {n m T : Nat} {lo hi : Nat → Nat} (hw : ∀ e, e < m → lo e < hi e ∧ hi e < n) (hT : T < 2 ^ n) {rem : Nat} : kap n m T lo hi rem = true ↔ ∀ a b, T.testBit a = true → T.testBit b = true → pkE m lo hi rem a b → a = b := by
  unfold kap
  rw [decide_eq_true_iff]
  constructor
  · intro h a b ha hb hp
    have hbn := q_T_lt hT hb
    obtain ⟨k, k1, k2⟩ := pk_few hw hbn hp
    have e := h a (q_T_lt hT ha) ha
    have t : (rch m lo hi rem a (n - 1) &&& T).testBit b = true := by rw [Nat.testBit_and, rch_cov k1 k2, hb]; rfl
    rw [e, q_tw] at t
    exact of_decide_eq_true t
  · intro h v hv hTv
    refine Nat.eq_of_testBit_eq fun i => ?_
    rw [Nat.testBit_and, q_tw, Bool.eq_iff_iff, Bool.and_eq_true, decide_eq_true_iff]
    constructor
    · rintro ⟨z1, z2⟩
      exact h v i hTv z2 (rch_snd (n - 1) i z1)
    · rintro rfl
      exact ⟨rch_up _, hTv⟩
/-- the model's labels -/
def lst (lo hi : Nat → Nat) (rem : Nat) (F : Nat → Nat) (e : Nat) : Nat → Nat := if rem.testBit e = true then F else fun x => if x = hi e then min (F (lo e)) (F (hi e)) else if x = lo e then min (F (lo e)) (F (hi e)) else F x
def lps (lo hi : Nat → Nat) (rem : Nat) (F : Nat → Nat) : Nat → Nat → Nat
  | 0 => F
  | e + 1 => lst lo hi rem (lps lo hi rem F e) e
def lrs (m : Nat) (lo hi : Nat → Nat) (rem : Nat) : Nat → Nat → Nat
  | 0 => fun v => v
  | K + 1 => lps lo hi rem (lrs m lo hi rem K) m
theorem lst_le (lo hi : Nat → Nat) (rem : Nat) (F : Nat → Nat) (e x : Nat) : lst lo hi rem F e x ≤ F x := by
  unfold lst
  split
  · exact Nat.le_refl _
  · dsimp only
    by_cases a : x = hi e
    · rw [if_pos a, a]; exact Nat.min_le_right _ _
    · rw [if_neg a]
      by_cases b : x = lo e
      · rw [if_pos b, b]; exact Nat.min_le_left _ _
      · rw [if_neg b]; exact Nat.le_refl _
theorem lst_new {lo hi : Nat → Nat} {rem : Nat} {F : Nat → Nat} {e u v l : Nat} (hr : rem.testBit e = false) (hends : (lo e = u ∧ hi e = v) ∨ (hi e = u ∧ lo e = v)) (h : F u ≤ l) : lst lo hi rem F e v ≤ l := by
  unfold lst
  rw [if_neg (by rw [hr]; decide)]
  rcases hends with ⟨a, b⟩ | ⟨a, b⟩
  · rw [if_pos b.symm, a]; exact Nat.le_trans (Nat.min_le_left _ _) h
  · by_cases q : v = hi e
    · rw [if_pos q, a]; exact Nat.le_trans (Nat.min_le_right _ _) h
    · rw [if_neg q, if_pos b.symm, a]; exact Nat.le_trans (Nat.min_le_right _ _) h
theorem lps_le {lo hi : Nat → Nat} {rem : Nat} {F : Nat → Nat} {x : Nat} : ∀ e, lps lo hi rem F e x ≤ F x
  | 0 => Nat.le_refl _
  | e + 1 => Nat.le_trans (lst_le _ _ _ _ _ _) (lps_le e)
theorem lps_new {lo hi : Nat → Nat} {rem : Nat} {F : Nat → Nat} {e u v l : Nat} (hr : rem.testBit e = false) (hends : (lo e = u ∧ hi e = v) ∨ (hi e = u ∧ lo e = v)) (h : F u ≤ l) : ∀ {m : Nat}, e < m → lps lo hi rem F m v ≤ l
  | 0, z => absurd z (Nat.not_lt_zero e)
  | m + 1, z => by
    by_cases q : e = m
    · subst q; exact lst_new hr hends (Nat.le_trans (lps_le e) h)
    · exact Nat.le_trans (lst_le _ _ _ _ _ _) (lps_new hr hends h (by omega))
theorem lrs_le {m : Nat} {lo hi : Nat → Nat} {rem x : Nat} : ∀ K, lrs m lo hi rem K x ≤ x
  | 0 => Nat.le_refl _
  | K + 1 => Nat.le_trans (lps_le m) (lrs_le K)
theorem lrs_cov {m : Nat} {lo hi : Nat → Nat} {rem s : Nat} : ∀ {K k v : Nat}, k ≤ K → pk m lo hi rem s k v → lrs m lo hi rem K v ≤ s
  | K, 0, v, _, q => by rw [show v = s from q]; exact lrs_le K
  | 0, k + 1, v, h, _ => absurd h (by omega)
  | K + 1, k + 1, v, h, ⟨e, u, he, hr, hends, q⟩ => lps_new hr hends (lrs_cov (by omega) q) he
def lsn (m : Nat) (lo hi : Nat → Nat) (rem : Nat) (F : Nat → Nat) : Prop := ∀ v, pkE m lo hi rem (F v) v
theorem lst_snd {m : Nat} {lo hi : Nat → Nat} {rem e : Nat} {F : Nat → Nat} (h : lsn m lo hi rem F) (he : e < m) : lsn m lo hi rem (lst lo hi rem F e) := by
  intro v
  unfold lst
  by_cases c : rem.testBit e = true
  · rw [if_pos c]; exact h v
  · rw [if_neg c]
    have hr : rem.testBit e = false := by cases q : rem.testBit e; rfl; exact absurd q c
    obtain ⟨k1, p1⟩ := h (lo e)
    obtain ⟨k2, p2⟩ := h (hi e)
    have key : ∀ x, x = lo e ∨ x = hi e → pkE m lo hi rem (min (F (lo e)) (F (hi e))) x := fun x hx => by
      by_cases q : F (lo e) ≤ F (hi e)
      · rw [Nat.min_eq_left q]
        rcases hx with z | z
        · rw [z]; exact ⟨k1, p1⟩
        · rw [z]; exact ⟨k1 + 1, e, lo e, he, hr, Or.inl ⟨rfl, rfl⟩, p1⟩
      · rw [Nat.min_eq_right (Nat.le_of_not_le q)]
        rcases hx with z | z
        · rw [z]; exact ⟨k2 + 1, e, hi e, he, hr, Or.inr ⟨rfl, rfl⟩, p2⟩
        · rw [z]; exact ⟨k2, p2⟩
    by_cases a : v = hi e
    · rw [if_pos a]; exact key v (Or.inr a)
    · rw [if_neg a]
      by_cases b : v = lo e
      · rw [if_pos b]; exact key v (Or.inl b)
      · rw [if_neg b]; exact h v
theorem lps_snd {m : Nat} {lo hi : Nat → Nat} {rem : Nat} {F : Nat → Nat} (h : lsn m lo hi rem F) : ∀ e, e ≤ m → lsn m lo hi rem (lps lo hi rem F e)
  | 0, _ => h
  | e + 1, z => lst_snd (lps_snd h e (by omega)) (by omega)
theorem lrs_snd {m : Nat} {lo hi : Nat → Nat} {rem : Nat} : ∀ K, lsn m lo hi rem (lrs m lo hi rem K)
  | 0 => fun _ => ⟨0, rfl⟩
  | K + 1 => lps_snd (lrs_snd K) m (Nat.le_refl m)
theorem lrs_eq {n m : Nat} {lo hi : Nat → Nat} (hw : ∀ e, e < m → lo e < hi e ∧ hi e < n) {rem a b : Nat} (ha : a < n) (hb : b < n) : lrs m lo hi rem n a = lrs m lo hi rem n b ↔ pkE m lo hi rem a b := by
  obtain ⟨ka, pa⟩ := lrs_snd (m := m) (lo := lo) (hi := hi) (rem := rem) n a
  obtain ⟨kb, pb⟩ := lrs_snd (m := m) (lo := lo) (hi := hi) (rem := rem) n b
  constructor
  · intro q
    rw [← q] at pb
    exact ⟨ka + kb, pk_tr (pk_sy pa) pb⟩
  · rintro ⟨k, p⟩
    have x1 : lrs m lo hi rem n b ≤ lrs m lo hi rem n a := by
      obtain ⟨j, j1, j2⟩ := pk_few hw hb ⟨_, pk_tr pa p⟩
      exact lrs_cov (by omega) j2
    have x2 : lrs m lo hi rem n a ≤ lrs m lo hi rem n b := by
      obtain ⟨j, j1, j2⟩ := pk_few hw ha ⟨_, pk_tr pb (pk_sy p)⟩
      exact lrs_cov (by omega) j2
    omega

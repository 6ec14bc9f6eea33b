/-! BASE: the numbers of the machine as naturals, reads behind writes, what a stretch leaves alone -/
def bI (b : Bool) : Int32 := nI b.toNat
theorem bI_t : bI true = 1 := rfl
theorem bI_f : bI false = 0 := rfl
theorem bI_0 (b : Bool) : bI b = 0 ↔ b = false := by cases b <;> decide
theorem bI_1 (b : Bool) : bI b = 1 ↔ b = true := by cases b <;> decide
theorem bI_01 (b : Bool) : bI b = 0 ∨ bI b = 1 := by cases b <;> decide
theorem bI_if (c : Prop) [Decidable c] : (if c then (1 : Int32) else 0) = bI (decide c) := by by_cases h : c <;> simp [h, bI_t, bI_f]
theorem bt_nI (s i : Nat) : bt (nI s) i = (decide (i < 32) && s.testBit i) := by
  show (BitVec.ofNat 32 s).getLsbD i = _
  rw [BitVec.getLsbD_ofNat]
theorem q_tb0 {s i : Nat} (hs : s < 2 ^ 31) (hi : 31 ≤ i) : s.testBit i = false := Nat.testBit_lt_two_pow (Nat.lt_of_lt_of_le hs (Nat.pow_le_pow_right (by decide) hi))
theorem q_shr {s v : Nat} (hs : s < 2 ^ 31) (hv : v < 31) : nI s >>> (nI v &&& 31) = nI (s >>> v) := by
  apply b_ext
  intro i hi
  rw [b_sshr v (by omega) _ hi, bt_nI, bt_nI, bt_nI, Nat.testBit_shiftRight]
  by_cases h : v + i < 32
  · simp [h, hi]
  · rw [if_neg h, q_tb0 hs (Nat.le_refl _), q_tb0 hs (show 31 ≤ v + i by omega)]
    simp
theorem q_mod2 (s v : Nat) : (s >>> v) % 2 = (s.testBit v).toNat := by rw [Nat.toNat_testBit, Nat.shiftRight_eq_div_pow]
theorem q_bit {s v : Nat} (hs : s < 2 ^ 31) (hv : v < 31) : (nI s >>> (nI v &&& 31)) &&& 1 = bI (s.testBit v) := by
  rw [q_shr hs hv]
  show nI (s >>> v) &&& nI 1 = _
  rw [fa_and, Nat.and_one_is_mod, q_mod2]
  rfl
theorem q_shl : ∀ v, v < 31 → nI 1 <<< (nI v &&& 31) = nI (2 ^ v) := by decide +kernel
def andn (a b : Nat) : Nat := a ^^^ (a &&& b)
theorem andn_bit (a b i : Nat) : (andn a b).testBit i = (a.testBit i && !b.testBit i) := by
  unfold andn
  rw [Nat.testBit_xor, Nat.testBit_and]
  cases a.testBit i <;> cases b.testBit i <;> rfl
theorem q_m1 : ∀ i, i < 32 → bt (-nI 1) i = true := by decide +kernel
theorem q_andn (a b : Nat) : nI a &&& (nI b ^^^ -nI 1) = nI (andn a b) := by
  apply b_ext
  intro i hi
  rw [b_and, b_xor, q_m1 i hi, bt_nI, bt_nI, bt_nI, andn_bit]
  simp [hi]
theorem q_lt_of_bits {a k : Nat} (h : ∀ i, k ≤ i → a.testBit i = false) : a < 2 ^ k := Nat.lt_pow_two_of_testBit a h
theorem q_sub_lt {a b k : Nat} (h : ∀ i, a.testBit i = true → b.testBit i = true) (hb : b < 2 ^ k) : a < 2 ^ k := q_lt_of_bits fun i hi => by
  cases e : a.testBit i with
  | false => rfl
  | true =>
    have := h i e
    rw [Nat.testBit_lt_two_pow (Nat.lt_of_lt_of_le hb (Nat.pow_le_pow_right (by decide) hi))] at this
    cases this
theorem andn_lt {a k : Nat} (b : Nat) (h : a < 2 ^ k) : andn a b < 2 ^ k := q_sub_lt (b := a) (fun i z => by rw [andn_bit] at z; cases e : a.testBit i <;> rw [e] at z <;> simp_all) h
theorem i_pi (h : am_H) (a k : Nat) (v : Int32) (b j : Nat) : am_i (am_pi h a k v) b j = if b = a then (if j = k then v else am_i h b j) else am_i h b j := by
  show va_up h.2.1 a (upd (h.2.1 a) k v) b j = _
  unfold va_up upd
  by_cases e : b = a
  · subst e; rw [if_pos rfl, if_pos rfl]; rfl
  · rw [if_neg e, if_neg e]; rfl
theorem i_pi_same (h : am_H) (a k : Nat) (v : Int32) (j : Nat) : am_i (am_pi h a k v) a j = if j = k then v else am_i h a j := by rw [i_pi, if_pos rfl]
theorem i_pi_ne {h : am_H} {a k : Nat} {v : Int32} {b : Nat} (hb : b ≠ a) : am_i (am_pi h a k v) b = am_i h b := by
  funext j
  rw [i_pi, if_neg hb]
theorem k_pi (h : am_H) (a k : Nat) (v : Int32) (b : Nat) : am_k (am_pi h a k v) b = am_k h b := rfl
theorem r_pi (h : am_H) (a k : Nat) (v : Int32) (b j : Nat) : am_r (am_pi h a k v) b j = am_r h b j := rfl
theorem l_pi (h : am_H) (a k : Nat) (v : Int32) (b j : Nat) : am_l (am_pi h a k v) b j = am_l h b j := rfl
theorem n_pi (h : am_H) (a k : Nat) (v : Int32) : am_n (am_pi h a k v) = am_n h := rfl
theorem k_pr (h : am_H) (a k v b : Nat) : am_k (am_pr h a k v) b = am_k h b := rfl
theorem i_pr (h : am_H) (a k v b j : Nat) : am_i (am_pr h a k v) b j = am_i h b j := rfl
theorem k_pl (h : am_H) (a k : Nat) (v : Int64) (b : Nat) : am_k (am_pl h a k v) b = am_k h b := rfl
theorem i_pl (h : am_H) (a k : Nat) (v : Int64) (b j : Nat) : am_i (am_pl h a k v) b j = am_i h b j := rfl
theorem r_pl (h : am_H) (a k : Nat) (v : Int64) (b j : Nat) : am_r (am_pl h a k v) b j = am_r h b j := rfl
theorem l_pl_same (h : am_H) (a k : Nat) (v : Int64) (j : Nat) : am_l (am_pl h a k v) a j = if j = k then v else am_l h a j := by
  show va_up h.2.2.1 a (vp_updL (h.2.2.1 a) k v) a j = _
  unfold va_up vp_updL
  rw [if_pos rfl]
  rfl
theorem r_pr (h : am_H) (a k v b j : Nat) : am_r (am_pr h a k v) b j = if b = a then (if j = k then v else am_r h b j) else am_r h b j := by
  show va_up h.2.2.2.1 a (va_up (h.2.2.2.1 a) k v) b j = _
  unfold va_up
  by_cases e : b = a
  · subst e; rw [if_pos rfl, if_pos rfl]; rfl
  · rw [if_neg e, if_neg e]; rfl
/-- nothing but the ints and longs of the cells X has changed -/
def sm (X : List Nat) (h h' : am_H) : Prop := h'.1 = h.1 ∧ h'.2.2.2 = h.2.2.2 ∧ ∀ a, a ∉ X → am_i h' a = am_i h a ∧ am_l h' a = am_l h a
theorem sm.rf {X : List Nat} {h : am_H} : sm X h h := ⟨rfl, rfl, fun _ _ => ⟨rfl, rfl⟩⟩
theorem sm.tr {X : List Nat} {h h1 h2 : am_H} (s : sm X h h1) (t : sm X h1 h2) : sm X h h2 := ⟨t.1.trans s.1, t.2.1.trans s.2.1, fun a ha => ⟨(t.2.2 a ha).1.trans (s.2.2 a ha).1, (t.2.2 a ha).2.trans (s.2.2 a ha).2⟩⟩
theorem sm.mo {X Y : List Nat} {h h1 : am_H} (s : sm X h h1) (hs : ∀ a, a ∈ X → a ∈ Y) : sm Y h h1 := ⟨s.1, s.2.1, fun a ha => s.2.2 a fun z => ha (hs a z)⟩
theorem sm.pi {X : List Nat} {h h1 : am_H} (s : sm X h h1) {a k : Nat} {v : Int32} (ha : a ∈ X) : sm X h (am_pi h1 a k v) := ⟨s.1, s.2.1, fun b hb => ⟨(i_pi_ne fun e => hb (by rw [e]; exact ha)).trans (s.2.2 b hb).1, (s.2.2 b hb).2⟩⟩
theorem sm.pl {X : List Nat} {h h1 : am_H} (s : sm X h h1) {a k : Nat} {v : Int64} (ha : a ∈ X) : sm X h (am_pl h1 a k v) := ⟨s.1, s.2.1, fun b hb => ⟨(s.2.2 b hb).1, Eq.trans (by
  funext j
  show va_up h1.2.2.1 a _ b j = _
  unfold va_up
  rw [if_neg fun e => hb (by rw [e]; exact ha)]
  rfl) (s.2.2 b hb).2⟩⟩
theorem sm.k {X : List Nat} {h h' : am_H} (s : sm X h h') (a : Nat) : am_k h' a = am_k h a := by unfold am_k; rw [s.1]
theorem sm.r {X : List Nat} {h h' : am_H} (s : sm X h h') (a k : Nat) : am_r h' a k = am_r h a k := by unfold am_r; rw [s.2.1]
theorem sm.n {X : List Nat} {h h' : am_H} (s : sm X h h') : am_n h' = am_n h := by unfold am_n; rw [s.2.1]
theorem sm.cs {X : List Nat} {h h' : am_H} (s : sm X h h') : am_cs h' = am_cs h := by unfold am_cs; rw [s.2.1]
theorem sm.i {X : List Nat} {h h' : am_H} (s : sm X h h') {a : Nat} (ha : a ∉ X) (k : Nat) : am_i h' a k = am_i h a k := by rw [(s.2.2 a ha).1]
theorem sm.sh {X : List Nat} {h h' : am_H} (s : sm X h h') (hs : sh h) : sh h' := ⟨fun a ha => (s.k a).trans (hs.1 a ha), fun q hq => (s.r _ _).trans (hs.2.1 q hq), by rw [s.n]; exact hs.2.2⟩
theorem sm.gx {X : List Nat} {h h' : am_H} (s : sm X h h') {a : Nat} (g : gs h a) : gs h' a := by
  unfold gs at *
  simp only [s.k, s.r]
  exact g
/-- an index within its row -/
theorem ck_arr {h : am_H} {a t n : Nat} {i : Int32} {e : Nat} (hk : am_k h a = (t, n)) (hi : i = nI e) (he : e < n) (hn : n < 2 ^ 31) : am_arr h a t i := by
  unfold am_arr
  rw [hk, hi]
  exact ⟨rfl, vp_in_nI he hn⟩
theorem q_cl {e : Nat} (h : e < 2 ^ 31) : (nI e).toNatClampNeg = e := nI_clamp h
theorem ck_row {h : am_H} {x b t n : Nat} {i : Int32} {e : Nat} (hr : x = b) (hk : am_k h b = (t, n)) (hi : i = nI e) (he : e < n) (hn : n < 2 ^ 31) : am_arr h x t i := by
  subst hr
  exact ck_arr hk hi he hn
theorem q_ge {x : Int32} {i m : Nat} (hx : x = nI m) (hi : i < m) (hm : m < 100000) : ¬ x ≤ nI i := by rw [hx]; exact nI_ge hi (by omega)
theorem q_le {x : Int32} {m : Nat} (hx : x = nI m) (hm : m < 100000) : x ≤ nI m := by rw [hx]; exact nI_le (Nat.le_refl _) (by omega)
/-- a counted loop -/
theorem am_for {xs : am_X} {P : am_P} {d : Nat} {code : Nat → Option (Instr × Nat)} {hdl : Nat → Nat → Option (Nat × Nat)} {Q : am_Q} {pc : Nat} (m : Nat) (I : Nat → List Value → am_H → Prop)
    (step : ∀ i, i < m → ∀ L h, I i L h → (∀ L h, I (i + 1) L h → am_W xs code hdl (am_C xs P d) Q pc L [] h) → am_W xs code hdl (am_C xs P d) Q pc L [] h)
    (last : ∀ L h, I m L h → am_W xs code hdl (am_C xs P d) Q pc L [] h) : ∀ i, i ≤ m → ∀ L h, I i L h → am_W xs code hdl (am_C xs P d) Q pc L [] h := by
  have key : ∀ k i, i + k = m → ∀ L h, I i L h → am_W xs code hdl (am_C xs P d) Q pc L [] h := by
    intro k
    induction k with
    | zero => intro i e L h hI; rw [Nat.add_zero] at e; subst e; exact last L h hI
    | succ k ih => intro i e L h hI; exact step i (by omega) L h hI (fun L h hI => ih (i + 1) (by omega) L h hI)
  exact fun i hi => key (m - i) i (by omega)
/-- a loop with a measure that falls -/
theorem am_while {xs : am_X} {P : am_P} {d : Nat} {code : Nat → Option (Instr × Nat)} {hdl : Nat → Nat → Option (Nat × Nat)} {Q : am_Q} {pc : Nat} (I : Nat → List Value → am_H → Prop)
    (step : ∀ n L h, I n L h → (∀ k L h, k < n → I k L h → am_W xs code hdl (am_C xs P d) Q pc L [] h) → am_W xs code hdl (am_C xs P d) Q pc L [] h) : ∀ n L h, I n L h → am_W xs code hdl (am_C xs P d) Q pc L [] h := by
  intro n
  induction n using Nat.strongRecOn with
  | ind n ih => intro L h hI; exact step n L h hI (fun k L h hk hI => ih k hk L h hI)
/-- edges by a property, as a number -/
def cutm (p : Nat → Bool) : Nat → Nat
  | 0 => 0
  | m + 1 => if p m then cutm p m ||| 2 ^ m else cutm p m
theorem cutm_bit (p : Nat → Bool) (m i : Nat) : (cutm p m).testBit i = (decide (i < m) && p i) := by
  induction m with
  | zero => simp [cutm]
  | succ m ih =>
    unfold cutm
    by_cases e : p m = true
    · rw [if_pos e, Nat.testBit_or, ih, Nat.testBit_two_pow]
      by_cases h : m = i
      · subst h; simp [e]
      · have : (i < m + 1) ↔ (i < m) := by omega
        simp [this, h]
    · rw [if_neg e, ih]
      by_cases h : i = m
      · subst h; simp [e]
      · have : (i < m + 1) ↔ (i < m) := by omega
        simp [this]
theorem cutm_lt (p : Nat → Bool) (m : Nat) : cutm p m < 2 ^ m := q_lt_of_bits fun i hi => by rw [cutm_bit]; simp [Nat.not_lt.mpr hi]
theorem cutm_lt31 (p : Nat → Bool) {m : Nat} (hm : m ≤ 20) : cutm p m < 2 ^ 31 := Nat.lt_of_lt_of_le (cutm_lt p m) (Nat.pow_le_pow_right (by decide) (by omega))
theorem q_or (a b : Nat) : nI a ||| nI b = nI (a ||| b) := fa_or a b
theorem q_orb {a v : Nat} (hv : v < 31) : nI a ||| (nI 1 <<< (nI v &&& 31)) = nI (a ||| 2 ^ v) := by rw [q_shl v hv, fa_or]
/-- sums -/
def sumE (co : Nat → Nat) (p : Nat → Bool) (m : Nat) : Nat := fb_sm (fun e => if p e then co e else 0) m
theorem sumE_s (co : Nat → Nat) (p : Nat → Bool) (m : Nat) : sumE co p (m + 1) = sumE co p m + (if p m then co m else 0) := rfl
theorem sumE_le {co : Nat → Nat} {p : Nat → Bool} {m c : Nat} (h : ∀ e, e < m → co e ≤ c) : sumE co p m ≤ m * c := fb_sm_bound fun k hk => by
  split
  · exact h k hk
  · exact Nat.zero_le _
theorem sumE_cong {co : Nat → Nat} {p q : Nat → Bool} {m : Nat} (h : ∀ e, e < m → p e = q e) : sumE co p m = sumE co q m := fb_sm_cong fun k hk => by rw [h k hk]
theorem bI_inj {a b : Bool} (h : bI a = bI b) : a = b := by cases a <;> cases b <;> first | rfl | exact absurd h (by decide)
theorem q_div {a b : Nat} (ha : a < 2 ^ 31) (hb : b < 2 ^ 31) : nI a / nI b = nI (a / b) := by
  apply Int32.toInt_inj.mp
  have h1 : a / b ≤ a := Nat.div_le_self a b
  rw [Int32.toInt_div, nI_toInt ha, nI_toInt hb, nI_toInt (by omega), ← Int.ofNat_tdiv]
  generalize a / b = z at h1 ⊢
  exact fb_bmod (by omega) (by omega)
theorem q_t1 : ¬ bI true = 0 := by decide
theorem i_cp (h : am_H) (b sp a dp n x w : Nat) : am_i (am_cp h b sp a dp n) x w = if x = a ∧ dp ≤ w ∧ w < dp + n then am_i h b (sp + (w - dp)) else am_i h x w := by
  have e : am_i (am_cp h b sp a dp n) = va_up h.2.1 a (va_cpy (h.2.1 b) (h.2.1 a) sp dp n) := rfl
  rw [e]
  unfold va_up va_cpy
  by_cases hx : x = a
  · subst hx
    rw [if_pos rfl]
    by_cases h2 : dp ≤ w ∧ w < dp + n
    · rw [if_pos h2, if_pos ⟨rfl, h2⟩]; rfl
    · rw [if_neg h2, if_neg fun q => h2 q.2]; rfl
  · rw [if_neg hx, if_neg fun q => hx q.1]; rfl
theorem sm.cp {X : List Nat} {h h1 : am_H} (s : sm X h h1) {b sp a dp n : Nat} (ha : a ∈ X) : sm X h (am_cp h1 b sp a dp n) := ⟨s.1, s.2.1, fun x hx => ⟨Eq.trans (by
  funext w
  rw [i_cp, if_neg fun q => hx (by rw [q.1]; exact ha)]) (s.2.2 x hx).1, (s.2.2 x hx).2⟩⟩
theorem q_mul6 {x y : Int} (hx : -1000000 ≤ x ∧ x ≤ 1000000) (hy : -1000000 ≤ y ∧ y ≤ 1000000) : -1000000000000 ≤ x * y ∧ x * y ≤ 1000000000000 := by
  have h : (x * y).natAbs ≤ 1000000 * 1000000 := by
    rw [Int.natAbs_mul]
    exact Nat.mul_le_mul (by omega) (by omega)
  omega

/-! FLOATS that are no NaN: bits up to those of +infinity -/
def fpos (x : UInt32) : Prop := x.toNat ≤ 2139095040
def fnum (x : UInt32) : Prop := 0 < x.toNat ∧ x.toNat < 2139095040
theorem fnum.pos {x : UInt32} (h : fnum x) : fpos x := Nat.le_of_lt h.2
/-- a datum without a sign -/
def dpos : FP.Core.Datum → Prop
  | .nan => False
  | .inf s => s = false
  | .fin s _ _ => s = false
theorem f32_t : FP.Core.Fmt.tails FP.Core.b32 = 8388608 := by decide
theorem f32_e : FP.Core.Fmt.exps FP.Core.b32 = 256 := by decide
theorem f32_q : FP.Core.Fmt.qmin FP.Core.b32 = -149 := by decide
theorem f32_x : FP.Core.Fmt.qmax FP.Core.b32 = 104 := by decide
theorem f64_t : FP.Core.Fmt.tails FP.Core.b64 = 4503599627370496 := by decide
theorem f64_e : FP.Core.Fmt.exps FP.Core.b64 = 2048 := by decide
theorem f64_q : FP.Core.Fmt.qmin FP.Core.b64 = -1074 := by decide
theorem f64_x : FP.Core.Fmt.qmax FP.Core.b64 = 971 := by decide
theorem dec_pos {n : Nat} (h : n ≤ 2139095040) : dpos (FP.Core.decode FP.Core.b32 n) := by
  have hS : FP.Core.fieldS FP.Core.b32 n = false := by
    unfold FP.Core.fieldS
    rw [f32_t, f32_e, show n / 8388608 / 256 = 0 by omega]
    rfl
  unfold FP.Core.decode
  rw [hS]
  split
  · split
    · rfl
    · rename_i h1 h2
      unfold FP.Core.fieldE at h1
      unfold FP.Core.fieldT at h2
      rw [f32_t, f32_e] at h1
      rw [f32_t] at h2
      omega
  · split <;> rfl
theorem dec_num {n : Nat} (h0 : 0 < n) (h : n < 2139095040) : ∃ c q, FP.Core.decode FP.Core.b32 n = .fin false c q ∧ c ≠ 0 := by
  have hS : FP.Core.fieldS FP.Core.b32 n = false := by
    unfold FP.Core.fieldS
    rw [f32_t, f32_e, show n / 8388608 / 256 = 0 by omega]
    rfl
  have hE : FP.Core.fieldE FP.Core.b32 n ≠ 255 := by
    unfold FP.Core.fieldE
    rw [f32_t, f32_e]
    omega
  unfold FP.Core.decode
  rw [hS, f32_e, if_neg hE]
  split
  · rename_i h1
    refine ⟨_, _, rfl, ?_⟩
    unfold FP.Core.fieldE at h1
    unfold FP.Core.fieldT
    rw [f32_t, f32_e] at h1
    rw [f32_t]
    omega
  · refine ⟨_, _, rfl, ?_⟩
    rw [f32_t]
    omega
theorem rr32 (num den : Nat) (e : Int) : FP.Core.encode FP.Core.b32 (FP.Core.roundRatio FP.Core.b32 false num den e) ≤ 2139095040 := by
  have bd : ∀ c q, c < 16777216 → FP.Core.encode FP.Core.b32 (FP.Core.bound FP.Core.b32 false c q) ≤ 2139095040 := by
    intro c q hc
    unfold FP.Core.bound
    rw [f32_x]
    split
    · rename_i hq
      unfold FP.Core.encode
      dsimp only
      split
      · unfold FP.Core.assemble
        rename_i h2
        rw [f32_t] at h2
        rw [f32_t, f32_e]
        show (0 * 256 + 0) * 8388608 + c ≤ _
        omega
      · unfold FP.Core.assemble
        rename_i h2
        rw [f32_t] at h2
        rw [f32_t, f32_e, f32_q]
        show (0 * 256 + ((q - -149).toNat + 1)) * 8388608 + (c - 8388608) ≤ _
        omega
    · show FP.Core.assemble FP.Core.b32 false _ 0 ≤ _
      unfold FP.Core.assemble
      rw [f32_t, f32_e]
      decide
  unfold FP.Core.roundRatio
  split
  · rw [f32_q]; decide
  · unfold FP.Core.roundAt FP.Core.settle
    split
    · rename_i h1
      exact bd _ _ (Nat.lt_of_lt_of_le h1 (by decide))
    · exact bd _ _ (by rw [f32_t]; decide)
theorem rr64 (num den : Nat) (e : Int) : FP.Core.encode FP.Core.b64 (FP.Core.roundRatio FP.Core.b64 false num den e) ≤ 9218868437227405312 := by
  have bd : ∀ c q, c < 9007199254740992 → FP.Core.encode FP.Core.b64 (FP.Core.bound FP.Core.b64 false c q) ≤ 9218868437227405312 := by
    intro c q hc
    unfold FP.Core.bound
    rw [f64_x]
    split
    · rename_i hq
      unfold FP.Core.encode
      dsimp only
      split
      · unfold FP.Core.assemble
        rename_i h2
        rw [f64_t] at h2
        rw [f64_t, f64_e]
        show (0 * 2048 + 0) * 4503599627370496 + c ≤ _
        omega
      · unfold FP.Core.assemble
        rename_i h2
        rw [f64_t] at h2
        rw [f64_t, f64_e, f64_q]
        show (0 * 2048 + ((q - -1074).toNat + 1)) * 4503599627370496 + (c - 4503599627370496) ≤ _
        omega
    · show FP.Core.assemble FP.Core.b64 false _ 0 ≤ _
      unfold FP.Core.assemble
      rw [f64_t, f64_e]
      decide
  unfold FP.Core.roundRatio
  split
  · rw [f64_q]; decide
  · unfold FP.Core.roundAt FP.Core.settle
    split
    · rename_i h1
      exact bd _ _ (Nat.lt_of_lt_of_le h1 (by decide))
    · exact bd _ _ (by rw [f64_t]; decide)
theorem rd32 {d : FP.Core.Datum} (h : dpos d) : FP.Core.encode FP.Core.b32 (FP.Core.round FP.Core.b32 d) ≤ 2139095040 := by
  match d, h with
  | .inf s, h =>
    have h : s = false := h
    subst h
    decide
  | .fin s c q, h =>
    have h : s = false := h
    subst h
    exact rr32 _ _ _
theorem rd64 {d : FP.Core.Datum} (h : dpos d) : FP.Core.encode FP.Core.b64 (FP.Core.round FP.Core.b64 d) ≤ 9218868437227405312 := by
  match d, h with
  | .inf s, h =>
    have h : s = false := h
    subst h
    decide
  | .fin s c q, h =>
    have h : s = false := h
    subst h
    exact rr64 _ _ _
theorem of32_le {n : Nat} (h : n ≤ 2139095040) : (UInt32.ofNat n).toNat = n := by
  rw [UInt32.toNat_ofNat']
  exact Nat.mod_eq_of_lt (by omega)
theorem of64_le {n : Nat} (h : n ≤ 9218868437227405312) : (UInt64.ofNat n).toNat = n := by
  rw [UInt64.toNat_ofNat']
  exact Nat.mod_eq_of_lt (by omega)
theorem fpos_n32 {x : UInt32} (h : fpos x) : vf_n32 x := by
  unfold vf_n32
  rw [UInt32.le_iff_toNat_le, UInt32.toNat_and]
  exact Nat.le_trans Nat.and_le_left h
theorem sum_pos {x y : FP.Core.Datum} (hx : dpos x) (hy : dpos y) : dpos (FP.Core.exactSum x y) := by
  match x, y, hx, hy with
  | .inf s, .inf t, hx, hy =>
    have hx : s = false := hx
    have hy : t = false := hy
    subst hx hy
    rfl
  | .inf s, .fin .., hx, hy => exact hx
  | .fin .., .inf t, hx, hy => exact hy
  | .fin s c q, .fin t d r, hx, hy =>
    have hx : s = false := hx
    have hy : t = false := hy
    subst hx hy
    show FP.Core.sumSign false false (FP.Core.sumUnits false c q false d r (min q r)) = false
    unfold FP.Core.sumSign
    split
    · rfl
    · refine decide_eq_false fun z => ?_
      unfold FP.Core.sumUnits FP.Core.signed at z
      rw [if_neg (by decide), if_neg (by decide)] at z
      omega
theorem fpos_add {x y : UInt32} (hx : fpos x) (hy : fpos y) : fpos (FP.fadd x y) := by
  have h := rd32 (sum_pos (dec_pos hx) (dec_pos hy))
  show (UInt32.ofNat _).toNat ≤ _
  exact (of32_le h).symm ▸ h
theorem fpos_mul {x y : UInt32} (hx : fpos x) (hy : fnum y) : fpos (FP.fmul x y) := by
  obtain ⟨c, q, e, hc⟩ := dec_num hy.1 hy.2
  have h : dpos (FP.Core.exactProduct (FP.Core.decode FP.Core.b32 x.toNat) (FP.Core.decode FP.Core.b32 y.toNat)) := by
    have hx := dec_pos hx
    rw [e]
    match FP.Core.decode FP.Core.b32 x.toNat, hx with
    | .inf s, hx =>
      have hx : s = false := hx
      subst hx
      show dpos (if c = 0 then FP.Core.Datum.nan else FP.Core.Datum.inf (false != false))
      rw [if_neg hc]
      rfl
    | .fin s d r, hx =>
      have hx : s = false := hx
      subst hx
      rfl
  have h := rd32 h
  show (UInt32.ofNat _).toNat ≤ _
  exact (of32_le h).symm ▸ h
theorem fpos_div {x y : UInt32} (hx : fpos x) (hy : fnum y) : fpos (FP.fdiv x y) := by
  obtain ⟨c, q, e, hc⟩ := dec_num hy.1 hy.2
  have h : FP.Core.encode FP.Core.b32 (FP.Core.quotient FP.Core.b32 (FP.Core.decode FP.Core.b32 x.toNat) (FP.Core.decode FP.Core.b32 y.toNat)) ≤ 2139095040 := by
    have hx := dec_pos hx
    rw [e]
    match FP.Core.decode FP.Core.b32 x.toNat, hx with
    | .inf s, hx =>
      have hx : s = false := hx
      subst hx
      show FP.Core.encode FP.Core.b32 (FP.Core.Datum.inf (false != false)) ≤ _
      decide
    | .fin s d r, hx =>
      have hx : s = false := hx
      subst hx
      show FP.Core.encode FP.Core.b32 (if c = 0 then (if d = 0 then FP.Core.Datum.nan else FP.Core.Datum.inf (false != false)) else FP.Core.roundRatio FP.Core.b32 (false != false) d c (r - q)) ≤ _
      rw [if_neg hc]
      exact rr32 _ _ _
  show (UInt32.ofNat _).toNat ≤ _
  exact (of32_le h).symm ▸ h
theorem nan_no {x : UInt32} (hx : fpos x) : FP.Core.fIsNaN x = false := by
  have h := dec_pos hx
  unfold FP.Core.fIsNaN FP.Core.isNaN
  refine decide_eq_false fun z => ?_
  rw [z] at h
  exact h
theorem f2d_pos {x : UInt32} (hx : fpos x) : vf_n64 (FP.f2d x) := by
  have h := rd64 (dec_pos hx)
  unfold FP.f2d
  rw [nan_no hx, if_neg (by decide)]
  unfold vf_n64
  rw [UInt64.le_iff_toNat_le, UInt64.toNat_and]
  refine Nat.le_trans Nat.and_le_left ?_
  show (UInt64.ofNat _).toNat ≤ _
  exact (of64_le h).symm ▸ h
theorem f2d_m1 : vf_n64 (FP.f2d 0xbf800000) := by unfold vf_n64; decide +kernel
theorem i2f_num {n : Nat} (h0 : 0 < n) (h : n < 16777216) : fnum (FP.i2f (nI n)) := by
  have e : (nI n).toInt = n := by
    show (Int32.ofNat n).toInt = n
    rw [Int32.toInt_ofNat_of_lt (by omega)]
  have key : 0 < FP.Core.encode FP.Core.b32 (FP.Core.round FP.Core.b32 (FP.Core.ofInt (n : Int))) ∧ FP.Core.encode FP.Core.b32 (FP.Core.round FP.Core.b32 (FP.Core.ofInt (n : Int))) < 2139095040 := by
    unfold FP.Core.ofInt
    rw [decide_eq_false (by omega : ¬ ((n : Int) < 0)), Int.natAbs_natCast]
    unfold FP.Core.round FP.Core.roundRatio
    dsimp only
    rw [if_neg (by omega)]
    have hq : FP.Core.quantum FP.Core.b32 n 1 0 ≤ 0 ∧ -149 ≤ FP.Core.quantum FP.Core.b32 n 1 0 := by
      unfold FP.Core.quantum FP.Core.leading
      rw [f32_q, show ((FP.Core.b32.p : Nat) : Int) = 24 from rfl, show Nat.log2 1 = 0 by decide]
      have hl : n.log2 < 24 := (Nat.log2_lt (by omega)).mpr h
      dsimp only
      split <;> omega
    generalize FP.Core.quantum FP.Core.b32 n 1 0 = q at hq
    unfold FP.Core.roundAt FP.Core.unitsNum FP.Core.unitsDen FP.Core.nearest
    rw [show (q - 0).toNat = 0 by omega, Nat.pow_zero, Nat.mul_one, Nat.mod_one, Nat.div_one, if_pos (by decide)]
    have hc : 0 < n * 2 ^ (0 - q).toNat := Nat.mul_pos h0 (Nat.two_pow_pos _)
    generalize n * 2 ^ (0 - q).toNat = c at hc
    have bd : ∀ c q, 0 < c → c < 16777216 → -149 ≤ q → q ≤ 1 → 0 < FP.Core.encode FP.Core.b32 (FP.Core.bound FP.Core.b32 false c q) ∧ FP.Core.encode FP.Core.b32 (FP.Core.bound FP.Core.b32 false c q) < 2139095040 := by
      intro c q hc0 hc hq1 hq2
      unfold FP.Core.bound
      rw [f32_x, if_pos (by omega)]
      unfold FP.Core.encode
      dsimp only
      split
      · unfold FP.Core.assemble
        rename_i h2
        rw [f32_t] at h2
        rw [f32_t, f32_e]
        show 0 < (0 * 256 + 0) * 8388608 + c ∧ (0 * 256 + 0) * 8388608 + c < _
        omega
      · unfold FP.Core.assemble
        rename_i h2
        rw [f32_t] at h2
        rw [f32_t, f32_e, f32_q]
        show 0 < (0 * 256 + ((q - -149).toNat + 1)) * 8388608 + (c - 8388608) ∧ (0 * 256 + ((q - -149).toNat + 1)) * 8388608 + (c - 8388608) < _
        omega
    unfold FP.Core.settle
    split
    · rename_i h1
      exact bd _ _ hc (Nat.lt_of_lt_of_le h1 (by decide)) (by omega) (by omega)
    · exact bd _ _ (by rw [f32_t]; decide) (by rw [f32_t]; decide) (by omega) (by omega)
  rw [← e] at key
  have e2 := of32_le (Nat.le_of_lt key.2)
  exact ⟨by show 0 < (UInt32.ofNat _).toNat; exact e2.symm ▸ key.1, by show (UInt32.ofNat _).toNat < _; exact e2.symm ▸ key.2⟩
theorem i2f_pos {n : Nat} (h : n < 16777216) : fpos (FP.i2f (nI n)) := by
  rcases Nat.eq_zero_or_pos n with e | e
  · subst e
    unfold fpos
    decide +kernel
  · exact (i2f_num e h).pos

/-! THE START: the cells that the constructors make -/
/-- an int row in a field -/
def grS (h : am_H) (a f n : Nat) : am_H := am_pr (am_new h 2 n n) a f (am_n h)
def grI (h : am_H) (a : Nat) : am_H := grS (grS (grS (grS (grS (grS h a 3 9) a 4 9) a 5 20) a 6 20) a 7 20) a 8 20
theorem grS_n (h : am_H) (a f n : Nat) : am_n (grS h a f n) = am_n h + 1 := rfl
theorem grS_k (h : am_H) (a f n x : Nat) : am_k (grS h a f n) x = if x = am_n h then (2, n) else am_k h x := rfl
theorem grI_n (h : am_H) (a : Nat) : am_n (grI h a) = am_n h + 6 := rfl
section
variable {xs : am_X} {d : Nat} {h : am_H} {Q : am_Q}
set_option maxHeartbeats 4000000 in
theorem c_Gr_init (hd : 1 ≤ d) {a : Nat} (h0 : a ≠ 0) (hk : am_k h a = (1, 2)) (hlt : a < am_n h) (hn : am_n h < 899000) (HQ : Q (.inl none) (grI h a)) : am_C xs am_P0 d m_Gr_init [.ref a] h Q := by
  have st : ∀ (g : am_H) (f n : Nat), am_k g a = (1, 2) → a < am_n g → am_k (grS g a f n) a = (1, 2) ∧ a < am_n (grS g a f n) := fun g f n k l => ⟨by rw [grS_k, if_neg (by omega)]; exact k, by rw [grS_n]; omega⟩
  have ne : ∀ (g : am_H) (n : Nat), am_k g a = (1, 2) → a < am_n g → am_k (am_new g 2 n n) a = (1, 2) := fun g n k l => by rw [k_new, if_neg (by omega)]; exact k
  have c9 : (nI 9).toNatClampNeg = 9 := rfl
  have c20 : (nI 20).toNatClampNeg = 20 := rfl
  refine am_C_le hd (am_enter (d := 0) ap_Gr_init rfl ?_) (fun _ _ k => k)
  refine am_go (fun _ => false) (fun K cal Q' hK hC hQ => ?_)
  have al : ∀ (g : am_H) (k : Nat), k < 1000 → am_n g < 900000 → am_n g < am_top ∧ ¬ nI k < 0 ∧ (nI k).toNatClampNeg ≤ 100000 := fun g k hk hg => ⟨by show am_n g < 1000000; omega, nI_pos (by omega), by rw [q_cl (by omega)]; omega⟩
  obtain ⟨k1, l1⟩ := st h 3 9 hk hlt
  obtain ⟨k2, l2⟩ := st _ 4 9 k1 l1
  obtain ⟨k3, l3⟩ := st _ 5 20 k2 l2
  obtain ⟨k4, l4⟩ := st _ 6 20 k3 l3
  obtain ⟨k5, l5⟩ := st _ 7 20 k4 l4
  refine And.intro h0 (And.intro (al h 9 (by decide) (by omega)) (And.intro (ne h 9 hk hlt) ?_))
  refine And.intro (al (grS h a 3 9) 9 (by decide) (by rw [grS_n]; omega)) (And.intro (ne (grS h a 3 9) 9 k1 l1) ?_)
  refine And.intro (al (grS (grS h a 3 9) a 4 9) 20 (by decide) (by rw [grS_n, grS_n]; omega)) (And.intro (ne (grS (grS h a 3 9) a 4 9) 20 k2 l2) ?_)
  refine And.intro (al (grS (grS (grS h a 3 9) a 4 9) a 5 20) 20 (by decide) (by rw [grS_n, grS_n, grS_n]; omega)) (And.intro (ne (grS (grS (grS h a 3 9) a 4 9) a 5 20) 20 k3 l3) ?_)
  refine And.intro (al (grS (grS (grS (grS h a 3 9) a 4 9) a 5 20) a 6 20) 20 (by decide) (by rw [grS_n, grS_n, grS_n, grS_n]; omega)) (And.intro (ne (grS (grS (grS (grS h a 3 9) a 4 9) a 5 20) a 6 20) 20 k4 l4) ?_)
  refine And.intro (al (grS (grS (grS (grS (grS h a 3 9) a 4 9) a 5 20) a 6 20) a 7 20) 20 (by decide) (by rw [grS_n, grS_n, grS_n, grS_n, grS_n]; omega)) (And.intro (ne (grS (grS (grS (grS (grS h a 3 9) a 4 9) a 5 20) a 6 20) a 7 20) 20 k5 l5) ?_)
  exact And.intro trivial (hQ _ _ HQ)
end
/-! the heaps of the start, one behind another -/
def i0 : am_H := (fun _ => (0, 0), fun _ _ => 0, fun _ _ => 0, fun _ _ => 0, 1, 0)
def i1 : am_H := am_new i0 1 8 10
def i2 : am_H := am_pi (am_pr (am_new i1 3 700 700) 1 0 2) 1 2 (-nI 1)
def i3 : am_H := am_new i2 1 2 10
def i4 : am_H := am_pr (grI i3 3) 1 3 3
def i5 : am_H := am_new i4 1 4 3
def hiI : Nat → am_H
  | 0 => am_pr (am_new i5 6 8 8) 10 0 11
  | k + 1 => am_pr (grI (am_new (hiI k) 1 2 10) (12 + 7 * k)) 11 k (12 + 7 * k)
def i7 : am_H := am_pr (hiI 8) 1 4 10
def i8 : am_H := am_new i7 1 7 13
def i9 : am_H := am_pr (grI (am_new i8 1 2 10) 69) 68 0 69
def i10 : am_H := am_pr (am_new (am_pr (am_new i9 3 0 0) 68 3 76) 2 700 700) 68 11 77
def i11 : am_H := am_pr i10 1 5 68
def i12 : am_H := am_pr (grS (am_new i11 1 3 2) 78 1 9) 1 6 78
def i13 : am_H := am_pr (grS (grS (am_new i12 1 0 3) 80 0 9) 80 2 9) 1 7 80
def i14 : am_H := am_pr (grS (grS (am_new i13 1 6 2) 83 0 9) 83 1 9) 1 8 83
def i15 : am_H := am_pr (am_new i14 1 5 3) 1 9 86
def i16 : am_H := am_new i15 1 9 35
def i17 : am_H := grS (grS (grS i16 87 1 13248) 87 2 1472) 87 5 700
def i18 : am_H := am_pi (am_pr (am_new i17 4 9 9) 87 6 91) 87 8 (-nI 1)
def i19 : am_H := am_pr (am_new i18 5 1400 1400) 87 16 92
def i20 : am_H := grS (grS (grS (grS (grS (grS (grS (grS (grS (grS (grS i19 87 17 20) 87 19 9) 87 20 9) 87 21 9) 87 23 9) 87 24 9) 87 25 9) 87 28 9) 87 29 9) 87 30 9) 87 31 9
def iF : am_H := am_new i20 5 1 1
theorem iF_n : am_n iF = 105 := by decide +kernel
theorem iF_cs : am_cs iF ≤ 30000 := by decide +kernel
set_option maxRecDepth 100000 in
theorem iF_k : ∀ a, a < 105 → am_k iF a = sh_kk a := by decide +kernel
set_option maxRecDepth 100000 in
theorem iF_r : ∀ q ∈ sh_rl, am_r iF q.1 q.2.1 = q.2.2 := by decide +kernel
theorem iF_sh : sh iF := ⟨iF_k, iF_r, Nat.le_of_eq iF_n.symm⟩
theorem iF_i : (∀ k, k < 3 → am_i iF 3 k = 0) ∧ am_i iF 10 1 = 0 ∧ am_i iF 10 2 = 0 ∧ am_i iF 1 1 = 0 ∧ am_i iF 1 2 = -1 ∧ am_r iF 3 9 = 0 ∧ (∀ k, k < 4 → am_i iF 88 k = 0) ∧ am_i iF 87 3 = 0 ∧ am_i iF 87 4 = 0 ∧ am_i iF 87 7 = 0 ∧ am_i iF 87 8 = -1 ∧ am_i iF 87 0 = 0 := by decide +kernel

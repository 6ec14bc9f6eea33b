/-! THE START: the cells that the constructors make -/
/-- an int row in a field -/
def grS (h : am_H) (a f n : Nat) : am_H := am_pr (am_new h 2 n n) a f (am_n h)
def grI (h : am_H) (a : Nat) : am_H := grS (grS (grS (grS (grS (grS h a 3 9) a 4 9) a 5 20) a 6 20) a 7 20) a 8 20
theorem grS_n (h : am_H) (a f n : Nat) : am_n (grS h a f n) = am_n h + 1 := rfl
theorem grS_k (h : am_H) (a f n x : Nat) : am_k (grS h a f n) x = if x = am_n h then (2, n) else am_k h x := rfl
theorem grI_n (h : am_H) (a : Nat) : am_n (grI h a) = am_n h + 6 := rfl
section
variable {xs : am_X} {d : Nat} {h : am_H} {Q : am_Q}
set_option maxHeartbeats 4000000 in
theorem c_Gr_init (hd : 1 ≤ d) {a : Nat} (h0 : a ≠ 0) (hk : am_k h a = (1, 2)) (hlt : a < am_n h) (hn : am_n h < 899000) (HQ : Q (.inl none) (grI h a)) : am_C xs am_P0 d m_Gr_init [.ref a] h Q := by
  have st : ∀ (g : am_H) (f n : Nat), am_k g a = (1, 2) → a < am_n g → am_k (grS g a f n) a = (1, 2) ∧ a < am_n (grS g a f n) := fun g f n k l => ⟨by rw [grS_k, if_neg (by omega)]; exact k, by rw [grS_n]; omega⟩
  have ne : ∀ (g : am_H) (n : Nat), am_k g a = (1, 2) → a < am_n g → am_k (am_new g 2 n n) a = (1, 2) := fun g n k l => by rw [k_new, if_neg (by omega)]; exact k
  have c9 : (nI 9).toNatClampNeg = 9 := rfl
  have c20 : (nI 20).toNatClampNeg = 20 := rfl
  refine am_C_le hd (am_enter (d := 0) ap_Gr_init rfl ?_) (fun _ _ k => k)
  refine am_go (fun _ => false) (fun K cal Q' hK hC hQ => ?_)
  have al : ∀ (g : am_H) (k : Nat), k < 1000 → am_n g < 900000 → am_n g < am_top ∧ ¬ nI k < 0 ∧ (nI k).toNatClampNeg ≤ 100000 := fun g k hk hg => ⟨by show am_n g < 1000000; omega, nI_pos (by omega), by rw [q_cl (by omega)]; omega⟩
  obtain ⟨k1, l1⟩ := st h 3 9 hk hlt
  obtain ⟨k2, l2⟩ := st _ 4 9 k1 l1
  obtain ⟨k3, l3⟩ := st _ 5 20 k2 l2
  obtain ⟨k4, l4⟩ := st _ 6 20 k3 l3
  obtain ⟨k5, l5⟩ := st _ 7 20 k4 l4
  refine And.intro h0 (And.intro (al h 9 (by decide) (by omega)) (And.intro (ne h 9 hk hlt) ?_))
  refine And.intro (al (grS h a 3 9) 9 (by decide) (by rw [grS_n]; omega)) (And.intro (ne (grS h a 3 9) 9 k1 l1) ?_)
  refine And.intro (al (grS (grS h a 3 9) a 4 9) 20 (by decide) (by rw [grS_n, grS_n]; omega)) (And.intro (ne (grS (grS h a 3 9) a 4 9) 20 k2 l2) ?_)
  refine And.intro (al (grS (grS (grS h a 3 9) a 4 9) a 5 20) 20 (by decide) (by rw [grS_n, grS_n, grS_n]; omega)) (And.intro (ne (grS (grS (grS h a 3 9) a 4 9) a 5 20) 20 k3 l3) ?_)
  refine And.intro (al (grS (grS (grS (grS h a 3 9) a 4 9) a 5 20) a 6 20) 20 (by decide) (by rw [grS_n, grS_n, grS_n, grS_n]; omega)) (And.intro (ne (grS (grS (grS (grS h a 3 9) a 4 9) a 5 20) a 6 20) 20 k4 l4) ?_)
  refine And.intro (al (grS (grS (grS (grS (grS h a 3 9) a 4 9) a 5 20) a 6 20) a 7 20) 20 (by decide) (by rw [grS_n, grS_n, grS_n, grS_n, grS_n]; omega)) (And.intro (ne (grS (grS (grS (grS (grS h a 3 9) a 4 9) a 5 20) a 6 20) a 7 20) 20 k5 l5) ?_)
  exact And.intro trivial (hQ _ _ HQ)
end
/-! the heaps of the start, one behind another -/
def i0 : am_H := (fun _ => (0, 0), fun _ _ => 0, fun _ _ => 0, fun _ _ => 0, 1, 0)
def i1 : am_H := am_new i0 1 8 10
def i2 : am_H := am_pi (am_pr (am_new i1 3 700 700) 1 0 2) 1 2 (-nI 1)
def i3 : am_H := am_new i2 1 2 10
def i4 : am_H := am_pr (grI i3 3) 1 3 3
def i5 : am_H := am_new i4 1 4 3
def hiI : Nat → am_H
  | 0 => am_pr (am_new i5 6 8 8) 10 0 11
  | k + 1 => am_pr (grI (am_new (hiI k) 1 2 10) (12 + 7 * k)) 11 k (12 + 7 * k)
def i7 : am_H := am_pr (hiI 8) 1 4 10
def i8 : am_H := am_new i7 1 7 13
def i9 : am_H := am_pr (grI (am_new i8 1 2 10) 69) 68 0 69
def i10 : am_H := am_pr (am_new (am_pr (am_new i9 3 0 0) 68 3 76) 2 700 700) 68 11 77
def i11 : am_H := am_pr i10 1 5 68
def i12 : am_H := am_pr (grS (am_new i11 1 3 2) 78 1 9) 1 6 78
def i13 : am_H := am_pr (grS (grS (am_new i12 1 0 3) 80 0 9) 80 2 9) 1 7 80
def i14 : am_H := am_pr (grS (grS (am_new i13 1 6 2) 83 0 9) 83 1 9) 1 8 83
def i15 : am_H := am_pr (am_new i14 1 5 3) 1 9 86
def i16 : am_H := am_new i15 1 9 5
def iF : am_H := am_pr (am_mul i16 6 6) 87 2 88
theorem iF_n : am_n iF = 95 := by decide +kernel
theorem iF_cs : am_cs iF ≤ 30000 := by decide +kernel
set_option maxRecDepth 100000 in
theorem iF_k : ∀ a, a < 95 → am_k iF a = sh_kk a := by decide +kernel
set_option maxRecDepth 100000 in
theorem iF_r : ∀ q ∈ sh_rl, am_r iF q.1 q.2.1 = q.2.2 := by decide +kernel
theorem iF_sh : sh iF := ⟨iF_k, iF_r, Nat.le_of_eq iF_n.symm⟩
theorem iF_i : (∀ k, k < 3 → am_i iF 3 k = 0) ∧ am_i iF 10 1 = 0 ∧ am_i iF 10 2 = 0 ∧ am_i iF 1 1 = 0 ∧ am_i iF 1 2 = -1 ∧ am_r iF 3 9 = 0 ∧ am_i iF 87 0 = 0 ∧ am_i iF 87 1 = 0 := by decide +kernel
theorem iF_m : ∀ a, a < 6 → ∀ b, b < 6 → am_i iF (89 + a) b = 0 := by decide +kernel
/-! THE START: the constructors run -/
theorem hiI_f : ∀ i, i < 9 → am_k (hiI i) 10 = (1, 4) ∧ am_r (hiI i) 10 0 = 11 ∧ am_k (hiI i) 11 = (6, 8) ∧ am_n (hiI i) = 12 + 7 * i := by decide +kernel
theorem hiI_g : ∀ i, i < 8 → am_k (am_new (hiI i) 1 2 10) (12 + 7 * i) = (1, 2) ∧ am_n (am_new (hiI i) 1 2 10) = 13 + 7 * i ∧ am_k (grI (am_new (hiI i) 1 2 10) (12 + 7 * i)) (12 + 7 * i) = (1, 2) ∧ am_k (grI (am_new (hiI i) 1 2 10) (12 + 7 * i)) 11 = (6, 8) := by decide +kernel
section
variable {xs : am_X} {d : Nat} {Q : am_Q}
set_option maxHeartbeats 4000000 in
theorem c_Hi_init (hd : 2 ≤ d) (HQ : Q (.inl none) (hiI 8)) : am_C xs am_P0 d m_Hi_init [.ref 10] i5 Q := by
  refine am_C_le hd (am_enter (d := 1) ap_Hi_init rfl ?_) (fun _ _ k => k)
  refine am_go (fun p => p == 15) (fun K cal Q' hK hC hQ => ?_)
  refine And.intro (by decide) (And.intro (by decide +kernel) (And.intro (by decide +kernel) (hK _ _ _ _ ?_)))
  show am_W _ _ _ _ _ 15 [.ref 10, .int (nI 0)] [] (hiI 0)
  refine am_for 8 (fun i L h' => h' = hiI i ∧ L = [.ref 10, .int (nI i)]) ?_ ?_ 0 (Nat.zero_le _) _ _ ⟨rfl, rfl⟩
  · rintro i hi9 L h' ⟨rfl, rfl⟩ next
    have eI : am_inc (nI i) (Int.ofNat 1) = nI (i + 1) := nI_1 i
    rw [← eI] at next
    obtain ⟨f1, f2, f3, f4⟩ := hiI_f i (by omega)
    obtain ⟨g1, g2, g3, g4⟩ := hiI_g i hi9
    refine am_go (fun p => p == 15) (fun K cal Q' hK hC hQ => ?_)
    refine And.intro (fun z => absurd z (nI_ge hi9 (by decide))) (fun _ => ?_)
    refine And.intro f1 (And.intro (by show am_n (hiI i) < 1000000; omega) ?_)
    show am_k (am_new (hiI i) 1 2 10) (am_n (hiI i)) = (1, 2) ∧ cal m_Gr_init [.ref (am_n (hiI i))] (am_new (hiI i) 1 2 10) _
    rw [f4]
    refine And.intro g1 (hC _ _ _ _ (c_Gr_init (by decide) (by omega) g1 (by omega) (by omega) ?_))
    show (am_arr (grI (am_new (hiI i) 1 2 10) (12 + 7 * i)) (am_r (hiI i) 10 0) 6 (nI i) ∧ am_k (grI (am_new (hiI i) 1 2 10) (12 + 7 * i)) (12 + 7 * i) = (1, 2)) ∧ _
    refine And.intro ⟨ck_row f2 g4 rfl hi9 (by decide), g3⟩ (hK _ _ _ _ ?_)
    show am_W _ _ _ _ _ 15 _ [] (am_pr (grI (am_new (hiI i) 1 2 10) (12 + 7 * i)) (am_r (hiI i) 10 0) (nI i).toNatClampNeg (12 + 7 * i))
    rw [f2, q_cl (by omega)]
    exact next _ _ ⟨rfl, rfl⟩
  · rintro L h' ⟨rfl, rfl⟩
    refine am_go (fun p => p == 15) (fun K cal Q' hK hC hQ => ?_)
    exact And.intro (fun _ => And.intro trivial (hQ _ _ HQ)) (fun z => absurd (nI_le (Nat.le_refl 8) (by decide)) z)
set_option maxHeartbeats 4000000 in
theorem c_Rd_init (hd : 2 ≤ d) (HQ : Q (.inl none) i10) : am_C xs am_P0 d m_Rd_init [.ref 68] i8 Q := by
  refine am_C_le hd (am_enter (d := 1) ap_Rd_init rfl ?_) (fun _ _ k => k)
  refine am_go (fun _ => false) (fun K cal Q' hK hC hQ => ?_)
  refine And.intro (by decide) (And.intro (by decide +kernel) (And.intro (by decide +kernel) ?_))
  refine hC m_Gr_init [.ref 69] (am_new i8 1 2 10) _ (c_Gr_init (by decide) (by decide) (by decide +kernel) (by decide +kernel) (by decide +kernel) ?_)
  refine And.intro (by decide +kernel) ?_
  show (am_n i9 < am_top ∧ _) ∧ _
  refine And.intro ⟨by decide +kernel, by decide, by decide⟩ (And.intro (by decide +kernel) (And.intro ⟨by decide +kernel, by decide, by decide⟩ (And.intro (by decide +kernel) (And.intro trivial (hQ _ _ HQ)))))
set_option maxHeartbeats 4000000 in
theorem c_Gp_init (hd : 1 ≤ d) (HQ : Q (.inl none) (grS (am_new i11 1 3 2) 78 1 9)) : am_C xs am_P0 d m_Gp_init [.ref 78] (am_new i11 1 3 2) Q := by
  refine am_C_le hd (am_enter (d := 0) ap_Gp_init rfl ?_) (fun _ _ k => k)
  refine am_go (fun _ => false) (fun K cal Q' hK hC hQ => ?_)
  exact And.intro (by decide) (And.intro ⟨by decide +kernel, by decide, by decide⟩ (And.intro (by decide +kernel) (And.intro trivial (hQ _ _ HQ))))
set_option maxHeartbeats 4000000 in
theorem c_Ex_init (hd : 1 ≤ d) (HQ : Q (.inl none) (grS (grS (am_new i12 1 0 3) 80 0 9) 80 2 9)) : am_C xs am_P0 d m_Ex_init [.ref 80] (am_new i12 1 0 3) Q := by
  refine am_C_le hd (am_enter (d := 0) ap_Ex_init rfl ?_) (fun _ _ k => k)
  refine am_go (fun _ => false) (fun K cal Q' hK hC hQ => ?_)
  exact And.intro (by decide) (And.intro ⟨by decide +kernel, by decide, by decide⟩ (And.intro (by decide +kernel) (And.intro ⟨by decide +kernel, by decide, by decide⟩ (And.intro (by decide +kernel) (And.intro trivial (hQ _ _ HQ))))))
set_option maxHeartbeats 4000000 in
theorem c_Ne_init (hd : 1 ≤ d) (HQ : Q (.inl none) (grS (grS (am_new i13 1 6 2) 83 0 9) 83 1 9)) : am_C xs am_P0 d m_Ne_init [.ref 83] (am_new i13 1 6 2) Q := by
  refine am_C_le hd (am_enter (d := 0) ap_Ne_init rfl ?_) (fun _ _ k => k)
  refine am_go (fun _ => false) (fun K cal Q' hK hC hQ => ?_)
  exact And.intro (by decide) (And.intro ⟨by decide +kernel, by decide, by decide⟩ (And.intro (by decide +kernel) (And.intro ⟨by decide +kernel, by decide, by decide⟩ (And.intro (by decide +kernel) (And.intro trivial (hQ _ _ HQ))))))
theorem c_Mv_init (hd : 1 ≤ d) {h : am_H} {a : Nat} (h0 : a ≠ 0) (HQ : Q (.inl none) h) : am_C xs am_P0 d m_Mv_init [.ref a] h Q := by
  refine am_C_le hd (am_enter (d := 0) ap_Mv_init rfl ?_) (fun _ _ k => k)
  refine am_go (fun _ => false) (fun K cal Q' hK hC hQ => ?_)
  exact And.intro h0 (And.intro trivial (hQ _ _ HQ))
set_option maxHeartbeats 8000000 in
theorem c_Mc_init (hd : 3 ≤ d) (HQ : Q (.inl none) i15) : am_C xs am_P0 d m_Mc_init [.ref 1] i1 Q := by
  refine am_C_le hd (am_enter (d := 2) ap_Mc_init rfl ?_) (fun _ _ k => k)
  refine am_go (fun _ => false) (fun K cal Q' hK hC hQ => ?_)
  refine And.intro (by decide) (And.intro ⟨by decide +kernel, by decide, by decide⟩ (And.intro (by decide +kernel) (And.intro (by decide +kernel) ?_)))
  show am_n i2 < am_top ∧ _
  refine And.intro (by decide +kernel) (And.intro (by decide +kernel) ?_)
  refine hC m_Gr_init [.ref 3] i3 _ (c_Gr_init (by decide) (by decide) (by decide +kernel) (by decide +kernel) (by decide +kernel) ?_)
  refine And.intro (by decide +kernel) ?_
  show am_n i4 < am_top ∧ _
  refine And.intro (by decide +kernel) (And.intro (by decide +kernel) ?_)
  refine hC m_Hi_init [.ref 10] i5 _ (c_Hi_init (by decide) ?_)
  refine And.intro (by decide +kernel) ?_
  show am_n i7 < am_top ∧ _
  refine And.intro (by decide +kernel) (And.intro (by decide +kernel) ?_)
  refine hC m_Rd_init [.ref 68] i8 _ (c_Rd_init (by decide) ?_)
  refine And.intro (by decide +kernel) ?_
  show am_n i11 < am_top ∧ _
  refine And.intro (by decide +kernel) (And.intro (by decide +kernel) ?_)
  refine hC m_Gp_init [.ref 78] (am_new i11 1 3 2) _ (c_Gp_init (by decide) ?_)
  refine And.intro (by decide +kernel) ?_
  show am_n i12 < am_top ∧ _
  refine And.intro (by decide +kernel) (And.intro (by decide +kernel) ?_)
  refine hC m_Ex_init [.ref 80] (am_new i12 1 0 3) _ (c_Ex_init (by decide) ?_)
  refine And.intro (by decide +kernel) ?_
  show am_n i13 < am_top ∧ _
  refine And.intro (by decide +kernel) (And.intro (by decide +kernel) ?_)
  refine hC m_Ne_init [.ref 83] (am_new i13 1 6 2) _ (c_Ne_init (by decide) ?_)
  refine And.intro (by decide +kernel) ?_
  show am_n i14 < am_top ∧ _
  refine And.intro (by decide +kernel) (And.intro (by decide +kernel) ?_)
  refine hC m_Mv_init [.ref 86] (am_new i14 1 5 3) _ (c_Mv_init (by decide) (by decide) ?_)
  exact And.intro (by decide +kernel) (And.intro trivial (hQ _ _ HQ))
end
/-- the state of the start -/
def st0 : stD := (g0 0, [], (0, fun _ => 0), -nI 1)
theorem TN.new {h : am_H} (T : TN h) (t n w : Nat) : TN (am_new h t n w) := fun a ha => by
  rw [n_new] at ha
  rw [k_new, if_neg (by omega)]
  exact T a (by omega)
theorem TN.pr {h : am_H} (T : TN h) (a k v : Nat) : TN (am_pr h a k v) := T
theorem TN.pi {h : am_H} (T : TN h) (a k : Nat) (v : Int32) : TN (am_pi h a k v) := T
theorem TN.S {h : am_H} (T : TN h) (a f n : Nat) : TN (grS h a f n) := (T.new 2 n n).pr a f (am_n h)
theorem TN.I {h : am_H} (T : TN h) (a : Nat) : TN (grI h a) := (((((T.S a 3 9).S a 4 9).S a 5 20).S a 6 20).S a 7 20).S a 8 20
theorem TN_i0 : TN i0 := fun _ _ => rfl
theorem TN_5 : TN i5 := (((((((TN_i0.new _ _ _).new _ _ _).pr _ _ _).pi _ _ _).new _ _ _).I _).pr _ _ _).new _ _ _
theorem TN_hi : ∀ k, TN (hiI k)
  | 0 => (TN_5.new _ _ _).pr _ _ _
  | k + 1 => (((TN_hi k).new _ _ _).I _).pr _ _ _
theorem TN_11 : TN i11 := ((((((((((TN_hi 8).pr _ _ _).new _ _ _).new _ _ _).I _).pr _ _ _).new _ _ _).pr _ _ _).new _ _ _).pr _ _ _).pr _ _ _
theorem TN_15 : TN i15 := ((((((((((((((TN_11.new _ _ _).S _ _ _).pr _ _ _).new _ _ _).S _ _ _).S _ _ _).pr _ _ _).new _ _ _).S _ _ _).S _ _ _).pr _ _ _).new _ _ _).pr _ _ _))
theorem TN_F : TN iF := fun a ha => by
  have h0 : am_n i16 = 88 := by decide +kernel
  have ha : 95 ≤ a := by rw [iF_n] at ha; exact ha
  show am_k (am_mul i16 6 6) a = _
  rw [k_mul, if_neg (by omega), if_neg (by omega)]
  exact (TN_15.new 1 9 5) a (by show am_n i16 ≤ a; omega)
theorem gwf_0 : gwf (g0 0) := ⟨⟨by decide, by decide, by decide⟩, fun e he => absurd he (Nat.not_lt_zero _), fun e he => absurd he (Nat.not_lt_zero _), fun _ _ => Nat.zero_le _, fun cs h => by cases h⟩
theorem CI_F : CI iF st0 := by
  obtain ⟨a1, a2, a3, a4, a5, a6, a7, a8, a9, a10, a11, a12⟩ := iF_i
  refine ⟨iF_sh, ⟨⟨gs_3 iF_sh, ⟨a1 0 (by decide), a1 1 (by decide), a1 2 (by decide)⟩, fun e he => absurd he (Nat.not_lt_zero _), gwf_0.1, gwf_0.2.1⟩, fun e he => absurd he (Nat.not_lt_zero _), fun v hv => absurd hv (Nat.not_lt_zero _), fun v hv => absurd hv (Nat.not_lt_zero _), fun e he => absurd he (Nat.not_lt_zero _), a6, gwf_0⟩, ⟨0, by decide, a2, a3, Nat.zero_le _, fun j g hg => by cases hg⟩, ⟨Nat.zero_le _, a4, fun k hk => absurd hk (Nat.not_lt_zero _)⟩, a5⟩

/-! THE EXACT SEARCH, its run -/
def isx (n m T : Nat) (lo hi co : Nat → Nat) (A : Nat → Nat) : Prop := avalid n T A ∧ (∀ B, avalid n T B → acost m lo hi co A n ≤ acost m lo hi co B n) ∧ ∀ B, avalid n T B → llt n B A → acost m lo hi co A n < acost m lo hi co B n
theorem isx.one {n m T : Nat} {lo hi co : Nat → Nat} {A B : Nat → Nat} (ha : isx n m T lo hi co A) (hb : isx n m T lo hi co B) : lag n A B := by
  rcases llt_or (v := n) (A := A) (B := B) with h | h | h
  · have := hb.2.2 A ha.1 h
    have := ha.2.1 B hb.1
    omega
  · exact h
  · have := ha.2.2 B hb.1 h
    have := hb.2.1 A ha.1
    omega
/-- what the exact search leaves: its cost, its labels -/
def exr (h : am_H) (n m T : Nat) (lo hi co : Nat → Nat) : Prop := (T = 0 ∧ am_i h 80 1 = nI 0 ∧ ∀ w, w < n → am_i h 81 w = -nI 1) ∨ (T ≠ 0 ∧ ∃ A, isx n m T lo hi co A ∧ am_i h 80 1 = nI (acost m lo hi co A n) ∧ ∀ w, w < n → am_i h 81 w = nI (A w))
theorem q_ex_T {T : Nat} (h0 : T ≠ 0) : ∃ t, T.testBit t = true := by
  refine Classical.byContradiction fun w => h0 (Nat.eq_of_testBit_eq fun i => ?_)
  cases e : T.testBit i with
  | false => exact (Nat.zero_testBit _).symm
  | true => exact absurd ⟨i, e⟩ w
set_option maxHeartbeats 4000000 in
theorem c_Ex_run {xs : am_X} {d : Nat} {h : am_H} {n m T TS : Nat} {lo hi co : Nat → Nat} (hd : 12 ≤ d) (hs : sh h) (hg : cg h 3 n m T lo hi) (hc : cco h 3 m co) (hTS : TS < 2 ^ n) {Q : am_Q}
    (HQ : ∀ h', sm [80, 81, 82] h h' → exr h' n m TS lo hi co → Q (.inl none) h') : am_C xs am_P0 d m_Ex_run [.ref 80, .ref 3, .int (nI TS)] h Q := by
  obtain ⟨⟨hk, -⟩, ⟨h0, h1, h2⟩, he, ⟨hn, hm, hT⟩, hw⟩ := id hg
  have hn9 := pow_le9 hn
  have hM : xMAX = 2147483647 := rfl
  refine am_C_le hd (am_enter (d := 11) ap_Ex_run rfl ?_) (fun _ _ k => k)
  refine am_go (fun _ => false) (fun K cal Q' hK hC hQ => ?_)
  refine And.intro (sk_80 hs) (And.intro (sk_80 hs) (And.intro trivial ?_))
  have s0 : sm [80, 81, 82] h (am_pi h 80 1 (nI 0)) := sm.rf.pi (by decide)
  have e81 : am_r (am_pi h 80 1 (nI 0)) 80 0 = 81 := sr_80_0 hs
  show cal m_JA_fill [.ref (am_r (am_pi h 80 1 (nI 0)) 80 0), .int (-nI 1)] (am_pi h 80 1 (nI 0)) _
  rw [e81]
  refine hC _ _ _ _ (c_fill (by decide) (sk_81 (s0.sh hs)) (by decide) _ (fun h1' s1 hv1 => ?_))
  have s1' : sm [80, 81, 82] h h1' := s0.tr (s1.mo (by decide))
  have hs1 := s1'.sh hs
  refine And.intro (fun z => ?_) (fun z => ?_)
  · have z : TS = 0 := (nI_eq (by omega) (by omega)).mp (show nI TS = nI 0 from z)
    refine And.intro trivial (hQ _ _ (HQ _ s1' (Or.inl ⟨z, ?_, fun w hw9 => hv1 w (by omega)⟩)))
    rw [s1.i (by decide)]
    exact i_pi_at
  · have z : TS ≠ 0 := fun q => z (by rw [q]; rfl)
    refine And.intro (sk_80 hs1) (And.intro trivial ?_)
    have s2 : sm [80, 81, 82] h (am_pi h1' 80 1 (nI 2147483647)) := s1'.pi (by decide)
    have e0 : nI (acost m lo hi co (fun _ => 0) 0) = nI 0 := by
      congr 1
      have : acost m lo hi co (fun _ => 0) 0 = sumE co (fun _ => false) m := sumE_cong fun e _ => by simp
      rw [this]
      have : ∀ k, sumE co (fun _ => false) k = 0 := fun k => by
        induction k with
        | zero => rfl
        | succ k ih => rw [sumE_s, ih]; rfl
      exact this m
    have X := c_extend (xs := xs) (co := co) (TS := TS) hTS n 0 (fun _ => 0) (am_pi h1' 80 1 (nI 2147483647)) xMAX (fun _ => 0) (fun r h' => r = .inl none ∧ sm [80, 81, 82] h h' ∧ exr h' n m TS lo hi co) (by omega) (s2.sh hs) (hg.mv s2 (by decide) (by decide) (by decide)) (hc.mv s2 (by decide)) ⟨i_pi_at, fun w hw9 => by rw [i_pi_ne (by decide), if_pos rfl]; exact hv1 w (by omega)⟩ (fun w q => absurd q (Nat.not_lt_zero _)) (fun _ => by decide) (fun w q => absurd q (Nat.not_lt_zero _)) ⟨Nat.le_refl _, fun B hB _ => by obtain ⟨u, u1, _⟩ := hB; exact absurd u1 (Nat.not_lt_zero _), Or.inl rfl⟩ (fun h' bc bA s3 hst _ hin => ⟨rfl, s2.tr s3, Or.inr ⟨z, ?_⟩⟩)
    · rw [e0] at X
      refine hC _ _ _ _ (am_C_le (show n + 2 ≤ 11 by omega) X (fun r h' q => ?_))
      obtain ⟨rfl, q2, q3⟩ := q
      exact And.intro trivial (hQ _ _ (HQ _ q2 q3))
    · obtain ⟨t, ht⟩ := q_ex_T z
      have hv : avalid n TS (fun v => if TS.testBit v then v else t) := fun v _ => by
        show TS.testBit (if TS.testBit v then v else t) = true ∧ (TS.testBit v = true → (if TS.testBit v then v else t) = v)
        by_cases q : TS.testBit v = true
        · rw [if_pos q]; exact ⟨q, fun _ => rfl⟩
        · rw [if_neg q]; exact ⟨ht, fun w => absurd w q⟩
      have hle := hin.2.1 _ (Or.inr fun w q => absurd q (Nat.not_lt_zero _)) hv
      have hc9 : acost m lo hi co (fun v => if TS.testBit v then v else t) n ≤ 20 * 9999 := acost_le hm fun e he => (hc e he).2.2
      have hne : bc ≠ xMAX := by omega
      rcases hin.2.2 with q | ⟨a1, a2, a3, a4⟩
      · exact absurd q hne
      · refine ⟨bA, ⟨a2, fun B hB => by rw [← a3]; exact hin.2.1 B (Or.inr fun w q => absurd q (Nat.not_lt_zero _)) hB, fun B hB hlt => by rw [← a3]; exact a4 B (Or.inr fun w q => absurd q (Nat.not_lt_zero _)) hB hlt⟩, by rw [← a3]; exact hst.1, fun w hw9 => ?_⟩
        have := hst.2 w hw9
        rw [if_neg hne] at this
        exact this

/-! APPEND, CHECKSUM -/
theorem q_ge' {x : Int32} {m n : Nat} (hx : x = nI m) (hm : m < n) (hn : n < 100000 := by omega) : ¬ nI n ≤ x := by rw [hx]; exact nI_ge hm (by omega)
/-- a byte of a word -/
def byt (w : Int32) (s : Nat) : Nat := ((w >>> (nI s &&& 31)) &&& 255).toNatClampNeg
theorem byt_and (x : Int32) : ∃ k, k < 256 ∧ x &&& 255 = nI k := by
  refine ⟨x.toBitVec.toNat % 256, Nat.mod_lt _ (by decide), ?_⟩
  have h : x = nI x.toBitVec.toNat := Int32.toBitVec_inj.mp (by show _ = BitVec.ofNat 32 _; simp)
  have h2 := fa_mask x.toBitVec.toNat 8
  rw [← h] at h2
  exact h2
theorem byt_lt (w : Int32) (s : Nat) : byt w s < 256 := by
  unfold byt
  obtain ⟨k, k1, k2⟩ := byt_and (w >>> (nI s &&& 31))
  rw [k2, q_cl (by omega)]
  exact k1
theorem bS_small : ∀ k, k < 256 → vp_nar .byte ((nI k).toInt8.toInt32) = bS k := by decide +kernel
theorem byt_bS (w : Int32) (s : Nat) : vp_nar .byte ((w >>> (nI s &&& 31)).toInt8.toInt32) = bS (byt w s) := by
  unfold byt
  obtain ⟨k, k1, k2⟩ := byt_and (w >>> (nI s &&& 31))
  have h := fa_byte_low (w >>> (nI s &&& 31))
  rw [← h, k2, q_cl (by omega)]
  exact bS_small k k1
def shf : Nat → Int32
  | 0 => nI 24
  | i + 1 => shf i - nI 8
theorem shf_i : ∀ i, i < 4 → shf i = nI (24 - 8 * i) ∧ ¬ shf i < 0 := by decide
theorem shf_4 : shf 4 < 0 := by decide
set_option maxHeartbeats 4000000 in
theorem c_putWord {xs : am_X} {d : Nat} {h : am_H} {L : Nat} (hd : 1 ≤ d) (hs : sh h) (hL : am_i h 1 1 = nI L) (hl : L + 4 ≤ 700) (w : Int32) {Q : am_Q}
    (HQ : ∀ h', sm [1, 2] h h' → (∀ k, am_i h' 1 k = if k = 1 then nI (L + 4) else am_i h 1 k) → (∀ k, am_i h' 2 k = if L ≤ k ∧ k < L + 4 then bS (byt w (24 - 8 * (k - L))) else am_i h 2 k) → Q (.inl none) h') : am_C xs am_P0 d m_Mc_putWord [.ref 1, .int w] h Q := by
  refine am_C_le hd (am_enter (d := 0) ap_Mc_putWord rfl ?_) (fun _ _ k => k)
  refine am_go (fun p => p == 3) (fun K cal Q' hK hC hQ => hK _ _ _ _ ?_)
  refine am_for 4 (fun i M h' => M = [.ref 1, .int w, .int (shf i)] ∧ sm [1, 2] h h' ∧ (∀ k, am_i h' 1 k = if k = 1 then nI (L + i) else am_i h 1 k) ∧ ∀ k, am_i h' 2 k = if L ≤ k ∧ k < L + i then bS (byt w (24 - 8 * (k - L))) else am_i h 2 k) ?_ ?_ 0 (Nat.zero_le _) _ _ ⟨rfl, sm.rf, fun k => ?_, fun k => by rw [if_neg (by omega)]⟩
  · rintro i hi9 M h' ⟨rfl, s, h1, h2⟩ next
    have hs' := s.sh hs
    obtain ⟨e1, e2⟩ := shf_i i hi9
    have eL : am_i h' 1 1 = nI (L + i) := by rw [h1, if_pos rfl]
    refine am_go (fun p => p == 3) (fun K cal Q' hK hC hQ => ?_)
    refine And.intro (fun z => absurd z e2) (fun _ => ?_)
    refine And.intro (sk_1 hs') (And.intro (fun z => absurd z (q_ge' eL (by omega))) (fun _ => ?_))
    refine And.intro (sk_1 hs') (And.intro (sk_1 hs') (And.intro (ck_row (sr_1_0 hs') (sk_2 hs') eL (by omega) (by omega)) ?_))
    have ev : vp_nar .byte ((w >>> (shf i &&& 31)).toInt8.toInt32) = bS (byt w (24 - 8 * i)) := by rw [e1]; exact byt_bS w _
    have e0 : am_r h' 1 (512 % 64) = 2 := sr_1_0 hs'
    have ec : (am_i h' 1 (513 % 64)).toNatClampNeg = L + i := by rw [show am_i h' 1 (513 % 64) = nI (L + i) from eL]; exact q_cl (by omega)
    rw [e0, ec, ev]
    have s2 : sm [1, 2] h (am_pi h' 2 (L + i) (bS (byt w (24 - 8 * i)))) := s.pi (by decide)
    have hs2 := s2.sh hs
    refine And.intro (sk_1 hs2) (And.intro (sk_1 hs2) ?_)
    have e9 : am_i (am_pi h' 2 (L + i) (bS (byt w (24 - 8 * i)))) 1 (513 % 64) + nI 1 = nI (L + (i + 1)) := by rw [i_pi_ne (by decide), show am_i h' 1 (513 % 64) = nI (L + i) from eL]; exact nI_add _ _
    rw [e9]
    refine hK _ _ _ _ (next _ _ ⟨rfl, s2.pi (by decide), fun k => ?_, fun k => ?_⟩)
    · rw [i_pi_same, i_pi_ne (by decide)]
      by_cases q : k = 1
      · rw [if_pos q, if_pos q]
      · rw [if_neg q, h1, if_neg q, if_neg q]
    · rw [i_pi_ne (by decide), i_pi_same, h2]
      by_cases q : k = L + i
      · rw [if_pos q, if_pos (by omega), q, show L + i - L = i by omega]
      · rw [if_neg q]
        by_cases z : L ≤ k ∧ k < L + i
        · rw [if_pos z, if_pos (by omega)]
        · rw [if_neg z, if_neg (by omega)]
  · rintro M h' ⟨rfl, s, h1, h2⟩
    refine am_go (fun p => p == 3) (fun K cal Q' hK hC hQ => ?_)
    exact And.intro (fun _ => And.intro trivial (hQ _ _ (HQ _ s h1 h2))) (fun z => absurd shf_4 z)
  · by_cases q : k = 1
    · rw [if_pos q, q]; exact hL
    · rw [if_neg q]
/-- the bytes behind an append -/
def apB (w : Nat → Int32) (L : Nat) (b : Nat → Nat) : Nat → Nat := fun k => if k < L then b k else byt (w ((k - L) / 4)) (24 - 8 * ((k - L) % 4))
def stB (st : stD) (L : Nat) (b : Nat → Nat) : stD := (st.1, st.2.1, (L, b), st.2.2.2)
set_option maxHeartbeats 8000000 in
theorem k_append {xs : am_X} {d : Nat} {h : am_H} {st : stD} {Q : am_Q} (hd : 2 ≤ d) (I : CI h st) (w : Nat → Int32) (H0 : 680 < st.2.2.1.1 → Q (.inl (some (.int (-nI 1)))) h)
    (HQ : ∀ h', st.2.2.1.1 ≤ 680 → CI h' (stB st (st.2.2.1.1 + 20) (apB w st.2.2.1.1 st.2.2.1.2)) → clF h h' → Q (.inl (some (.int (nI (st.2.2.1.1 + 20))))) h') : am_C xs am_P0 d m_Mc_append [.ref 1, .int (w 0), .int (w 1), .int (w 2), .int (w 3), .int (w 4)] h Q := by
  obtain ⟨i1, i2, i3, ⟨i4, i5, i6⟩, i7⟩ := id I
  generalize hLd : st.2.2.1.1 = L at *
  generalize hbd : st.2.2.1.2 = b at *
  refine am_C_le hd (am_enter (d := 1) ap_Mc_append rfl ?_) (fun _ _ k => k)
  refine am_go (fun _ => false) (fun K cal Q' hK hC hQ => ?_)
  refine And.intro (sk_1 i1) (And.intro (fun z => ?_) (fun z => ?_))
  · have z : nI L ≤ nI 680 := by rw [← i5]; exact z
    have z := (nI_leI (by omega) (by omega)).mp z
    have step : ∀ (j : Nat) (hj : j < 5) (h' : am_H), sm [1, 2] h h' → (∀ k, am_i h' 1 k = if k = 1 then nI (L + 4 * j) else am_i h 1 k) → (∀ k, am_i h' 2 k = if L ≤ k ∧ k < L + 4 * j then bS (apB w L b k) else am_i h 2 k) → ∀ {Q : am_Q}, (∀ h'', sm [1, 2] h h'' → (∀ k, am_i h'' 1 k = if k = 1 then nI (L + 4 * (j + 1)) else am_i h 1 k) → (∀ k, am_i h'' 2 k = if L ≤ k ∧ k < L + 4 * (j + 1) then bS (apB w L b k) else am_i h 2 k) → Q (.inl none) h'') → am_C xs am_P0 1 m_Mc_putWord [.ref 1, .int (w j)] h' Q := by
      intro j hj h' s h1 h2 Q HQ
      refine c_putWord (by decide) (s.sh i1) (L := L + 4 * j) (by rw [h1, if_pos rfl]) (by omega) (w j) (fun h'' s2 h12 h22 => HQ h'' (s.tr s2) (fun k => ?_) (fun k => ?_))
      · rw [h12]
        by_cases q : k = 1
        · rw [if_pos q, if_pos q, show L + 4 * j + 4 = L + 4 * (j + 1) by omega]
        · rw [if_neg q, if_neg q, h1, if_neg q]
      · rw [h22, h2]
        by_cases q : L + 4 * j ≤ k ∧ k < L + 4 * j + 4
        · rw [if_pos q, if_pos (by omega)]
          unfold apB
          rw [if_neg (by omega), show (k - L) / 4 = j by omega, show (k - L) % 4 = k - (L + 4 * j) by omega]
        · rw [if_neg q]
          by_cases y : L ≤ k ∧ k < L + 4 * j
          · rw [if_pos y, if_pos (by omega)]
          · rw [if_neg y, if_neg (by omega)]
    refine And.intro (sk_1 i1) (hC _ _ _ _ (step 0 (by omega) h sm.rf (fun k => by by_cases q : k = 1 <;> simp [q, i5]) (fun k => by rw [if_neg (by omega)]) (fun g1 s1 a1 b1 => ?_)))
    refine And.intro (sk_1 (s1.sh i1)) (hC _ _ _ _ (step 1 (by omega) g1 s1 a1 b1 (fun g2 s2 a2 b2 => ?_)))
    refine And.intro (sk_1 (s2.sh i1)) (hC _ _ _ _ (step 2 (by omega) g2 s2 a2 b2 (fun g3 s3 a3 b3 => ?_)))
    refine And.intro (sk_1 (s3.sh i1)) (hC _ _ _ _ (step 3 (by omega) g3 s3 a3 b3 (fun g4 s4 a4 b4 => ?_)))
    refine And.intro (sk_1 (s4.sh i1)) (hC _ _ _ _ (step 4 (by omega) g4 s4 a4 b4 (fun g5 s5 a5 b5 => ?_)))
    refine And.intro (sk_1 (s5.sh i1)) (And.intro trivial (hQ _ _ ?_))
    have e5 : am_i g5 1 (513 % 64) = nI (L + 20) := by rw [a5]; rfl
    rw [e5]
    refine HQ g5 z ⟨s5.sh i1, i2.mvs s5 (fun x hx => by simp at hx; omega) (fun x hx => by simp at hx; omega), i3.mvs s5 (fun x hx => by simp at hx; omega), ⟨by show L + 20 ≤ 700; omega, e5, fun k hk => ?_⟩, ?_⟩ (clF.sm s5 (fun x hx => by simp at hx; omega))
    · have hk : k < L + 20 := hk
      show am_i g5 2 k = bS (apB w L b k) ∧ apB w L b k < 256
      rw [b5]
      by_cases q : k < L
      · rw [if_neg (by omega), (i6 k q).1]
        unfold apB
        rw [if_pos q]
        exact ⟨rfl, (i6 k q).2⟩
      · rw [if_pos (by omega)]
        refine ⟨rfl, ?_⟩
        unfold apB
        rw [if_neg q]
        exact byt_lt _ _
    · show am_i g5 1 2 = _
      rw [a5, if_neg (by decide)]
      exact i7
  · have z : ¬ nI L ≤ nI 680 := by rw [← i5]; exact z
    exact And.intro trivial (hQ _ _ (H0 (Nat.not_le.mp fun q => z (nI_le q (by omega)))))
/-- checksum -/
def ckE (g : gD) (s : Int64) : Nat → Int64
  | 0 => s
  | e + 1 => lN 31 * (lN 31 * (lN 31 * ckE g s e + (nI (gLo g e)).toInt64) + (nI (gHi g e)).toInt64) + (nI (gWt g e)).toInt64
def ckV (g : gD) (s : Int64) : Nat → Int64
  | 0 => s
  | v + 1 => lN 31 * ckV g s v + (gLab g v).toInt64
def sCk (g : gD) : Int64 := lN 31 * ckV g (ckE g (lN 31 * (nI (gN g)).toInt64 + (nI (gT g)).toInt64) (gM g)) (gN g) + (nI (gCost g)).toInt64

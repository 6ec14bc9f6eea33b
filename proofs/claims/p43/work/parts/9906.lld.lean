/-! THE LAW, 3: loads and terminals -/
theorem setN_0 {f : Nat → Nat} {k : Nat} (h : f k = 0) : setN f k 0 = f := funext fun j => by
  unfold setN
  split
  · rename_i e; rw [e, h]
  · rfl
theorem rdOK_ld {n L v x : Nat} {tx : List Nat} {g : gD} (R : rdOK n tx g L) (hv : v < 100) (hx : x < 100) (hn : v ≤ gN g - 1) (hL : L.testBit v = false) : rdOK n (tx ++ am_strs.getD 10 [] ++ dec2 v ++ [32] ++ dec2 x ++ [59]) (gLdS g v x) (L ||| 2 ^ v) := by
  have e : tx ++ am_strs.getD 10 [] ++ dec2 v ++ [32] ++ dec2 x ++ [59] = tx ++ (108 :: ([111, 97, 100] ++ 32 :: (dec2 v ++ 32 :: (dec2 x ++ [59])))) := by
    rw [show am_strs.getD 10 [] = [108, 111, 97, 100, 32] from rfl]
    simp
  rw [e]
  refine R.step (by decide) (fun t h => ?_)
  rw [pStS_ld (show seg t tx.length (am_strs.getD 3 [] ++ 32 :: (dec2 v ++ 32 :: (dec2 x ++ [59]))) from h) hv hx hn hL]
  rw [show (108 :: ([111, 97, 100] ++ 32 :: (dec2 v ++ 32 :: (dec2 x ++ [59])))).length = 5 + (dec2 v).length + (1 + (dec2 x).length + 1) by simp; omega]
theorem rdOK_ter {n L v : Nat} {tx : List Nat} {g : gD} (R : rdOK n tx g L) (hv : v < 100) (h5 : pcn (gT g) < 5) (hn : v ≤ gN g - 1) (hT : (gT g).testBit v = false) : rdOK n (tx ++ am_strs.getD 11 [] ++ dec2 v ++ [59]) (gOn g v) L := by
  have e : tx ++ am_strs.getD 11 [] ++ dec2 v ++ [59] = tx ++ (116 :: ([101, 114, 109, 105, 110, 97, 108] ++ 32 :: (dec2 v ++ [59]))) := by
    rw [show am_strs.getD 11 [] = [116, 101, 114, 109, 105, 110, 97, 108, 32] from rfl]
    simp
  rw [e]
  refine R.step (by decide) (fun t h => ?_)
  rw [pStS_ter (show seg t tx.length (am_strs.getD 1 [] ++ 32 :: (dec2 v ++ [59])) from h) hv h5 hn hT]
  rw [show (116 :: ([101, 114, 109, 105, 110, 97, 108] ++ 32 :: (dec2 v ++ [59]))).length = 9 + (dec2 v).length + 1 by simp; omega]
theorem pcn_or : ∀ T, T < 64 → ∀ t, t < 6 → pcn (T ||| 2 ^ t) ≤ pcn T + 1 := by decide +kernel
theorem bit_hi {L v : Nat} (h : L < 2 ^ v) : L.testBit v = false := Nat.testBit_lt_two_pow h
theorem or_hi {L v : Nat} (h : L < 2 ^ v) : L ||| 2 ^ v < 2 ^ (v + 1) := Nat.or_lt_two_pow (Nat.lt_trans h (Nat.pow_lt_pow_right (by decide) (Nat.lt_succ_self v))) (Nat.pow_lt_pow_right (by decide) (Nat.lt_succ_self v))
/-- what the text so far says -/
def gI (g : gD) (n m T : Nat) (ld : Nat → Nat) : Prop := gN g = n ∧ gM g = m ∧ gT g = T ∧ gLd g = ld ∧ gCs g = none
section
variable {xs : am_X} {d : Nat} {h : am_H} {Q : am_Q} {c n T a b cap f : Nat} {C : Nat → Nat → Nat} {tx : List Nat} {ld : Nat → Nat}
theorem lwS.mo {c' : Nat} (W : lwS h c n T C a b cap tx f ld) (hc : c ≤ c') : lwS h c' n T C a b cap tx f ld := ⟨⟨by have := W.1.1; omega, by have := W.1.2; omega⟩, W.2⟩
theorem lwS.ne (W : lwS h c n T C a b cap tx f ld) : f ≠ a ∧ f ≠ b := by
  obtain ⟨⟨w1, w2⟩, w3, w4, ⟨w5, w6, w7, w8⟩, w9, w10, w11⟩ := W
  exact ⟨fun e => (by have := w9.2.1; rw [← e, w10] at this; cases this), fun e => (by have := w9.2.2.2.1; rw [← e, w10] at this; cases this)⟩
theorem lwS.ka (W : lwS h c n T C a b cap tx f ld) : am_k h a = (1, 11) := W.2.2.2.2.1.2.1
theorem lwS.ckf (W : lwS h c n T C a b cap tx f ld) {v : Nat} (hv : v < n) : am_arr h f 2 (nI v) := ck_arr W.2.2.2.2.2.1 rfl hv (by have := W.2.2.1.2.1.1; omega)
theorem lwS.at (W : lwS h c n T C a b cap tx f ld) {v : Nat} (hv : v < n) : am_i h f (nI v).toNatClampNeg = nI (ld v) := by rw [q_cl (by have := W.2.2.1.2.1.1; omega)]; exact W.2.2.2.2.2.2 v hv
theorem lwS.st (W : lwS h c n T C a b cap tx f ld) {v x : Nat} : lwS (am_pi h f v (nI x)) c n T C a b cap tx f (setN ld v x) := by
  obtain ⟨fa, fb⟩ := W.ne
  obtain ⟨⟨w1, w2⟩, ⟨⟨s1, s2, s3⟩, w3, w3'⟩, w4, ⟨w5, w6, w7, w8⟩, w9, w10, w11⟩ := W
  have I : ∀ x', x' ≠ f → am_i (am_pi h f v (nI x)) x' = am_i h x' := fun x' hx => i_pi_ne hx
  refine ⟨⟨w1, w2⟩, ⟨⟨s1, s2, s3⟩, w3, fun x' hx => ⟨(I x' (by omega)).trans (w3' x' hx).1, (w3' x' hx).2⟩⟩, ⟨⟨by rw [I 87 (by omega)]; exact w4.1.1, by rw [I 87 (by omega)]; exact w4.1.2⟩, w4.2.1, fun a ha b hb => by rw [I (89 + a) (by omega)]; exact w4.2.2 a ha b hb⟩, ⟨w5, w6, w7, w8⟩, ?_, w10, fun w hw => ?_⟩
  · obtain ⟨n12, k1, ⟨j1, j2, j3⟩, k4, k5, k6⟩ := w9
    exact ⟨n12, k1, ⟨by rw [I a fa.symm]; exact j1, by rw [I a fa.symm]; exact j2, j3⟩, k4, k5, fun j hj => by rw [I b fb.symm]; exact k6 j hj⟩
  · rw [i_pi_same]
    unfold setN
    by_cases e : w = v
    · rw [if_pos e, if_pos e]
    · rw [if_neg e, if_neg e]; exact w11 w hw
theorem lwS.sT (W : lwS h c n T C a b cap tx f ld) {T' : Nat} (hT : T' < 2 ^ n) : lwS (am_pi h 87 1 (nI T')) c n T' C a b cap tx f ld := by
  obtain ⟨⟨w1, w2⟩, ⟨⟨s1, s2, s3⟩, w3, w3'⟩, w4, ⟨w5, w6, w7, w8⟩, w9, w10, w11⟩ := W
  have I : ∀ x', x' ≠ 87 → am_i (am_pi h 87 1 (nI T')) x' = am_i h x' := fun x' hx => i_pi_ne hx
  refine ⟨⟨w1, w2⟩, ⟨⟨s1, s2, s3⟩, w3, fun x' hx => ⟨(I x' (by omega)).trans (w3' x' hx).1, (w3' x' hx).2⟩⟩, ⟨⟨by rw [i_pi_same, if_neg (by decide)]; exact w4.1.1, by rw [i_pi_same, if_pos rfl]⟩, ⟨w4.2.1.1, hT⟩, fun a ha b hb => by rw [I (89 + a) (by omega)]; exact w4.2.2 a ha b hb⟩, ⟨w5, w6, w7, w8⟩, ?_, w10, fun w hw => by rw [I f (by omega)]; exact w11 w hw⟩
  obtain ⟨n12, k1, ⟨j1, j2, j3⟩, k4, k5, k6⟩ := w9
  exact ⟨n12, k1, ⟨by rw [I a (by omega)]; exact j1, by rw [I a (by omega)]; exact j2, j3⟩, k4, k5, fun j hj => by rw [I b (by omega)]; exact k6 j hj⟩
set_option maxHeartbeats 8000000 in
theorem l_loads (hd : 22 ≤ d) (hx : xs.1 ≤ 1000) (hn : 3 ≤ n ∧ n ≤ 6) (W : lwS h 12 n 0 C a b cap (tx0 n) f (fun _ => 0)) {v6 : Value} (e6 : v6 = .int (nI 0))
    (K0 : ∀ h' b' cap' tx g L ld v6, lwS h' 48 n 0 C a b' cap' tx f ld → rdOK n tx g L → gI g n 0 0 ld → tx.length ≤ 63 → (∀ v, ld v < 8) → LW xs d Q 148 (lL n a f v6 am_J am_J am_J am_J am_J am_J am_J) [] h') :
    LW xs d Q 77 (lL n a f v6 am_J am_J am_J am_J am_J am_J am_J) [] h := by
  subst e6
  refine am_for n (fun v M h' => ∃ b' cap' tx g L ld, lwS h' (12 + 6 * v) n 0 C a b' cap' tx f ld ∧ (rdOK n tx g L ∧ gI g n 0 0 ld ∧ tx.length ≤ 9 + 9 * v) ∧ (L < 2 ^ v ∧ (∀ w, v ≤ w → ld w = 0) ∧ ∀ w, ld w < 8) ∧ M = lL n a f (.int (nI v)) am_J am_J am_J am_J am_J am_J am_J) ?_ ?_ 0 (Nat.zero_le _) _ _ ⟨b, cap, tx0 n, g0 n, 0, fun _ => 0, W, ⟨rdOK_hd ⟨by omega, by omega⟩, ⟨rfl, rfl, rfl, rfl, rfl⟩, tx0_len n⟩, ⟨by decide, fun _ _ => rfl, fun _ => (show 0 < 8 by decide)⟩, rfl⟩
  · rintro v hv M h' ⟨b', cap', tx, g, L, ld, W, ⟨R, ⟨g1, g2, g3, g4, g5⟩, hl⟩, ⟨hL, hz, h8⟩, rfl⟩ next
    refine am_go (fun p => p == 103) (fun K cal Q' hK hC hQ => ?_)
    refine And.intro (fun c => absurd c (nI_ge hv (by omega))) (fun _ => ?_)
    refine And.intro trivial (hC _ _ _ _ (c_La_cell (by omega) (by decide) hx ?_))
    refine And.intro trivial (hC _ _ _ _ (c_La_bound (by omega) (by decide) (by decide) ?_))
    refine And.intro (W.ckf hv) (hK _ _ _ _ ?_)
    rw [q_cl (by omega)]
    have hx8 := bd_lt (cel xs 1 >>> (nI 3 * nI v &&& 31)) (show 0 < 8 by decide)
    generalize bd (cel xs 1 >>> (nI 3 * nI v &&& 31)) 8 = x at hx8
    have W1 := W.st (v := v) (x := x)
    have hz1 : ∀ w, v + 1 ≤ w → setN ld v x w = 0 := fun w hw => by
      unfold setN
      rw [if_neg (by omega)]
      exact hz w (by omega)
    have h81 : ∀ w, setN ld v x w < 8 := fun w => by
      unfold setN
      split
      · exact hx8
      · exact h8 w
    have ex : setN ld v x v = x := if_pos rfl
    generalize am_pi h' f v (nI x) = h1 at W1
    have fin : ∀ h2 b2 cap2 tx2 g2 L2, lwS h2 (12 + 6 * (v + 1)) n 0 C a b2 cap2 tx2 f (setN ld v x) → rdOK n tx2 g2 L2 → gI g2 n 0 0 (setN ld v x) → tx2.length ≤ 9 + 9 * (v + 1) → L2 < 2 ^ (v + 1) → LW xs d Q 142 (lL n a f (.int (nI v)) am_J am_J am_J am_J am_J am_J am_J) [] h2 := by
      intro h2 b2 cap2 tx2 g2 L2 W2 R2 G2 hl2 hL2
      refine am_go (fun p => p == 77) (fun K cal Q' hK hC hQ => hK _ _ _ _ (next _ _ ⟨b2, cap2, tx2, g2, L2, setN ld v x, W2, ⟨R2, G2, hl2⟩, ⟨hL2, hz1, h81⟩, ?_⟩))
      rw [← nI_1 v]
      rfl
    refine am_go (fun p => p == 142) (fun K cal Q' hK hC hQ => ?_)
    refine And.intro (W1.ckf hv) (And.intro (fun c => hK _ _ _ _ ?_) (fun c => ?_))
    · have c : am_i h1 f (nI v).toNatClampNeg ≤ nI 0 := c
      rw [W1.at hv, ex] at c
      have c := (nI_leI (by omega) (by decide)).mp c
      have x0 : x = 0 := by omega
      have el : setN ld v x = ld := by rw [x0]; exact setN_0 (hz v (Nat.le_refl _))
      exact fin h1 b' cap' tx g L (W1.mo (by omega)) R ⟨g1, g2, g3, by rw [el]; exact g4, g5⟩ (by omega) (Nat.lt_trans hL (Nat.pow_lt_pow_right (by decide) (Nat.lt_succ_self v)))
    · refine And.intro W1.ka (hC _ _ _ _ (l_appK (by omega) W1 (by omega) (j := 10) (by decide) (by omega) (fun h2 b2 cap2 W2 => ?_)))
      have n2 : (tx ++ am_strs.getD 10 []).length = tx.length + 5 := by rw [List.length_append]; rfl
      refine And.intro W2.ka (hC _ _ _ _ (l_appI (by omega) W2 (by omega) (j := v) (by omega) (by omega) (fun h3 b3 cap3 W3 => ?_)))
      have n3 : (tx ++ am_strs.getD 10 [] ++ dec2 v).length = tx.length + 6 := by rw [List.length_append, n2, dec2_len, if_pos (by omega)]
      refine And.intro W3.ka (hC _ _ _ _ (l_appC (by omega) W3 (by omega) (j := 32) (by decide) (by omega) (fun h4 b4 cap4 W4 => ?_)))
      have n4 : (tx ++ am_strs.getD 10 [] ++ dec2 v ++ [32]).length = tx.length + 7 := by rw [List.length_append, n3]; rfl
      refine And.intro (W4.ckf hv) (And.intro W4.ka ?_)
      show cal m_Sb_appI [.ref a, .int (am_i h4 f (nI v).toNatClampNeg)] h4 _
      rw [W4.at hv, ex]
      refine hC _ _ _ _ (l_appI (by omega) W4 (by omega) (j := x) (by omega) (by omega) (fun h5 b5 cap5 W5 => ?_))
      have n5 : (tx ++ am_strs.getD 10 [] ++ dec2 v ++ [32] ++ dec2 x).length = tx.length + 8 := by rw [List.length_append, n4, dec2_len, if_pos (by omega)]
      refine And.intro W5.ka (hC _ _ _ _ (l_appC (by omega) W5 (by omega) (j := 59) (by decide) (by omega) (fun h6 b6 cap6 W6 => hK _ _ _ _ ?_)))
      have n6 : (tx ++ am_strs.getD 10 [] ++ dec2 v ++ [32] ++ dec2 x ++ [59]).length = tx.length + 9 := by rw [List.length_append, n5]; rfl
      exact fin h6 b6 cap6 _ _ _ (W6.mo (by omega)) (rdOK_ld R (by omega) (by omega) (by omega) (bit_hi hL)) ⟨g1, g2, g3, by show setN (gLd g) v x = _; rw [g4], g5⟩ (by omega) (or_hi hL)
  · rintro M h' ⟨b', cap', tx, g, L, ld, W, ⟨R, G, hl⟩, ⟨hL, hz, h8⟩, rfl⟩
    refine am_go (fun p => p == 148) (fun K cal Q' hK hC hQ => ?_)
    exact And.intro (fun _ => hK _ _ _ _ (K0 h' b' cap' tx g L ld _ (W.mo (by omega)) R G (by omega) h8)) (fun c => absurd (nI_le (Nat.le_refl n) (by omega)) c)
set_option maxHeartbeats 8000000 in
theorem l_ters (hd : 22 ≤ d) (hx : xs.1 ≤ 1000) (hn : 3 ≤ n ∧ n ≤ 6) {g : gD} {L : Nat} (W : lwS h 48 n 0 C a b cap tx f ld) (R : rdOK n tx g L) (G : gI g n 0 0 ld) (hl : tx.length ≤ 63) {v6 : Value}
    (K0 : ∀ h' b' cap' tx g L T (x6 : Int32) v7 v8, lwS h' 60 n T C a b' cap' tx f ld → rdOK n tx g L → gI g n 0 T ld → tx.length ≤ 96 → T ≠ 0 → LW xs d Q 244 (lL n a f (.int x6) v7 v8 am_J am_J am_J am_J am_J) [] h') :
    LW xs d Q 148 (lL n a f v6 am_J am_J am_J am_J am_J am_J am_J) [] h := by
  have hn6 : 2 ^ n ≤ 64 := Nat.pow_le_pow_right (n := 2) (by decide) hn.2
  refine am_go (fun p => p == 164) (fun K cal Q' hK hC hQ => ?_)
  refine And.intro trivial (hC _ _ _ _ (c_La_cell (by omega) (by decide) hx ?_))
  refine And.intro trivial (hC _ _ _ _ (c_La_bound (by omega) (by decide) (by decide) (hK _ _ _ _ ?_)))
  have hb := bd_lt (cel xs 2) (show 0 < 2 by decide)
  show LW xs d Q 164 (lL n a f (.int (nI 2 + nI (bd (cel xs 2) 2))) (.int (nI 0)) am_J am_J am_J am_J am_J am_J) [] h
  rw [nI_add]
  generalize e : 2 + bd (cel xs 2) 2 = many
  have hm : 2 ≤ many ∧ many ≤ 3 := by omega
  refine am_for many (fun k M h' => ∃ b' cap' tx g L T v8, lwS h' (48 + 4 * k) n T C a b' cap' tx f ld ∧ (rdOK n tx g L ∧ gI g n 0 T ld ∧ tx.length ≤ 63 + 11 * k) ∧ (pcn T ≤ k ∧ (0 < k → T ≠ 0)) ∧ M = lL n a f (.int (nI many)) (.int (nI k)) v8 am_J am_J am_J am_J am_J) ?_ ?_ 0 (Nat.zero_le _) _ _ ⟨b, cap, tx, g, L, 0, am_J, W, ⟨R, G, hl⟩, ⟨by decide, fun z => absurd z (by decide)⟩, rfl⟩
  · rintro k hk M h' ⟨b', cap', tx, g, L, T, v8, W, ⟨R, ⟨g1, g2, g3, g4, g5⟩, hl⟩, ⟨hp, hT0⟩, rfl⟩ next
    have hT := W.2.2.1.2.1.2
    have hs := W.2.1.1
    have m1 := W.2.2.1.1.2
    have fin : ∀ h2 b2 cap2 tx2 g2 T2 v8, lwS h2 (48 + 4 * (k + 1)) n T2 C a b2 cap2 tx2 f ld → rdOK n tx2 g2 L → gI g2 n 0 T2 ld → tx2.length ≤ 63 + 11 * (k + 1) → pcn T2 ≤ k + 1 → T2 ≠ 0 → LW xs d Q 238 (lL n a f (.int (nI many)) (.int (nI k)) v8 am_J am_J am_J am_J am_J) [] h2 := by
      intro h2 b2 cap2 tx2 g2 T2 v8 W2 R2 G2 hl2 hp2 hT2
      refine am_go (fun p => p == 164) (fun K cal Q' hK hC hQ => hK _ _ _ _ (next _ _ ⟨b2, cap2, tx2, g2, L, T2, v8, W2, ⟨R2, G2, hl2⟩, ⟨hp2, fun _ => hT2⟩, ?_⟩))
      rw [← nI_1 k]
      rfl
    refine am_go (fun p => p == 192) (fun K cal Q' hK hC hQ => ?_)
    refine And.intro (fun c => absurd c (nI_ge hk (by omega))) (fun _ => ?_)
    refine And.intro trivial (hC _ _ _ _ (c_La_cell (by omega) (by decide) hx ?_))
    refine And.intro trivial (hC _ _ _ _ (c_La_bound (by omega) (by omega) (by omega) (hK _ _ _ _ ?_)))
    have ht := bd_lt ((cel xs 2 >>> (nI 3 + nI 4 * nI k &&& 31)) + nI k) (show 0 < n by omega)
    show LW xs d Q 192 (lL n a f (.int (nI many)) (.int (nI k)) (.int (nI (bd ((cel xs 2 >>> (nI 3 + nI 4 * nI k &&& 31)) + nI k) n))) am_J am_J am_J am_J am_J) [] h'
    generalize bd ((cel xs 2 >>> (nI 3 + nI 4 * nI k &&& 31)) + nI k) n = t at ht
    refine am_go (fun p => p == 238 || p == 220) (fun K cal Q' hK hC hQ => ?_)
    refine And.intro (sk_87 hs) (And.intro trivial ?_)
    show cal m_La_in [.int (am_i h' 87 1), .int (nI t)] h' _
    rw [m1]
    refine hC _ _ _ _ (c_La_in (by omega) (by omega) (by omega) ?_)
    refine And.intro (fun c => ?_) (fun c => ?_)
    · have c : T.testBit t = false := (bI_0 _).mp c
      refine And.intro (sk_87 hs) (And.intro (sk_87 hs) (hK _ _ _ _ ?_))
      show LW xs d Q 220 (lL n a f (.int (nI many)) (.int (nI k)) (.int (nI t)) am_J am_J am_J am_J am_J) [] (am_pi h' 87 1 (am_i h' 87 1 ||| (nI 1 <<< (nI t &&& 31))))
      rw [m1, q_orb (by omega)]
      have hTn : T ||| 2 ^ t < 2 ^ n := Nat.or_lt_two_pow hT (Nat.pow_lt_pow_right (by decide) ht)
      have W1 := W.sT hTn
      generalize am_pi h' 87 1 (nI (T ||| 2 ^ t)) = h1 at W1
      refine am_go (fun p => p == 238) (fun K cal Q' hK hC hQ => ?_)
      refine And.intro W1.ka (hC _ _ _ _ (l_appK (by omega) W1 (by omega) (j := 11) (by decide) (by omega) (fun h2 b2 cap2 W2 => ?_)))
      have n2 : (tx ++ am_strs.getD 11 []).length = tx.length + 9 := by rw [List.length_append]; rfl
      refine And.intro W2.ka (hC _ _ _ _ (l_appI (by omega) W2 (by omega) (j := t) (by omega) (by omega) (fun h3 b3 cap3 W3 => ?_)))
      have n3 : (tx ++ am_strs.getD 11 [] ++ dec2 t).length = tx.length + 10 := by rw [List.length_append, n2, dec2_len, if_pos (by omega)]
      refine And.intro W3.ka (hC _ _ _ _ (l_appC (by omega) W3 (by omega) (j := 59) (by decide) (by omega) (fun h4 b4 cap4 W4 => hK _ _ _ _ ?_)))
      have n4 : (tx ++ am_strs.getD 11 [] ++ dec2 t ++ [59]).length = tx.length + 11 := by rw [List.length_append, n3]; rfl
      have hp1 := pcn_or T (by omega) t (by omega)
      refine fin h4 b4 cap4 _ _ (T ||| 2 ^ t) _ (W4.mo (by omega)) (rdOK_ter R (by omega) (by rw [g3]; omega) (by omega) (by rw [g3]; exact c)) ⟨g1, g2, by show gT g ||| 2 ^ t = _; rw [g3], g4, g5⟩ (by omega) (by omega) (fun z => ?_)
      have : (T ||| 2 ^ t).testBit t = true := by rw [Nat.testBit_or, Nat.testBit_two_pow_self, Bool.or_true]
      rw [z] at this
      simp at this
    · have c : T.testBit t = true := by
        cases z : T.testBit t with
        | true => rfl
        | false => rw [z] at c; exact absurd rfl c
      exact hK _ _ _ _ (fin h' b' cap' tx g T _ (W.mo (by omega)) R ⟨g1, g2, g3, g4, g5⟩ (by omega) (by omega) (fun z => by rw [z] at c; simp at c))
  · rintro M h' ⟨b', cap', tx, g, L, T, v8, W, ⟨R, G, hl⟩, ⟨hp, hT0⟩, rfl⟩
    refine am_go (fun p => p == 244) (fun K cal Q' hK hC hQ => ?_)
    exact And.intro (fun _ => hK _ _ _ _ (K0 h' b' cap' tx g L T _ _ _ (W.mo (by omega)) R G (by omega) (hT0 (by omega)))) (fun c => absurd (nI_le (Nat.le_refl many) (by omega)) c)
end

/-! THE LAW'S READ: its text into the class -/
/-- letters b, b + 1 .. packed -/
def pks (c : Nat → Nat) (b : Nat) : Nat → Nat
  | 0 => 0
  | n + 1 => 256 * pks c b n + c (b + n)
theorem pks_lt {c : Nat → Nat} (hc : ∀ j, c j < 128) (b : Nat) : pks c b 1 < 128 ∧ pks c b 2 < 32768 ∧ pks c b 3 < 8388608 ∧ pks c b 4 < 2147483648 := by
  have e1 : pks c b 1 = 256 * 0 + c (b + 0) := rfl
  have e2 : pks c b 2 = 256 * pks c b 1 + c (b + 1) := rfl
  have e3 : pks c b 3 = 256 * pks c b 2 + c (b + 2) := rfl
  have e4 : pks c b 4 = 256 * pks c b 3 + c (b + 3) := rfl
  have h0 := hc (b + 0)
  have h1 := hc (b + 1)
  have h2 := hc (b + 2)
  have h3 := hc (b + 3)
  omega
theorem pks_s {c : Nat → Nat} (hc : ∀ j, c j < 128) (b k : Nat) (hk : k < 4) : nI (pks c b k) <<< (nI 8 &&& 31) ||| nI (c (b + k)) = nI (pks c b (k + 1)) := by
  have hl := pks_lt hc b
  have hb : pks c b k < 8388608 := by
    have e0 : pks c b 0 = 0 := rfl
    rcases k with _ | _ | _ | _ | k
    · omega
    · show pks c b 1 < _; omega
    · show pks c b 2 < _; omega
    · show pks c b 3 < _; omega
    · omega
  rw [pk_shlN (nI 8 &&& 31) 8 (by decide) (by omega), Nat.mul_comm]
  have := fa_or_sum (k := 8) (pks c b k) (Nat.lt_of_lt_of_le (hc (b + k)) (by decide))
  exact this
theorem byt_pks {c : Nat → Nat} (hc : ∀ j, c j < 128) (b r : Nat) (hr : r < 4) : byt (nI (pks c b 4)) (24 - 8 * r) = c (b + r) := by
  have hl := (pks_lt hc b).2.2.2
  have e1 : pks c b 1 = 256 * 0 + c (b + 0) := rfl
  have e2 : pks c b 2 = 256 * pks c b 1 + c (b + 1) := rfl
  have e3 : pks c b 3 = 256 * pks c b 2 + c (b + 2) := rfl
  have e4 : pks c b 4 = 256 * pks c b 3 + c (b + 3) := rfl
  have h0 := hc (b + 0)
  have h1 := hc (b + 1)
  have h2 := hc (b + 2)
  have h3 := hc (b + 3)
  unfold byt
  rw [q_shr (by omega) (by omega)]
  have e8 : nI (pks c b 4 >>> (24 - 8 * r)) &&& 255 = nI ((pks c b 4 >>> (24 - 8 * r)) % 256) := fa_mask _ 8
  rw [e8, q_cl (by omega), Nat.shiftRight_eq_div_pow]
  rcases r with _ | _ | _ | _ | r
  · show pks c b 4 / 16777216 % 256 = c (b + 0); omega
  · show pks c b 4 / 65536 % 256 = c (b + 1); omega
  · show pks c b 4 / 256 % 256 = c (b + 2); omega
  · show pks c b 4 / 1 % 256 = c (b + 3); omega
  · omega
/-- the letters of a text, then blanks -/
def pad (tx : List Nat) (j : Nat) : Nat := if j < tx.length then tx.getD j 0 else 32
theorem cff_stO {c w s b : Nat} {tx : List Nat} {h h1 : am_H} (F : cff c w h h1) (hs : 87 ≤ s ∧ 87 ≤ b) (S : stO h s b tx) : stO h1 s b tx := by
  obtain ⟨⟨n1, n2⟩, k1, k2, k3, k4, k5, k6⟩ := S
  have n3 := F.2.2.1.1
  exact ⟨⟨by omega, by omega⟩, (F.1 s (Or.inl n1)).trans k1, by rw [(F.2.1 s hs.1 n1).1]; exact k2, by rw [(F.2.1 s hs.1 n1).2]; exact k3, (F.1 b (Or.inl n2)).trans k4, k5, fun j hj => by rw [(F.2.1 b hs.2 n2).1]; exact k6 j hj⟩
section
variable {xs : am_X} {d : Nat} {h : am_H} {Q : am_Q} {st : stD} {s b : Nat} {tx : List Nat}
set_option maxHeartbeats 8000000 in
/-- one word after another -/
theorem w_pack (hd : 2 ≤ d) (hN : am_n h ≤ 800000) (S : stO h s b tx) (hp : ∀ j, pad tx j < 128) (hlen : tx.length ≤ 660) {q f : Nat} (hf : am_k h f = (2, 5)) (hf2 : f ≠ s ∧ f ≠ b) (z : ∀ j, am_i h f j = 0) (hq : 20 * q < tx.length)
    (K0 : ∀ h', sm [f] h h' → (∀ j, j < 5 → am_i h' f j = nI (pks (pad tx) (20 * q + 4 * j) 4)) → am_W xs (am_code at_La_read) (am_hd ah_La_read) (am_C xs am_P0 d) Q 70 [.ref 1, .ref s, .int (nI (20 * q)), .ref f, .int (nI 20)] [] h') :
    am_W xs (am_code at_La_read) (am_hd ah_La_read) (am_C xs am_P0 d) Q 17 [.ref 1, .ref s, .int (nI (20 * q)), .ref f, .int (nI 0)] [] h := by
  have keep : ∀ h', sm [f] h h' → stO h' s b tx := fun h' c => by
    obtain ⟨⟨n1, n2⟩, k1, k2, k3, k4, k5, k6⟩ := S
    have i1 : ∀ x, x ≠ f → am_i h' x = am_i h x := fun x hx => (c.2.2 x (fun y => hx (List.mem_singleton.mp y))).1
    exact ⟨⟨by rw [c.n]; exact n1, by rw [c.n]; exact n2⟩, (c.k s).trans k1, by rw [i1 s hf2.1.symm]; exact k2, (c.r s 0).trans k3, (c.k b).trans k4, k5, fun j hj => by rw [i1 b hf2.2.symm]; exact k6 j hj⟩
  refine am_for 20 (fun k L h' => sm [f] h h' ∧ (∀ j, j < 5 → am_i h' f j = nI (pks (pad tx) (20 * q + 4 * j) (min 4 (k - 4 * j)))) ∧ L = [.ref 1, .ref s, .int (nI (20 * q)), .ref f, .int (nI k)]) ?_ ?_ 0 (Nat.zero_le _) _ _ ⟨sm.rf, fun j _ => by rw [z, Nat.zero_sub]; rfl, rfl⟩
  · rintro k hk L h' ⟨c, hv, rfl⟩ next
    have T := (keep h' c).is (by rw [c.n]; omega)
    have kf : am_k h' f = (2, 5) := (c.k f).trans hf
    have ed : nI k / nI 4 = nI (k / 4) := q_div (by omega) (by omega)
    have ck : am_arr h' f 2 (nI k / nI 4) := ck_arr kf ed (by omega) (by omega)
    have put : am_W xs (am_code at_La_read) (am_hd ah_La_read) (am_C xs am_P0 d) Q 62 [.ref 1, .ref s, .int (nI (20 * q)), .ref f, .int (nI k)] [.int (nI (pad tx (20 * q + k))), .int (am_i h' f (nI k / nI 4).toNatClampNeg <<< (nI 8 &&& 31)), .int (nI k / nI 4), .ref f] h' := by
      refine am_go (fun p => p == 17) (fun K cal Q' hK hC hQ => ?_)
      refine And.intro ck (hK _ _ _ _ (next _ _ ?_))
      rw [ed, q_cl (by omega), hv (k / 4) (by omega), show min 4 (k - 4 * (k / 4)) = k % 4 by omega]
      have e := pks_s hp (20 * q + 4 * (k / 4)) (k % 4) (by omega)
      rw [show 20 * q + 4 * (k / 4) + k % 4 = 20 * q + k by omega] at e
      rw [e]
      refine ⟨c.pi (List.mem_singleton.mpr rfl), fun j hj => ?_, by rw [← nI_1 k]; rfl⟩
      rw [i_pi_same]
      by_cases y : j = k / 4
      · rw [if_pos y, y, show min 4 (k + 1 - 4 * (k / 4)) = k % 4 + 1 by omega]
      · rw [if_neg y, hv j hj]
        by_cases y2 : j < k / 4
        · rw [show min 4 (k + 1 - 4 * j) = 4 by omega, show min 4 (k - 4 * j) = 4 by omega]
        · rw [show min 4 (k + 1 - 4 * j) = 0 by omega, show min 4 (k - 4 * j) = 0 by omega]
    have ea : nI (20 * q) + nI k = nI (20 * q + k) := nI_add _ _
    refine am_go (fun p => p == 62) (fun K cal Q' hK hC hQ => ?_)
    refine And.intro (fun y => absurd y (nI_ge hk (by decide))) (fun _ => ?_)
    refine And.intro (by decide) (And.intro (by decide) (And.intro ck (And.intro T.1 (hC _ _ _ _ (c_St_length hd T ?_)))))
    refine And.intro (fun y => hK _ _ _ _ ?_) (fun y => ?_)
    · have y : nI tx.length ≤ nI (20 * q) + nI k := y
      rw [ea] at y
      have y := (nI_leI (by omega) (by omega)).mp y
      have e : pad tx (20 * q + k) = 32 := if_neg (by omega)
      rw [e] at put
      exact put
    · have y : ¬ nI tx.length ≤ nI (20 * q) + nI k := y
      rw [ea] at y
      have y : 20 * q + k < tx.length := Nat.not_le.mp fun y2 => y ((nI_leI (by omega) (by omega)).mpr y2)
      refine And.intro T.1 ?_
      show cal m_St_charAt [.ref s, .int (nI (20 * q) + nI k)] h' _
      rw [ea]
      refine hC _ _ _ _ (c_St_charAt hd T y (hK _ _ _ _ ?_))
      have e : pad tx (20 * q + k) = tx.getD (20 * q + k) 0 := if_pos y
      rw [← e]
      exact put
  · rintro L h' ⟨c, hv, rfl⟩
    refine am_go (fun p => p == 70) (fun K cal Q' hK hC hQ => ?_)
    refine And.intro (fun _ => hK _ _ _ _ (K0 h' c fun j hj => ?_)) (fun y => absurd (show nI 20 ≤ nI 20 from nI_le (Nat.le_refl _) (by decide)) y)
    rw [hv j hj, show min 4 (20 - 4 * j) = 4 by omega]
set_option maxHeartbeats 8000000 in
theorem c_La_read (hd : 22 ≤ d) (S : stO h s b tx) (hsb : 87 ≤ s ∧ 87 ≤ b) (I : CI h st) (hTN : TN h) (hN : am_n h ≤ 600000) (h0 : st.2.2.1.1 = 0) (hl : tx.length ≤ 660) {n L : Nat} {g : gD} (R : rdOK n tx g L)
    (HQ : ∀ h' st', CI h' st' → st'.1 = gFin g → st'.2.1 = (st.1 :: st.2.1).take 8 → cff 200 30000 h h' → Q (.inl (some (.int (nI (gM g))))) h') : am_C xs am_P0 d m_La_read [.ref 1, .ref s] h Q := by
  have hp : ∀ j, pad tx j < 128 := fun j => by
    unfold pad
    split
    · rename_i y; exact (S.2.2.2.2.2.2 j y).2
    · decide
  refine am_C_le hd (am_enter (d := 21) ap_La_read rfl ?_) (fun _ _ k => k)
  refine am_go (fun p => p == 2) (fun K cal Q' hK hC hQ => hK _ _ _ _ ?_)
  refine am_for ((tx.length + 19) / 20) (fun q L h' => (∃ bq, CI h' (stB st (20 * q) bq) ∧ ∀ j, j < 20 * q → bq j = pad tx j) ∧ cff (4 * q) (800 * q) h h' ∧ ∃ v3 v4, L = [.ref 1, .ref s, .int (nI (20 * q)), v3, v4]) ?_ ?_ 0 (Nat.zero_le _) _ _ ⟨⟨st.2.2.1.2, ?_, fun j hj => absurd hj (Nat.not_lt_zero j)⟩, cff.rf, _, _, rfl⟩
  · rintro q hq9 L h' ⟨⟨bq, I', hbq⟩, F, v3, v4, rfl⟩ next
    have S' := cff_stO F hsb S
    have n2 := F.2.2.1.2
    have hs' := I'.1
    have n5 := hs'.2.2
    have T := S'.is (by omega)
    have hTN' := cff_TN F hTN
    have hq : 20 * q < tx.length := by omega
    refine am_go (fun p => p == 17) (fun K cal Q' hK hC hQ => ?_)
    refine And.intro T.1 (hC _ _ _ _ (c_St_length (by decide) T ?_))
    refine And.intro (fun y => absurd y (nI_ge hq (by omega))) (fun _ => ?_)
    refine And.intro ⟨by show am_n h' < 1000000; omega, by decide, by decide⟩ (hK _ _ _ _ ?_)
    show am_W _ _ _ _ _ 17 [.ref 1, .ref s, .int (nI (20 * q)), .ref (am_n h'), .int (nI 0)] [] (am_new h' 2 5 5)
    have sne : s ≠ am_n h' ∧ b ≠ am_n h' := ⟨Nat.ne_of_lt S'.1.1, Nat.ne_of_lt S'.1.2⟩
    have S2 : stO (am_new h' 2 5 5) s b tx := by
      obtain ⟨⟨n1, n2⟩, k1, k2, k3, k4, k5, k6⟩ := S'
      exact ⟨⟨Nat.lt_succ_of_lt n1, Nat.lt_succ_of_lt n2⟩, by rw [k_new, if_neg sne.1]; exact k1, by rw [i_new, if_neg sne.1]; exact k2, by rw [r_new, if_neg sne.1]; exact k3, by rw [k_new, if_neg sne.2]; exact k4, k5, fun j hj => by rw [i_new, if_neg sne.2]; exact k6 j hj⟩
    refine w_pack (f := am_n h') (by decide) (by show am_n h' + 1 ≤ 800000; omega) S2 hp hl (by rw [k_new, if_pos rfl]) ⟨sne.1.symm, sne.2.symm⟩ (fun j => by rw [i_new, if_pos rfl]) hq (fun h2 c hw => ?_)
    have q1 : ∀ x, x < am_n h' → am_k h2 x = am_k h' x := fun x hx => by rw [c.k, k_new, if_neg (by omega)]
    have q2 : ∀ x, x < am_n h' → am_i h2 x = am_i h' x ∧ am_r h2 x = am_r h' x := fun x hx => ⟨by rw [(c.2.2 x (fun y => by have := List.mem_singleton.mp y; omega)).1, i_new_ne (by omega)], funext fun k => by rw [c.r, r_new, if_neg (by omega)]⟩
    have q3 : am_n h2 = am_n h' + 1 := c.n
    have q4 : am_cs h2 = am_cs h' + 5 := c.cs
    have I2 : CI h2 (stB st (20 * q) bq) := CI_keep I' hTN' (by omega) q1 (fun x hx _ => q2 x hx) (by rw [(q2 87 (by omega)).2])
    have F2 : cff 1 5 h' h2 := by
      refine ⟨fun a ha => ?_, fun a _ ha => q2 a ha, ⟨by omega, by omega⟩, by omega⟩
      rcases ha with ha | ha
      · exact q1 a ha
      · rw [c.k, k_new, if_neg (by omega)]
    have kf : am_k h2 (am_n h') = (2, 5) := by rw [c.k, k_new, if_pos rfl]
    have ck : ∀ j, j < 5 → am_arr h2 (am_n h') 2 (nI j) := fun j hj => ck_arr kf rfl hj (by decide)
    refine am_go (fun p => p == 2) (fun K cal Q' hK hC hQ => ?_)
    refine And.intro (ck 0 (by decide)) (And.intro (ck 1 (by decide)) (And.intro (ck 2 (by decide)) (And.intro (ck 3 (by decide)) (And.intro (ck 4 (by decide)) (And.intro (sk_1 I2.1) ?_)))))
    show cal m_Mc_append [.ref 1, .int (am_i h2 (am_n h') 0), .int (am_i h2 (am_n h') 1), .int (am_i h2 (am_n h') 2), .int (am_i h2 (am_n h') 3), .int (am_i h2 (am_n h') 4)] h2 _
    refine hC _ _ _ _ (k_append (by decide) I2 (fun j => am_i h2 (am_n h') j) (fun y => absurd (show 680 < 20 * q from y) (by omega)) (fun h3 _ I3 F3 => ?_))
    refine And.intro (fun _ => hK _ _ _ _ (next _ _ ⟨⟨_, I3, fun j hj => ?_⟩, ((F.tr F2).tr (cff_of F3)).mo (by omega) (by omega), .ref (am_n h'), .int (nI 20), ?_⟩)) (fun y => absurd (show nI 0 ≤ nI (20 * q + 20) from nI_pos' (by omega)) y)
    · show apB _ (20 * q) bq j = _
      unfold apB
      by_cases y : j < 20 * q
      · rw [if_pos y]; exact hbq j y
      · rw [if_neg y]
        show byt (am_i h2 (am_n h') ((j - 20 * q) / 4)) (24 - 8 * ((j - 20 * q) % 4)) = _
        rw [hw _ (by omega), byt_pks hp _ _ (by omega), show 20 * q + 4 * ((j - 20 * q) / 4) + (j - 20 * q) % 4 = j by omega]
    · show [_, _, Value.int (nI (20 * q) + nI 20), _, _] = _
      rw [nI_add, show 20 * q + 20 = 20 * (q + 1) by omega]
  · rintro L h' ⟨⟨bq, I', hbq⟩, F, v3, v4, rfl⟩
    have S' := cff_stO F hsb S
    have n2 := F.2.2.1.2
    have T := S'.is (by omega)
    have hTN' := cff_TN F hTN
    refine am_go (fun _ => false) (fun K cal Q' hK hC hQ => ?_)
    refine And.intro T.1 (hC _ _ _ _ (c_St_length (by decide) T ?_))
    refine And.intro (fun _ => ?_) (fun y => absurd (nI_le (show tx.length ≤ 20 * ((tx.length + 19) / 20) by omega) (by omega)) y)
    refine And.intro T.1 (hC _ _ _ _ (c_St_length (by decide) T ?_))
    have hseg : seg (tx.length, bq) 0 tx := fun j hj => by
      refine ⟨by rw [Nat.zero_add]; exact hj, ?_⟩
      rw [Nat.zero_add]
      exact (hbq j (by omega)).trans (if_pos hj)
    have hR := R.fin hseg rfl
    have hcl : ∀ k, k ≤ 20 * ((tx.length + 19) / 20) → nI tx.length = nI k → k = tx.length := fun k hk e => ((nI_eq (by omega) (by omega)).mp e).symm
    refine And.intro (sk_1 I'.1) (hC _ _ _ _ (k_load (by decide) I' hTN' (by omega) (nI tx.length) (fun y => ?_) (fun k e h2 hk ek hE => ?_) (fun k z h2 hk ek hE I2 F2 => ?_)))
    · exfalso
      have : vin (20 * ((tx.length + 19) / 20) + 1) (nI tx.length) = true := q_range (by omega) (by omega)
      rw [show (stB st (20 * ((tx.length + 19) / 20)) bq).2.2.1.1 = 20 * ((tx.length + 19) / 20) from rfl, this] at y
      cases y
    · have := hcl k hk ek
      subst this
      have hE : pText (tx.length, bq) = .inl e := hE
      rw [hR] at hE
      cases hE
    · have := hcl k hk ek
      subst this
      have hE : pText (tx.length, bq) = .inr z := hE
      rw [hR] at hE
      cases hE
      exact And.intro trivial (hQ _ _ (HQ h2 _ I2 rfl rfl ((F.tr (cff_of F2)).mo (by omega) (by omega))))
  · have e : stB st (20 * 0) st.2.2.1.2 = st := by
      obtain ⟨a, b, ⟨c, d⟩, e⟩ := st
      have h0 : c = 0 := h0
      subst h0
      rfl
    rw [e]
    exact I
end

/-! NEAREST: the model's distances from one vertex -/
def frx (F : Nat → Nat) (a b w : Nat) : Nat → Nat := fun x => if x = a then min (F a) (min 1000000000 (F b + w)) else F x
def fed (lo hi co : Nat → Nat) (F : Nat → Nat) (e : Nat) : Nat → Nat := frx (frx F (lo e) (hi e) (10000 / co e)) (hi e) (lo e) (10000 / co e)
def fep (lo hi co : Nat → Nat) (F : Nat → Nat) : Nat → Nat → Nat
  | 0 => F
  | e + 1 => fed lo hi co (fep lo hi co F e) e
def fars (m : Nat) (lo hi co : Nat → Nat) (t : Nat) : Nat → Nat → Nat
  | 0 => fun v => if v = t then 0 else 1000000000
  | K + 1 => fep lo hi co (fars m lo hi co t K) m
theorem frx_le (F : Nat → Nat) (a b w x : Nat) : frx F a b w x ≤ F x := by
  unfold frx
  by_cases q : x = a
  · rw [if_pos q, q]; exact Nat.min_le_left _ _
  · rw [if_neg q]; exact Nat.le_refl _
theorem frx_new {F : Nat → Nat} {a b w l : Nat} (h : F b ≤ l) : frx F a b w a ≤ l + w := by
  unfold frx
  rw [if_pos rfl]
  omega
theorem fep_le {lo hi co : Nat → Nat} {F : Nat → Nat} {x : Nat} : ∀ e, fep lo hi co F e x ≤ F x
  | 0 => Nat.le_refl _
  | e + 1 => Nat.le_trans (frx_le _ _ _ _ _) (Nat.le_trans (frx_le _ _ _ _ _) (fep_le e))
theorem fep_new {lo hi co : Nat → Nat} {F : Nat → Nat} {u v l e : Nat} (h : F u ≤ l) (hends : (lo e = u ∧ hi e = v) ∨ (hi e = u ∧ lo e = v)) : ∀ {m : Nat}, e < m → fep lo hi co F m v ≤ l + 10000 / co e
  | 0, z => absurd z (Nat.not_lt_zero e)
  | m + 1, z => by
    by_cases q : e = m
    · subst q
      have hu : fep lo hi co F e u ≤ l := Nat.le_trans (fep_le e) h
      show frx (frx (fep lo hi co F e) (lo e) (hi e) (10000 / co e)) (hi e) (lo e) (10000 / co e) v ≤ _
      rcases hends with ⟨a, b⟩ | ⟨a, b⟩
      · rw [a, b]; exact frx_new (Nat.le_trans (frx_le _ _ _ _ _) hu)
      · rw [a, b]; exact Nat.le_trans (frx_le _ _ _ _ _) (frx_new hu)
    · exact Nat.le_trans (frx_le _ _ _ _ _) (Nat.le_trans (frx_le _ _ _ _ _) (fep_new h hends (by omega)))
theorem fars_le {m : Nat} {lo hi co : Nat → Nat} {t x : Nat} : ∀ K, fars m lo hi co t K x ≤ fars m lo hi co t 0 x
  | 0 => Nat.le_refl _
  | K + 1 => Nat.le_trans (fep_le m) (fars_le K)
theorem fars_cov {m : Nat} {lo hi co : Nat → Nat} {t : Nat} : ∀ {K k v l : Nat}, k ≤ K → wk m lo hi co t k v l → fars m lo hi co t K v ≤ l
  | K, 0, v, l, _, ⟨a, b⟩ => by
    subst a b
    refine Nat.le_trans (fars_le K) ?_
    show (if v = v then 0 else 1000000000) ≤ 0
    rw [if_pos rfl]
    exact Nat.le_refl _
  | 0, k + 1, v, l, h, _ => absurd h (by omega)
  | K + 1, k + 1, v, l, h, ⟨e, u, l', he, hends, w, q⟩ => by
    rw [q]
    exact fep_new (fars_cov (by omega) w) hends he
def fsn (m : Nat) (lo hi co : Nat → Nat) (t : Nat) (F : Nat → Nat) : Prop := ∀ v, F v ≤ 1000000000 ∧ (F v < 1000000000 → wkE m lo hi co t v (F v))
theorem frx_snd {m : Nat} {lo hi co : Nat → Nat} {t : Nat} {F : Nat → Nat} {a b e : Nat} (h : fsn m lo hi co t F) (he : e < m) (hends : (lo e = b ∧ hi e = a) ∨ (hi e = b ∧ lo e = a)) : fsn m lo hi co t (frx F a b (10000 / co e)) := by
  intro v
  unfold frx
  by_cases q : v = a
  · rw [if_pos q]
    have ha := h a
    have hb := h b
    refine ⟨by omega, fun z => ?_⟩
    subst q
    by_cases c : F v ≤ min 1000000000 (F b + 10000 / co e)
    · rw [Nat.min_eq_left c] at z ⊢
      exact ha.2 z
    · rw [Nat.min_eq_right (Nat.le_of_not_le c)] at z ⊢
      by_cases c2 : F b + 10000 / co e ≤ 1000000000
      · rw [Nat.min_eq_right c2] at z ⊢
        refine wkE_s he hends (hb.2 ?_)
        have : F b ≤ F b + 10000 / co e := Nat.le_add_right _ _
        omega
      · rw [Nat.min_eq_left (Nat.le_of_not_le c2)] at z
        exact absurd z (Nat.lt_irrefl _)
  · rw [if_neg q]; exact h v
theorem fep_snd {m : Nat} {lo hi co : Nat → Nat} {t : Nat} {F : Nat → Nat} (h : fsn m lo hi co t F) : ∀ e, e ≤ m → fsn m lo hi co t (fep lo hi co F e)
  | 0, _ => h
  | e + 1, z => frx_snd (frx_snd (fep_snd h e (by omega)) (by omega) (Or.inr ⟨rfl, rfl⟩)) (by omega) (Or.inl ⟨rfl, rfl⟩)
theorem fars_snd {m : Nat} {lo hi co : Nat → Nat} {t : Nat} : ∀ K, fsn m lo hi co t (fars m lo hi co t K)
  | 0 => fun v => by
    show (if v = t then 0 else 1000000000) ≤ 1000000000 ∧ ((if v = t then 0 else 1000000000) < 1000000000 → wkE m lo hi co t v (if v = t then 0 else 1000000000))
    by_cases q : v = t
    · rw [if_pos q]; exact ⟨by omega, fun _ => ⟨0, q, rfl⟩⟩
    · rw [if_neg q]; exact ⟨Nat.le_refl _, fun z => absurd z (Nat.lt_irrefl _)⟩
  | K + 1 => fep_snd (fars_snd K) m (Nat.le_refl m)
theorem fars_isD {n m : Nat} {lo hi co : Nat → Nat} (hw : ∀ e, e < m → lo e < hi e ∧ hi e < n) (hc : ∀ e, e < m → 1 ≤ co e ∧ co e ≤ 9999) (hn : n ≤ 9) {t v : Nat} (hv : v < n) : isD m lo hi co t v (fars m lo hi co t (n - 1) v) := by
  have s := fars_snd (m := m) (lo := lo) (hi := hi) (co := co) (t := t) (n - 1) v
  by_cases h : ∃ l, wkE m lo hi co t v l
  · obtain ⟨l, hl⟩ := h
    obtain ⟨j, j1, j2⟩ := nat_least hl
    obtain ⟨k, k1, k2⟩ := wk_few hw hc hv j1 j2
    have a := fars_cov k1 k2
    have b := wk_le k2
    have f : fars m lo hi co t (n - 1) v < 1000000000 := by omega
    exact Or.inr ⟨f, s.2 f, fun l hl => Nat.le_trans a (j2 l hl)⟩
  · refine Or.inl ⟨?_, fun l hl => h ⟨l, hl⟩⟩
    have := s.1
    by_cases f : fars m lo hi co t (n - 1) v < 1000000000
    · exact absurd ⟨_, s.2 f⟩ h
    · omega
theorem q_rx {x y : Int32} {fa fb w : Nat} (hx : x = nI fa) (hy : y = nI fb) (ha : fa ≤ 1000000000) (hb : fb ≤ 1000000000) (hw : w ≤ 10000) : (if (if y + nI w < nI 1000000000 then y + nI w else nI 1000000000) < x then (if y + nI w < nI 1000000000 then y + nI w else nI 1000000000) else x) = nI (min fa (min 1000000000 (fb + w))) := by
  have b3 : Nat.min 1000000000 (fb + w) ≤ 1000000000 := Nat.min_le_left _ _
  rw [hx, hy, nI_add, q_mn (u := 1000000000) (v := fb + w) (by omega) (by omega), q_mn (by omega) (by omega)]
def mfa (h : am_H) (n : Nat) (F : Nat → Nat) : Prop := ∀ v, v < n → am_i h 101 v = nI (F v)
section
variable {xs : am_X} {d : Nat} {h : am_H} {w : Nat} {g : gD} {Q : am_Q}
set_option maxHeartbeats 8000000 in
theorem w_laysFar (hd : 3 ≤ d) (m : mg h w g) (hc : mco h g) {t : Nat} (ht : t < 9) (HQ : ∀ h', sf [101] [] h h' → mfa h' (gN g) (fars (gM g) (gLo g) (gHi g) (gCo g) t (gN g - 1)) → Q (.inl none) h') : am_C xs am_P0 d m_Mo_laysFar [.ref 87, .int (nI t)] h Q := by
  have hn := mg_n9 m
  have hm := mg_m20 m
  refine am_C_le hd (am_enter (d := 2) ap_Mo_laysFar rfl ?_) (fun _ _ k => k)
  refine am_go (fun p => p == 2) (fun K cal Q' hK hC hQ => hK _ _ _ _ ?_)
  refine am_for (gN g) (fun i L h' => ∃ v3 v4 v5, L = [.ref 87, .int (nI t), .int (nI i), v3, v4, v5] ∧ sf [101] [] h h' ∧ mfa h' i (fars (gM g) (gLo g) (gHi g) (gCo g) t 0)) ?_ ?_ 0 (Nat.zero_le _) _ _ ⟨_, _, _, rfl, sf_rf, fun v hv => absurd hv (Nat.not_lt_zero v)⟩
  · rintro i hi9 L h' ⟨v3, v4, v5, rfl, s, hl⟩ next
    have m' := sf_mg s m rfl (by decide)
    have eI : am_inc (nI i) (Int.ofNat 1) = nI (i + 1) := nI_1 i
    rw [← eI] at next
    have r1 : am_r h' 87 29 = 101 := sr_87_29 m'.1.1
    have k1 : am_arr h' (am_r h' 87 29) 2 (nI i) := ck_row r1 (sk_101 m'.1.1) rfl (by omega) (by omega)
    refine am_go (fun p => p == 2) (fun K cal Q' hK hC hQ => ?_)
    have fin : ∀ x : Int32, x = nI (fars (gM g) (gLo g) (gHi g) (gCo g) t 0 i) → K 2 [.ref 87, .int (nI t), .int (am_inc (nI i) (Int.ofNat 1)), v3, v4, v5] [] (am_pi h' (am_r h' 87 29) (nI i).toNatClampNeg x) := fun x hx => by
      rw [r1, q_cl (by omega)]
      refine hK _ _ _ _ (next _ _ ⟨v3, v4, v5, rfl, sf_pi s (by decide) (by decide), fun v hv => ?_⟩)
      rw [i_pi_same]
      by_cases q : v = i
      · rw [if_pos q, q, hx]
      · rw [if_neg q]; exact hl v (by omega)
    have e0 : fars (gM g) (gLo g) (gHi g) (gCo g) t 0 i = if i = t then 0 else 1000000000 := rfl
    refine And.intro (sk_87 m'.1.1) (hC _ _ _ _ (w_count (by decide) m' ?_))
    refine And.intro (fun c => absurd c (nI_ge hi9 (by omega))) (fun _ => ?_)
    refine And.intro (sk_87 m'.1.1) (And.intro (fun z => ?_) (fun z => ?_))
    · have z : i ≠ t := fun q => z (congrArg nI q)
      exact And.intro k1 (fin _ (by rw [e0, if_neg z]))
    · have z : nI i = nI t := Classical.not_not.mp z
      have z := (nI_eq (by omega) (by omega)).mp z
      exact And.intro k1 (fin _ (by rw [e0, if_pos z]))
  · rintro L h' ⟨v3, v4, v5, rfl, s, hl⟩
    have m' := sf_mg s m rfl (by decide)
    refine am_go (fun p => p == 35) (fun K cal Q' hK hC hQ => ?_)
    refine And.intro (sk_87 m'.1.1) (hC _ _ _ _ (w_count (by decide) m' ?_))
    refine And.intro (fun _ => hK _ _ _ _ ?_) (fun c => absurd (nI_le (Nat.le_refl _) (by omega)) c)
    refine am_for (gN g - 1) (fun r L h2 => ∃ v3 v4 v5, L = [.ref 87, .int (nI t), .int (nI (r + 1)), v3, v4, v5] ∧ sf [101] [] h h2 ∧ mfa h2 (gN g) (fars (gM g) (gLo g) (gHi g) (gCo g) t r)) ?_ ?_ 0 (Nat.zero_le _) _ _ ⟨v3, v4, v5, rfl, s, hl⟩
    · rintro r hr L h2 ⟨v3, v4, v5, rfl, s2, l2⟩ next
      have m2 := sf_mg s2 m rfl (by decide)
      refine am_go (fun p => p == 45) (fun K cal Q' hK hC hQ => ?_)
      refine And.intro (sk_87 m2.1.1) (hC _ _ _ _ (w_count (by decide) m2 ?_))
      refine And.intro (fun c => absurd c (nI_ge (by omega) (by omega))) (fun _ => hK _ _ _ _ ?_)
      refine am_for (gM g) (fun e L h3 => ∃ v4 v5, L = [.ref 87, .int (nI t), .int (nI (r + 1)), .int (nI e), v4, v5] ∧ sf [101] [] h h3 ∧ mfa h3 (gN g) (fep (gLo g) (gHi g) (gCo g) (fars (gM g) (gLo g) (gHi g) (gCo g) t r) e)) ?_ ?_ 0 (Nat.zero_le _) _ _ ⟨v4, v5, rfl, s2, l2⟩
      · rintro e he L h3 ⟨v4, v5, rfl, s3, l3⟩ next2
        have m3 := sf_mg s3 m rfl (by decide)
        have c3 := sf_mco s3 hc (by decide)
        obtain ⟨w1, w2⟩ := mg_e m he
        have hco := mg_co m he
        have eI : am_inc (nI e) (Int.ofNat 1) = nI (e + 1) := nI_1 e
        rw [← eI] at next2
        have hst : fep (gLo g) (gHi g) (gCo g) (fars (gM g) (gLo g) (gHi g) (gCo g) t r) (e + 1) = fed (gLo g) (gHi g) (gCo g) (fep (gLo g) (gHi g) (gCo g) (fars (gM g) (gLo g) (gHi g) (gCo g) t r) e) e := rfl
        have bnd := fep_snd (fars_snd (m := gM g) (lo := gLo g) (hi := gHi g) (co := gCo g) (t := t) r) e (by omega)
        rw [hst] at next2
        generalize fep (gLo g) (gHi g) (gCo g) (fars (gM g) (gLo g) (gHi g) (gCo g) t r) e = F at next2 l3 bnd
        have len : 10000 / gCo g e ≤ 10000 := Nat.div_le_self _ _
        have bF := fun v => (bnd v).1
        have bF2 : ∀ v, frx F (gLo g e) (gHi g e) (10000 / gCo g e) v ≤ 1000000000 := fun v => Nat.le_trans (frx_le _ _ _ _ _) (bF v)
        refine am_go (fun p => p == 45) (fun K cal Q' hK hC hQ => ?_)
        refine And.intro (sk_87 m3.1.1) (hC _ _ _ _ (w_edges (by decide) m3 ?_))
        refine And.intro (fun c => absurd c (nI_ge he (by omega))) (fun _ => ?_)
        refine And.intro (sk_87 m3.1.1) (hC _ _ _ _ (w_low (by decide) m3 he ?_))
        refine And.intro (sk_87 m3.1.1) (hC _ _ _ _ (w_high (by decide) m3 he ?_))
        have r1 : am_r h3 87 29 = 101 := sr_87_29 m3.1.1
        have kA : am_arr h3 (am_r h3 87 29) 2 (nI (gLo g e)) := ck_row r1 (sk_101 m3.1.1) rfl (by omega) (by omega)
        have kB : am_arr h3 (am_r h3 87 29) 2 (nI (gHi g e)) := ck_row r1 (sk_101 m3.1.1) rfl (by omega) (by omega)
        refine And.intro (sk_87 m3.1.1) (And.intro (sk_87 m3.1.1) (And.intro kA (And.intro (sk_87 m3.1.1) (And.intro kB ?_))))
        refine And.intro (sk_87 m3.1.1) (hC _ _ _ _ (w_lengthOf (by decide) m3 c3 he ?_))
        refine And.intro kA ?_
        have vA : am_i h3 101 (nI (gLo g e)).toNatClampNeg = nI (F (gLo g e)) := by rw [q_cl (by omega)]; exact l3 _ (by omega)
        have vB : am_i h3 101 (nI (gHi g e)).toNatClampNeg = nI (F (gHi g e)) := by rw [q_cl (by omega)]; exact l3 _ (by omega)
        rw [show am_r h3 87 (605 % 64) = 101 from r1, q_rx vA vB (bF _) (bF _) len, q_cl (by omega)]
        have s4 : sf [101] [] h (am_pi h3 101 (gLo g e) (nI (min (F (gLo g e)) (min 1000000000 (F (gHi g e) + 10000 / gCo g e))))) := sf_pi s3 (by decide) (by decide)
        have l4 : mfa (am_pi h3 101 (gLo g e) (nI (min (F (gLo g e)) (min 1000000000 (F (gHi g e) + 10000 / gCo g e))))) (gN g) (frx F (gLo g e) (gHi g e) (10000 / gCo g e)) := fun v hv => by
          rw [i_pi_same]
          unfold frx
          by_cases q : v = gLo g e
          · rw [if_pos q, if_pos q]
          · rw [if_neg q, if_neg q]; exact l3 v hv
        generalize am_pi h3 101 (gLo g e) (nI (min (F (gLo g e)) (min 1000000000 (F (gHi g e) + 10000 / gCo g e)))) = h4 at s4 l4
        unfold fed at next2
        generalize frx F (gLo g e) (gHi g e) (10000 / gCo g e) = F2 at next2 l4 bF2
        have m4 := sf_mg s4 m rfl (by decide)
        have c4 := sf_mco s4 hc (by decide)
        have r4 : am_r h4 87 29 = 101 := sr_87_29 m4.1.1
        have kA4 : am_arr h4 (am_r h4 87 29) 2 (nI (gLo g e)) := ck_row r4 (sk_101 m4.1.1) rfl (by omega) (by omega)
        have kB4 : am_arr h4 (am_r h4 87 29) 2 (nI (gHi g e)) := ck_row r4 (sk_101 m4.1.1) rfl (by omega) (by omega)
        refine And.intro (sk_87 m4.1.1) (And.intro (sk_87 m4.1.1) (And.intro kB4 (And.intro (sk_87 m4.1.1) (And.intro kA4 ?_))))
        refine And.intro (sk_87 m4.1.1) (hC _ _ _ _ (w_lengthOf (by decide) m4 c4 he ?_))
        refine And.intro kB4 ?_
        have vA4 : am_i h4 101 (nI (gLo g e)).toNatClampNeg = nI (F2 (gLo g e)) := by rw [q_cl (by omega)]; exact l4 _ (by omega)
        have vB4 : am_i h4 101 (nI (gHi g e)).toNatClampNeg = nI (F2 (gHi g e)) := by rw [q_cl (by omega)]; exact l4 _ (by omega)
        rw [show am_r h4 87 (605 % 64) = 101 from r4, q_rx vB4 vA4 (bF2 _) (bF2 _) len, q_cl (by omega)]
        refine hK _ _ _ _ (next2 _ _ ⟨_, _, rfl, sf_pi s4 (by decide) (by decide), fun v hv => ?_⟩)
        rw [i_pi_same]
        unfold frx
        by_cases q : v = gHi g e
        · rw [if_pos q, if_pos q]
        · rw [if_neg q, if_neg q]; exact l4 v hv
      · rintro L h3 ⟨v4, v5, rfl, s3, l3⟩
        have m3 := sf_mg s3 m rfl (by decide)
        have eI : am_inc (nI (r + 1)) (Int.ofNat 1) = nI (r + 1 + 1) := nI_1 _
        rw [← eI] at next
        refine am_go (fun p => p == 35) (fun K cal Q' hK hC hQ => ?_)
        refine And.intro (sk_87 m3.1.1) (hC _ _ _ _ (w_edges (by decide) m3 ?_))
        exact And.intro (fun _ => hK _ _ _ _ (next _ _ ⟨_, _, _, rfl, s3, l3⟩)) (fun c => absurd (nI_le (Nat.le_refl _) (by omega)) c)
    · rintro L h2 ⟨v3, v4, v5, rfl, s2, l2⟩
      have m2 := sf_mg s2 m rfl (by decide)
      refine am_go (fun p => p == 35) (fun K cal Q' hK hC hQ => ?_)
      refine And.intro (sk_87 m2.1.1) (hC _ _ _ _ (w_count (by decide) m2 ?_))
      exact And.intro (fun _ => And.intro trivial (hQ _ _ (HQ h2 s2 l2))) (fun c => absurd (nI_le (by omega) (by omega)) c)
end

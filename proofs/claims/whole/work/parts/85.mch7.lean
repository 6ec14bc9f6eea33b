/-! THE MODEL: checksum -/
def ckK (g : gD) (e : Nat) (s : Int64) : Nat → Int64
  | 0 => s
  | 1 => lN 31 * s + (nI (gLo g e)).toInt64
  | 2 => lN 31 * (lN 31 * s + (nI (gLo g e)).toInt64) + (nI (gHi g e)).toInt64
  | _ => lN 31 * (lN 31 * (lN 31 * s + (nI (gLo g e)).toInt64) + (nI (gHi g e)).toInt64) + (nI (gWt g e)).toInt64
def ckX (g : gD) (e : Nat) : Nat → Nat
  | 0 => gLo g e
  | 1 => gHi g e
  | _ => gWt g e
theorem ckK_s {g : gD} {e : Nat} {s : Int64} {k : Nat} (h : k < 3) : ckK g e s (k + 1) = lN 31 * ckK g e s k + (nI (ckX g e k)).toInt64 := by
  rcases (show k = 0 ∨ k = 1 ∨ k = 2 by omega) with q | q | q <;> subst q <;> rfl
section
variable {xs : am_X} {d : Nat} {h : am_H} {st : stD} {Q : am_Q}
set_option maxHeartbeats 8000000 in
theorem q_checksum (hd : 5 ≤ d) (I : MI h st) (HQ : ∀ h', MI h' st → moF h h' → Q (.inl (some (.long (sCk st.1)))) h') : am_C xs am_P0 d m_Mo_checksum [.ref 87] h Q := by
  obtain ⟨w, m, -⟩ := id I
  have m' := sfq_m (s00 (nI 0)) m
  have hn := mg_n9 m
  have hm := mg_m20 m
  have hk := sk_87 m'.1.1
  generalize hs : lN 31 * (nI (gN st.1)).toInt64 + (nI (gT st.1)).toInt64 = s0
  refine am_C_le hd (am_enter (d := 4) ap_Mo_checksum rfl ?_) (fun _ _ k => k)
  refine am_go (fun p => p == 24) (fun K cal Q' hK hC hQ => ?_)
  refine And.intro (sk_87 m.1.1) (And.intro hk (hC _ _ _ _ (w_count (by decide) m' ?_)))
  refine And.intro hk (hC _ _ _ _ (w_get (by decide) m'.1 (k := 2) rfl (by decide) m'.2.1.2.2.1 (hK _ _ _ _ ?_)))
  refine am_for (gM st.1) (fun i L h' => ∃ v4, h' = am_pi h 87 0 (nI 0) ∧ L = [.ref 87, .long (ckE st.1 s0 i), am_J, .int (nI i), v4]) ?_ ?_ 0 (Nat.zero_le _) _ _ ⟨_, rfl, by rw [← hs]; rfl⟩
  · rintro i hi9 L h' ⟨v4, rfl, rfl⟩ next
    have eI : am_inc (nI i) (Int.ofNat 1) = nI (i + 1) := nI_1 i
    rw [← eI] at next
    have hget := m'.2.2.2.1 i hi9
    have hck : ckE st.1 s0 (i + 1) = ckK st.1 i (ckE st.1 s0 i) 3 := rfl
    rw [hck] at next
    generalize ckE st.1 s0 i = s1 at next
    refine am_go (fun p => p == 35) (fun K cal Q' hK hC hQ => ?_)
    refine And.intro hk (hC _ _ _ _ (w_edges (by decide) m' ?_))
    refine And.intro (fun c => absurd c (nI_ge hi9 (by omega))) (fun _ => hK _ _ _ _ ?_)
    refine am_for 3 (fun k L h' => h' = am_pi h 87 0 (nI 0) ∧ L = [.ref 87, .long (ckK st.1 i s1 k), am_J, .int (nI i), .int (nI k)]) ?_ ?_ 0 (Nat.zero_le _) _ _ ⟨rfl, rfl⟩
    · rintro k hk3 L h' ⟨rfl, rfl⟩ next2
      have eK : am_inc (nI k) (Int.ofNat 1) = nI (k + 1) := nI_1 k
      rw [← eK, ckK_s hk3] at next2
      have hgk : am_i (am_pi h 87 0 (nI 0)) 88 (1472 * w + (15 + 3 * i + k)) = nI (ckX st.1 i k) := by
        rcases (show k = 0 ∨ k = 1 ∨ k = 2 by omega) with q | q | q <;> subst q
        · exact hget.1
        · exact hget.2.1
        · exact hget.2.2
      generalize ckK st.1 i s1 k = s2 at next2
      refine am_go (fun p => p == 35) (fun K cal Q' hK hC hQ => ?_)
      refine And.intro (fun c => absurd c (nI_ge hk3 (by decide))) (fun _ => ?_)
      refine And.intro hk (hC _ _ _ _ (w_get (by decide) m'.1 (k := 15 + 3 * i + k) (by rw [pk_mul, nI_add, nI_add]) (by omega) hgk ?_))
      exact hK _ _ _ _ (next2 _ _ ⟨rfl, rfl⟩)
    · rintro L h' ⟨rfl, rfl⟩
      refine am_go (fun p => p == 24) (fun K cal Q' hK hC hQ => ?_)
      exact And.intro (fun _ => hK _ _ _ _ (next _ _ ⟨_, rfl, rfl⟩)) (fun c => absurd (nI_le (Nat.le_refl _) (by decide)) c)
  · rintro L h' ⟨v4, rfl, rfl⟩
    refine am_go (fun p => p == 76) (fun K cal Q' hK hC hQ => ?_)
    refine And.intro hk (hC _ _ _ _ (w_edges (by decide) m' ?_))
    refine And.intro (fun _ => hK _ _ _ _ ?_) (fun c => absurd (nI_le (Nat.le_refl _) (by omega)) c)
    refine am_for (gN st.1) (fun i L h' => h' = am_pi h 87 0 (nI 0) ∧ L = [.ref 87, .long (ckV st.1 (ckE st.1 s0 (gM st.1)) i), am_J, .int (nI i), v4]) ?_ ?_ 0 (Nat.zero_le _) _ _ ⟨rfl, rfl⟩
    · rintro i hi9 L h' ⟨rfl, rfl⟩ next
      have eI : am_inc (nI i) (Int.ofNat 1) = nI (i + 1) := nI_1 i
      rw [← eI] at next
      refine am_go (fun p => p == 76) (fun K cal Q' hK hC hQ => ?_)
      refine And.intro hk (hC _ _ _ _ (w_count (by decide) m' ?_))
      refine And.intro (fun c => absurd c (nI_ge hi9 (by omega))) (fun _ => ?_)
      refine And.intro hk (hC _ _ _ _ (w_get (by decide) m'.1 (k := 75 + i) (by rw [← nI_add]) (by omega) (m'.2.2.2.2.1 i hi9) ?_))
      exact hK _ _ _ _ (next _ _ ⟨rfl, rfl⟩)
    · rintro L h' ⟨rfl, rfl⟩
      refine am_go (fun p => p == 76) (fun K cal Q' hK hC hQ => ?_)
      refine And.intro hk (hC _ _ _ _ (w_count (by decide) m' ?_))
      refine And.intro (fun _ => ?_) (fun c => absurd (nI_le (Nat.le_refl _) (by omega)) c)
      refine And.intro hk (hC _ _ _ _ (w_costNow (by decide) m' fun h2 s2 _ _ => And.intro trivial (hQ _ _ ?_)))
      have := HQ h2 (sfq_I (sf_tr (s00 _) (sfq_of s2 rfl rfl)) I).1 (sfq_I (sf_tr (s00 _) (sfq_of s2 rfl rfl)) I).2
      unfold sCk at this
      rw [hs] at this
      exact this
end

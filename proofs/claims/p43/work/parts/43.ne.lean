/-! NEAREST TERMINALS -/
def olt (a b : Nat × Nat) : Prop := a.1 < b.1 ∨ (a.1 = b.1 ∧ a.2 < b.2)
/-- an offer over an edge of length w from u to v -/
noncomputable def ofr (S : Nat → Option (Nat × Nat)) (u v w : Nat) : Nat → Option (Nat × Nat) := match S u with
  | none => S
  | some p => fun x => if x = v then (match S v with
    | none => some (p.1 + w, p.2)
    | some q => haveI := Classical.propDecidable (olt (p.1 + w, p.2) q); if olt (p.1 + w, p.2) q then some (p.1 + w, p.2) else some q) else S x
noncomputable def nep (lo hi co : Nat → Nat) (S : Nat → Option (Nat × Nat)) : Nat → Nat → Option (Nat × Nat)
  | 0 => S
  | e + 1 => ofr (ofr (nep lo hi co S e) (lo e) (hi e) (10000 / co e)) (hi e) (lo e) (10000 / co e)
noncomputable def ners (m T : Nat) (lo hi co : Nat → Nat) : Nat → Nat → Option (Nat × Nat)
  | 0 => fun v => if T.testBit v then some (0, v) else none
  | p + 1 => nep lo hi co (ners m T lo hi co p) m
def oG (o : Option (Nat × Nat)) : Int32 := match o with
  | none => -nI 1
  | some p => nI p.2
def oL (o : Option (Nat × Nat)) : Int32 := match o with
  | none => -nI 1
  | some p => nI p.1
def nst (h : am_H) (S : Nat → Option (Nat × Nat)) : Prop := ∀ v, v < 9 → am_i h 84 v = oG (S v) ∧ am_i h 85 v = oL (S v)
def nb (S : Nat → Option (Nat × Nat)) (K : Nat) : Prop := ∀ v p, S v = some p → p.1 ≤ 10000 * K ∧ p.2 < 9
theorem nb.ofr {S : Nat → Option (Nat × Nat)} {K u v w : Nat} (h : nb S K) (hw : w ≤ 10000) : nb (ofr S u v w) (K + 1) := by
  intro x p hp
  unfold Jvm.Pilot.@@N@@.ofr at hp
  cases e : S u with
  | none => rw [e] at hp; have := h x p hp; omega
  | some q =>
    rw [e] at hp
    have hq := h u q e
    dsimp only at hp
    by_cases ex : x = v
    · rw [if_pos ex] at hp
      cases e2 : S v with
      | none => rw [e2] at hp; cases hp; exact ⟨by show q.1 + w ≤ _; omega, hq.2⟩
      | some r =>
        rw [e2] at hp
        have hr := h v r e2
        dsimp only at hp
        split at hp
        · cases hp; exact ⟨by show q.1 + w ≤ _; omega, hq.2⟩
        · cases hp; omega
    · rw [if_neg ex] at hp
      have := h x p hp
      omega
theorem nI_neg1 {k : Nat} (h : k < 2 ^ 31) : ¬ nI k = -nI 1 := fun e => by
  rw [fa_eq, nI_toInt h, nI_m1] at e
  omega
set_option maxHeartbeats 4000000 in
theorem c_offer {xs : am_X} {d : Nat} {h : am_H} (hd : 1 ≤ d) (hs : sh h) {S : Nat → Option (Nat × Nat)} {K : Nat} (hS : nst h S) (hb : nb S K) (hK9 : K < 1000) {u v w : Nat} (hu : u < 9) (hv : v < 9) (hw : w ≤ 10000) {Q : am_Q} (HQ : ∀ h', sm [84, 85] h h' → nst h' (ofr S u v w) → Q (.inl none) h') : am_C xs am_P0 d m_Ne_offer [.ref 83, .int (nI u), .int (nI v), .int (nI w)] h Q := by
  have eU : am_i h (am_r h 83 0) (nI u).toNatClampNeg = oG (S u) := by rw [sr_83_0 hs, q_cl (by omega)]; exact (hS u hu).1
  have eV : am_i h (am_r h 83 0) (nI v).toNatClampNeg = oG (S v) := by rw [sr_83_0 hs, q_cl (by omega)]; exact (hS v hv).1
  have lU : am_i h (am_r h 83 1) (nI u).toNatClampNeg = oL (S u) := by rw [sr_83_1 hs, q_cl (by omega)]; exact (hS u hu).2
  have lV : am_i h (am_r h 83 1) (nI v).toNatClampNeg = oL (S v) := by rw [sr_83_1 hs, q_cl (by omega)]; exact (hS v hv).2
  refine am_C_le hd (am_enter (d := 0) ap_Ne_offer rfl ?_) (fun _ _ k => k)
  refine am_go (fun _ => false) (fun K cal Q' hK hC hQ => ?_)
  have ckg : ∀ {k : Nat}, k < 9 → am_arr h (am_r h 83 0) 2 (nI k) := fun hk => ck_row (sr_83_0 hs) (sk_84 hs) rfl hk (by omega)
  have ckl : ∀ {k : Nat}, k < 9 → am_arr h (am_r h 83 1) 2 (nI k) := fun hk => ck_row (sr_83_1 hs) (sk_85 hs) rfl hk (by omega)
  cases hSu : S u with
  | none =>
    rw [hSu] at eU
    refine And.intro (sk_83 hs) (And.intro (ckg hu) (And.intro (fun z => absurd eU z) (fun _ => ?_)))
    refine And.intro trivial (hQ _ _ (HQ _ sm.rf ?_))
    unfold ofr
    rw [hSu]
    exact hS
  | some p =>
    rw [hSu] at eU lU
    obtain ⟨p1, p2⟩ := hb u p hSu
    have eU : am_i h (am_r h 83 0) (nI u).toNatClampNeg = nI p.2 := eU
    have lU : am_i h (am_r h 83 1) (nI u).toNatClampNeg = nI p.1 := lU
    have eW : am_i h (am_r h 83 1) (nI u).toNatClampNeg + nI w = nI (p.1 + w) := by rw [lU]; exact nI_add _ _
    -- the write
    have wr : (ofr S u v w) = (fun x => if x = v then some (p.1 + w, p.2) else S x) → Q (.inl none) (am_pi (am_pi h (am_r h 83 0) (nI v).toNatClampNeg (am_i h (am_r h 83 0) (nI u).toNatClampNeg)) (am_r h 83 1) (nI v).toNatClampNeg (am_i h (am_r h 83 1) (nI u).toNatClampNeg + nI w)) := by
      intro e
      rw [eU, eW, sr_83_0 hs, sr_83_1 hs, q_cl (by omega)]
      refine HQ _ ((sm.rf.pi (by decide)).pi (by decide)) ?_
      rw [e]
      intro x hx
      rw [i_pi_ne (show (84 : Nat) ≠ 85 by decide), i_pi_same, i_pi_same, i_pi_ne (show (85 : Nat) ≠ 84 by decide)]
      by_cases ex : x = v
      · rw [if_pos ex, if_pos ex]
        simp only [ex, if_true]
        exact ⟨rfl, rfl⟩
      · rw [if_neg ex, if_neg ex]
        simp only [ex, if_false]
        exact hS x hx
    have kp : (ofr S u v w) = S → Q (.inl none) h := fun e => HQ _ sm.rf (by rw [e]; exact hS)
    refine And.intro (sk_83 hs) (And.intro (ckg hu) (And.intro (fun _ => ?_) (fun z => absurd (eU.symm.trans (Classical.not_not.mp z)) (nI_neg1 (by omega)))))
    refine And.intro (sk_83 hs) (And.intro (ckl hu) (And.intro (sk_83 hs) (And.intro (ckg hv) ?_)))
    have ways : ∀ (n : Nat), True := fun _ => trivial
    cases hSv : S v with
    | none =>
      rw [hSv] at eV
      have e9 : ofr S u v w = (fun x => if x = v then some (p.1 + w, p.2) else S x) := by
        unfold ofr
        rw [hSu]
        dsimp only
        rw [hSv]
      refine And.intro (fun _ => ?_) (fun z => absurd eV z)
      refine And.intro (fun _ => ?_) (fun z => absurd (show ¬ nI 1 = 0 by decide) z)
      refine And.intro (sk_83 hs) (And.intro (sk_83 hs) (And.intro (ckg hu) (And.intro (ckg hv) (And.intro (sk_83 hs) (And.intro (ckl hv) (And.intro trivial (hQ _ _ (wr e9))))))))
    | some q =>
      rw [hSv] at eV lV
      obtain ⟨q1, q2⟩ := hb v q hSv
      have eV : am_i h (am_r h 83 0) (nI v).toNatClampNeg = nI q.2 := eV
      have lV : am_i h (am_r h 83 1) (nI v).toNatClampNeg = nI q.1 := lV
      have eY : olt (p.1 + w, p.2) q → ofr S u v w = (fun x => if x = v then some (p.1 + w, p.2) else S x) := by
        intro hlt
        unfold ofr
        rw [hSu]
        dsimp only
        rw [hSv]
        dsimp only
        rw [if_pos hlt]
      have eN : ¬ olt (p.1 + w, p.2) q → ofr S u v w = S := by
        intro hlt
        unfold ofr
        rw [hSu]
        dsimp only
        rw [hSv]
        dsimp only
        rw [if_neg hlt]
        funext x
        by_cases ex : x = v
        · rw [if_pos ex, ex, hSv]
        · rw [if_neg ex]
      have fin : olt (p.1 + w, p.2) q → _ := fun hlt => And.intro (sk_83 hs) (And.intro (sk_83 hs) (And.intro (ckg hu) (And.intro (ckg hv) (And.intro (sk_83 hs) (And.intro (ckl hv) (And.intro trivial (hQ _ _ (wr (eY hlt)))))))))
      refine And.intro (fun z => absurd (eV.symm.trans z) (nI_neg1 (by omega))) (fun _ => ?_)
      refine And.intro (sk_83 hs) (And.intro (ckl hv) ?_)
      refine And.intro (fun z => ?_) (fun z => ?_)
      · have z : nI q.1 ≤ nI (p.1 + w) := by rw [← lV, ← eW]; exact z
        have z := (nI_leI (by omega) (by omega)).mp z
        refine And.intro (fun x => absurd rfl x) (fun _ => ?_)
        refine And.intro (sk_83 hs) (And.intro (ckl hv) ?_)
        refine And.intro (fun y => ?_) (fun y => ?_)
        · have y : ¬ nI (p.1 + w) = nI q.1 := by rw [← lV, ← eW]; exact y
          have y : ¬ p.1 + w = q.1 := fun r => y (congrArg nI r)
          refine And.intro trivial (hQ _ _ (kp (eN fun r => ?_)))
          rcases r with r | r
          · have r : p.1 + w < q.1 := r; omega
          · exact y r.1
        · have y : nI (p.1 + w) = nI q.1 := by rw [← lV, ← eW]; exact Classical.not_not.mp y
          have y := (nI_eq (by omega) (by omega)).mp y
          refine And.intro (sk_83 hs) (And.intro (ckg hu) (And.intro (sk_83 hs) (And.intro (ckg hv) ?_)))
          refine And.intro (fun t => ?_) (fun t => ?_)
          · have t : nI q.2 ≤ nI p.2 := by rw [← eV, ← eU]; exact t
            have t := (nI_leI (by omega) (by omega)).mp t
            refine And.intro trivial (hQ _ _ (kp (eN fun r => ?_)))
            rcases r with r | r
            · have r : p.1 + w < q.1 := r; omega
            · have r : p.2 < q.2 := r.2; omega
          · have t : ¬ nI q.2 ≤ nI p.2 := by rw [← eV, ← eU]; exact t
            have t : p.2 < q.2 := Nat.not_le.mp fun r => t (nI_le r (by omega))
            exact fin (Or.inr ⟨y, t⟩)
      · have z : ¬ nI q.1 ≤ nI (p.1 + w) := by rw [← lV, ← eW]; exact z
        have z : p.1 + w < q.1 := Nat.not_le.mp fun r => z (nI_le r (by omega))
        refine And.intro (fun _ => ?_) (fun x => absurd (show ¬ nI 1 = 0 by decide) x)
        exact fin (Or.inl z)

/-! rules of the abstract machine -/
theorem am_out_mono {hdl : Nat → Nat → Option (Nat × Nat)} {rec1 rec2 : am_K} {cal1 cal2 : am_Cal} {Q1 Q2 : am_Q} (hr : ∀ pc L S h, rec1 pc L S h → rec2 pc L S h) (hc : ∀ m as h (q1 q2 : am_Q), (∀ r h, q1 r h → q2 r h) → cal1 m as h q1 → cal2 m as h q2) (hQ : ∀ r h, Q1 r h → Q2 r h) (pc nx : Nat) (L : List Value) (h : am_H) (o : am_SO) (H : am_out rec1 cal1 hdl Q1 pc nx L h o) : am_out rec2 cal2 hdl Q2 pc nx L h o := by
  match o, H with
  | some (.inl (p, S, h)), H => exact hr _ _ _ _ H
  | some (.inr (.inl (c, p, S, h))), H => exact ⟨H.1, hr _ _ _ _ H.2⟩
  | some (.inr (.inr (.inl (c, p, q, S)))), H => exact ⟨fun hc => hr _ _ _ _ (H.1 hc), fun hc => hr _ _ _ _ (H.2 hc)⟩
  | some (.inr (.inr (.inr (.inl (c, r, h))))), H => exact ⟨H.1, hQ _ _ H.2⟩
  | some (.inr (.inr (.inr (.inr (c, m, as, S))))), H =>
    refine ⟨H.1, hc _ _ _ _ _ (fun r h' k => ?_) H.2⟩
    match r, k with
    | .inl none, k => exact hr _ _ _ _ k
    | .inl (some v), k => exact hr _ _ _ _ k
    | .inr E, k =>
      dsimp only at k ⊢
      cases e : hdl pc E with
      | none => rw [e] at k; exact hQ _ _ k
      | some z => rw [e] at k; exact hr _ _ _ _ k
theorem am_one_mono {xs : am_X} {code : Nat → Option (Instr × Nat)} {hdl : Nat → Nat → Option (Nat × Nat)} {rec1 rec2 : am_K} {cal1 cal2 : am_Cal} {Q1 Q2 : am_Q} (hr : ∀ pc L S h, rec1 pc L S h → rec2 pc L S h) (hc : ∀ m as h (q1 q2 : am_Q), (∀ r h, q1 r h → q2 r h) → cal1 m as h q1 → cal2 m as h q2) (hQ : ∀ r h, Q1 r h → Q2 r h) (pc : Nat) (L S : List Value) (h : am_H) (H : am_one xs code hdl rec1 cal1 Q1 pc L S h) : am_one xs code hdl rec2 cal2 Q2 pc L S h := by
  unfold am_one at H ⊢
  cases e : code pc with
  | none => rw [e] at H; exact H
  | some z =>
    rw [e] at H
    dsimp only at H ⊢
    cases e2 : am_lop z.1 L S with
    | none => rw [e2] at H; exact am_out_mono hr hc hQ _ _ _ _ _ H
    | some y =>
      rw [e2] at H
      cases y with
      | none => exact H
      | some w => exact hr _ _ _ _ H
theorem am_W_fold {xs : am_X} {code : Nat → Option (Instr × Nat)} {hdl : Nat → Nat → Option (Nat × Nat)} {cal : am_Cal} {Q : am_Q} (hc : ∀ m as h (q1 q2 : am_Q), (∀ r h, q1 r h → q2 r h) → cal m as h q1 → cal m as h q2) {pc : Nat} {L S : List Value} {h : am_H} (H : am_one xs code hdl (am_W xs code hdl cal Q) cal Q pc L S h) : am_W xs code hdl cal Q pc L S h :=
  fun P hP => hP _ _ _ _ (am_one_mono (fun _ _ _ _ w => w P hP) hc (fun _ _ q => q) _ _ _ _ H)
theorem am_W_mono {xs : am_X} {code : Nat → Option (Instr × Nat)} {hdl : Nat → Nat → Option (Nat × Nat)} {cal1 cal2 : am_Cal} {Q1 Q2 : am_Q} (hc : ∀ m as h (q1 q2 : am_Q), (∀ r h, q1 r h → q2 r h) → cal1 m as h q1 → cal2 m as h q2) (hQ : ∀ r h, Q1 r h → Q2 r h) {pc : Nat} {L S : List Value} {h : am_H} (H : am_W xs code hdl cal1 Q1 pc L S h) : am_W xs code hdl cal2 Q2 pc L S h :=
  fun P hP => H P (fun _ _ _ _ k => hP _ _ _ _ (am_one_mono (fun _ _ _ _ w => w) hc hQ _ _ _ _ k))
theorem am_C_eq (xs : am_X) (P : am_P) (d m : Nat) (as : List Value) (h : am_H) (Q : am_Q) : am_C xs P (d + 1) m as h Q = (match P m with | none => False | some (code, hdl, n) => Nat.ble (am_pad as).length n = true ∧ am_W xs code hdl (am_C xs P d) Q 0 (am_loc as n) [] h) := rfl
theorem am_C_mono {xs : am_X} {P : am_P} : ∀ (d m : Nat) (as : List Value) (h : am_H) (q1 q2 : am_Q), (∀ r h, q1 r h → q2 r h) → am_C xs P d m as h q1 → am_C xs P d m as h q2
  | 0, _, _, _, _, _, _, H => H
  | d + 1, m, as, h, q1, q2, hq, H => by
    unfold am_C at H ⊢
    cases e : P m with
    | none => rw [e] at H; exact H
    | some z => rw [e] at H; exact ⟨H.1, am_W_mono (am_C_mono d) hq H.2⟩
theorem am_C_up {xs : am_X} {P : am_P} : ∀ (d m : Nat) (as : List Value) (h : am_H) (q1 q2 : am_Q), (∀ r h, q1 r h → q2 r h) → am_C xs P d m as h q1 → am_C xs P (d + 1) m as h q2
  | 0, _, _, _, _, _, _, H => H.elim
  | d + 1, m, as, h, q1, q2, hq, H => by
    rw [am_C_eq] at H ⊢
    cases e : P m with
    | none => rw [e] at H; exact H
    | some z => rw [e] at H; exact ⟨H.1, am_W_mono (am_C_up d) hq H.2⟩
theorem am_C_le {xs : am_X} {P : am_P} {d e m : Nat} {as : List Value} {h : am_H} {q1 q2 : am_Q} (hde : d ≤ e) (H : am_C xs P d m as h q1) (hq : ∀ r h, q1 r h → q2 r h) : am_C xs P e m as h q2 := by
  induction hde with
  | refl => exact am_C_mono _ _ _ _ _ _ hq H
  | step _ ih => exact am_C_up _ _ _ _ _ _ (fun _ _ k => k) ih
theorem am_ev_W {xs : am_X} {P : am_P} {d : Nat} {code : Nat → Option (Instr × Nat)} {hdl : Nat → Nat → Option (Nat × Nat)} {Q : am_Q} {stop : Nat → Bool} : ∀ (n pc : Nat) (L S : List Value) (h : am_H), am_ev xs code hdl stop (am_W xs code hdl (am_C xs P d) Q) (am_C xs P d) Q n pc L S h → am_W xs code hdl (am_C xs P d) Q pc L S h
  | 0, _, _, _, _, H => H.elim
  | n + 1, pc, L, S, h, H => by
    rw [am_ev] at H
    cases e : stop pc with
    | true => rw [e] at H; exact H
    | false =>
      rw [e] at H
      exact am_W_fold (am_C_mono d) (am_one_mono (am_ev_W n) (am_C_mono d) (fun _ _ q => q) _ _ _ _ H)
/-- walk from here up to the stops -/
theorem am_go {xs : am_X} {P : am_P} {d : Nat} {code : Nat → Option (Instr × Nat)} {hdl : Nat → Nat → Option (Nat × Nat)} {Q : am_Q} (stop : Nat → Bool) {pc : Nat} {L S : List Value} {h : am_H}
    (H : ∀ (K : am_K) (cal : am_Cal) (Q' : am_Q), (∀ pc L S h, am_W xs code hdl (am_C xs P d) Q pc L S h → K pc L S h) → (∀ m as h q, am_C xs P d m as h q → cal m as h q) → (∀ r h, Q r h → Q' r h) → am_one xs code hdl (am_ev xs code hdl stop K cal Q' 2000) cal Q' pc L S h) : am_W xs code hdl (am_C xs P d) Q pc L S h :=
  am_W_fold (am_C_mono d) (am_one_mono (am_ev_W 2000) (am_C_mono d) (fun _ _ q => q) _ _ _ _ (H _ _ _ (fun _ _ _ _ w => w) (fun _ _ _ _ w => w) (fun _ _ q => q)))
theorem am_enter {xs : am_X} {P : am_P} {d m n : Nat} {code : Nat → Option (Instr × Nat)} {hdl : Nat → Nat → Option (Nat × Nat)} {Q : am_Q} {as : List Value} {h : am_H} (e : P m = some (code, hdl, n)) (hb : Nat.ble (am_pad as).length n = true) (H : am_W xs code hdl (am_C xs P d) Q 0 (am_loc as n) [] h) : am_C xs P (d + 1) m as h Q := by
  rw [am_C_eq, e]
  exact ⟨hb, H⟩
theorem am_use {xs : am_X} {P : am_P} {d e m : Nat} {as : List Value} {h : am_H} {q1 q2 : am_Q} {cal : am_Cal} (hC : ∀ m as h q, am_C xs P d m as h q → cal m as h q) (H : am_C xs P e m as h q1) (hde : e ≤ d) (k : ∀ r h, q1 r h → q2 r h) : cal m as h q2 := hC _ _ _ _ (am_C_le hde H k)
/-- forgetting locals -/
def am_fg : List Value → List Value → Prop
  | [], [] => True
  | x :: l, y :: k => (x = am_J ∨ x = y) ∧ am_fg l k
  | _, _ => False

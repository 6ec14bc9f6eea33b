/-! the abstract machine goes one way, and its counts grow -/
def am_mon (h : am_H) (o : am_SO) : Prop := match o with
  | some (.inl (_, _, h')) => am_n h ≤ am_n h' ∧ am_cs h ≤ am_cs h'
  | some (.inr (.inl (_, _, _, h'))) => am_n h ≤ am_n h' ∧ am_cs h ≤ am_cs h'
  | some (.inr (.inr (.inr (.inl (_, _, h'))))) => am_n h ≤ am_n h' ∧ am_cs h ≤ am_cs h'
  | _ => True
set_option maxHeartbeats 4000000 in
theorem am_stp_mon (xs : am_X) (op : Instr) (nx : Nat) (S : List Value) (h : am_H) : am_mon h (am_stp xs op nx S h) := by
  have r1 : am_n h ≤ am_n h ∧ am_cs h ≤ am_cs h := ⟨Nat.le_refl _, Nat.le_refl _⟩
  have rn : ∀ t n w, am_n h ≤ am_n (am_new h t n w) ∧ am_cs h ≤ am_cs (am_new h t n w) := fun t n w => ⟨Nat.le_succ _, Nat.le_add_right _ _⟩
  have rt : am_n h ≤ am_n (am_thr h) ∧ am_cs h ≤ am_cs (am_thr h) := ⟨Nat.le_succ _, Nat.le_add_right _ _⟩
  have rc : ∀ a, am_n h ≤ am_n (am_clo h a) ∧ am_cs h ≤ am_cs (am_clo h a) := fun a => ⟨Nat.le_succ _, Nat.le_add_right _ _⟩
  have rm : ∀ n k, am_n h ≤ am_n (am_mul h n k) ∧ am_cs h ≤ am_cs (am_mul h n k) := fun n k => ⟨by show am_n h ≤ am_n h + 1 + n; omega, by show am_cs h ≤ am_cs h + n + n * k; omega⟩
  cases op <;> simp only [am_stp] <;> first
    | exact trivial
    | exact r1
    | exact rn _ _ _
    | (cases am_sh S <;> first | exact trivial | exact rt)
    | (split <;> first | exact trivial | exact r1 | exact rn _ _ _ | exact rm _ _)
    | (split <;> first | exact trivial | (rename_i S0; cases am_sh S0 <;> first | exact trivial | exact r1 | exact rc _))
    | (cases am_sh _ && _ <;> exact trivial)
    | (split <;> first | exact trivial | (cases am_sh _ <;> exact trivial))
    | skip
theorem am_W_det {xs : am_X} {code : Nat → Option (Instr × Nat)} {hdl : Nat → Nat → Option (Nat × Nat)} {cal : am_Cal} {Q : am_Q} (hc : ∀ m as h (q1 q2 : am_Q), (∀ r h, q1 r h → q2 r h) → cal m as h q1 → cal m as h q2)
    (hd : ∀ m as h (q : am_Q), cal m as h q → ∃ r h', q r h' ∧ (am_n h ≤ am_n h' ∧ am_cs h ≤ am_cs h') ∧ cal m as h (fun r2 h2 => r2 = r ∧ h2 = h')) {pc : Nat} {L S : List Value} {h : am_H}
    (H : am_W xs code hdl cal Q pc L S h) : ∃ r h', Q r h' ∧ (am_n h ≤ am_n h' ∧ am_cs h ≤ am_cs h') ∧ am_W xs code hdl cal (fun r2 h2 => r2 = r ∧ h2 = h') pc L S h := by
  refine H (fun pc L S h => ∃ r h', Q r h' ∧ (am_n h ≤ am_n h' ∧ am_cs h ≤ am_cs h') ∧ am_W xs code hdl cal (fun r2 h2 => r2 = r ∧ h2 = h') pc L S h) ?_
  intro pc L S h H
  have fold : ∀ (r : am_R) (h' : am_H), am_one xs code hdl (am_W xs code hdl cal (fun r2 h2 => r2 = r ∧ h2 = h')) cal (fun r2 h2 => r2 = r ∧ h2 = h') pc L S h → am_W xs code hdl cal (fun r2 h2 => r2 = r ∧ h2 = h') pc L S h := fun _ _ z => am_W_fold hc z
  unfold am_one at H fold
  cases e : code pc with
  | none => rw [e] at H; exact H.elim
  | some z =>
    rw [e] at H fold
    obtain ⟨op, nx⟩ := z
    dsimp only at H fold
    cases e2 : am_lop op L S with
    | some y =>
      rw [e2] at H fold
      cases y with
      | none => exact H.elim
      | some w =>
        obtain ⟨r, h', g1, g2, g3⟩ := H
        exact ⟨r, h', g1, g2, fold _ _ g3⟩
    | none =>
      rw [e2] at H fold
      dsimp only at H fold
      have M := am_stp_mon xs op nx S h
      generalize am_stp xs op nx S h = o at H fold M
      match o, H, fold, M with
      | some (.inl (p, S', h1)), H, fold, M =>
        obtain ⟨r, h', g1, g2, g3⟩ := H
        exact ⟨r, h', g1, ⟨Nat.le_trans M.1 g2.1, Nat.le_trans M.2 g2.2⟩, fold _ _ g3⟩
      | some (.inr (.inl (c, p, S', h1))), H, fold, M =>
        obtain ⟨hc9, r, h', g1, g2, g3⟩ := H
        exact ⟨r, h', g1, ⟨Nat.le_trans M.1 g2.1, Nat.le_trans M.2 g2.2⟩, fold _ _ ⟨hc9, g3⟩⟩
      | some (.inr (.inr (.inl (c, p, q, S')))), H, fold, M =>
        by_cases z : c
        · obtain ⟨r, h', g1, g2, g3⟩ := H.1 z
          exact ⟨r, h', g1, g2, fold _ _ ⟨fun _ => g3, fun w => absurd z w⟩⟩
        · obtain ⟨r, h', g1, g2, g3⟩ := H.2 z
          exact ⟨r, h', g1, g2, fold _ _ ⟨fun w => absurd w z, fun _ => g3⟩⟩
      | some (.inr (.inr (.inr (.inl (c, r, h1))))), H, fold, M => exact ⟨r, h1, H.2, M, fold _ _ ⟨H.1, rfl, rfl⟩⟩
      | some (.inr (.inr (.inr (.inr (c, m, as, S'))))), H, fold, M =>
        obtain ⟨hc9, H⟩ := H
        obtain ⟨r1, h1, k1, k2, k3⟩ := hd _ _ _ _ H
        match r1, k1, k3 with
        | .inl none, k1, k3 =>
          obtain ⟨r, h', g1, g2, g3⟩ := k1
          refine ⟨r, h', g1, ⟨Nat.le_trans k2.1 g2.1, Nat.le_trans k2.2 g2.2⟩, fold _ _ ⟨hc9, hc _ _ _ _ _ (fun r2 h2 z => ?_) k3⟩⟩
          obtain ⟨rfl, rfl⟩ := z
          exact g3
        | .inl (some v), k1, k3 =>
          obtain ⟨r, h', g1, g2, g3⟩ := k1
          refine ⟨r, h', g1, ⟨Nat.le_trans k2.1 g2.1, Nat.le_trans k2.2 g2.2⟩, fold _ _ ⟨hc9, hc _ _ _ _ _ (fun r2 h2 z => ?_) k3⟩⟩
          obtain ⟨rfl, rfl⟩ := z
          exact g3
        | .inr E, k1, k3 =>
          dsimp only at k1
          cases e3 : hdl pc E with
          | none =>
            rw [e3] at k1
            refine ⟨_, _, k1, k2, fold _ _ ⟨hc9, hc _ _ _ _ _ (fun r2 h2 z => ?_) k3⟩⟩
            obtain ⟨rfl, rfl⟩ := z
            dsimp only
            rw [e3]
            exact ⟨rfl, rfl⟩
          | some w =>
            rw [e3] at k1
            obtain ⟨r, h', g1, g2, g3⟩ := k1
            refine ⟨r, h', g1, ⟨Nat.le_trans k2.1 g2.1, Nat.le_trans k2.2 g2.2⟩, fold _ _ ⟨hc9, hc _ _ _ _ _ (fun r2 h2 z => ?_) k3⟩⟩
            obtain ⟨rfl, rfl⟩ := z
            dsimp only
            rw [e3]
            exact g3
theorem am_C_det {xs : am_X} {P : am_P} : ∀ (d m : Nat) (as : List Value) (h : am_H) (q : am_Q), am_C xs P d m as h q → ∃ r h', q r h' ∧ (am_n h ≤ am_n h' ∧ am_cs h ≤ am_cs h') ∧ am_C xs P d m as h (fun r2 h2 => r2 = r ∧ h2 = h')
  | 0, _, _, _, _, H => H.elim
  | d + 1, m, as, h, q, H => by
    rw [am_C_eq] at H
    simp only [am_C_eq]
    cases e : P m with
    | none => rw [e] at H; exact H.elim
    | some z =>
      rw [e] at H
      obtain ⟨hb, H⟩ := H
      obtain ⟨r, h', g1, g2, g3⟩ := am_W_det (am_C_mono d) (am_C_det d) H
      exact ⟨r, h', g1, g2, hb, g3⟩

/-! the links and the classes: decided -/
theorem am_il_ok : ∀ q ∈ am_il_, Cond.constant (am_cn q.1) q.2.1 (Int32.ofInt q.2.2) ∈ lw_tbl := by decide +kernel
theorem am_ll_ok : ∀ q ∈ am_ll_, Cond.constantLong (am_cn q.1) q.2.1 (Int64.ofInt q.2.2) ∈ lw_tbl := by decide +kernel
theorem am_ff_ok : ∀ q ∈ am_ff_, Cond.constantFloat (am_cn q.1) q.2.1 (UInt32.ofNat q.2.2) ∈ lw_tbl := by decide +kernel
theorem am_fl_ok : ∀ q ∈ am_fl_, Cond.fieldLink (am_cn q.1) q.2.1 (am_tf (q.2.2 / 64) (q.2.2 % 64)).1 (am_tf (q.2.2 / 64) (q.2.2 % 64)).2.1 (am_tf (q.2.2 / 64) (q.2.2 % 64)).2.2.1 ∈ lw_tbl := by decide +kernel
theorem am_fl_ok2 : ∀ q ∈ am_fl_, q.2.2 / 64 < 12 ∧ q.2.2 % 64 < am_nf (q.2.2 / 64) := by decide +kernel
theorem am_cl_ok : ∀ q ∈ am_cl_, Cond.classLink (am_cn q.1) q.2.1 (am_cn (q.2.2 / 64)) ∈ lw_tbl := by decide +kernel
theorem am_cl_ok2 : ∀ q ∈ am_cl_, q.2.2 / 64 < 12 ∧ q.2.2 % 64 = am_nf (q.2.2 / 64) := by decide +kernel
theorem am_ol_ok : ∀ q ∈ am_ol_, Cond.methodLink (am_cn q.1) q.2 objectInit ∈ lw_tbl := by decide +kernel
theorem am_al_ok : ∀ q ∈ am_al_, Cond.methodLink (am_cn q.1) q.2 arraycopyName ∈ lw_tbl := by decide +kernel
theorem am_ci_ok : ∀ k, k < 12 → Cond.instantiable (am_cn k) (am_nf k) ∈ lw_tbl ∧ Cond.initialized (am_cn k) ∈ lw_tbl ∧ (∀ w ∈ u_ws (am_cn k) (am_tf k) (am_nf k), w ∈ lw_tbl ∧ goodWord w = true) ∧ am_cl[k]? = some (am_cn k, am_tf k, am_nf k) := by
  intro k hk
  match k, hk with
  | 0, _ => exact ⟨by decide +kernel, by decide +kernel, by decide +kernel, rfl⟩
  | 1, _ => exact ⟨by decide +kernel, by decide +kernel, by decide +kernel, rfl⟩
  | 2, _ => exact ⟨by decide +kernel, by decide +kernel, by decide +kernel, rfl⟩
  | 3, _ => exact ⟨by decide +kernel, by decide +kernel, by decide +kernel, rfl⟩
  | 4, _ => exact ⟨by decide +kernel, by decide +kernel, by decide +kernel, rfl⟩
  | 5, _ => exact ⟨by decide +kernel, by decide +kernel, by decide +kernel, rfl⟩
  | 6, _ => exact ⟨by decide +kernel, by decide +kernel, by decide +kernel, rfl⟩
  | 7, _ => exact ⟨by decide +kernel, by decide +kernel, by decide +kernel, rfl⟩
  | 8, _ => exact ⟨by decide +kernel, by decide +kernel, by decide +kernel, rfl⟩
  | 9, _ => exact ⟨by decide +kernel, by decide +kernel, by decide +kernel, rfl⟩
  | 10, _ => exact ⟨by decide +kernel, by decide +kernel, by decide +kernel, rfl⟩
  | 11, _ => exact ⟨by decide +kernel, by decide +kernel, by decide +kernel, rfl⟩
theorem am_ty_ok : ∀ c, c < 12 → ∀ k, k < am_nf c → parseFieldDescriptor (am_tf c k).2.2.1 = some (am_ty c k) := by
  intro c hc
  match c, hc with
  | 0, _ => exact tyX1_ok
  | 1, _ => exact tyX2_ok
  | 2, _ => exact tyX3_ok
  | 3, _ => exact tyX4_ok
  | 4, _ => exact tyX5_ok
  | 5, _ => exact tyX6_ok
  | 6, _ => exact tyX7_ok
  | 7, _ => exact tyX8_ok
  | 8, _ => exact tyX9_ok
  | 9, _ => exact tyL_ok
  | 10, _ => exact tyJ0_ok
  | 11, _ => exact tyJ4_ok
theorem am_nm_ok : ∀ c, c < 12 → ∀ a, a < am_nf c → ∀ b, b < am_nf c → a ≠ b → (am_tf c a).2.1 ≠ (am_tf c b).2.1 := by
  intro c hc
  match c, hc with
  | 0, _ => exact nmX1
  | 1, _ => exact nmX2
  | 2, _ => exact nmX3
  | 3, _ => exact nmX4
  | 4, _ => exact nmX5
  | 5, _ => exact nmX6
  | 6, _ => exact nmX7
  | 7, _ => exact nmX8
  | 8, _ => exact nmX9
  | 9, _ => exact nmL
  | 10, _ => exact nmJ0
  | 11, _ => exact nmJ4
theorem am_own_ok : ∀ c, c < 11 → ∀ k, k < am_nf c → (am_tf c k).1 = am_cn c := by
  intro c hc
  match c, hc with
  | 0, _ => decide +kernel
  | 1, _ => decide +kernel
  | 2, _ => decide +kernel
  | 3, _ => decide +kernel
  | 4, _ => decide +kernel
  | 5, _ => decide +kernel
  | 6, _ => decide +kernel
  | 7, _ => decide +kernel
  | 8, _ => decide +kernel
  | 9, _ => decide +kernel
  | 10, _ => decide +kernel
theorem am_ty_all : ∀ c, c < 12 → ∀ k, k < am_nf c → am_ty c k = .int ∨ am_ty c k = .boolean ∨ am_ty c k = .byte ∨ (am_isr c k = true ∧ defaultValue (am_ty c k) = .null ∧ (∀ a, narrow (am_ty c k) (.ref a) = .ref a ∧ fits (am_ty c k) (.ref a) = true) ∧ narrow (am_ty c k) .null = .null ∧ fits (am_ty c k) .null = true) := by
  have key : ∀ t : FieldType, ((∃ n, t = .object n) ∨ ∃ e, t = .array e) → defaultValue t = .null ∧ (∀ a, narrow t (.ref a) = .ref a ∧ fits t (.ref a) = true) ∧ narrow t .null = .null ∧ fits t .null = true := by
    rintro t (⟨n, rfl⟩ | ⟨e, rfl⟩) <;> exact ⟨rfl, fun a => ⟨rfl, rfl⟩, rfl, rfl⟩
  have h2 : ∀ c, c < 12 → ∀ k, k < am_nf c → am_ty c k = .int ∨ am_ty c k = .boolean ∨ am_ty c k = .byte ∨ am_isr c k = true := by decide +kernel
  intro c hc k hk
  rcases h2 c hc k hk with h | h | h | h
  · exact Or.inl h
  · exact Or.inr (Or.inl h)
  · exact Or.inr (Or.inr (Or.inl h))
  · refine Or.inr (Or.inr (Or.inr ⟨h, key _ ?_⟩))
    have h3 : ∀ c, c < 12 → ∀ k, k < am_nf c → am_ty c k = .int ∨ am_ty c k = .boolean ∨ am_ty c k = .byte ∨ (match am_ty c k with | .object _ => true | .array _ => true | _ => false) = true := by decide +kernel
    rcases h3 c hc k hk with z | z | z | z
    · unfold am_isr at h; rw [z] at h; cases h
    · unfold am_isr at h; rw [z] at h; cases h
    · unfold am_isr at h; rw [z] at h; cases h
    · cases e : am_ty c k <;> rw [e] at z <;> first | exact Or.inl ⟨_, rfl⟩ | exact Or.inr ⟨_, rfl⟩ | cases z
theorem am_sl_lt : ∀ q ∈ am_sl_, q.2.2 < 1000000 := by decide +kernel
def am_mmn (k : Nat) : MethodName := match k with
  | 0 => ⟨"java/lang/Math", "max", "(II)I"⟩
  | 1 => ⟨"java/lang/Math", "min", "(II)I"⟩
  | 2 => ⟨"java/lang/Math", "max", "(JJ)J"⟩
  | _ => ⟨"java/lang/Math", "min", "(JJ)J"⟩
theorem am_mm_ok : ∀ q ∈ am_mm_, Cond.methodLink (am_cn q.1) q.2.1 (am_mmn q.2.2) ∈ lw_tbl := by decide +kernel

/-! THE SETUP TEXT: statements -/
def g0 (n : Nat) : gD := ((n, 0, 0), (fun _ => 0), (fun _ => 0), (fun _ => 0), (fun _ => 0), (fun _ => -nI 1), none)
def gLdS (g : gD) (v w : Nat) : gD := (g.1, g.2.1, g.2.2.1, g.2.2.2.1, setN (gLd g) v w, g.2.2.2.2.2.1, g.2.2.2.2.2.2)
def gCsS (g : gD) (cs : List Int) : gD := (g.1, g.2.1, g.2.2.1, g.2.2.2.1, g.2.2.2.2.1, g.2.2.2.2.2.1, some cs)
/-- behind a statement: the place, the graph so far, the vertices with a load -/
abbrev pS : Type := Nat × gD × Nat
abbrev pY : Type := pE ⊕ pS
def pTerS (t : tX) (q p : Nat) (g : gD) (L : Nat) : pY := if 5 ≤ pcn (gT g) then .inl (5, q) else match pNum t p 0 (gN g - 1) with
  | .inl e => .inl e
  | .inr a => if (gT g).testBit a.1 = true then .inl (4, a.2) else .inr (te t a.2, gOn g a.1, L)
def pEdS (t : tX) (q p : Nat) (g : gD) (L : Nat) : pY := if 20 ≤ gM g then .inl (5, q) else match pNum t p 0 (gN g - 1) with
  | .inl e => .inl e
  | .inr a => match pNum t (te t a.2) 0 (gN g - 1) with
    | .inl e => .inl e
    | .inr b => if a.1 = b.1 ∨ joins (gM g) (gLo g) (gHi g) a.1 b.1 = true then .inl (4, b.2) else match pNum t (te t b.2) 1 99 with
      | .inl e => .inl e
      | .inr c => .inr (te t c.2, gAdd g a.1 b.1 c.1, L)
def pLdS (t : tX) (p : Nat) (g : gD) (L : Nat) : pY := match pNum t p 0 (gN g - 1) with
  | .inl e => .inl e
  | .inr a => if L.testBit a.1 = true then .inl (4, a.2) else match pNum t (te t a.2) 0 99 with
    | .inl e => .inl e
    | .inr b => .inr (te t b.2, gLdS g a.1 b.1, L ||| 2 ^ a.1)
def pCoS (t : tX) (q p : Nat) (g : gD) (L : Nat) : pY := if (gCs g).isSome = true then .inl (2, q) else match pSum t 4 p [] with
  | .inl e => .inl e
  | .inr a => .inr (a.1, gCsS g a.2, L)
def pStm (t : tX) (p : Nat) (g : gD) (L : Nat) : pY :=
  if wIs t (sk t p) 1 = true then pTerS t (sk t p) (te t (sk t p)) g L
  else if wIs t (sk t p) 2 = true then pEdS t (sk t p) (te t (sk t p)) g L
  else if wIs t (sk t p) 3 = true then pLdS t (te t (sk t p)) g L
  else if wIs t (sk t p) 4 = true then pCoS t (sk t p) (te t (sk t p)) g L
  else .inl (2, sk t p)
/-- a statement and its sign -/
def pStS (t : tX) (p : Nat) (g : gD) (L : Nat) : pY := match pStm t p g L with
  | .inl e => .inl e
  | .inr s => match pSym t 59 s.1 with
    | .inl e => .inl e
    | .inr q => .inr (q, s.2)
def pStms (t : tX) : Nat → Nat → gD → Nat → pY
  | 0, p, g, L => .inr (p, g, L)
  | k + 1, p, g, L => if t.1 ≤ sk t p then .inr (p, g, L) else match pStS t p g L with
    | .inl e => .inl e
    | .inr s => pStms t k s.1 s.2.1 s.2.2
def pHead (t : tX) : pE ⊕ (Nat × Nat) := if wIs t (sk t 0) 0 = true then (match pNum t (te t (sk t 0)) 2 9 with
  | .inl e => .inl e
  | .inr a => match pSym t 59 (te t a.2) with
    | .inl e => .inl e
    | .inr p => .inr (a.1, p)) else .inl (2, sk t 0)
def pText (t : tX) : pY := match pHead t with
  | .inl e => .inl e
  | .inr a => pStms t t.1 a.2 (g0 a.1) 0
def gFin (g : gD) : gD := gL g (fun v => if (gT g).testBit v = true then nI v else -nI 1)
/-- what a graph read so far is like -/
def pwf (p : Nat) (g : gD) (L : Nat) : Prop := gwf g ∧ 2 ≤ gN g ∧ (∀ v, gLd g v ≤ 99) ∧ L < 2 ^ gN g ∧ 7 ≤ p ∧ ∀ cs, gCs g = some cs → cs.length + 11 ≤ p
theorem pNum_r {t : tX} {p lo hi : Nat} {a : Nat × Nat} (hp : p ≤ t.1) (h : pNum t p lo hi = .inr a) : a = (num t (sk t p), sk t p) ∧ dgAt t (sk t p) = true ∧ lo ≤ a.1 ∧ a.1 ≤ hi ∧ p ≤ a.2 ∧ a.2 < te t a.2 ∧ te t a.2 ≤ t.1 := by
  unfold pNum at h
  split at h
  · rename_i z
    split at h
    · rename_i y
      cases h
      exact ⟨rfl, z, y.1, y.2, sk_ge _ _, te_dg_gt z, te_len (sk_len hp)⟩
    · cases h
  · cases h
theorem pSym_r {t : tX} {p c q : Nat} (h : pSym t c p = .inr q) : isC t (sk t p) c = true ∧ q = sk t p + 1 ∧ p < q ∧ q ≤ t.1 := by
  unfold pSym at h
  split at h
  · rename_i z
    cases h
    have := isC_lt z
    have := sk_ge t p
    exact ⟨z, rfl, by omega, by omega⟩
  · cases h
theorem gwf_on {g : gD} (h : gwf g) {v : Nat} (hv : v < gN g) : gwf (gOn g v) := ⟨⟨h.1.1, h.1.2.1, Nat.or_lt_two_pow h.1.2.2 (Nat.pow_lt_pow_right (by decide) hv)⟩, h.2⟩
theorem gwf_add {g : gD} (h : gwf g) {u v w : Nat} (hu : u < gN g) (hv : v < gN g) (huv : u ≠ v) (hw : 1 ≤ w ∧ w ≤ 99) (hm : gM g < 20) : gwf (gAdd g u v w) := by
  obtain ⟨⟨h1, h2, h3⟩, h4, h5, h6, h7⟩ := h
  refine ⟨⟨h1, hm, h3⟩, fun e he => ?_, fun e he => ?_, h6, h7⟩
  · have he : e < gM g + 1 := he
    show setN (gLo g) (gM g) (Nat.min u v) e < setN (gHi g) (gM g) (Nat.max u v) e ∧ setN (gHi g) (gM g) (Nat.max u v) e < gN g
    unfold setN
    by_cases z : e = gM g
    · rw [if_pos z, if_pos z]
      show min u v < max u v ∧ max u v < gN g
      omega
    · rw [if_neg z, if_neg z]
      exact h4 e (by omega)
  · have he : e < gM g + 1 := he
    show 1 ≤ setN (gWt g) (gM g) w e ∧ setN (gWt g) (gM g) w e ≤ 99
    unfold setN
    by_cases z : e = gM g
    · rw [if_pos z]; exact hw
    · rw [if_neg z]
      exact h5 e (by omega)
theorem gwf_ld {g : gD} (h : gwf g) {v w : Nat} (hw : w ≤ 99) : gwf (gLdS g v w) := by
  obtain ⟨h1, h4, h5, h6, h7⟩ := h
  refine ⟨h1, h4, h5, fun k hk => ?_, h7⟩
  show setN (gLd g) v w k ≤ 99
  unfold setN
  split
  · exact hw
  · exact h6 k hk
theorem gwf_cs {g : gD} (h : gwf g) {cs : List Int} (h1 : foOk cs 0 1) (h2 : cs.length < 700) : gwf (gCsS g cs) := ⟨h.1, h.2.1, h.2.2.1, h.2.2.2.1, fun c e => by cases e; exact ⟨h1, h2⟩⟩
/-- the codes of a cost -/
theorem pSum_ok {t : tX} {p p' : Nat} {cs : List Int} (hp : p ≤ t.1) (h : pSum t 4 p [] = .inr (p', cs)) : p < p' ∧ p' ≤ t.1 ∧ foOk cs 0 1 ∧ cs.length ≤ p' - p := by
  obtain ⟨a, b, ds, c, d, e⟩ := pGood_sum t 4 (Nat.le_refl _) p [] p' cs hp h
  rw [List.nil_append] at c
  subst c
  have := e 0 [] 1 (Nat.zero_le _) rfl
  rw [List.append_nil] at this
  exact ⟨a, b, this, d⟩
theorem pStm_wf {t : tX} {p : Nat} {g : gD} {L : Nat} {s : pS} (hp : p ≤ t.1) (h7 : t.1 ≤ 700) (w : pwf p g L) (h : pStm t p g L = .inr s) : pwf s.1 s.2.1 s.2.2 ∧ p < s.1 ∧ s.1 ≤ t.1 := by
  obtain ⟨w1, w2, w3, w4, w5, w6⟩ := w
  have g1 := sk_ge t p
  have g2 := te_len (sk_len hp)
  unfold pStm at h
  split at h
  · rename_i z
    have e := wIs_te (by decide) z
    have : wLen 1 = 8 := by decide
    unfold pTerS at h
    split at h
    · cases h
    · split at h
      · cases h
      · rename_i a ha
        obtain ⟨r1, r2, r3, r4, r5, r6, r7⟩ := pNum_r g2 ha
        split at h
        · cases h
        · cases h
          refine ⟨⟨gwf_on w1 (by omega), w2, w3, w4, by omega, fun cs hc => ?_⟩, by omega, r7⟩
          have := w6 cs hc
          show cs.length + 11 ≤ te t a.2
          omega
  · split at h
    · rename_i z
      have e := wIs_te (by decide) z
      have : wLen 2 = 4 := by decide
      unfold pEdS at h
      split at h
      · cases h
      · split at h
        · cases h
        · rename_i a ha
          obtain ⟨r1, r2, r3, r4, r5, r6, r7⟩ := pNum_r g2 ha
          split at h
          · cases h
          · rename_i b hb
            obtain ⟨s1, s2, s3, s4, s5, s6, s7⟩ := pNum_r r7 hb
            split at h
            · cases h
            · rename_i hj
              split at h
              · cases h
              · rename_i c hc
                obtain ⟨u1, u2, u3, u4, u5, u6, u7⟩ := pNum_r s7 hc
                cases h
                refine ⟨⟨gwf_add w1 (by omega) (by omega) (fun q => hj (Or.inl q)) ⟨u3, u4⟩ (by omega), w2, w3, w4, by omega, fun cs hc => ?_⟩, by omega, u7⟩
                have := w6 cs hc
                show cs.length + 11 ≤ te t c.2
                omega
    · split at h
      · rename_i z
        have e := wIs_te (by decide) z
        have : wLen 3 = 4 := by decide
        unfold pLdS at h
        split at h
        · cases h
        · rename_i a ha
          obtain ⟨r1, r2, r3, r4, r5, r6, r7⟩ := pNum_r g2 ha
          split at h
          · cases h
          · split at h
            · cases h
            · rename_i b hb
              obtain ⟨s1, s2, s3, s4, s5, s6, s7⟩ := pNum_r r7 hb
              cases h
              refine ⟨⟨gwf_ld w1 s4, w2, fun v => ?_, Nat.or_lt_two_pow w4 (Nat.pow_lt_pow_right (by decide) (show a.1 < gN g by omega)), by omega, fun cs hc => ?_⟩, by omega, s7⟩
              · show setN (gLd g) a.1 b.1 v ≤ 99
                unfold setN
                split
                · exact s4
                · exact w3 v
              · have := w6 cs hc
                show cs.length + 11 ≤ te t b.2
                omega
      · split at h
        · rename_i z
          have e := wIs_te (by decide) z
          have : wLen 4 = 4 := by decide
          unfold pCoS at h
          split at h
          · cases h
          · split at h
            · cases h
            · rename_i a ha
              obtain ⟨r1, r2, r3, r4⟩ := pSum_ok g2 (p' := a.1) (cs := a.2) ha
              cases h
              refine ⟨⟨gwf_cs w1 r3 (by omega), w2, w3, w4, by omega, fun cs hc => ?_⟩, by omega, r2⟩
              cases hc
              show a.2.length + 11 ≤ a.1
              omega
        · cases h
theorem pStS_wf {t : tX} {p : Nat} {g : gD} {L : Nat} {s : pS} (hp : p ≤ t.1) (h7 : t.1 ≤ 700) (w : pwf p g L) (h : pStS t p g L = .inr s) : pwf s.1 s.2.1 s.2.2 ∧ p < s.1 ∧ s.1 ≤ t.1 := by
  unfold pStS at h
  split at h
  · cases h
  · rename_i s1 h1
    obtain ⟨⟨a1, a2, a3, a4, a5, a6⟩, b, c⟩ := pStm_wf hp h7 w h1
    split at h
    · cases h
    · rename_i q hq
      obtain ⟨q1, q2, q3, q4⟩ := pSym_r hq
      cases h
      refine ⟨⟨a1, a2, a3, a4, ?_, fun cs hc => ?_⟩, ?_, q4⟩
      · show 7 ≤ q
        omega
      · have := a6 cs hc
        show cs.length + 11 ≤ q
        omega
      · show p < q
        omega
theorem pStms_wf {t : tX} (h7 : t.1 ≤ 700) : ∀ n p g L s, p ≤ t.1 → pwf p g L → pStms t n p g L = .inr s → pwf s.1 s.2.1 s.2.2 ∧ s.1 ≤ t.1
  | 0, p, g, L, s, hp, w, h => by
    cases h
    exact ⟨w, hp⟩
  | n + 1, p, g, L, s, hp, w, h => by
    unfold pStms at h
    split at h
    · cases h
      exact ⟨w, hp⟩
    · split at h
      · cases h
      · rename_i s1 h1
        obtain ⟨a, b, c⟩ := pStS_wf hp h7 w h1
        exact pStms_wf h7 n _ _ _ _ c a h
theorem pwf_0 {n p : Nat} (h2 : 2 ≤ n) (h9 : n ≤ 9) (hp : 7 ≤ p) : pwf p (g0 n) 0 := ⟨⟨⟨h9, Nat.zero_le _, Nat.two_pow_pos _⟩, fun e he => absurd he (Nat.not_lt_zero _), fun e he => absurd he (Nat.not_lt_zero _), fun _ _ => Nat.zero_le _, fun cs h => by cases h⟩, h2, fun _ => Nat.zero_le _, Nat.two_pow_pos _, hp, fun cs h => by cases h⟩
theorem pHead_wf {t : tX} {a : Nat × Nat} (h : pHead t = .inr a) : pwf a.2 (g0 a.1) 0 ∧ a.2 ≤ t.1 := by
  unfold pHead at h
  split at h
  · rename_i z
    have e := wIs_te (by decide) z
    have : wLen 0 = 5 := by decide
    have g2 := te_len (sk_len (t := t) (Nat.zero_le _))
    split at h
    · cases h
    · rename_i b hb
      obtain ⟨r1, r2, r3, r4, r5, r6, r7⟩ := pNum_r g2 hb
      split at h
      · cases h
      · rename_i q hq
        obtain ⟨q1, q2, q3, q4⟩ := pSym_r hq
        cases h
        exact ⟨pwf_0 r3 r4 (by show 7 ≤ q; omega), q4⟩
  · cases h
def ncs (g : gD) : Nat := match gCs g with
  | none => 0
  | some cs => cs.length
theorem gwf_fin {g : gD} (h : gwf g) : gwf (gFin g) := h
theorem pText_wf {t : tX} (h7 : t.1 ≤ 700) {s : pS} (h : pText t = .inr s) : gwf (gFin s.2.1) ∧ ncs (gFin s.2.1) ≤ 690 := by
  unfold pText at h
  split at h
  · cases h
  · rename_i a ha
    obtain ⟨b, c⟩ := pHead_wf ha
    obtain ⟨⟨a1, a2, a3, a4, a5, a6⟩, hs⟩ := pStms_wf h7 _ _ _ _ _ c b h
    refine ⟨gwf_fin a1, ?_⟩
    show ncs (gFin s.2.1) ≤ 690
    unfold ncs
    rw [show gCs (gFin s.2.1) = gCs s.2.1 from rfl]
    cases e : gCs s.2.1 with
    | none => exact Nat.zero_le _
    | some cs =>
      have := a6 cs e
      show cs.length ≤ 690
      omega

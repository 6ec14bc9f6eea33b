/-! THE CLASS'S QUESTIONS -/
theorem k13 {h : am_H} (hs : sh h) : am_k h (am_r h 1 3) = (1, 2) := by rw [sr_1_3 hs]; exact sk_3 hs
theorem k14 {h : am_H} (hs : sh h) : am_k h (am_r h 1 4) = (1, 4) := by rw [sr_1_4 hs]; exact sk_10 hs
theorem k15 {h : am_H} (hs : sh h) : am_k h (am_r h 1 5) = (1, 7) := by rw [sr_1_5 hs]; exact sk_68 hs
theorem k16 {h : am_H} (hs : sh h) : am_k h (am_r h 1 6) = (1, 3) := by rw [sr_1_6 hs]; exact sk_78 hs
theorem k17 {h : am_H} (hs : sh h) : am_k h (am_r h 1 7) = (1, 0) := by rw [sr_1_7 hs]; exact sk_80 hs
theorem k18 {h : am_H} (hs : sh h) : am_k h (am_r h 1 8) = (1, 6) := by rw [sr_1_8 hs]; exact sk_83 hs
theorem k19 {h : am_H} (hs : sh h) : am_k h (am_r h 1 9) = (1, 5) := by rw [sr_1_9 hs]; exact sk_86 hs
theorem vin_nI {n k : Nat} (hk : k < n) (hn : n < 1000) : vin n (nI k) = true := q_range hk hn
def gCC (g : gD) (S : Nat) : Nat := cutc (gM g) (gLo g) (gHi g) (gCo g) S
noncomputable def gIV (g : gD) (t : Nat) : Nat := isv (gN g) (gM g) (gT g) (gLo g) (gHi g) (gCo g) t
noncomputable def gIS (g : gD) (t : Nat) : Nat := iso (gN g) (gCC g) (gT g) t
def sBurden (g : gD) (v : Int32) : Nat × Int32 := if vin (gN g) v = true then (0, nI (gLd g v.toNatClampNeg)) else (1, 0)
def sLabel (g : gD) (v : Int32) : Nat × Int32 := if vin (gN g) v = true then (0, gLab g v.toNatClampNeg) else (1, 0)
def sEdge (g : gD) (e w : Int32) : Nat × Int32 := if vin (gM g) e = true then (if w = nI 0 then (0, nI (gLo g e.toNatClampNeg)) else if w = nI 1 then (0, nI (gHi g e.toNatClampNeg)) else if w = nI 2 then (0, nI (gWt g e.toNatClampNeg)) else if w = nI 3 then (0, nI (gCo g e.toNatClampNeg)) else if w = nI 4 then (0, nI (10000 / gCo g e.toNatClampNeg)) else (2, 0)) else (1, 0)
def sCutCost (g : gD) (s : Int32) : Nat × Int32 := if vin (2 ^ gN g) s = true then (0, nI (gCC g s.toNatClampNeg)) else (1, 0)
def sSep (g : gD) (s : Int32) : Nat × Int32 := if vin (2 ^ gM g) s = true then (0, bI (kap (gN g) (gM g) (gT g) (gLo g) (gHi g) s.toNatClampNeg)) else (1, 0)
noncomputable def sIsoV (g : gD) (t : Int32) : Nat × Int32 := if isT (gN g) (gT g) t = true then (0, nI (gIV g t.toNatClampNeg)) else (1, 0)
noncomputable def sIsoS (g : gD) (t : Int32) : Nat × Int32 := if isT (gN g) (gT g) t = true then (0, nI (gIS g t.toNatClampNeg)) else (1, 0)
noncomputable def gSum (g : gD) (v : Nat) : Nat := fb_sm (fun v => if (gT g).testBit v then gIV g v else 0) v
noncomputable def sLow (g : gD) : Int32 := nI ((gSum g (gN g) + 1) / 2)
noncomputable def gDe (g : gD) : Option Nat := dea (gIV g) (gT g) (gN g)
noncomputable def sDear (g : gD) : Nat × Int32 := if gT g = 0 then (1, 0) else (0, oI (gDe g))
noncomputable def gUn (g : gD) : Nat := cutm (uniB (gN g) (gLo g) (gHi g) (gIS g) (gT g) (gDe g)) (gM g)
noncomputable def sUni (g : gD) : Nat × Int32 := if gT g = 0 then (1, 0) else (0, nI (gUn g))
noncomputable def sUniC (g : gD) : Nat × Int32 := if gT g = 0 then (1, 0) else (0, nI (sumE (gCo g) (gUn g).testBit (gM g)))
noncomputable def gR (g : gD) : Nat := Classical.epsilon (isR (gN g) (gT g) (gCC g))
theorem gR_eq {g : gD} {R : Nat} (h : isR (gN g) (gT g) (gCC g) R) : gR g = R := isR.one (Classical.epsilon_spec ⟨R, h⟩) h
noncomputable def sFixed (g : gD) (v : Int32) : Nat × Int32 := if vin (gN g) v = true then (0, oI (fnd (fun t => (grs (gN g) (gT g) (gCC g) (gR g) t).testBit v.toNatClampNeg) 9)) else (1, 0)
noncomputable def exA (g : gD) (T : Nat) : Nat → Nat := Classical.epsilon (isx (gN g) (gM g) T (gLo g) (gHi g) (gCo g))
noncomputable def eC (g : gD) (T : Nat) : Nat := if T = 0 then 0 else acost (gM g) (gLo g) (gHi g) (gCo g) (exA g T) (gN g)
noncomputable def eL (g : gD) (T w : Nat) : Int32 := if T = 0 then -nI 1 else nI (exA g T w)
theorem exA_eq {g : gD} {T : Nat} {A : Nat → Nat} (h : isx (gN g) (gM g) T (gLo g) (gHi g) (gCo g) A) : lag (gN g) A (exA g T) := isx.one h (Classical.epsilon_spec ⟨A, h⟩)
theorem exr_eq {h : am_H} {g : gD} {T : Nat} (hw : ∀ e, e < gM g → gLo g e < gHi g e ∧ gHi g e < gN g) (r : exr h (gN g) (gM g) T (gLo g) (gHi g) (gCo g)) : am_i h 80 1 = nI (eC g T) ∧ ∀ w, w < gN g → am_i h 81 w = eL g T w := by
  unfold eC eL
  rcases r with ⟨r1, r2, r3⟩ | ⟨r1, A, r2, r3, r4⟩
  · rw [if_pos r1]
    exact ⟨r2, fun w hw9 => by rw [if_pos r1]; exact r3 w hw9⟩
  · rw [if_neg r1]
    have l := exA_eq r2
    exact ⟨by rw [r3, acost_ag hw l], fun w hw9 => by rw [if_neg r1, r4 w hw9, l w hw9]⟩
noncomputable def sEx (g : gD) (v : Int32) : Nat × Int32 := if vin (gN g) v = true then (0, eL g (gT g) v.toNatClampNeg) else (1, 0)
noncomputable def sPrice (g : gD) (t : Int32) : Nat × Int32 := if isT (gN g) (gT g) t = true then (0, nI (eC g (gT g)) - nI (eC g (andn (gT g) (2 ^ t.toNatClampNeg)))) else (1, 0)
noncomputable def gNe (g : gD) : Nat → Option (Nat × Nat) := ners (gM g) (gT g) (gLo g) (gHi g) (gCo g) (gN g - 1)
noncomputable def sNear (g : gD) (v : Int32) : Nat × Int32 := if vin (gN g) v = true then (0, oG (gNe g v.toNatClampNeg)) else (1, 0)
noncomputable def sDist (g : gD) (v : Int32) : Nat × Int32 := if vin (gN g) v = true then (0, oL (gNe g v.toNatClampNeg)) else (1, 0)
def gCost (g : gD) : Nat := sumE (gCo g) (dif (gLo g) (gHi g) (gLab g)) (gM g)
def sCut (g : gD) : Int32 := nI (cutm (dif (gLo g) (gHi g) (gLab g)) (gM g))
def gMv (g : gD) : mvT := mva (gN g) (gM g) (gT g) (gLo g) (gHi g) (gCo g) (gLab g) (gN g)
def sMove (g : gD) (w : Int32) : Nat × Int32 := if w = nI 0 then (0, oV1 (gMv g)) else if w = nI 1 then (0, oT1 (gMv g)) else if w = nI 2 then (0, oC1 (gMv g)) else (1, 0)
section
variable {xs : am_X} {d : Nat} {h : am_H} {st : stD} {Q : am_Q}
set_option maxHeartbeats 4000000 in
theorem k_terminals (hd : 1 ≤ d) (I : CI h st) (HQ : ∀ h', CI h' st → clF h h' → Q (.inl (some (.int (nI (gT st.1))))) h') : am_C xs am_P0 d m_Mc_terminals [.ref 1] h Q := by
  have e : am_i h (am_r h 1 3) 2 = nI (gT st.1) := by rw [sr_1_3 I.1]; exact I.2.1.1.2.1.2.2
  refine am_C_le hd (am_enter (d := 0) ap_Mc_terminals rfl ?_) (fun _ _ k => k)
  refine am_go (fun _ => false) (fun K cal Q' hK hC hQ => ?_)
  refine And.intro (sk_1 I.1) (And.intro (k13 I.1) (And.intro trivial (hQ _ _ ?_)))
  rw [show am_i h (am_r h 1 (515 % 64)) (130 % 64) = _ from e]
  exact HQ h I clF.rf
end

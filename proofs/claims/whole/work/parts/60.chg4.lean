/-! THE CLASS'S CHANGES, 4: addEdge, setTerminal, append -/
section
variable {xs : am_X} {d : Nat} {h : am_H} {st : stD} {Q : am_Q}
/-- addEdge: its code -/
def sAdd (g : gD) (a b w : Int32) : Nat := if vin (gN g) a = true ∧ vin (gN g) b = true then (if a ≠ b ∧ decide (nI 1 ≤ w ∧ w ≤ nI 99) = true then (if gM g < 20 ∧ joins (gM g) (gLo g) (gHi g) a.toNatClampNeg b.toNatClampNeg = false then 0 else 3) else 2) else 1
set_option maxHeartbeats 8000000 in
theorem k_addEdge (hd : 4 ≤ d) (I : CI h st) (hN : topN h) (a b w : Int32) (HX : ∀ k h', sAdd st.1 a b w = k → k ≠ 0 → CI h' st → clF h h' → Q (aR 2 1 3 (k, 0)) h')
    (HQ : ∀ h' u v j, a = nI u → b = nI v → u < gN st.1 → v < gN st.1 → w = nI j → sAdd st.1 a b w = 0 → CI h' (stC st (gAdd st.1 u v j)) → clF h h' → Q (.inl (some (.int (nI (gM st.1))))) h') : am_C xs am_P0 d m_Mc_addEdge [.ref 1, .int a, .int b, .int w] h Q := by
  have hm := I.2.1.1.2.2.2.1.2.1
  have hn := I.2.1.1.2.2.2.1.1
  refine am_C_le hd (am_enter (d := 3) ap_Mc_addEdge rfl ?_) (fun _ _ k => k)
  refine am_go (fun _ => false) (fun K cal Q' hK hC hQ => ?_)
  refine And.intro (sk_1 I.1) (hC _ _ _ _ (c_requireVertex (by decide) I hN a (fun u u1 u2 => ?_) (fun z => hQ _ _ (HX 1 _ (by unfold sAdd; rw [if_neg (fun q => by rw [z] at q; cases q.1)]) (by decide) I.thr.1 I.thr.2))))
  subst u2
  refine And.intro (sk_1 I.1) (hC _ _ _ _ (c_requireVertex (by decide) I hN b (fun v v1 v2 => ?_) (fun z => hQ _ _ (HX 1 _ (by unfold sAdd; rw [if_neg (fun q => by rw [z] at q; cases q.2)]) (by decide) I.thr.1 I.thr.2))))
  subst v2
  have hvv : vin (gN st.1) (nI u) = true ∧ vin (gN st.1) (nI v) = true := ⟨vin_nI u1 (by omega), vin_nI v1 (by omega)⟩
  refine And.intro (fun z => ?_) (fun z => ?_)
  rotate_left
  · have z : nI u = nI v := Classical.not_not.mp z
    exact And.intro (top_lt hN) (hQ _ _ (HX 2 _ (by unfold sAdd; rw [if_pos hvv, if_neg (fun q => q.1 z)]) (by decide) I.thr.1 I.thr.2))
  have z : nI u ≠ nI v := z
  have huv : u ≠ v := fun q => z (congrArg nI q)
  refine And.intro (sk_1 I.1) (hC _ _ _ _ (c_requireWeight (by decide) hN w (fun j j1 j2 j3 => ?_) (fun q => hQ _ _ (HX 2 _ (by unfold sAdd; rw [if_pos hvv, if_neg (fun y => by rw [q] at y; cases y.2)]) (by decide) I.thr.1 I.thr.2))))
  subst j3
  have hw9 : nI u ≠ nI v ∧ decide (nI 1 ≤ nI j ∧ nI j ≤ nI 99) = true := ⟨z, decide_eq_true ⟨nI_le j1 (by omega), nI_le j2 (by omega)⟩⟩
  have eM : am_i h (am_r h 1 3) 1 = nI (gM st.1) := by rw [sr_1_3 I.1]; exact I.2.1.1.2.1.2.1
  have no : ¬ (gM st.1 < 20 ∧ joins (gM st.1) (gLo st.1) (gHi st.1) u v = false) → Q (.inr 3) (am_thr h) := fun q => HX 3 _ (by unfold sAdd; rw [if_pos hvv, if_pos hw9, if_neg (by rw [q_cl (by omega), q_cl (by omega)]; exact q)]) (by decide) I.thr.1 I.thr.2
  refine And.intro (sk_1 I.1) (And.intro (k13 I.1) (And.intro (fun c => ?_) (fun c => ?_)))
  · have c : nI 20 ≤ nI (gM st.1) := by rw [← eM]; exact c
    have c := (nI_leI (by omega) (by omega)).mp c
    exact And.intro (top_lt hN) (hQ _ _ (no fun q => by omega))
  have c : ¬ nI 20 ≤ nI (gM st.1) := by rw [← eM]; exact c
  have c : gM st.1 < 20 := Nat.not_le.mp fun q => c (nI_le q (by omega))
  refine And.intro (sk_1 I.1) (And.intro (k13 I.1) ?_)
  show cal 23 [.ref (am_r h 1 3), .int (nI u), .int (nI v)] h _
  rw [sr_1_3 I.1]
  refine hC _ _ _ _ (c_hasEdgeBetween (by decide) I.2.1.1 (by omega) (by omega) huv ?_)
  cases hj : joins (gM st.1) (gLo st.1) (gHi st.1) u v with
  | true => exact And.intro (fun q => absurd q q_t1) (fun _ => And.intro (top_lt hN) (hQ _ _ (no fun q => by rw [hj] at q; cases q.2)))
  | false =>
    have code : sAdd st.1 (nI u) (nI v) (nI j) = 0 := by unfold sAdd; rw [if_pos hvv, if_pos hw9, if_pos (by rw [q_cl (by omega), q_cl (by omega)]; exact ⟨c, hj⟩)]
    refine And.intro (fun _ => ?_) (fun q => absurd rfl q)
    refine And.intro (sk_1 I.1) (And.intro (sk_1 I.1) (And.intro (k14 I.1) ?_))
    show cal 43 [.ref (am_r h 1 4), .ref (am_r h 1 3)] h _
    rw [sr_1_3 I.1, sr_1_4 I.1]
    refine hC _ _ _ _ (c_save (by decide) I.1 I.2.1 I.2.2.1 (fun h1 cc p hh => ?_))
    refine And.intro (sk_1 cc.1) (And.intro (k13 cc.1) ?_)
    show cal 26 [.ref (am_r h1 1 3), .int (nI u), .int (nI v), .int (nI j)] h1 _
    rw [sr_1_3 cc.1]
    obtain ⟨wf1, wf2, wf3, wf4, wf5⟩ := p.2.2.2.2.2.2
    refine hC _ _ _ _ (c_putEdge (by decide) (gs_3 cc.1) p.1.2.1.2.1 c (by omega) (by omega) (fun h2 s2 a2 l2 r2 t2 => ?_))
    have hs2 := s2.sh cc.1
    have w2 : wok h1 [3, 3 + 3, 3 + 4, 3 + 5] := fun x hx => Or.inl (by simp at hx; omega)
    have f2 : gfo h2 3 (gCs st.1) := p.2.2.2.2.2.1.mvW s2 w2
    have eM2 : am_i h2 3 1 = nI (gM st.1 + 1) := by rw [a2, if_pos rfl]
    have L2 : ∀ x, x < gN st.1 → am_i h2 4 x = nI (gLd st.1 x) := fun x hx => (s2.i (by decide) x).trans (p.2.2.1 x hx)
    refine And.intro (sk_1 hs2) (And.intro (sk_1 hs2) (And.intro (k13 hs2) (And.intro (k13 hs2) ?_)))
    have ep : am_i h2 (am_r h2 1 3) 1 - nI 1 = nI (gM st.1) := by rw [sr_1_3 hs2, eM2]; exact nI_pred _
    show cal 27 [.ref (am_r h2 1 3), .int (am_i h2 (am_r h2 1 3) 1 - nI 1)] h2 _
    rw [ep, sr_1_3 hs2]
    have mnx : Nat.min u v < gN st.1 ∧ Nat.max u v < gN st.1 ∧ Nat.min u v < Nat.max u v := by
      show min u v < _ ∧ max u v < _ ∧ min u v < max u v
      omega
    refine hC _ _ _ _ (c_updateCost (lo := Nat.min u v) (hi := Nat.max u v) (w := j) (by decide) (by decide) (gs_3 hs2) f2 c (by rw [l2, if_pos rfl]) (by rw [r2, if_pos rfl]) (by rw [t2, if_pos rfl]) (L2 _ mnx.1) (L2 _ mnx.2.1) (by omega) (by omega) ⟨j1, j2⟩ (wf4 _ mnx.1) (wf4 _ mnx.2.1) (fun h3 s3 h9 => ?_))
    have w3' := wok_gfX f2
    have w3 : wok h1 (gfX h2 3 (gCs st.1)) := fun x hx => (w3' x hx).imp id fun ⟨F, N, q1, q2, q3⟩ => ⟨F, N, q1, q2, by rw [← s2.k]; exact q3⟩
    have s13 : sm ([3, 3 + 3, 3 + 4, 3 + 5] ++ gfX h2 3 (gCs st.1)) h1 h3 := (sm_app1 s2).tr (sm_app2 s3)
    have N : ∀ x, x ≠ 9 → x < 105 → ∀ q, am_i h3 x q = am_i h2 x q := fun x a b q => s3.i (gfX_3 f2 a b) q
    have sN : ∀ (f : Nat → Nat) x k, setN f (gM st.1) x k = if k = gM st.1 then x else f k := fun _ _ _ => rfl
    have ends : ∀ k, k < gM st.1 + 1 → (if k = gM st.1 then Nat.min u v else gLo st.1 k) < (if k = gM st.1 then Nat.max u v else gHi st.1 k) ∧ (if k = gM st.1 then Nat.max u v else gHi st.1 k) < gN st.1 := fun k hk => by
      by_cases q : k = gM st.1
      · rw [if_pos q, if_pos q]; exact ⟨mnx.2.2, mnx.2.1⟩
      · rw [if_neg q, if_neg q]; exact wf2 k (by omega)
    have p3 : cgp h3 3 (gAdd st.1 u v j) := by
      refine ⟨⟨gs_3 (s3.sh hs2), ⟨(N 3 (by decide) (by decide) 0).trans (by rw [a2, if_neg (by decide)]; exact p.1.2.1.1), (N 3 (by decide) (by decide) 1).trans eM2, (N 3 (by decide) (by decide) 2).trans (by rw [a2, if_neg (by decide)]; exact p.1.2.1.2.2)⟩, fun e he => ⟨?_, ?_⟩, ⟨wf1.1, by show gM st.1 + 1 ≤ 20; omega, wf1.2.2⟩, ends⟩, fun e he => ?_, fun v hv => (N 4 (by decide) (by decide) v).trans (L2 v hv), fun v hv => (N 5 (by decide) (by decide) v).trans ((s2.i (by decide) v).trans (p.2.2.2.1 v hv)), fun e he => ?_, f2.mvW s3 w3', ⟨⟨wf1.1, by show gM st.1 + 1 ≤ 20; omega, wf1.2.2⟩, ends, fun e he => ?_, wf4, wf5⟩⟩
      · have he : e < gM st.1 + 1 := he
        refine (N 6 (by decide) (by decide) e).trans ((l2 e).trans ?_)
        show _ = nI (if e = gM st.1 then Nat.min u v else gLo st.1 e)
        by_cases q : e = gM st.1
        · rw [if_pos q, if_pos q]
        · rw [if_neg q, if_neg q]; exact (p.1.2.2.1 e (by omega)).1
      · have he : e < gM st.1 + 1 := he
        refine (N 7 (by decide) (by decide) e).trans ((r2 e).trans ?_)
        show _ = nI (if e = gM st.1 then Nat.max u v else gHi st.1 e)
        by_cases q : e = gM st.1
        · rw [if_pos q, if_pos q]
        · rw [if_neg q, if_neg q]; exact (p.1.2.2.1 e (by omega)).2
      · have he : e < gM st.1 + 1 := he
        refine (N 8 (by decide) (by decide) e).trans ((t2 e).trans ?_)
        show _ = nI (if e = gM st.1 then j else gWt st.1 e)
        by_cases q : e = gM st.1
        · rw [if_pos q, if_pos q]
        · rw [if_neg q, if_neg q]; exact p.2.1 e (by omega)
      · have he : e < gM st.1 + 1 := he
        rw [h9]
        show _ = nI (coF (gCs st.1) (if e = gM st.1 then j else gWt st.1 e) (gLd st.1 (if e = gM st.1 then Nat.min u v else gLo st.1 e)) (gLd st.1 (if e = gM st.1 then Nat.max u v else gHi st.1 e)))
        by_cases q : e = gM st.1
        · rw [if_pos q, if_pos q, if_pos q, if_pos q]
        · rw [if_neg q, if_neg q, if_neg q, if_neg q]; exact (s2.i (by decide) e).trans (p.2.2.2.2.1 e (by omega))
      · have he : e < gM st.1 + 1 := he
        show 1 ≤ (if e = gM st.1 then j else gWt st.1 e) ∧ (if e = gM st.1 then j else gWt st.1 e) ≤ 99
        split
        · exact ⟨j1, j2⟩
        · exact wf3 e (by omega)
    obtain ⟨I', F⟩ := I.chW cc hh s13 (w2.app w3) p3
    have em3 : am_i h3 (am_r h3 1 3) 1 - nI 1 = nI (gM st.1) := by rw [sr_1_3 I'.1, show am_i h3 3 1 = nI (gM st.1 + 1) from p3.1.2.1.2.1]; exact nI_pred _
    refine And.intro (sk_1 I'.1) (And.intro (k13 I'.1) (And.intro trivial (hQ _ _ ?_)))
    rw [show am_i h3 (am_r h3 1 (515 % 64)) (129 % 64) - nI 1 = _ from em3]
    exact HQ h3 u v j rfl rfl u1 v1 rfl code I' F
end

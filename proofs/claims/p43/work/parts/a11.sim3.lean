/-- what is shown of a point of the walk -/
def am_PP (G : am_G) (p : Program) (l : Launch) (e : Env) (R : Room) (s : State) (m : MethodId) (args : Array Value) (below : List Frame) (meth : Method) (c : Code) (Q : State → Prop) (n0 s0 N1 C1 : Nat) : am_K := fun pc L S h =>
  am_n h ≤ N1 ∧ am_cs h ≤ C1 ∧ (n0 ≤ am_n h → s0 ≤ am_cs h → L.length = c.maxLocals → ∀ (H : Heap) (locs : List Loc) (ls : Array Slot), am_Rel G h H → va_S (am_A G) s.heap H locs → am_lh G ls L → W p l e R s m args below meth c H locs (am_n h - n0) (am_cs h - s0) Q (F0 m pc ls (S.map (am_v G))))
section
variable {G : am_G} {xs : am_X} {own kind : Nat} {cc : ByteArray} {ret : Option FieldType} {p : Program} {l : Launch} {e : Env} {R : Room} {s : State} {m : MethodId} {args : Array Value} {below : List Frame} {meth : Method} {c : Code} {Q : State → Prop} {n0 s0 N1 C1 : Nat} {pc nx : Nat} {op : Instr} {L S L' S' : List Value} {h : am_H} {cal : am_Cal} {hdl : Nat → Nat → Option (Nat × Nat)} {Qq : am_Q}
theorem am_inc_eq (x : Int32) (n : Int) : x + Int32.ofInt n = am_inc x n := by
  unfold am_inc
  cases n with
  | ofNat k => rfl
  | negSucc k =>
    show x + Int32.ofInt (Int.negSucc k) = x - Int32.ofNat (k + 1)
    rw [Int32.sub_eq_add_neg, Int.negSucc_eq, Int32.ofInt_neg]
    rfl
theorem am_ld {ls : Array Slot} {i : Nat} {v : Value} (hl : am_lh G ls L) (hi : L[i]? = some v) (hv : v ≠ am_J) : ls[i]? = some (.val (am_v G v)) := hl.2.2 i v hi hv
set_option maxHeartbeats 4000000 in
theorem am_lopW (E : am_Env G xs own kind cc p R s m args meth c) (ok : am_okb own kind cc ret pc op nx = true) (hop : am_lop op L S = some (some (L', S'))) (HS : am_PP G p l e R s m args below meth c Q n0 s0 N1 C1 nx L' S' h) : am_PP G p l e R s m args below meth c Q n0 s0 N1 C1 pc L S h := by
  obtain ⟨hx, hb, hown, hts, hsf, -⟩ := E
  refine ⟨HS.1, HS.2.1, fun q1 q2 q3 H locs ls hR hS hl => ?_⟩
  have K : ∀ ls', L'.length = c.maxLocals → am_lh G ls' L' → W p l e R s m args below meth c H locs (am_n h - n0) (am_cs h - s0) Q (F0 m nx ls' (S'.map (am_v G))) := fun ls' q hl' => HS.2.2 q1 q2 q H locs ls' hR hS hl'
  clear HS
  have len : ∀ {i : Nat} {v : Value}, L[i]? = some v → i < L.length := fun z => (List.getElem?_eq_some_iff.mp z).1
  cases op <;> first | (exfalso; simp only [am_lop] at hop; cases hop; done) | skip
  case iload i =>
    simp only [am_lop] at hop
    split at hop
    · rename_i x hi
      cases hop
      have hv := am_ld (G := G) hl hi (by simp)
      simp only [am_okb] at ok
      split at ok <;> (try (cases ok; done)) <;> simp only [Bool.and_eq_true, beq_iff_eq, decide_eq_true_eq] at ok
      · rename_i hd
        obtain ⟨rfl, rfl⟩ := ok
        exact lv_iload hx hb (am_dec_of hd) hv (K ls q3 hl)
      · rename_i hd
        obtain ⟨e1, rfl⟩ := ok
        exact lv_iload_n hx hb (am_dec_of hd) e1 hv (K ls q3 hl)
    · cases hop
  case aload i =>
    simp only [am_lop] at hop
    split at hop
    · rename_i x hi
      cases hop
      have hv := am_ld (G := G) hl hi (by simp)
      unfold am_v at hv
      dsimp only at hv
      have K := K ls q3 hl
      by_cases hx0 : x = 0
      · subst hx0
        rw [if_pos rfl] at hv
        simp only [am_okb] at ok
        split at ok <;> (try (cases ok; done)) <;> simp only [Bool.and_eq_true, beq_iff_eq, decide_eq_true_eq] at ok
        · rename_i hd
          obtain ⟨rfl, rfl⟩ := ok
          exact lv_aloadN hx hb (am_dec_of hd) hv K
        · rename_i hd
          obtain ⟨e1, rfl⟩ := ok
          exact lv_aload_nN hx hb (am_dec_of hd) e1 hv K
      · rw [if_neg hx0] at hv
        have K : W p l e R s m args below meth c H locs (am_n h - n0) (am_cs h - s0) Q (F0 m nx ls (.ref (am_ad G x) :: S.map (am_v G))) := by
          have e9 : (Value.ref x :: S).map (am_v G) = .ref (am_ad G x) :: S.map (am_v G) := by
            show am_v G (.ref x) :: _ = _
            unfold am_v
            dsimp only
            rw [if_neg hx0]
          rw [e9] at K
          exact K
        simp only [am_okb] at ok
        split at ok <;> (try (cases ok; done)) <;> simp only [Bool.and_eq_true, beq_iff_eq, decide_eq_true_eq] at ok
        · rename_i hd
          obtain ⟨rfl, rfl⟩ := ok
          exact lv_aload hx hb (am_dec_of hd) hv K
        · rename_i hd
          obtain ⟨e1, rfl⟩ := ok
          exact lv_aload_n hx hb (am_dec_of hd) e1 hv K
    · cases hop
  case lload i =>
    simp only [am_lop] at hop
    split at hop
    · rename_i x hi
      cases hop
      have hv := am_ld (G := G) hl hi (by simp)
      simp only [am_okb] at ok
      split at ok <;> (try (cases ok; done)) <;> simp only [Bool.and_eq_true, beq_iff_eq, decide_eq_true_eq] at ok
      · rename_i hd
        obtain ⟨rfl, rfl⟩ := ok
        exact lv_lload hx hb (am_dec_of hd) hv (K ls q3 hl)
      · rename_i hd
        obtain ⟨e1, rfl⟩ := ok
        exact lv_lload_n hx hb (am_dec_of hd) e1 hv (K ls q3 hl)
    · cases hop
  case fload i =>
    simp only [am_lop] at hop
    split at hop
    · rename_i x hi
      cases hop
      have hv := am_ld (G := G) hl hi (by simp)
      simp only [am_okb] at ok
      split at ok <;> (try (cases ok; done)) <;> simp only [Bool.and_eq_true, beq_iff_eq, decide_eq_true_eq] at ok
      · rename_i hd
        obtain ⟨rfl, rfl⟩ := ok
        exact lv_fload hx hb (am_dec_of hd) hv (K ls q3 hl)
      · rename_i hd
        obtain ⟨e1, rfl⟩ := ok
        exact lv_fload_n hx hb (am_dec_of hd) e1 hv (K ls q3 hl)
    · cases hop
  case dload i =>
    simp only [am_lop] at hop
    split at hop
    · rename_i x hi
      cases hop
      have hv := am_ld (G := G) hl hi (by simp)
      simp only [am_okb] at ok
      split at ok <;> (try (cases ok; done)) <;> simp only [Bool.and_eq_true, beq_iff_eq, decide_eq_true_eq] at ok
      · rename_i hd
        obtain ⟨rfl, rfl⟩ := ok
        exact lv_dload hx hb (am_dec_of hd) hv (K ls q3 hl)
      · rename_i hd
        obtain ⟨e1, rfl⟩ := ok
        exact lv_dload_n hx hb (am_dec_of hd) e1 hv (K ls q3 hl)
    · cases hop
  case istore i =>
    simp only [am_lop] at hop
    split at hop
    · rename_i x S0 w hi
      cases hop
      simp only [am_okb] at ok
      split at ok <;> (try (cases ok; done)) <;> simp only [Bool.and_eq_true, beq_iff_eq, decide_eq_true_eq] at ok
      · rename_i hd
        obtain ⟨rfl, rfl⟩ := ok
        exact lv_istore hx hb (am_dec_of hd) hl.has (len hi) rfl (fun ls' h' => K ls' ((am_set_len _ _ _).trans q3) (am_lh.store1 h'))
      · rename_i hd
        obtain ⟨e1, rfl⟩ := ok
        exact lv_istore_n hx hb (am_dec_of hd) e1 hl.has (len hi) rfl (fun ls' h' => K ls' ((am_set_len _ _ _).trans q3) (am_lh.store1 h'))
    · cases hop
  case fstore i =>
    simp only [am_lop] at hop
    split at hop
    · rename_i x S0 w hi
      cases hop
      simp only [am_okb] at ok
      split at ok <;> (try (cases ok; done)) <;> simp only [Bool.and_eq_true, beq_iff_eq, decide_eq_true_eq] at ok
      · rename_i hd
        obtain ⟨rfl, rfl⟩ := ok
        exact lv_fstore hx hb (am_dec_of hd) hl.has (len hi) rfl (fun ls' h' => K ls' ((am_set_len _ _ _).trans q3) (am_lh.store1 h'))
      · rename_i hd
        obtain ⟨e1, rfl⟩ := ok
        exact lv_fstore_n hx hb (am_dec_of hd) e1 hl.has (len hi) rfl (fun ls' h' => K ls' ((am_set_len _ _ _).trans q3) (am_lh.store1 h'))
    · cases hop
  case astore i =>
    simp only [am_lop] at hop
    split at hop
    · rename_i x S0 w hi
      cases hop
      have K2 : ∀ ls', lv_has ls' L.length ((i, am_v G (.ref x)) :: (am_as G L).filter (fun q => !(q.1 == i) && !(q.1 + 1 == i && q.2.category == 2))) → W p l e R s m args below meth c H locs (am_n h - n0) (am_cs h - s0) Q (F0 m nx ls' (S'.map (am_v G))) := fun ls' h' => K ls' ((am_set_len _ _ _).trans q3) (am_lh.store1 h')
      by_cases hx0 : x = 0
      · subst hx0
        simp only [am_okb] at ok
        split at ok <;> (try (cases ok; done)) <;> simp only [Bool.and_eq_true, beq_iff_eq, decide_eq_true_eq] at ok
        · rename_i hd
          obtain ⟨rfl, rfl⟩ := ok
          exact lv_astoreN hx hb (am_dec_of hd) hl.has (len hi) rfl K2
        · rename_i hd
          obtain ⟨e1, rfl⟩ := ok
          exact lv_astore_nN hx hb (am_dec_of hd) e1 hl.has (len hi) rfl K2
      · have e9 : am_v G (.ref x) = .ref (am_ad G x) := by
          unfold am_v
          dsimp only
          rw [if_neg hx0]
        rw [e9] at K2
        show W p l e R s m args below meth c H locs (am_n h - n0) (am_cs h - s0) Q (F0 m pc ls (am_v G (.ref x) :: S'.map (am_v G)))
        rw [e9]
        simp only [am_okb] at ok
        split at ok <;> (try (cases ok; done)) <;> simp only [Bool.and_eq_true, beq_iff_eq, decide_eq_true_eq] at ok
        · rename_i hd
          obtain ⟨rfl, rfl⟩ := ok
          exact lv_astore hx hb (am_dec_of hd) hl.has (len hi) rfl K2
        · rename_i hd
          obtain ⟨e1, rfl⟩ := ok
          exact lv_astore_n hx hb (am_dec_of hd) e1 hl.has (len hi) rfl K2
    · cases hop
  case lstore i =>
    simp only [am_lop] at hop
    split at hop
    · rename_i x S0 w hi
      cases hop
      simp only [am_okb] at ok
      split at ok <;> (try (cases ok; done)) <;> simp only [Bool.and_eq_true, beq_iff_eq, decide_eq_true_eq] at ok
      · rename_i hd
        obtain ⟨rfl, rfl⟩ := ok
        exact lv_lstore hx hb (am_dec_of hd) hl.has (len hi) rfl (fun ls' h' => K ls' (by unfold am_set2; simp [am_set_len, q3]) (am_lh.store2 h'))
      · rename_i hd
        obtain ⟨e1, rfl⟩ := ok
        exact lv_lstore_n hx hb (am_dec_of hd) e1 hl.has (len hi) rfl (fun ls' h' => K ls' (by unfold am_set2; simp [am_set_len, q3]) (am_lh.store2 h'))
    · cases hop
  case dstore i =>
    simp only [am_lop] at hop
    split at hop
    · rename_i x S0 w hi
      cases hop
      simp only [am_okb] at ok
      split at ok <;> (try (cases ok; done)) <;> simp only [Bool.and_eq_true, beq_iff_eq, decide_eq_true_eq] at ok
      · rename_i hd
        obtain ⟨rfl, rfl⟩ := ok
        exact lv_dstore hx hb (am_dec_of hd) hl.has (len hi) rfl (fun ls' h' => K ls' (by unfold am_set2; simp [am_set_len, q3]) (am_lh.store2 h'))
      · rename_i hd
        obtain ⟨e1, rfl⟩ := ok
        exact lv_dstore_n hx hb (am_dec_of hd) e1 hl.has (len hi) rfl (fun ls' h' => K ls' (by unfold am_set2; simp [am_set_len, q3]) (am_lh.store2 h'))
    · cases hop
  case iinc i n =>
    simp only [am_lop] at hop
    split at hop
    · rename_i x hi
      cases hop
      simp only [am_okb] at ok
      split at ok <;> (try (cases ok; done)) <;> simp only [Bool.and_eq_true, beq_iff_eq, decide_eq_true_eq] at ok
      rename_i j n9 hd
      obtain ⟨⟨e1, e2⟩, rfl⟩ := ok
      subst e1
      subst e2
      obtain ⟨k, hk⟩ := List.getElem?_of_mem (am_as_mem (G := G) (L := L) (q := (j, .int x)) |>.mpr ⟨.int x, hi, by simp, rfl⟩)
      exact lv_iinc hx hb (am_dec_of hd) hl.has hk (am_inc_eq x n9) (len hi) rfl (fun ls' h' => K ls' ((am_set_len _ _ _).trans q3) (am_lh.store1 h'))
    · cases hop
end

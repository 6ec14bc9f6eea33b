/-! THE MODEL: the row, its reads -/
/-- the code of a cost's number or operation as the model keeps it -/
def cW (c : Int) : Int := if 0 ≤ c then 0 else if -3 ≤ c then 5 else -3 - c
def cV (c : Int) : Int := if 0 ≤ c then c else if -3 ≤ c then -1 - c else 0
def ncs (g : gD) : Nat := match gCs g with
  | none => 0
  | some cs => cs.length
def gcd (g : gD) (k : Nat) : Int := match gCs g with
  | none => 0
  | some cs => cs.getD k 0
/-- a graph in the row that begins at b -/
def mrow (h : am_H) (b : Nat) (g : gD) : Prop := (am_i h 88 b = nI (gN g) ∧ am_i h 88 (b + 1) = nI (gM g) ∧ am_i h 88 (b + 2) = nI (gT g) ∧ am_i h 88 (b + 3) = nI (ncs g)) ∧ (∀ v, v < gN g → am_i h 88 (b + (6 + v)) = nI (gLd g v)) ∧ (∀ e, e < gM g → am_i h 88 (b + (15 + 3 * e)) = nI (gLo g e) ∧ am_i h 88 (b + (15 + 3 * e + 1)) = nI (gHi g e) ∧ am_i h 88 (b + (15 + 3 * e + 2)) = nI (gWt g e)) ∧ (∀ v, v < gN g → am_i h 88 (b + (75 + v)) = gLab g v) ∧ (∀ k, k < ncs g → (am_i h 88 (b + (84 + 2 * k))).toInt = cW (gcd g k) ∧ (am_i h 88 (b + (84 + 2 * k + 1))).toInt = cV (gcd g k)) ∧ (gwf g ∧ ncs g ≤ 690)
/-- the model looks at the row w -/
def mw (h : am_H) (w : Nat) : Prop := sh h ∧ w < 9 ∧ am_i h 87 3 = nI w
def mg (h : am_H) (w : Nat) (g : gD) : Prop := mw h w ∧ mrow h (1472 * w) g
/-- only the cells X and the model's fields K have changed -/
def sf (X K : List Nat) (h h' : am_H) : Prop := sm (87 :: X) h h' ∧ ∀ k, k ∉ K → am_i h' 87 k = am_i h 87 k
theorem sf_rf {X K : List Nat} {h : am_H} : sf X K h h := ⟨sm.rf, fun _ _ => rfl⟩
theorem sf_tr {X K : List Nat} {h h1 h2 : am_H} (s : sf X K h h1) (t : sf X K h1 h2) : sf X K h h2 := ⟨s.1.tr t.1, fun k hk => (t.2 k hk).trans (s.2 k hk)⟩
theorem sf_mo {X K Y J : List Nat} {h h1 : am_H} (s : sf X K h h1) (hX : ∀ a, a ∈ X → a ∈ Y) (hK : ∀ a, a ∈ K → a ∈ J) : sf Y J h h1 := ⟨s.1.mo fun a ha => by
  rcases List.mem_cons.mp ha with e | e
  · rw [e]; exact List.mem_cons_self
  · exact List.mem_cons_of_mem _ (hX a e), fun k hk => s.2 k fun z => hk (hK k z)⟩
theorem sf_pi {X K : List Nat} {h h1 : am_H} (s : sf X K h h1) {a k : Nat} {v : Int32} (ha : a ∈ X) (h87 : a ≠ 87) : sf X K h (am_pi h1 a k v) := ⟨s.1.pi (List.mem_cons_of_mem _ ha), fun j hj => (congrFun (i_pi_ne h87.symm) j).trans (s.2 j hj)⟩
theorem sf_pl {X K : List Nat} {h h1 : am_H} (s : sf X K h h1) {a k : Nat} {v : Int64} (ha : a ∈ X) : sf X K h (am_pl h1 a k v) := ⟨s.1.pl (List.mem_cons_of_mem _ ha), fun j hj => s.2 j hj⟩
theorem sf_pf {X K : List Nat} {h h1 : am_H} (s : sf X K h h1) {k : Nat} {v : Int32} (hk : k ∈ K) : sf X K h (am_pi h1 87 k v) := ⟨s.1.pi List.mem_cons_self, fun j hj => by
  rw [i_pi_same, if_neg fun e => hj (by rw [e]; exact hk)]
  exact s.2 j hj⟩
/-- cells that never change -/
def okX (X : List Nat) : Bool := X.all (fun x => !Nat.beq x 88 && !Nat.beq x 87)
theorem okX_88 {X : List Nat} (hX : okX X = true) : (88 : Nat) ∉ (87 :: X) := fun z => by
  rcases List.mem_cons.mp z with e | e
  · exact absurd e (by decide)
  · have := List.all_eq_true.mp hX _ e
    exact absurd this (by decide)
theorem mrow_mv {h h' : am_H} {b : Nat} {g : gD} (r : mrow h b g) (e : ∀ k, am_i h' 88 k = am_i h 88 k) : mrow h' b g := by
  unfold mrow at *
  simp only [e]
  exact r
theorem sf_mw {X K : List Nat} {h h' : am_H} {w : Nat} (s : sf X K h h') (m : mw h w) (hK : (3 : Nat) ∉ K) : mw h' w := ⟨s.1.sh m.1, m.2.1, (s.2 3 hK).trans m.2.2⟩
theorem sf_mg {X K : List Nat} {h h' : am_H} {w : Nat} {g : gD} (s : sf X K h h') (m : mg h w g) (hX : okX X = true) (hK : (3 : Nat) ∉ K) : mg h' w g := ⟨sf_mw s m.1 hK, mrow_mv m.2 fun k => s.1.i (okX_88 hX) k⟩
section
variable {xs : am_X} {d : Nat} {h : am_H} {w : Nat} {g : gD} {Q : am_Q}
set_option maxHeartbeats 4000000 in
theorem w_get (hd : 1 ≤ d) (m : mw h w) {x v : Int32} {k : Nat} (hx : x = nI k) (hk : k < 1472) (hv : am_i h 88 (1472 * w + k) = v) (HQ : Q (.inl (some (.int v))) h) : am_C xs am_P0 d m_Mo_get [.ref 87, .int x] h Q := by
  obtain ⟨hs, hw, h3⟩ := m
  have e : nI 1472 * am_i h 87 3 + x = nI (1472 * w + k) := by rw [h3, hx, pk_mul, nI_add]
  refine am_C_le hd (am_enter (d := 0) ap_Mo_get rfl ?_) (fun _ _ k => k)
  refine am_go (fun _ => false) (fun K cal Q' hK hC hQ => ?_)
  refine And.intro (sk_87 hs) (And.intro (sk_87 hs) (And.intro (ck_row (sr_87_1 hs) (sk_88 hs) e (by omega) (by omega)) ?_))
  refine And.intro trivial (hQ _ _ ?_)
  have e2 : am_i h (am_r h 87 1) (nI 1472 * am_i h 87 3 + x).toNatClampNeg = v := by rw [sr_87_1 hs, e, q_cl (by omega), hv]
  rw [← e2] at HQ
  exact HQ
set_option maxHeartbeats 4000000 in
theorem w_put (hd : 1 ≤ d) (m : mw h w) {x v : Int32} {k : Nat} (hx : x = nI k) (hk : k < 1472) (HQ : Q (.inl none) (am_pi h 88 (1472 * w + k) v)) : am_C xs am_P0 d m_Mo_put [.ref 87, .int x, .int v] h Q := by
  obtain ⟨hs, hw, h3⟩ := m
  have e : nI 1472 * am_i h 87 3 + x = nI (1472 * w + k) := by rw [h3, hx, pk_mul, nI_add]
  refine am_C_le hd (am_enter (d := 0) ap_Mo_put rfl ?_) (fun _ _ k => k)
  refine am_go (fun _ => false) (fun K cal Q' hK hC hQ => ?_)
  refine And.intro (sk_87 hs) (And.intro (sk_87 hs) (And.intro (ck_row (sr_87_1 hs) (sk_88 hs) e (by omega) (by omega)) ?_))
  refine And.intro trivial (hQ _ _ ?_)
  have e2 : am_pi h (am_r h 87 1) (nI 1472 * am_i h 87 3 + x).toNatClampNeg v = am_pi h 88 (1472 * w + k) v := by rw [sr_87_1 hs, e, q_cl (by omega)]
  rw [← e2] at HQ
  exact HQ
theorem w_count (hd : 2 ≤ d) (m : mg h w g) (HQ : Q (.inl (some (.int (nI (gN g))))) h) : am_C xs am_P0 d m_Mo_count [.ref 87] h Q := by
  refine am_C_le hd (am_enter (d := 1) ap_Mo_count rfl ?_) (fun _ _ k => k)
  refine am_go (fun _ => false) (fun K cal Q' hK hC hQ => ?_)
  exact And.intro (sk_87 m.1.1) (hC _ _ _ _ (w_get (by decide) m.1 (k := 0) rfl (by decide) m.2.1.1 (And.intro trivial (hQ _ _ HQ))))
theorem w_edges (hd : 2 ≤ d) (m : mg h w g) (HQ : Q (.inl (some (.int (nI (gM g))))) h) : am_C xs am_P0 d m_Mo_edges [.ref 87] h Q := by
  refine am_C_le hd (am_enter (d := 1) ap_Mo_edges rfl ?_) (fun _ _ k => k)
  refine am_go (fun _ => false) (fun K cal Q' hK hC hQ => ?_)
  exact And.intro (sk_87 m.1.1) (hC _ _ _ _ (w_get (by decide) m.1 (k := 1) rfl (by decide) m.2.1.2.1 (And.intro trivial (hQ _ _ HQ))))
theorem mg_wf (m : mg h w g) : gwf g := m.2.2.2.2.2.2.1
theorem mg_n9 (m : mg h w g) : gN g ≤ 9 := (mg_wf m).1.1
theorem mg_m20 (m : mg h w g) : gM g ≤ 20 := (mg_wf m).1.2.1
theorem mg_T (m : mg h w g) : gT g < 2 ^ gN g := (mg_wf m).1.2.2
theorem mg_T31 (m : mg h w g) : gT g < 2 ^ 31 := Nat.lt_trans (mg_T m) (pow_le31 (Nat.le_trans (mg_n9 m) (by decide)))
theorem mg_e (m : mg h w g) {e : Nat} (he : e < gM g) : gLo g e < gHi g e ∧ gHi g e < gN g := (mg_wf m).2.1 e he
theorem mg_co {e : Nat} (m : mg h w g) (he : e < gM g) : 1 ≤ gCo g e ∧ gCo g e ≤ 9999 := coF_rng ((mg_wf m).2.2.1 e he)
theorem w_low (hd : 2 ≤ d) (m : mg h w g) {e : Nat} (he : e < gM g) (HQ : Q (.inl (some (.int (nI (gLo g e))))) h) : am_C xs am_P0 d m_Mo_low [.ref 87, .int (nI e)] h Q := by
  have := mg_m20 m
  refine am_C_le hd (am_enter (d := 1) ap_Mo_low rfl ?_) (fun _ _ k => k)
  refine am_go (fun _ => false) (fun K cal Q' hK hC hQ => ?_)
  exact And.intro (sk_87 m.1.1) (hC _ _ _ _ (w_get (by decide) m.1 (k := 15 + 3 * e) (by rw [← nI_add, ← pk_mul]) (by omega) (m.2.2.2.1 e he).1 (And.intro trivial (hQ _ _ HQ))))
theorem w_high (hd : 2 ≤ d) (m : mg h w g) {e : Nat} (he : e < gM g) (HQ : Q (.inl (some (.int (nI (gHi g e))))) h) : am_C xs am_P0 d m_Mo_high [.ref 87, .int (nI e)] h Q := by
  have := mg_m20 m
  refine am_C_le hd (am_enter (d := 1) ap_Mo_high rfl ?_) (fun _ _ k => k)
  refine am_go (fun _ => false) (fun K cal Q' hK hC hQ => ?_)
  exact And.intro (sk_87 m.1.1) (hC _ _ _ _ (w_get (by decide) m.1 (k := 15 + 3 * e + 1) (by rw [← nI_add, ← nI_add, ← pk_mul]) (by omega) (m.2.2.2.1 e he).2.1 (And.intro trivial (hQ _ _ HQ))))
set_option maxHeartbeats 4000000 in
theorem w_has (hd : 1 ≤ d) {S v : Nat} (hS : S < 2 ^ 31) (hv : v < 31) (HQ : Q (.inl (some (.int (bI (S.testBit v))))) h) : am_C xs am_P0 d m_Mo_has [.int (nI S), .int (nI v)] h Q := by
  refine am_C_le hd (am_enter (d := 0) ap_Mo_has rfl ?_) (fun _ _ k => k)
  refine am_go (fun _ => false) (fun K cal Q' hK hC hQ => ?_)
  have e1 : (nI S >>> (nI v &&& 31)) &&& 1 = bI (S.testBit v) := q_bit hS hv
  refine And.intro (fun c => ?_) (fun c => ?_)
  · refine And.intro (Or.inl rfl) (hQ _ _ ?_)
    have c : ¬ bI (S.testBit v) = 1 := fun z => c (e1.trans z)
    rw [bI_1, Bool.not_eq_true] at c
    rw [c] at HQ
    exact HQ
  · refine And.intro (Or.inr rfl) (hQ _ _ ?_)
    have c : bI (S.testBit v) = 1 := e1.symm.trans (Classical.not_not.mp c)
    rw [(bI_1 _).mp c] at HQ
    exact HQ
theorem w_isTerm (hd : 2 ≤ d) (m : mg h w g) {v : Nat} (hv : v < 31) (HQ : Q (.inl (some (.int (bI ((gT g).testBit v))))) h) : am_C xs am_P0 d m_Mo_isTerminal [.ref 87, .int (nI v)] h Q := by
  refine am_C_le hd (am_enter (d := 1) ap_Mo_isTerminal rfl ?_) (fun _ _ k => k)
  refine am_go (fun _ => false) (fun K cal Q' hK hC hQ => ?_)
  refine And.intro (sk_87 m.1.1) (hC _ _ _ _ (w_get (by decide) m.1 (k := 2) rfl (by decide) m.2.1.2.2.1 ?_))
  exact And.intro trivial (hC _ _ _ _ (w_has (by decide) (mg_T31 m) hv (And.intro (bI_01 _) (hQ _ _ HQ))))
set_option maxHeartbeats 4000000 in
theorem w_all (hd : 3 ≤ d) (m : mg h w g) (HQ : Q (.inl (some (.int (nI (2 ^ gN g - 1))))) h) : am_C xs am_P0 d m_Mo_all [.ref 87] h Q := by
  have hn := mg_n9 m
  refine am_C_le hd (am_enter (d := 2) ap_Mo_all rfl ?_) (fun _ _ k => k)
  refine am_go (fun _ => false) (fun K cal Q' hK hC hQ => ?_)
  refine And.intro (sk_87 m.1.1) (hC _ _ _ _ (w_count (by decide) m ?_))
  refine And.intro trivial (hQ _ _ ?_)
  have e : nI 1 <<< (nI (gN g) &&& 31) - 1 = nI (2 ^ gN g - 1) := by
    rw [q_shl _ (by omega)]
    have := Nat.two_pow_pos (gN g)
    have e2 := nI_pred (2 ^ gN g - 1)
    rw [show 2 ^ gN g - 1 + 1 = 2 ^ gN g by omega] at e2
    exact e2
  rw [← e] at HQ
  exact HQ
theorem pcn_30 {S : Nat} (hS : S < 2 ^ 9) : fb_ct S.testBit 30 = pcn S := by
  have e : fb_ct S.testBit (9 + 21) = fb_ct S.testBit 9 + fb_ct (fun k => S.testBit (9 + k)) 21 := fb_ct_split _ 9 21
  have z : fb_ct (fun k => S.testBit (9 + k)) 21 = 0 := fb_ct_zero.mpr fun k _ => Nat.testBit_lt_two_pow (Nat.lt_of_lt_of_le hS (Nat.pow_le_pow_right (by decide) (Nat.le_add_right 9 k)))
  exact e.trans (by rw [z]; rfl)
set_option maxHeartbeats 4000000 in
theorem w_bitsOf (hd : 1 ≤ d) {S : Nat} (hS : S < 2 ^ 9) (HQ : Q (.inl (some (.int (nI (pcn S))))) h) : am_C xs am_P0 d m_Mo_bitsOf [.int (nI S)] h Q := by
  refine am_C_le hd (am_enter (d := 0) ap_Mo_bitsOf rfl ?_) (fun _ _ k => k)
  refine am_go (fun p => p == 4) (fun K cal Q' hK hC hQ => hK _ _ _ _ ?_)
  refine am_for 30 (fun i L h' => h' = h ∧ L = [.int (nI S), .int (nI (fb_ct S.testBit i)), .int (nI i)]) ?_ ?_ 0 (Nat.zero_le _) _ _ ⟨rfl, rfl⟩
  · rintro i hi9 L h' ⟨rfl, rfl⟩ next
    refine am_go (fun p => p == 4) (fun K cal Q' hK hC hQ => ?_)
    have eA : (nI S >>> (nI i &&& 31)) &&& 1 = bI (S.testBit i) := q_bit (Nat.lt_trans hS (by decide)) (by omega)
    refine And.intro (fun c => absurd c (nI_ge (by omega) (by omega))) (fun _ => ?_)
    refine hK _ _ _ _ (next _ _ ⟨rfl, ?_⟩)
    have e : nI (fb_ct S.testBit i) + ((nI S >>> (nI i &&& 31)) &&& 1) = nI (fb_ct S.testBit (i + 1)) := by
      rw [eA, fb_ct_succ, ← nI_add]
      cases S.testBit i <;> rfl
    rw [← e, ← nI_1 i]
    rfl
  · rintro L h' ⟨rfl, rfl⟩
    refine am_go (fun p => p == 4) (fun K cal Q' hK hC hQ => ?_)
    refine And.intro (fun _ => And.intro trivial (hQ _ _ ?_)) (fun c => absurd (nI_le (Nat.le_refl _) (by omega)) c)
    rw [pcn_30 hS]
    exact HQ
/-- the costs are laid -/
def mco (h : am_H) (g : gD) : Prop := ∀ e, e < gM g → am_i h 93 e = nI (gCo g e)
theorem sf_mco {X K : List Nat} {h h' : am_H} {g : gD} (s : sf X K h h') (c : mco h g) (hX : (93 : Nat) ∉ X) : mco h' g := fun e he => (s.1.i (fun z => by
  rcases List.mem_cons.mp z with q | q
  · exact absurd q (by decide)
  · exact hX q) e).trans (c e he)
set_option maxHeartbeats 4000000 in
theorem w_cutOf (hd : 3 ≤ d) (m : mg h w g) (hc : mco h g) {S : Nat} (hS : S < 2 ^ 31) (HQ : Q (.inl (some (.int (nI (gCC g S))))) h) : am_C xs am_P0 d m_Mo_cutOf [.ref 87, .int (nI S)] h Q := by
  have hm := mg_m20 m
  have hn := mg_n9 m
  refine am_C_le hd (am_enter (d := 2) ap_Mo_cutOf rfl ?_) (fun _ _ k => k)
  refine am_go (fun p => p == 4) (fun K cal Q' hK hC hQ => hK _ _ _ _ ?_)
  refine am_for (gM g) (fun i L h' => h' = h ∧ L = [.ref 87, .int (nI S), .int (nI (sumE (gCo g) (crs (gLo g) (gHi g) S) i)), .int (nI i)]) ?_ ?_ 0 (Nat.zero_le _) _ _ ⟨rfl, rfl⟩
  · rintro i hi9 L h' ⟨rfl, rfl⟩ next
    obtain ⟨w1, w2⟩ := mg_e m hi9
    refine am_go (fun p => p == 4) (fun K cal Q' hK hC hQ => ?_)
    refine And.intro (sk_87 m.1.1) (hC _ _ _ _ (w_edges (by decide) m ?_))
    refine And.intro (fun c => absurd c (nI_ge hi9 (by omega))) (fun _ => ?_)
    refine And.intro (sk_87 m.1.1) (hC _ _ _ _ (w_low (by decide) m hi9 ?_))
    refine And.intro trivial (hC _ _ _ _ (w_has (by decide) hS (by omega) ?_))
    refine And.intro (sk_87 m.1.1) (hC _ _ _ _ (w_high (by decide) m hi9 ?_))
    refine And.intro trivial (hC _ _ _ _ (w_has (by decide) hS (by omega) ?_))
    rw [sumE_s] at next
    refine And.intro (fun c => ?_) (fun c => ?_)
    · have c : crs (gLo g) (gHi g) S i = false := by unfold crs; rw [bI_inj c]; exact bne_self_eq_false _
      rw [c] at next
      exact hK _ _ _ _ (next _ _ ⟨rfl, by rw [← nI_1 i, ← nI_add]; rfl⟩)
    · have c : crs (gLo g) (gHi g) S i = true := by
        unfold crs
        exact bne_iff_ne.mpr fun z => c (congrArg bI z)
      rw [c] at next
      refine And.intro (sk_87 m.1.1) (And.intro (ck_row (sr_87_17 m.1.1) (sk_93 m.1.1) rfl (by omega) (by omega)) ?_)
      have eB : am_i h' (am_r h' 87 17) (nI i).toNatClampNeg = nI (gCo g i) := by rw [sr_87_17 m.1.1, q_cl (by omega), hc i hi9]
      exact hK _ _ _ _ (next _ _ ⟨rfl, by rw [if_pos rfl, ← nI_1 i, ← nI_add, ← eB]; rfl⟩)
  · rintro L h' ⟨rfl, rfl⟩
    refine am_go (fun p => p == 4) (fun K cal Q' hK hC hQ => ?_)
    refine And.intro (sk_87 m.1.1) (hC _ _ _ _ (w_edges (by decide) m ?_))
    exact And.intro (fun _ => And.intro trivial (hQ _ _ HQ)) (fun c => absurd (nI_le (Nat.le_refl _) (by omega)) c)
set_option maxHeartbeats 4000000 in
theorem w_costBy (hd : 3 ≤ d) (m : mg h w g) (hc : mco h g) {a : Nat} {lab : Nat → Int32} (ha : am_k h a = (2, 9)) (hl : ∀ v, v < gN g → am_i h a v = lab v) (HQ : Q (.inl (some (.int (nI (sumE (gCo g) (dif (gLo g) (gHi g) lab) (gM g)))))) h) : am_C xs am_P0 d m_Mo_costBy [.ref 87, .ref a] h Q := by
  have hm := mg_m20 m
  have hn := mg_n9 m
  refine am_C_le hd (am_enter (d := 2) ap_Mo_costBy rfl ?_) (fun _ _ k => k)
  refine am_go (fun p => p == 4) (fun K cal Q' hK hC hQ => hK _ _ _ _ ?_)
  refine am_for (gM g) (fun i L h' => h' = h ∧ L = [.ref 87, .ref a, .int (nI (sumE (gCo g) (dif (gLo g) (gHi g) lab) i)), .int (nI i)]) ?_ ?_ 0 (Nat.zero_le _) _ _ ⟨rfl, rfl⟩
  · rintro i hi9 L h' ⟨rfl, rfl⟩ next
    obtain ⟨w1, w2⟩ := mg_e m hi9
    refine am_go (fun p => p == 4) (fun K cal Q' hK hC hQ => ?_)
    refine And.intro (sk_87 m.1.1) (hC _ _ _ _ (w_edges (by decide) m ?_))
    refine And.intro (fun c => absurd c (nI_ge hi9 (by omega))) (fun _ => ?_)
    refine And.intro (sk_87 m.1.1) (hC _ _ _ _ (w_low (by decide) m hi9 ?_))
    refine And.intro (ck_arr ha rfl (by omega) (by omega)) ?_
    refine And.intro (sk_87 m.1.1) (hC _ _ _ _ (w_high (by decide) m hi9 ?_))
    refine And.intro (ck_arr ha rfl (by omega) (by omega)) ?_
    have e1 : am_i h' a (nI (gLo g i)).toNatClampNeg = lab (gLo g i) := by rw [q_cl (by omega), hl _ (by omega)]
    have e2 : am_i h' a (nI (gHi g i)).toNatClampNeg = lab (gHi g i) := by rw [q_cl (by omega), hl _ (by omega)]
    rw [sumE_s] at next
    refine And.intro (fun c => ?_) (fun c => ?_)
    · have c : dif (gLo g) (gHi g) lab i = false := decide_eq_false fun z => z (e1.symm.trans (Eq.trans c e2))
      rw [c] at next
      exact hK _ _ _ _ (next _ _ ⟨rfl, by rw [← nI_1 i, ← nI_add]; rfl⟩)
    · have c : dif (gLo g) (gHi g) lab i = true := decide_eq_true fun z => c (Eq.trans e1 (z.trans e2.symm))
      rw [c] at next
      refine And.intro (sk_87 m.1.1) (And.intro (ck_row (sr_87_17 m.1.1) (sk_93 m.1.1) rfl (by omega) (by omega)) ?_)
      have eB : am_i h' (am_r h' 87 17) (nI i).toNatClampNeg = nI (gCo g i) := by rw [sr_87_17 m.1.1, q_cl (by omega), hc i hi9]
      exact hK _ _ _ _ (next _ _ ⟨rfl, by rw [if_pos rfl, ← nI_1 i, ← nI_add, ← eB]; rfl⟩)
  · rintro L h' ⟨rfl, rfl⟩
    refine am_go (fun p => p == 4) (fun K cal Q' hK hC hQ => ?_)
    refine And.intro (sk_87 m.1.1) (hC _ _ _ _ (w_edges (by decide) m ?_))
    exact And.intro (fun _ => And.intro trivial (hQ _ _ HQ)) (fun c => absurd (nI_le (Nat.le_refl _) (by omega)) c)
end

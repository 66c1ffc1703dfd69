/-! all valuations, in the reference -/
def vo : List Nat → Nat → Nat
  | [], s => s
  | c :: l, s => vo l (if c < 3 then s ||| 2 ^ c else s)
theorem vo_lt : ∀ l s, s < 8 → vo l s < 8
  | [], _, h => h
  | c :: l, s, h => by
    refine vo_lt l _ ?_
    split
    · rename_i hc
      exact Nat.or_lt_two_pow (n := 3) h (Nat.pow_lt_pow_right (by decide) hc)
    · exact h
theorem vo_tb : ∀ l s v, v < 3 → (vo l s).testBit v = (s.testBit v || decide (l.count v ≠ 0))
  | [], s, v, _ => by simp [vo]
  | c :: l, s, v, hv => by
    show (vo l (if c < 3 then s ||| 2 ^ c else s)).testBit v = _
    rw [vo_tb l _ v hv, List.count_cons]
    by_cases e : c = v
    · subst e
      rw [if_pos hv, Nat.testBit_or, Nat.testBit_two_pow_self]
      simp
    · have e1 : (c == v) = false := by simpa using e
      rw [e1]
      by_cases c3 : c < 3
      · rw [if_pos c3, Nat.testBit_or, Nat.testBit_two_pow, decide_eq_false e]
        simp
      · rw [if_neg c3]
        simp
/-- the reference has been asked of a poset and a formula -/
def ASK (S : St) (i m : Nat) (h : AH) : Prop := ELp (mi h M_elements) (mi h M_numberOf) (mi h A_M 5) (pE (sP S i)) ∧ mi h A_M 18 = nI (vo (sF S m).2 0) ∧ mi h A_M 19 = nI (vV S i m)
section SRCM
variable {d g : Nat} {h : AH} {S : St} {K : Int32 → AH → Prop} {i m : Nat}
theorem ASK.keep {h1 : AH} (A : ASK S i m h) (s : sm (fun q _ => q ≠ 84 ∧ q ≠ 85) h h1) : ASK S i m h1 := by
  obtain ⟨el, a1, a2⟩ := A
  have p73 : (73 : Nat) ≠ 84 ∧ (73 : Nat) ≠ 85 := by decide
  have p77 : (77 : Nat) ≠ 84 ∧ (77 : Nat) ≠ 85 := by decide
  have p78 : (78 : Nat) ≠ 84 ∧ (78 : Nat) ≠ 85 := by decide
  exact ⟨⟨(s _ _ p73).1.trans el.1, fun k hk => (s _ _ p77).1.trans (el.2.1 k hk), fun k hk => (s _ _ p78).1.trans (el.2.2 k hk)⟩, (s _ _ p73).1.trans a1, (s _ _ p73).1.trans a2⟩
theorem cS_occ (W : WS S) (hm : m < 6) {v : Nat} (hv : v < 3) : cS S i m v = if (vo (sF S m).2 0).testBit v = true then (pE (sP S i)).length else 1 := by
  have fo := W.2.2.1 m hm
  rw [vo_tb _ _ v hv, Nat.zero_testBit, Bool.false_or]
  unfold cS chc
  rw [fo.2.2.1 v hv]
  by_cases c : (sF S m).2.count v = 0
  · rw [if_pos c, if_neg (by simp [c])]
  · rw [if_neg c, if_pos (by simpa using c)]
theorem runM_9 {I : Nat → Nat → Nat} {T : Nat} {env : Nat → Nat} : ∀ (l st r : List Nat), runM I T env l st = some r → ∀ c, c ∈ l → c < 9
  | [], _, _, _, _, hc => by cases hc
  | c :: l, st, r, e, q, hq => by
    have c9 : c < 9 := by
      apply Classical.byContradiction
      intro z
      rw [runM_big (by omega)] at e
      cases e
    rcases List.mem_cons.mp hq with z | z
    · omega
    · by_cases h5 : c < 5
      · rw [runM_leaf h5] at e
        exact runM_9 l _ r e q z
      · by_cases h8 : c = 5
        · subst h8
          obtain ⟨_, _, _, e2⟩ := runM_one e
          exact runM_9 l _ r e2 q z
        · obtain ⟨_, _, _, _, e2⟩ := runM_two (by omega) (by omega) e
          exact runM_9 l _ r e2 q z
theorem F_9m {p : List Nat × List Nat} (fo : FOK p) : ∀ c, c ∈ p.2 → c < 9 := fun c hc => by
  by_cases h0 : p.1 = []
  · have := fo.1
    rw [h0] at this
    have : p.2 = [] := List.length_eq_zero_iff.mp this.symm
    rw [this] at hc
    cases hc
  · exact runM_9 _ _ _ (fval_run fo h0 1 id id).2 c hc
theorem S_MvariablesOf (hm : m < 6) (W : WS S) (I : InvM h S) (hK : K (nI (vo (sF S m).2 0)) h) : Ev d g g m_M_variablesOf 0 [.ref A_M, .int (nI m)] [] h (asI K) := by
  have fo := W.2.2.1 m hm
  have cf := I.2.2.2.1 m hm
  have hl : (sF S m).2.length ≤ 60 := by rw [← fo.1]; exact fo.2.1
  refine w_M_variablesOf_0 I.1 ?_
  have go : ∀ (rest : List Nat) (k s : Nat), k + rest.length = (sF S m).2.length → (∀ j, j < rest.length → mi h M_formula (60 * m + (k + j)) = nI (rest.getD j 0)) → (∀ c, c ∈ rest → c < 9) → s < 8 → vo rest s = vo (sF S m).2 0 → Ev d g g m_M_variablesOf 4 [.ref A_M, .int (nI m), .int (nI s), .int (nI k)] [] h (asI K) := by
    intro rest
    induction rest with
    | nil =>
      intro k s hk _ _ _ ha
      have e1 : k = (sF S m).2.length := hk
      have e2 : s = vo (sF S m).2 0 := ha
      subst e1 e2
      refine w_M_variablesOf_4 I.1 ⟨vp_in_nI hm (by decide), ?_⟩
      rw [nI_clamp (n := m) (by omega), cf.1]
      exact br_le _ _ rfl rfl (fun _ => hK) (fun z => by omega)
    | cons c rest ih =>
      intro k s hk hs h9 hs8 ha
      have hlen : (c :: rest).length = rest.length + 1 := rfl
      rw [hlen] at hk hs
      have s0 : mi h M_formula (60 * m + k) = nI c := hs 0 (by omega)
      have c9 := h9 c (by simp)
      have hs' : ∀ j, j < rest.length → mi h M_formula (60 * m + (k + 1 + j)) = nI (rest.getD j 0) := fun j hj => by
        have := hs (j + 1) (by omega)
        rw [show k + (j + 1) = k + 1 + j by omega] at this
        exact this
      have ha : vo rest (if c < 3 then s ||| 2 ^ c else s) = vo (sF S m).2 0 := ha
      refine w_M_variablesOf_4 I.1 ⟨vp_in_nI hm (by decide), ?_⟩
      rw [nI_ix60, nI_clamp (n := m) (by omega), cf.1, nI_clamp (n := 60 * m + k) (by omega), s0, nI_add k 1]
      have vi : vp_in (nI (60 * m + k)) 360 := vp_in_nI (by omega) (by decide)
      refine br_le _ k rfl rfl (fun z => by omega) (fun _ => ⟨vi, br_le 3 c rfl rfl (fun z => ?_) (fun z => ⟨vi, ?_⟩)⟩)
      · rw [nm_or s (by omega) 0 (by decide), Nat.or_zero]
        rw [if_neg (by omega)] at ha
        exact ih (k + 1) s (by omega) hs' (fun q hq => h9 q (by simp [hq])) hs8 ha
      · have p8 : 2 ^ c < 8 := (Nat.pow_lt_pow_right (by decide) z : 2 ^ c < 2 ^ 3)
        rw [nm_bit1 c (by omega), nm_or s (by omega) (2 ^ c) (by omega)]
        rw [if_pos z] at ha
        exact ih (k + 1) _ (by omega) hs' (fun q hq => h9 q (by simp [hq])) (Nat.or_lt_two_pow (n := 3) hs8 p8) ha
  exact go _ 0 0 (by omega) (fun j hj => by rw [Nat.zero_add]; exact cf.2 j hj) (F_9m fo) (by decide) rfl
theorem S_MnotAsked {v a : Int32} (W : WS S) (I : InvM h S) (hN : (ix v 4 = none ∨ ix a 6 = none) → ∀ h1, doneM S h h1 → K m1 h1) (hK : ∀ i m, ix v 4 = some i → ix a 6 = some m → ∀ h1, doneM S h h1 → ASK S i m h1 → K (srf (sF S m).1.length (vV S i m) (nI 0)) h1) : Ev (d + 3) g g m_M_notAsked 0 [.ref A_M, .int v, .int a] [] h (asI K) := by
  refine w_M_notAsked_0 I.1 (S_fnd W I (fun e => hN (Or.inl e) h (doneM.rf I)) (fun i hi hv e1 h1 dn el => ?_))
  refine S_isF' (fun e => hN (Or.inr e) h1 dn) (fun m hm hv2 e2 => ?_)
  subst hv hv2
  have kk := hK i m e1 e2
  have vl := vV_le (m := m) W hi
  have b0 := cS_b (m := m) W hi 0
  have o8 := vo_lt (sF S m).2 0 (by decide)
  refine w_M_countsValuations_0 dn.1.1 (S_MvariablesOf hm W dn.1 fun _ => ?_)
  refine for_up (σ := AH) (fun k hh => Ev (d + 2) g g m_M_countsValuations 16 [.ref A_M, unk, .int (nI k)] [] hh (asV fun h3 => Ext h1 h3 → vp_in (nI m) 6 ∧ (¬ mi h3 M_formulaSizes (nI m).toNatClampNeg = 0 → (mi h3 A_M 19 ≤ nI 20000 → K (nI 0) h3) ∧ (¬ mi h3 A_M 19 ≤ nI 20000 → K kE5 h3)) ∧ (mi h3 M_formulaSizes (nI m).toNatClampNeg = 0 → K kE3 h3))) (fun k hh => Ext h1 hh ∧ sm (fun q j => ¬ (q = 73 ∧ (j = 18 ∨ j = 19))) h1 hh ∧ mi hh A_M 18 = nI (vo (sF S m).2 0) ∧ mi hh A_M 19 = nI (prd (cS S i m) k)) 3 (fun hh hI => ?_) (fun k hh hk hI ih => ?_) 0 _ (Nat.zero_le _) ?_
  · obtain ⟨ee, sa, a1, a2⟩ := hI
    refine w_M_countsValuations_16 (dn.1.1.ext ee) (br_le 3 3 rfl rfl (fun _ _ => ⟨vp_in_nI hm (by decide), ?_⟩) (fun z => by omega))
    have dn2 : doneM S h1 hh := by
      refine ⟨dn.1.keep W ee (sa.sub fun q j hq => ?_), ee, sa.sub fun q j hq => ?_⟩
      · simp only [PMx, M_size, M_elements, M_numberOf, M_made, M_pending, M_given, M_stack, M_map, M_moved, M_up] at hq; omega
      · omega
    have ask : ASK S i m hh := ⟨⟨(sa _ _ (by decide)).1.trans el.1, fun k hk => (sa _ _ (fun z => absurd z.1 (by decide))).1.trans (el.2.1 k hk), fun k hk => (sa _ _ (fun z => absurd z.1 (by decide))).1.trans (el.2.2 k hk)⟩, a1, a2⟩
    have kk := kk hh (dn.tr dn2) ask
    unfold srf at kk
    rw [nI_clamp (n := m) (by omega), a2]
    refine br_Mmiss hm W dn2.1 (fun z => by rw [if_pos z] at kk; exact kk) (fun z => ?_)
    rw [if_neg (len_ne z)] at kk
    exact br_le (vV S i m) 20000 rfl rfl (fun c => by rw [if_pos c] at kk; exact kk) (fun c => by rw [if_neg (by omega)] at kk; exact kk)
  · obtain ⟨ee, sa, a1, a2⟩ := hI
    have oc := cS_occ (i := i) W hm hk
    refine w_M_countsValuations_16 (dn.1.1.ext ee) (br_le 3 k rfl rfl (fun z => by omega) (fun _ => ?_))
    rw [a1, a2, (sa A_M 5 (by decide)).1, el.1, nm_tb _ (by omega) k (by omega), nI_add k 1]
    refine br_tb1 (fun hb => ?_) (fun hb => ?_)
    · rw [hb, if_neg (by decide)] at oc
      refine ih _ ⟨ee.trans (ext_wi _ _ _ _), sa.wi (fun q => q ⟨rfl, Or.inr rfl⟩), by rw [mi_nj (by decide)]; exact a1, ?_⟩
      rw [mi_eq, pk_mul]
      show _ = nI (prd (cS S i m) k * cS S i m k)
      rw [oc]
    · rw [hb, if_pos rfl] at oc
      refine ih _ ⟨ee.trans (ext_wi _ _ _ _), sa.wi (fun q => q ⟨rfl, Or.inr rfl⟩), by rw [mi_nj (by decide)]; exact a1, ?_⟩
      rw [mi_eq, pk_mul]
      show _ = nI (prd (cS S i m) k * cS S i m k)
      rw [oc]
  · exact ⟨(ext_wi _ _ _ _).trans (ext_wi _ _ _ _), (sm.rf.wi (fun q => q ⟨rfl, Or.inl rfl⟩)).wi (fun q => q ⟨rfl, Or.inr rfl⟩), by rw [mi_nj (by decide), mi_eq], mi_eq⟩
theorem S_elStep {v k x : Nat} (hi : i < 4) (hm : m < 6) (W : WS S) (I : InvM h S) (A : ASK S i m h) (hk : k < 3) (hv : v < 3) (hx : x < 2147483648) (f : v = k → K (nI (x % cS S i m k)) h) (gg : v ≠ k → Ev d g g m_M_elementIn 5 [.ref A_M, unk, .int (nI v), .int (nI (x / cS S i m k)), .int (nI k + (cI (.negSucc 0)))] [] h (asI K)) : Ev d g g m_M_elementIn 5 [.ref A_M, unk, .int (nI v), .int (nI x), .int (nI k)] [] h (asI K) := by
  have oc := cS_occ (i := i) W hm hk
  have b := cS_b (m := m) W hi k
  have o8 := vo_lt (sF S m).2 0 (by decide)
  obtain ⟨el, a1, a2⟩ := A
  refine w_M_elementIn_5 I.1 ⟨fun z => absurd z (nI_nl (by omega)), fun _ => ?_⟩
  rw [a1, el.1, nm_tb _ (by omega) k (by omega), pk_rem hx (by omega) (by omega), pk_div hx (by omega) (by omega)]
  have nz : ¬ nI (pE (sP S i)).length = 0 := nI_ne0 (by omega) (by omega)
  refine (br_tb (fun hb => ?_) (fun hb => ?_)).symm
  · rw [hb, if_neg (by decide)] at oc
    rw [oc, Nat.mod_one] at f
    rw [oc, Nat.div_one] at gg
    exact br_ne k v rfl rfl (fun z => f z.symm) (fun z => gg fun q => z q.symm)
  · rw [hb, if_pos rfl] at oc
    rw [oc] at f gg
    exact br_ne k v rfl rfl (fun z => ⟨nz, f z.symm⟩) (fun z => ⟨nz, gg fun q => z q.symm⟩)
theorem S_MelementIn {v x : Nat} (hi : i < 4) (hm : m < 6) (W : WS S) (I : InvM h S) (A : ASK S i m h) (hv : v < 3) (hx : x < 2147483648) (hK : K (nI (dgt (cS S i m) x v)) h) : Ev d g g m_M_elementIn 0 [.ref A_M, .int (nI x), .int (nI v)] [] h (asI K) := by
  have m2 : nI 2 + (cI (.negSucc 0)) = nI 1 := nm1
  have m0 : nI 1 + (cI (.negSucc 0)) = nI 0 := nm1
  have d1 : x / cS S i m 2 ≤ x := Nat.div_le_self _ _
  have d2 : x / cS S i m 2 / cS S i m 1 ≤ x / cS S i m 2 := Nat.div_le_self _ _
  refine w_M_elementIn_0 I.1 (S_elStep hi hm W I A (by decide) hv hx (fun z => by subst z; exact hK) (fun z => ?_))
  rw [m2]
  refine S_elStep hi hm W I A (by decide) hv (by omega) (fun z => by subst z; exact hK) (fun z2 => ?_)
  rw [m0]
  refine S_elStep hi hm W I A (by decide) hv (by omega) (fun z => by subst z; exact hK) (fun z3 => by omega)
theorem S_MbitsBy {x : Nat} (hi : i < 4) (hm : m < 6) (W : WS S) (I : InvM h S) (A : ASK S i m h) (h0 : (sF S m).1 ≠ []) (hx : x < 2147483648) (hK : ∀ h1, doneM S h h1 → ASK S i m h1 → vN S i m x < 64 → K (nI (vN S i m x)) h1) : Ev (d + 2) g g m_M_bitsBy 0 [.ref A_M, .int (nI i), .int (nI m), .int (nI x)] [] h (asI K) := by
  have w := (W.1 i hi).1
  have h6 := w.1.2
  have b0 := cS_b (m := m) W hi 0
  refine w_M_bitsBy_0 I.1 ?_
  refine for_up (σ := AH) (fun k hh => Ev (d + 2) g g m_M_bitsBy 3 [.ref A_M, .int (nI i), .int (nI m), .int (nI x), .int (nI k)] [] hh (asI K)) (fun k hh => Ext h hh ∧ sm (fun q _ => q ≠ 84 ∧ q ≠ 85) h hh ∧ ∀ u, u < k → mi hh M_given u = nI (envN S i m x u)) 3 (fun hh hI => ?_) (fun k hh hk hI ih => ?_) 0 h (Nat.zero_le _) ⟨Ext.rfl', sm.rf, fun u hu => by omega⟩
  · obtain ⟨ee, sa, hv⟩ := hI
    have px : ∀ {h1 : AH}, Ext h h1 → sm (fun q _ => q ≠ 84 ∧ q ≠ 85) h h1 → doneM S h h1 := fun e s => by
      refine ⟨I.keep W e (s.sub fun q j hq => ?_), e, s.sub fun q j hq => ?_⟩
      · simp only [PMx, M_size, M_elements, M_numberOf, M_made, M_pending, M_given, M_stack, M_map, M_moved, M_up] at hq; omega
      · omega
    have I2 := (px ee sa).1
    refine w_M_bitsBy_3 (I.1.ext ee) (br_le 3 3 rfl rfl (fun _ => ?_) (fun z => by omega))
    refine S_MvalueBits (env := envN S i m x) (p := sF S m) (by omega) hm w (envN_mem W hi x) I2.1 (I2.2.1 i hi).1 (W.2.2.1 m hm) h0 (I2.2.2.2.1 m hm) hv fun h1 e1 s1 mm _ => ?_
    have sx : sm (fun q _ => q ≠ 84 ∧ q ≠ 85) h h1 := sa.trans (s1.sub fun q j hq => hq.2)
    exact hK h1 (px (ee.trans e1) sx) (A.keep sx) (el64 h6 mm)
  · obtain ⟨ee, sa, hv⟩ := hI
    have A2 := A.keep sa
    have I2 : InvM hh S := I.keep W ee (sa.sub fun q j hq => by simp only [PMx, M_size, M_elements, M_numberOf, M_made, M_pending, M_given, M_stack, M_map, M_moved, M_up] at hq; omega)
    have dl := dgt_lt (m := m) W hi x k
    refine w_M_bitsBy_3 (I.1.ext ee) (br_le 3 k rfl rfl (fun z => by omega) (fun _ => ?_))
    refine S_MelementIn hi hm W I2 A2 hk hx fun _ => ?_
    rw [nI_clamp (n := dgt (cS S i m) x k) (by omega), A2.1.2.1 _ dl, nI_add k 1, nI_clamp (n := k) (by omega)]
    refine ⟨vp_in_nI (by omega) (by decide), vp_in_nI hk (by decide), ih _ ⟨ee.trans (ext_wi _ _ _ _), sa.wi (fun q => q.1 rfl), fun u hu => ?_⟩⟩
    by_cases c : u = k
    · subst c; exact mi_eq
    · rw [mi_nj c]; exact hv u (by omega)
theorem S_Mrefuting (hi : i < 4) (hm : m < 6) (W : WS S) (I : InvM h S) (A : ASK S i m h) (h0 : (sF S m).1 ≠ []) (hK : ∀ h1, doneM S h h1 → ASK S i m h1 → K (nI (ffn (Rf S i m) (vV S i m) 0)) h1) : Ev (d + 3) g g m_M_refuting 0 [.ref A_M, .int (nI i), .int (nI m)] [] h (asI K) := by
  have w := (W.1 i hi).1
  have h6 := w.1.2
  have hpp := p2_pos (sP S i).1
  have hp64 := p2_le h6
  have vl := vV_le (m := m) W hi
  refine w_M_refuting_0 I.1 ?_
  refine for_up (σ := AH) (fun x hh => Ev (d + 3) g g m_M_refuting 2 [.ref A_M, .int (nI i), .int (nI m), .int (nI x)] [] hh (asI K)) (fun x hh => doneM S h hh ∧ ASK S i m hh ∧ ffn (Rf S i m) (vV S i m) 0 = ffn (Rf S i m) (vV S i m - x) x) (vV S i m) (fun hh hI => ?_) (fun x hh hx hI ih => ?_) 0 h (Nat.zero_le _) ⟨doneM.rf I, A, rfl⟩
  · obtain ⟨dn, A2, J⟩ := hI
    refine w_M_refuting_2 dn.1.1 ?_
    rw [A2.2.2]
    refine br_le _ _ rfl rfl (fun _ => ?_) (fun z => by omega)
    have kk := hK hh dn A2
    rw [ffn_end J] at kk
    exact kk
  · obtain ⟨dn, A2, J⟩ := hI
    refine w_M_refuting_2 dn.1.1 ?_
    rw [A2.2.2]
    refine br_le _ x rfl rfl (fun z => by omega) (fun _ => S_MbitsBy hi hm W dn.1 A2 h0 (by omega) fun h1 dn1 A3 x64 _ => ?_)
    refine S_MallOf dn1.1.1 (by omega) (dn1.1.2.1 i hi).1.1 h6 fun _ => ?_
    refine br_ne (vN S i m x) (2 ^ (sP S i).1 - 1) rfl rfl (fun z => ?_) (fun z => ?_)
    · rw [nI_add]
      have rf : Rf S i m x = false := by unfold Rf; rw [z]; simp
      exact ih h1 ⟨dn.tr dn1, A3, ffn_step hx rf J⟩
    · have rf : Rf S i m x = true := by unfold Rf; simpa using z
      have kk := hK h1 (dn.tr dn1) A3
      rw [ffn_hit hx rf J] at kk
      exact kk
end SRCM
/-! isValid, refutation, countValuations -/
def rVld (S : St) (v a : Int32) : Int32 := rPF v a fun i m => srf (sF S m).1.length (vV S i m) (if ffn (Rf S i m) (vV S i m) 0 = vV S i m then nI 1 else nI 0)
def rRft (S : St) (v a b : Int32) : Int32 := rPF v a fun i m => r1 b 3 fun x => srf (sF S m).1.length (vV S i m) (if ffn (Rf S i m) (vV S i m) 0 = vV S i m then kNone else nI (dgt (cS S i m) (ffn (Rf S i m) (vV S i m) 0) x))
def rCnt (S : St) (v a b : Int32) : Int32 := rPF v a fun i m => r1 b (pE (sP S i)).length fun e => srf (sF S m).1.length (vV S i m) (nI (ck (fun x => vN S i m x == (pE (sP S i)).getD e 0) (vV S i m)))
theorem srf0 {len V : Nat} {x : Int32} (h : len = 0) : srf len V x = kE3 := by unfold srf; rw [if_pos h]
theorem srf5 {len V : Nat} {x : Int32} (h : len ≠ 0) (h2 : ¬ V ≤ 20000) : srf len V x = kE5 := by unfold srf; rw [if_neg h, if_neg h2]
theorem srfk {len V : Nat} {x : Int32} (h : len ≠ 0) (h2 : V ≤ 20000) : srf len V x = x := by unfold srf; rw [if_neg h, if_pos h2]
/-- the two refusals, or on -/
theorem br_srf {len V : Nat} {A : Prop} {B : Int32 → Prop} (f : len = 0 → B kE3) (f2 : len ≠ 0 → ¬ V ≤ 20000 → B kE5) (gg : len ≠ 0 → V ≤ 20000 → A) : (srf len V (nI 0) = 0 → A) ∧ (¬ srf len V (nI 0) = 0 → B (srf len V (nI 0))) := by
  by_cases h : len = 0
  · rw [srf0 h]; exact ⟨fun z => absurd z (by decide), fun _ => f h⟩
  · by_cases h2 : V ≤ 20000
    · rw [srfk h h2]; exact ⟨fun _ => gg h h2, fun z => absurd rfl z⟩
    · rw [srf5 h h2]; exact ⟨fun z => absurd z (by decide), fun _ => f2 h h2⟩
section VLD
variable {d g : Nat} {h : AH} {S : St} {K : Int32 → AH → Prop} {v a b : Int32}
theorem ne_len {l : List Nat} (h : l.length ≠ 0) : l ≠ [] := fun z => h (by rw [z]; rfl)
theorem nn_none {p : Nat} (hp : p < 2147483648) : ¬ nI p = kNone := fun z => absurd (nI_nn hp) (by rw [z]; decide)
theorem ffn_le (P : Nat → Bool) : ∀ m k, ffn P m k ≤ k + m
  | 0, k => Nat.le_refl _
  | m + 1, k => by
    show (bif P k then k else ffn P m (k + 1)) ≤ _
    cases P k
    · have := ffn_le P m (k + 1)
      show ffn P m (k + 1) ≤ _
      omega
    · show k ≤ _
      omega
theorem C_isValid (W : WS S) (I : InvC h S) (hK : ∀ h1, doneC S h h1 → K (rVld S v a) h1) : Ev (d + 5) g g m_C_isValid 0 [.ref A_x, .int v, .int a] [] h (asI K) := by
  refine w_C_isValid_0 I.1 (S_posetAt I.1 (fun e => ?_) (fun i hi _ fi e1 => ⟨fi, ?_⟩))
  · have kk := hK h (doneC.rf I)
    unfold rVld at kk
    rw [rPF_v e] at kk
    exact S_formulaAt I.1 (fun _ => kk) (fun l _ _ fp _ => ⟨fp, kk⟩)
  refine S_formulaAt I.1 (fun e => by have kk := hK h (doneC.rf I); unfold rVld at kk; rw [rPF_a e] at kk; exact kk) (fun m hm _ fm e2 => ⟨fm, ?_⟩)
  unfold rVld at hK
  rw [rPF_s e1 e2] at hK
  refine S_refusal hi hm W I fun _ => br_srf (B := fun x => K x h) (fun z => by rw [srf0 z] at hK; exact hK h (doneC.rf I)) (fun z z2 => by rw [srf5 z z2] at hK; exact hK h (doneC.rf I)) (fun z z2 => ?_)
  rw [srfk z z2] at hK
  refine S_firstRef hi hm W I (ne_len z) (fun q h1 dn _ => ⟨fun y => absurd rfl y, fun _ => ?_⟩) (fun p q r hp hq hr hlt _ _ _ h1 dn _ => ⟨fun _ => ?_, fun y => absurd y (nn_none (by omega))⟩)
  · rw [if_pos q] at hK; exact hK h1 dn
  · rw [if_neg (by omega)] at hK; exact hK h1 dn
theorem M_isValid (W : WS S) (I : InvM h S) (hK : ∀ h1, doneM S h h1 → K (rVld S v a) h1) : Ev (d + 4) g g m_M_isValid 0 [.ref A_M, .int v, .int a] [] h (asI K) := by
  refine w_M_isValid_0 I.1 (S_MnotAsked W I (fun e h1 dn _ => ⟨fun z => absurd z (by decide), fun _ => ?_⟩) (fun i m e1 e2 h1 dn A => ?_))
  · have kk := hK h1 dn
    unfold rVld at kk
    rcases e with e | e
    · rw [rPF_v e] at kk; exact kk
    · rw [rPF_a e] at kk; exact kk
  intro _
  unfold rVld at hK
  rw [rPF_s e1 e2] at hK
  obtain ⟨hi, rfl⟩ := ix_some e1
  obtain ⟨hm, rfl⟩ := ix_some e2
  have vl := vV_le (m := m) W hi
  have fl := ffn_le (Rf S i m) (vV S i m) 0
  refine br_srf (B := fun x => K x h1) (fun z => by rw [srf0 z] at hK; exact hK h1 dn) (fun z z2 => by rw [srf5 z z2] at hK; exact hK h1 dn) (fun z z2 => ?_)
  rw [srfk z z2] at hK
  refine S_Mrefuting hi hm W dn.1 A (ne_len z) fun h2 dn2 A2 _ => ?_
  rw [A2.2.2]
  refine br_ne (ffn (Rf S i m) (vV S i m) 0) (vV S i m) rfl rfl (fun q => ?_) (fun q => ?_)
  · rw [if_pos q] at hK; exact hK h2 (dn.tr dn2)
  · rw [if_neg q] at hK; exact hK h2 (dn.tr dn2)
theorem dgt3 {c : Nat → Nat} {y p q r x : Nat} (hx : x < 3) (d0 : dgt c y 0 = p) (d1 : dgt c y 1 = q) (d2 : dgt c y 2 = r) : (if x = 0 then p else if x = 1 then q else r) = dgt c y x := by
  match x, hx with
  | 0, _ => exact d0.symm
  | 1, _ => exact d1.symm
  | 2, _ => exact d2.symm
theorem C_refutation (W : WS S) (I : InvC h S) (hK : ∀ h1, doneC S h h1 → K (rRft S v a b) h1) : Ev (d + 5) g g m_C_refutation 0 [.ref A_x, .int v, .int a, .int b] [] h (asI K) := by
  refine w_C_refutation_0 I.1 (S_posetAt I.1 (fun e => ?_) (fun i hi _ fi e1 => ⟨fi, ?_⟩))
  · have kk := hK h (doneC.rf I)
    unfold rRft at kk
    rw [rPF_v e] at kk
    exact S_formulaAt I.1 (fun _ => kk) (fun l _ _ fp _ => ⟨fp, kk⟩)
  refine S_formulaAt I.1 (fun e => by have kk := hK h (doneC.rf I); unfold rRft at kk; rw [rPF_a e] at kk; exact kk) (fun m hm _ fm e2 => ⟨fm, ?_⟩)
  unfold rRft at hK
  rw [rPF_s e1 e2] at hK
  refine S_CisVariable fun _ => br_nb (fun e3 => by rw [r1_n e3] at hK; exact hK h (doneC.rf I)) (fun e3 => ?_)
  obtain ⟨x, ex⟩ := Option.isSome_iff_exists.mp e3
  rw [r1_s ex] at hK
  obtain ⟨lx, rfl⟩ := ix_some ex
  refine S_refusal hi hm W I fun _ => br_srf (B := fun x => K x h) (fun z => by rw [srf0 z] at hK; exact hK h (doneC.rf I)) (fun z z2 => by rw [srf5 z z2] at hK; exact hK h (doneC.rf I)) (fun z z2 => ?_)
  rw [srfk z z2] at hK
  refine S_firstRef hi hm W I (ne_len z) (fun q h1 dn _ => ⟨fun y => absurd rfl y, fun _ => ?_⟩) (fun p q r hp hq hr hlt d0 d1 d2 h1 dn _ => ⟨fun _ => ?_, fun y => absurd y (nn_none (by omega))⟩)
  · rw [if_pos q] at hK; exact hK h1 dn
  · rw [if_neg (by omega)] at hK
    refine S_unpack hp hq hr lx fun _ => ?_
    rw [dgt3 lx d0 d1 d2]
    exact hK h1 dn
theorem M_refutation (W : WS S) (I : InvM h S) (hK : ∀ h1, doneM S h h1 → K (rRft S v a b) h1) : Ev (d + 4) g g m_M_refutation 0 [.ref A_M, .int v, .int a, .int b] [] h (asI K) := by
  have bad : (ix v 4 = none ∨ ix a 6 = none) ∨ (ix b 3).isSome = false → ∀ h1, doneM S h h1 → K m1 h1 := fun e h1 dn => by
    have kk := hK h1 dn
    unfold rRft at kk
    cases e1 : ix v 4 with
    | none => rw [rPF_v e1] at kk; exact kk
    | some i =>
      cases e2 : ix a 6 with
      | none => rw [rPF_a e2] at kk; exact kk
      | some m =>
        rw [rPF_s e1 e2] at kk
        rcases e with (e | e) | e
        · rw [e1] at e; cases e
        · rw [e2] at e; cases e
        · rw [r1_n e] at kk; exact kk
  refine w_M_refutation_0 I.1 (S_MisVariable fun _ => br_nb (fun e3 => bad (Or.inr e3) h (doneM.rf I)) (fun e3 => ?_))
  refine S_MnotAsked W I (fun e h1 dn _ => ⟨fun z => absurd z (by decide), fun _ => bad (Or.inl e) h1 dn⟩) (fun i m e1 e2 h1 dn A => ?_)
  intro _
  unfold rRft at hK
  rw [rPF_s e1 e2] at hK
  obtain ⟨x, ex⟩ := Option.isSome_iff_exists.mp e3
  rw [r1_s ex] at hK
  obtain ⟨lx, rfl⟩ := ix_some ex
  obtain ⟨hi, rfl⟩ := ix_some e1
  obtain ⟨hm, rfl⟩ := ix_some e2
  have vl := vV_le (m := m) W hi
  have fl := ffn_le (Rf S i m) (vV S i m) 0
  refine br_srf (B := fun x => K x h1) (fun z => by rw [srf0 z] at hK; exact hK h1 dn) (fun z z2 => by rw [srf5 z z2] at hK; exact hK h1 dn) (fun z z2 => ?_)
  rw [srfk z z2] at hK
  refine S_Mrefuting hi hm W dn.1 A (ne_len z) fun h2 dn2 A2 _ => ?_
  rw [A2.2.2]
  refine br_ne (ffn (Rf S i m) (vV S i m) 0) (vV S i m) rfl rfl (fun q => ?_) (fun q => ?_)
  · rw [if_pos q] at hK; exact hK h2 (dn.tr dn2)
  · rw [if_neg q] at hK
    exact S_MelementIn hi hm W dn2.1 A2 lx (by omega) fun _ => hK h2 (dn.tr dn2)
theorem C_countValuations (W : WS S) (I : InvC h S) (hK : ∀ h1, doneC S h h1 → K (rCnt S v a b) h1) : Ev (d + 5) g g m_C_countValuations 0 [.ref A_x, .int v, .int a, .int b] [] h (asI K) := by
  refine w_C_countValuations_0 I.1 (S_posetAt I.1 (fun e => ?_) (fun i hi _ fi e1 => ⟨fi, ?_⟩))
  · have kk := hK h (doneC.rf I)
    unfold rCnt at kk
    rw [rPF_v e] at kk
    exact S_formulaAt I.1 (fun _ => kk) (fun l _ _ fp _ => ⟨fp, kk⟩)
  refine S_formulaAt I.1 (fun e => by have kk := hK h (doneC.rf I); unfold rCnt at kk; rw [rPF_a e] at kk; exact kk) (fun m hm _ fm e2 => ⟨fm, ?_⟩)
  unfold rCnt at hK
  rw [rPF_s e1 e2] at hK
  have h6 := (W.1 i hi).1.1.2
  have hl : (pE (sP S i)).length ≤ 64 := elems_len (up := (sP S i).2.1) h6
  have el := (I.2.1 i hi).2.2.1
  refine S_hasElement fi el.1 hl fun _ => br_nb (fun e3 => by rw [r1_n e3] at hK; exact hK h (doneC.rf I)) (fun e3 => ?_)
  obtain ⟨x, ex⟩ := Option.isSome_iff_exists.mp e3
  rw [r1_s ex] at hK
  obtain ⟨lx, rfl⟩ := ix_some ex
  have lx : x < (pE (sP S i)).length := lx
  refine S_refusal hi hm W I fun _ => br_srf (B := fun x => K x h) (fun z => by rw [srf0 z] at hK; exact hK h (doneC.rf I)) (fun z z2 => by rw [srf5 z z2] at hK; exact hK h (doneC.rf I)) (fun z z2 => ?_)
  rw [srfk z z2] at hK
  rw [nI_clamp (n := x) (by omega), el.2.1 x lx]
  exact ⟨vp_in_nI (by omega) (by decide), S_valWith (el64 h6 (getD_mem lx)) hi hm W I (ne_len z) fun h1 dn _ => hK h1 dn⟩
theorem M_countValuations (W : WS S) (I : InvM h S) (hK : ∀ h1, doneM S h h1 → K (rCnt S v a b) h1) : Ev (d + 4) g g m_M_countValuations 0 [.ref A_M, .int v, .int a, .int b] [] h (asI K) := by
  refine w_M_countValuations_0 I.1 (S_MnotAsked W I (fun e h1 dn _ => ⟨fun _ => ?_, fun z => absurd rfl z⟩) (fun i m e1 e2 h1 dn A => ?_))
  · have kk := hK h1 dn
    unfold rCnt at kk
    rcases e with e | e
    · rw [rPF_v e] at kk; exact kk
    · rw [rPF_a e] at kk; exact kk
  intro _
  unfold rCnt at hK
  rw [rPF_s e1 e2] at hK
  obtain ⟨hi, rfl⟩ := ix_some e1
  obtain ⟨hm, rfl⟩ := ix_some e2
  have h6 := (W.1 i hi).1.1.2
  have hl : (pE (sP S i)).length ≤ 64 := elems_len (up := (sP S i).2.1) h6
  have vl := vV_le (m := m) W hi
  have nm : ¬ srf (sF S m).1.length (vV S i m) (nI 0) = m1 := by
    unfold srf
    split
    · decide
    · split <;> decide
  refine ⟨fun z => absurd z nm, fun _ => S_MisElement dn.1.1 A.1.1 hl fun _ => br_nb (fun e3 => by rw [r1_n e3] at hK; exact hK h1 dn) (fun e3 => ?_)⟩
  obtain ⟨t, et⟩ := Option.isSome_iff_exists.mp e3
  rw [r1_s et] at hK
  obtain ⟨lt, rfl⟩ := ix_some et
  have lt : t < (pE (sP S i)).length := lt
  have t64 : (pE (sP S i)).getD t 0 < 64 := el64 h6 (getD_mem lt)
  refine br_srf (B := fun x => K x h1) (fun z => by rw [srf0 z] at hK; exact hK h1 dn) (fun z z2 => by rw [srf5 z z2] at hK; exact hK h1 dn) (fun z z2 => ?_)
  rw [srfk z z2] at hK
  refine for_up (σ := AH) (fun x hh => Ev (d + 4) g g m_M_countValuations 38 [.ref A_M, .int (nI i), .int (nI m), .int (nI t), unk, .int (nI (ck (fun x => vN S i m x == (pE (sP S i)).getD t 0) x)), .int (nI x)] [] hh (asI K)) (fun x hh => doneM S h hh ∧ ASK S i m hh) (vV S i m) (fun hh hI => ?_) (fun x hh hx hI ih => ?_) 0 h1 (Nat.zero_le _) ⟨dn, A⟩
  · obtain ⟨dn, A2⟩ := hI
    refine w_M_countValuations_38 dn.1.1 ?_
    rw [A2.2.2]
    exact br_le _ _ rfl rfl (fun _ => hK hh dn) (fun z => by omega)
  · obtain ⟨dn, A2⟩ := hI
    refine w_M_countValuations_38 dn.1.1 ?_
    rw [A2.2.2]
    refine br_le _ x rfl rfl (fun z => by omega) (fun _ => S_MbitsBy hi hm W dn.1 A2 (ne_len z) (by omega) fun h2 dn1 A3 x64 _ => ⟨vp_in_nI (by omega) (by decide), ?_⟩)
    have i1 := ih h2 ⟨dn.tr dn1, A3⟩
    unfold ck at i1
    rw [nI_clamp (n := t) (by omega), A3.1.2.1 t lt, nI_add x 1, nI_add _ 0, nI_add _ 1]
    refine br_ne (vN S i m x) ((pE (sP S i)).getD t 0) rfl rfl (fun q => ?_) (fun q => ?_)
    · rw [show (vN S i m x == (pE (sP S i)).getD t 0) = true by simpa using q] at i1
      exact i1
    · rw [show (vN S i m x == (pE (sP S i)).getD t 0) = false by simpa using q] at i1
      exact i1
end VLD

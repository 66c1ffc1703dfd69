/-! the value of a formula by a valuation -/
def STK (f : Nat → Int32) : List Nat → Prop
  | [] => True
  | x :: st => f st.length = nI x ∧ STK f st
theorem STK.ext {f f2 : Nat → Int32} : ∀ {st : List Nat}, STK f st → (∀ j, j < st.length → f2 j = f j) → STK f2 st
  | [], _, _ => trivial
  | x :: st, s, h => ⟨(h st.length (by simp)).trans s.1, STK.ext s.2 fun j hj => h j (by simp; omega)⟩
def leafV (T : Nat) (env : Nat → Nat) (c : Nat) : Nat := match c with
  | 3 => 0
  | 4 => T
  | c => env c
section RUN
variable {I : Nat → Nat → Nat} {T : Nat} {env : Nat → Nat}
theorem runC_leaf {c : Nat} {l st : List Nat} (h : c < 5) : runC I T env (c :: l) st = runC I T env l (leafV T env c :: st) := by
  match c, h with
  | 0, _ => rfl
  | 1, _ => rfl
  | 2, _ => rfl
  | 3, _ => rfl
  | 4, _ => rfl
theorem runM_leaf {c : Nat} {l st : List Nat} (h : c < 5) : runM I T env (c :: l) st = runM I T env l (leafV T env c :: st) := by
  match c, h with
  | 0, _ => rfl
  | 1, _ => rfl
  | 2, _ => rfl
  | 3, _ => rfl
  | 4, _ => rfl
theorem runC_big {c : Nat} {l st : List Nat} (h : 8 < c) : runC I T env (c :: l) st = none := by
  obtain ⟨k, rfl⟩ : ∃ k, c = k + 9 := ⟨c - 9, by omega⟩
  rfl
theorem runM_big {c : Nat} {l st : List Nat} (h : 8 < c) : runM I T env (c :: l) st = none := by
  obtain ⟨k, rfl⟩ : ∃ k, c = k + 9 := ⟨c - 9, by omega⟩
  rfl
/-- what a step takes off the stack -/
theorem runC_two {c : Nat} {l st r : List Nat} (h5 : 5 ≤ c) (h8 : c < 8) (e : runC I T env (c :: l) st = some r) : ∃ y x s, st = y :: x :: s ∧ runC I T env l ((if c = 7 then x &&& y else if c = 6 then x ||| y else I x y) :: s) = some r := by
  match c, st, h5, h8, e with
  | 5, y :: x :: s, _, _, e => exact ⟨y, x, s, rfl, e⟩
  | 6, y :: x :: s, _, _, e => exact ⟨y, x, s, rfl, e⟩
  | 7, y :: x :: s, _, _, e => exact ⟨y, x, s, rfl, e⟩
  | 5, [], _, _, e => cases e
  | 6, [], _, _, e => cases e
  | 7, [], _, _, e => cases e
  | 5, [_], _, _, e => cases e
  | 6, [_], _, _, e => cases e
  | 7, [_], _, _, e => cases e
theorem runC_one {l st r : List Nat} (e : runC I T env (8 :: l) st = some r) : ∃ x s, st = x :: s ∧ runC I T env l (I x 0 :: s) = some r := by
  match st, e with
  | x :: s, e => exact ⟨x, s, rfl, e⟩
  | [], e => cases e
theorem runM_two {c : Nat} {l st r : List Nat} (h5 : 6 ≤ c) (h8 : c < 9) (e : runM I T env (c :: l) st = some r) : ∃ y x s, st = y :: x :: s ∧ runM I T env l ((if c = 6 then x &&& y else if c = 7 then x ||| y else I x y) :: s) = some r := by
  match c, st, h5, h8, e with
  | 6, y :: x :: s, _, _, e => exact ⟨y, x, s, rfl, e⟩
  | 7, y :: x :: s, _, _, e => exact ⟨y, x, s, rfl, e⟩
  | 8, y :: x :: s, _, _, e => exact ⟨y, x, s, rfl, e⟩
  | 6, [], _, _, e => cases e
  | 7, [], _, _, e => cases e
  | 8, [], _, _, e => cases e
  | 6, [_], _, _, e => cases e
  | 7, [_], _, _, e => cases e
  | 8, [_], _, _, e => cases e
theorem runM_one {l st r : List Nat} (e : runM I T env (5 :: l) st = some r) : ∃ x s, st = x :: s ∧ runM I T env l (I x 0 :: s) = some r := by
  match st, e with
  | x :: s, e => exact ⟨x, s, rfl, e⟩
  | [], e => cases e
end RUN
abbrev impI (n : Nat) (up : Nat → Nat) (x y : Nat) : Nat := impk up x y n
/-- the value of a formula -/
def fval (n : Nat) (up : Nat → Nat) (env : Nat → Nat) (l : List Nat) : Nat := match runC (impI n up) (2 ^ n - 1) env l [] with
  | some (x :: _) => x
  | _ => 0
theorem fval_run {p : List Nat × List Nat} (fo : FOK p) (h0 : p.1 ≠ []) (n : Nat) (up env : Nat → Nat) : runC (impI n up) (2 ^ n - 1) env p.1 [] = some [fval n up env p.1] ∧ runM (impI n up) (2 ^ n - 1) env p.2 [] = some [fval n up env p.1] := by
  obtain ⟨x, hx⟩ := fo.2.2.2 h0 (impI n up) (2 ^ n - 1) env
  have e := (hx []).1
  have : fval n up env p.1 = x := by unfold fval; rw [e]
  rw [this]
  exact hx []
section EV
variable {d g n : Nat} {up val env : Nat → Nat} {h : AH} {K : Int32 → AH → Prop}
theorem top_mem (w : wfP n up) : 2 ^ n - 1 ∈ elems n up := by
  have h6 := w.1.2
  have := p2_pos n
  refine (mem_elems h6).mpr ⟨by omega, (isUp_iff w _).mpr fun x y hx hy _ _ => ?_⟩
  rw [Nat.testBit_two_pow_sub_one]
  exact decide_eq_true hy
theorem bot_mem (w : wfP n up) : 0 ∈ elems n up := by
  have h6 := w.1.2
  have := p2_pos n
  refine (mem_elems h6).mpr ⟨by omega, (isUp_iff w _).mpr fun x y hx hy hb _ => ?_⟩
  rw [Nat.zero_testBit] at hb
  cases hb
theorem leaf_mem (w : wfP n up) (he : ∀ v, v < 3 → env v ∈ elems n up) {c : Nat} (hc : c < 5) : leafV (2 ^ n - 1) env c ∈ elems n up := by
  match c, hc with
  | 0, _ => exact he 0 (by decide)
  | 1, _ => exact he 1 (by decide)
  | 2, _ => exact he 2 (by decide)
  | 3, _ => exact bot_mem w
  | 4, _ => exact top_mem w
theorem S_joined {b x y c : Nat} (f : is_P h b) (P : PC h b n up val) (w : wfP n up) (hx : x < 64) (hy : y < 64) (hc : c < 9) (hK : K (nI (if c = 7 then x &&& y else if c = 6 then x ||| y else impI n up x y)) h) : Ev (d + 2) g g m_F_joined 0 [.ref b, .int (nI c), .int (nI x), .int (nI y)] [] h (asI K) := by
  refine w_F_joined_0 f ?_
  refine br_ne c 7 rfl rfl (fun z => ?_) (fun z => br_ne c 6 rfl rfl (fun z2 => ?_) (fun z2 => ?_))
  · rw [if_pos z] at hK
    rw [nm_and x hx y hy]
    exact hK
  · rw [if_neg z, if_pos z2] at hK
    rw [nm_or x hx y hy]
    exact hK
  · rw [if_neg z, if_neg z2] at hK
    exact S_implication f P.1.1 w P.2.1 hx hy fun _ => hK
theorem two_mem (w : wfP n up) {x y : Nat} (c1 c2 : Prop) [Decidable c1] [Decidable c2] (hx : x ∈ elems n up) (hy : y ∈ elems n up) : (if c1 then x &&& y else if c2 then x ||| y else impI n up x y) ∈ elems n up := by
  split
  · exact opS_mem w (op := 0) hx hy
  · split
    · exact opS_mem w (op := 1) hx hy
    · exact opS_mem w (op := 2) hx hy
theorem nm1 {k : Nat} : nI (k + 1) + (cI (.negSucc 0)) = nI k := pk_m1 k
theorem S_bitsLoop {a b x : Nat} (hab : b + 5 < a) (w : wfP n up) (he : ∀ v, v < 3 → env v ∈ elems n up) : ∀ (l : List Nat) (k : Nat) (st : List Nat) (hh : AH), is_F hh a → is_P hh b → PC hh b n up val → mi hh a 0 = nI (k + l.length) → k + l.length ≤ 60 → (∀ j, j < l.length → mi hh (a + 1) (k + j) = nI (l.getD j 0)) → (∀ v, v < 5 → mi hh (a + 2) v = nI (leafV (2 ^ n - 1) env v)) → st.length ≤ k → STK (mi hh (a + 3)) st → (∀ y, y ∈ st → y ∈ elems n up) → runC (impI n up) (2 ^ n - 1) env l st = some [x] → (∀ h1, Ext hh h1 → same (fun q => q ≠ a + 3) hh h1 → x ∈ elems n up → K (nI x) h1) → Ev (d + 3) g g m_F_bitsOfValue 21 [.ref a, .ref b, .int (nI st.length), .int (nI k)] [] hh (asI K) := by
  have h6 := w.1.2
  intro l
  induction l with
  | nil =>
    intro k st hh fa fb P hn hk hs hl hst S hm hr hK
    have e : st = [x] := by injection hr
    subst e
    refine w_F_bitsOfValue_21 fa fb (br_le k k hn rfl (fun _ => ?_) (fun z => by omega))
    have e1 : [x].length = 1 := rfl
    rw [e1]
    refine ⟨fun z => absurd z (by decide), fun _ => ?_⟩
    have e0 : (nI 1 - nI 1).toNatClampNeg = 0 := by decide
    rw [e0, show mi hh (a + 3) 0 = nI x from S.1]
    exact ⟨by rw [pk_sub (by decide)]; exact vp_in_nI (by decide) (by decide), hK hh Ext.rfl' same.rf (hm x (by simp))⟩
  | cons c l ih =>
    intro k st hh fa fb P hn hk hs hl hst S hm hr hK
    have hlen : (c :: l).length = l.length + 1 := rfl
    rw [hlen] at hn hk hs
    have s0 : mi hh (a + 1) k = nI c := hs 0 (by omega)
    have hs' : ∀ j, j < l.length → mi hh (a + 1) (k + 1 + j) = nI (l.getD j 0) := fun j hj => by
      have := hs (j + 1) (by omega)
      rw [show k + (j + 1) = k + 1 + j by omega] at this
      exact this
    have hn' : mi hh a 0 = nI (k + 1 + l.length) := by rw [hn, show k + (l.length + 1) = k + 1 + l.length by omega]
    have c9 : c < 9 := by
      apply Classical.byContradiction
      intro z
      rw [runC_big (by omega)] at hr
      cases hr
    -- on, with a value written
    have go : ∀ (v : Nat) (s2 : List Nat), v ∈ elems n up → s2.length + 1 ≤ k + 1 → s2.length < 60 → STK (mi hh (a + 3)) s2 → (∀ y, y ∈ s2 → y ∈ elems n up) → runC (impI n up) (2 ^ n - 1) env l (v :: s2) = some [x] → Ev (d + 3) g g m_F_bitsOfValue 21 [.ref a, .ref b, .int (nI (s2.length + 1)), .int (nI (k + 1))] [] (wi hh (a + 3) s2.length (nI v)) (asI K) := fun v s2 hv hs2 h60 S2 hm2 hr2 => by
      have e := ext_wi hh (a + 3) s2.length (nI v)
      refine ih (k + 1) (v :: s2) _ (fa.ext e) (fb.ext e) (P.keep (P := fun q _ => q ≠ a + 3) (sm.rf.wi (fun q => q rfl)) fun q j h1 h2 => by show q ≠ a + 3; omega) (by rw [mi_ne (by omega)]; exact hn') (by omega) (fun j hj => by rw [mi_ne (by omega)]; exact hs' j hj) (fun u hu => by rw [mi_ne (by omega)]; exact hl u hu) hs2 ⟨mi_eq, S2.ext fun j hj => by rw [mi_nj (by omega)]⟩ (fun y hy => ?_) hr2 fun h1 e1 s1 hx => hK h1 (e.trans e1) ((same.rf.wi (fun q => q rfl)).trans s1) hx
      rcases List.mem_cons.mp hy with z | z
      · rw [z]; exact hv
      · exact hm2 y z
    refine w_F_bitsOfValue_21 fa fb (br_le (k + (l.length + 1)) k hn rfl (fun z => by omega) (fun _ => ⟨vp_in_nI (by omega) (by decide), ?_⟩))
    rw [nI_clamp (n := k) (by omega), s0, nI_add k 1]
    refine br_le 5 c rfl rfl (fun h5 => ?_) (fun h5 => ?_)
    · refine br_ne c 8 rfl rfl (fun z => ?_) (fun z => ?_)
      · subst z
        obtain ⟨y, s2, rfl, hr2⟩ := runC_one hr
        have hlen2 : (y :: s2).length = s2.length + 1 := rfl
        rw [hlen2] at hst ⊢
        have my := hm y (by simp)
        have y64 := el64 h6 my
        refine br_le (s2.length + 1) 0 rfl rfl (fun q => by omega) (fun _ => ?_)
        rw [pk_sub (a := s2.length + 1) (b := 1) (by omega), Nat.add_sub_cancel, nI_clamp (n := s2.length) (by omega), S.1]
        refine ⟨vp_in_nI (by omega) (by decide), S_implication fb P.1.1 w P.2.1 y64 (by decide) fun _ => ⟨vp_in_nI (by omega) (by decide), ?_⟩⟩
        exact go _ s2 (opS_mem w (op := 2) my (bot_mem w)) (by omega) (by omega) S.2 (fun q hq => hm q (by simp [hq])) hr2
      · obtain ⟨y, u, s2, rfl, hr2⟩ := runC_two h5 (by omega) hr
        have hlen2 : (y :: u :: s2).length = s2.length + 1 + 1 := rfl
        rw [hlen2] at hst ⊢
        have my := hm y (by simp)
        have mu := hm u (by simp)
        refine br_le (s2.length + 1 + 1) 1 rfl rfl (fun q => by omega) (fun _ => ?_)
        rw [nm1, pk_sub (a := s2.length + 1) (b := 1) (by omega), Nat.add_sub_cancel, nI_clamp (n := s2.length) (by omega), nI_clamp (n := s2.length + 1) (by omega), S.2.1, show mi hh (a + 3) (s2.length + 1) = nI y from S.1]
        refine ⟨vp_in_nI (by omega) (by decide), vp_in_nI (by omega) (by decide), S_joined fb P w (el64 h6 mu) (el64 h6 my) c9 fun _ => ⟨vp_in_nI (by omega) (by decide), ?_⟩⟩
        exact go _ s2 (two_mem w _ _ mu my) (by omega) (by omega) S.2.2 (fun q hq => hm q (by simp [hq])) hr2
    · rw [runC_leaf h5] at hr
      rw [nI_clamp (n := c) (by omega), nI_clamp (n := st.length) (by omega), hl c h5, nI_add st.length 1]
      exact ⟨vp_in_nI h5 (by decide), vp_in_nI (by omega) (by decide), go _ st (leaf_mem w he h5) (by omega) (by omega) S hm hr⟩
theorem leaf_env {T v : Nat} (hv : v < 3) : leafV T env v = env v := by
  match v, hv with
  | 0, _ => rfl
  | 1, _ => rfl
  | 2, _ => rfl
theorem S_bitsOfValue {a b : Nat} {p : List Nat × List Nat} (hab : b + 5 < a) (w : wfP n up) (he : ∀ v, v < 3 → env v ∈ elems n up) (fa : is_F h a) (fb : is_P h b) (P : PC h b n up val) (fo : FOK p) (h0 : p.1 ≠ []) (hc : mi h a 0 = nI p.1.length ∧ ∀ k, k < p.1.length → mi h (a + 1) k = nI (p.1.getD k 0)) (hl : ∀ v, v < 3 → mi h (a + 2) v = nI (env v)) (hK : ∀ h1, Ext h h1 → same (fun q => q ≠ a + 2 ∧ q ≠ a + 3) h h1 → (∀ v, v < 3 → mi h1 (a + 2) v = nI (env v)) → fval n up env p.1 ∈ elems n up → K (nI (fval n up env p.1)) h1) : Ev (d + 3) g g m_F_bitsOfValue 0 [.ref a, .ref b] [] h (asI K) := by
  have h6 := w.1.2
  have hr := (fval_run fo h0 n up env).1
  have e1 := ext_wi h (a + 2) 3 (nI 0)
  refine w_F_bitsOfValue_0 fa fb ⟨vp_in_nI (by decide) (by decide), ?_⟩
  rw [nI_clamp (n := 3) (by decide), nI_clamp (n := 4) (by decide)]
  refine S_allPoints (fb.ext e1) (by rw [mi_ne (by omega)]; exact P.1.1) h6 fun _ => ⟨vp_in_nI (by decide) (by decide), ?_⟩
  have e2 := e1.trans (ext_wi (wi h (a + 2) 3 (nI 0)) (a + 2) 4 (nI (2 ^ n - 1)))
  have s2 : same (fun q => q ≠ a + 2) h (wi (wi h (a + 2) 3 (nI 0)) (a + 2) 4 (nI (2 ^ n - 1))) := (same.rf.wi (fun q => q rfl)).wi (fun q => q rfl)
  refine S_bitsLoop (x := fval n up env p.1) hab w he p.1 0 [] _ (fa.ext e2) (fb.ext e2) (P.keep s2.sm fun q j h1 h2 => by show q ≠ a + 2; omega) (by rw [(s2 a (by omega)).1 0, Nat.zero_add]; exact hc.1) (by rw [Nat.zero_add]; exact fo.2.1) (fun j hj => by rw [(s2 (a + 1) (by omega)).1, Nat.zero_add]; exact hc.2 j hj) (fun v hv => ?_) (Nat.le_refl _) trivial (fun y hy => by cases hy) hr fun h1 ee ss hx => hK h1 (e2.trans ee) ((s2.sub fun q hq => hq.1).trans (ss.sub fun q hq => hq.2)) (fun v hv => ?_) hx
  · match v, hv with
    | 0, _ => rw [mi_nj (by decide), mi_nj (by decide)]; exact hl 0 (by decide)
    | 1, _ => rw [mi_nj (by decide), mi_nj (by decide)]; exact hl 1 (by decide)
    | 2, _ => rw [mi_nj (by decide), mi_nj (by decide)]; exact hl 2 (by decide)
    | 3, _ => rw [mi_nj (by decide)]; exact mi_eq
    | 4, _ => exact mi_eq
  · rw [(ss (a + 2) (by omega)).1 v, mi_nj (by omega), mi_nj (by omega)]
    exact hl v hv
/-! the reference -/
theorem nI_ix60 {i x : Nat} : nI 60 * nI i + nI x = nI (60 * i + x) := by rw [pk_mul, nI_add]
theorem S_MbitsLoop {i f x : Nat} (hi : i < 5) (hf : f < 6) (w : wfP n up) (he : ∀ v, v < 3 → env v ∈ elems n up) : ∀ (l : List Nat) (k : Nat) (st : List Nat) (hh : AH), is_M hh → MO hh i n up → mi hh M_formulaSizes f = nI (k + l.length) → k + l.length ≤ 60 → (∀ j, j < l.length → mi hh M_formula (60 * f + (k + j)) = nI (l.getD j 0)) → (∀ v, v < 3 → mi hh M_given v = nI (env v)) → st.length ≤ k → STK (mi hh M_stack) st → (∀ y, y ∈ st → y ∈ elems n up) → runM (impI n up) (2 ^ n - 1) env l st = some [x] → (∀ h1, Ext hh h1 → sm (fun q _ => q ≠ M_stack) hh h1 → x ∈ elems n up → K (nI x) h1) → Ev (d + 1) g g m_M_valueBits 5 [.ref A_M, .int (nI i), .int (nI f), .int (nI st.length), .int (nI k)] [] hh (asI K) := by
  have h6 := w.1.2
  intro l
  induction l with
  | nil =>
    intro k st hh fM o hn hk hs hl hst S hm hr hK
    have e : st = [x] := by injection hr
    subst e
    refine w_M_valueBits_5 fM ⟨vp_in_nI hf (by decide), ?_⟩
    rw [nI_clamp (n := f) (by omega), hn]
    refine br_le k k rfl rfl (fun _ => ⟨vp_in_nI (by decide) (by decide), ?_⟩) (fun z => by omega)
    rw [nI_clamp (n := 0) (by decide), show mi hh M_stack 0 = nI x from S.1]
    exact hK hh Ext.rfl' sm.rf (hm x (by simp))
  | cons c l ih =>
    intro k st hh fM o hn hk hs hl hst S hm hr hK
    have hlen : (c :: l).length = l.length + 1 := rfl
    rw [hlen] at hn hk hs
    have s0 : mi hh M_formula (60 * f + k) = nI c := hs 0 (by omega)
    have hs' : ∀ j, j < l.length → mi hh M_formula (60 * f + (k + 1 + j)) = nI (l.getD j 0) := fun j hj => by
      have := hs (j + 1) (by omega)
      rw [show k + (j + 1) = k + 1 + j by omega] at this
      exact this
    have hn' : mi hh M_formulaSizes f = nI (k + 1 + l.length) := by rw [hn, show k + (l.length + 1) = k + 1 + l.length by omega]
    have c9 : c < 9 := by
      apply Classical.byContradiction
      intro z
      rw [runM_big (by omega)] at hr
      cases hr
    have go : ∀ (v : Nat) (s2 : List Nat), v ∈ elems n up → s2.length + 1 ≤ k + 1 → STK (mi hh M_stack) s2 → (∀ y, y ∈ s2 → y ∈ elems n up) → runM (impI n up) (2 ^ n - 1) env l (v :: s2) = some [x] → Ev (d + 1) g g m_M_valueBits 5 [.ref A_M, .int (nI i), .int (nI f), .int (nI (s2.length + 1)), .int (nI (k + 1))] [] (wi hh M_stack s2.length (nI v)) (asI K) := fun v s2 hv hs2 S2 hm2 hr2 => by
      have e := ext_wi hh M_stack s2.length (nI v)
      refine ih (k + 1) (v :: s2) _ (fM.ext e) (o.keep (P := fun q _ => q ≠ M_stack) (sm.rf.wi (fun q => q rfl)) (by decide) fun z _ => by show (75 : Nat) ≠ 85; decide) (by rw [mi_ne (by decide)]; exact hn') (by omega) (fun j hj => by rw [mi_ne (by decide)]; exact hs' j hj) (fun u hu => by rw [mi_ne (by decide)]; exact hl u hu) hs2 ⟨mi_eq, S2.ext fun j hj => by rw [mi_nj (by omega)]⟩ (fun y hy => ?_) hr2 fun h1 e1 s1 hx => hK h1 (e.trans e1) ((sm.rf.wi (fun q => q rfl)).trans s1) hx
      rcases List.mem_cons.mp hy with z | z
      · rw [z]; exact hv
      · exact hm2 y z
    refine w_M_valueBits_5 fM ⟨vp_in_nI hf (by decide), ?_⟩
    rw [nI_ix60, nI_clamp (n := f) (by omega), hn, nI_clamp (n := 60 * f + k) (by omega), s0, nI_add k 1]
    refine br_le (k + (l.length + 1)) k rfl rfl (fun z => by omega) (fun _ => ⟨vp_in_nI (by omega) (by decide), ?_⟩)
    have v3 : st.length < 64 := by omega
    have ih1 : ∀ {m : Nat}, nI c = nI m → m < 9 → c = m := fun z hm => nI_inj (by omega) (by omega) z
    refine ⟨fun z => ?_, fun z => ?_, fun z => ?_, fun z => ?_, fun z => ?_, fun z => ?_, fun z => ?_⟩
    · have := ih1 z (by decide)
      subst this
      rw [runM_leaf (by decide)] at hr
      rw [nI_clamp (n := st.length) (by omega), nI_add st.length 1]
      exact ⟨vp_in_nI v3 (by decide), go 0 st (bot_mem w) (by omega) S hm hr⟩
    · have := ih1 z (by decide)
      subst this
      rw [runM_leaf (by decide)] at hr
      refine S_MallOf fM hi o.1 h6 fun _ => ?_
      rw [nI_clamp (n := st.length) (by omega), nI_add st.length 1]
      exact ⟨vp_in_nI v3 (by decide), go (2 ^ n - 1) st (top_mem w) (by omega) S hm hr⟩
    · have := ih1 z (by decide)
      subst this
      obtain ⟨y, s2, rfl, hr2⟩ := runM_one hr
      have hlen2 : (y :: s2).length = s2.length + 1 := rfl
      rw [hlen2] at hst ⊢
      have my := hm y (by simp)
      rw [pk_sub (a := s2.length + 1) (b := 1) (by omega), Nat.add_sub_cancel, nI_clamp (n := s2.length) (by omega), S.1]
      refine ⟨vp_in_nI (by omega) (by decide), S_MimpliedBits fM hi o w (el64 h6 my) (by decide) fun _ => ⟨vp_in_nI (by omega) (by decide), ?_⟩⟩
      exact go _ s2 (opS_mem w (op := 2) my (bot_mem w)) (by omega) S.2 (fun q hq => hm q (by simp [hq])) hr2
    · have := ih1 z (by decide)
      subst this
      obtain ⟨y, u, s2, rfl, hr2⟩ := runM_two (by decide) (by decide) hr
      have hlen2 : (y :: u :: s2).length = s2.length + 1 + 1 := rfl
      rw [hlen2] at hst ⊢
      have my := hm y (by simp)
      have mu := hm u (by simp)
      rw [nm1, pk_sub (a := s2.length + 1) (b := 1) (by omega), Nat.add_sub_cancel, nI_clamp (n := s2.length) (by omega), nI_clamp (n := s2.length + 1) (by omega), S.2.1, show mi hh M_stack (s2.length + 1) = nI y from S.1, nm_and u (el64 h6 mu) y (el64 h6 my)]
      exact ⟨vp_in_nI (by omega) (by decide), vp_in_nI (by omega) (by decide), vp_in_nI (by omega) (by decide), go _ s2 (opS_mem w (op := 0) mu my) (by omega) S.2.2 (fun q hq => hm q (by simp [hq])) hr2⟩
    · have := ih1 z (by decide)
      subst this
      obtain ⟨y, u, s2, rfl, hr2⟩ := runM_two (by decide) (by decide) hr
      have hlen2 : (y :: u :: s2).length = s2.length + 1 + 1 := rfl
      rw [hlen2] at hst ⊢
      have my := hm y (by simp)
      have mu := hm u (by simp)
      rw [nm1, pk_sub (a := s2.length + 1) (b := 1) (by omega), Nat.add_sub_cancel, nI_clamp (n := s2.length) (by omega), nI_clamp (n := s2.length + 1) (by omega), S.2.1, show mi hh M_stack (s2.length + 1) = nI y from S.1, nm_or u (el64 h6 mu) y (el64 h6 my)]
      exact ⟨vp_in_nI (by omega) (by decide), vp_in_nI (by omega) (by decide), vp_in_nI (by omega) (by decide), go _ s2 (opS_mem w (op := 1) mu my) (by omega) S.2.2 (fun q hq => hm q (by simp [hq])) hr2⟩
    · have := ih1 z (by decide)
      subst this
      obtain ⟨y, u, s2, rfl, hr2⟩ := runM_two (by decide) (by decide) hr
      have hlen2 : (y :: u :: s2).length = s2.length + 1 + 1 := rfl
      rw [hlen2] at hst ⊢
      have my := hm y (by simp)
      have mu := hm u (by simp)
      rw [nm1, pk_sub (a := s2.length + 1) (b := 1) (by omega), Nat.add_sub_cancel, nI_clamp (n := s2.length) (by omega), nI_clamp (n := s2.length + 1) (by omega), S.2.1, show mi hh M_stack (s2.length + 1) = nI y from S.1]
      refine ⟨vp_in_nI (by omega) (by decide), vp_in_nI (by omega) (by decide), S_MimpliedBits fM hi o w (el64 h6 mu) (el64 h6 my) fun _ => ⟨vp_in_nI (by omega) (by decide), ?_⟩⟩
      exact go _ s2 (opS_mem w (op := 2) mu my) (by omega) S.2.2 (fun q hq => hm q (by simp [hq])) hr2
    · rw [nI_toInt (by omega)] at z
      have c3 : c < 3 := by omega
      rw [runM_leaf (by omega), leaf_env c3] at hr
      rw [nI_clamp (n := c) (by omega), nI_clamp (n := st.length) (by omega), nI_add st.length 1, hl c c3]
      exact ⟨vp_in_nI c3 (by decide), vp_in_nI v3 (by decide), go _ st (he c c3) (by omega) S hm hr⟩
theorem S_MvalueBits {i f : Nat} {p : List Nat × List Nat} (hi : i < 5) (hf : f < 6) (w : wfP n up) (he : ∀ v, v < 3 → env v ∈ elems n up) (fM : is_M h) (o : MO h i n up) (fo : FOK p) (h0 : p.1 ≠ []) (hc : MFo h f p.2) (hl : ∀ v, v < 3 → mi h M_given v = nI (env v)) (hK : ∀ h1, Ext h h1 → sm (fun q _ => q ≠ M_stack) h h1 → fval n up env p.1 ∈ elems n up → K (nI (fval n up env p.1)) h1) : Ev (d + 1) g g m_M_valueBits 0 [.ref A_M, .int (nI i), .int (nI f)] [] h (asI K) := by
  refine w_M_valueBits_0 fM ?_
  exact S_MbitsLoop (x := fval n up env p.1) hi hf w he p.2 0 [] h fM o (by rw [Nat.zero_add]; exact hc.1) (by rw [Nat.zero_add, ← fo.1]; exact fo.2.1) (fun j hj => by rw [Nat.zero_add]; exact hc.2 j hj) hl (Nat.le_refl _) trivial (fun y hy => by cases hy) (fval_run fo h0 n up env).2 hK
end EV

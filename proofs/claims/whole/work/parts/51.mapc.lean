/-! maps: the class's search -/
def fit (u1 u2 : Nat → Nat) (k : Nat) (f : Nat → Nat) (x y : Nat) : Bool := if k = 3 then (le u1 x y == le u2 (f x) (f y)) else (!le u1 x y || le u2 (f x) (f y))
theorem fit_1 {u1 u2 f : Nat → Nat} {k x y : Nat} (h : fit u1 u2 k f x y = true) (e : le u1 x y = true) : le u2 (f x) (f y) = true := by
  unfold fit at h
  rw [e] at h
  split at h
  · simpa using h
  · simpa using h
theorem fit_3 {u1 u2 f : Nat → Nat} {x y : Nat} (h : fit u1 u2 3 f x y = true) (e : le u1 x y = false) : le u2 (f x) (f y) = false := by
  unfold fit at h
  rw [if_pos rfl, e] at h
  simpa using h
theorem fit_no {n1 n2 k x y : Nat} {u1 u2 f : Nat → Nat} (hx : x < n1) (hy : y < n1) (h : fit u1 u2 k f x y = false) : ¬ okP n1 n2 u1 u2 k f := fun o => by
  unfold fit at h
  split at h
  · rename_i e3
    cases e : le u1 x y with
    | true => rw [e, o.1 x y hx hy e] at h; cases h
    | false => rw [e, o.2.2.2 e3 x y hx hy e] at h; cases h
  · cases e : le u1 x y with
    | true => rw [e, o.1 x y hx hy e] at h; cases h
    | false => rw [e] at h; cases h
def FIT (u1 u2 : Nat → Nat) (k : Nat) (f : Nat → Nat) (j : Nat) : Prop := ∀ x y, x < y → y < j → fit u1 u2 k f x y = true ∧ fit u1 u2 k f y x = true
theorem FIT.ok {n1 n2 k : Nat} {u1 u2 f : Nat → Nat} (w1 : wfP n1 u1) (w2 : wfP n2 u2) (hf : ∀ x, x < n1 → f x < n2) (F : FIT u1 u2 k f n1) (b1 : k = 1 → bdP n1 u1 u2 f) (b2 : k = 2 → rcP n1 n2 f ∧ bdP n1 u1 u2 f) : okP n1 n2 u1 u2 k f := by
  refine ⟨fun x y hx hy e => ?_, b1, b2, fun e3 x y hx hy e => ?_⟩
  · rcases Nat.lt_trichotomy x y with z | z | z
    · exact fit_1 (F x y z hy).1 e
    · subst z; exact w2.2.2.1 _ (hf x hx)
    · exact fit_1 (F y x z hx).2 e
  · subst e3
    rcases Nat.lt_trichotomy x y with z | z | z
    · exact fit_3 (F x y z hy).1 e
    · subst z; rw [w1.2.2.1 x hx] at e; cases e
    · exact fit_3 (F y x z hx).2 e
/-- what the search's object holds besides its map and its count -/
def SRC (h : AH) (r a1 a2 n1 n2 : Nat) (u1 u2 v1 v2 : Nat → Nat) (k : Nat) (b : Bool) : Prop := is_S h r a1 a2 ∧ PC h a1 n1 u1 v1 ∧ PC h a2 n2 u2 v2 ∧ mi h r 2 = nI k ∧ mi h r 3 = bI b
section MAPC
variable {d g r a1 a2 n1 n2 k : Nat} {u1 u2 v1 v2 f : Nat → Nat} {b : Bool} {h : AH} {K : Int32 → AH → Prop}
theorem SRC.keep {h1 : AH} (Z : SRC h r a1 a2 n1 n2 u1 u2 v1 v2 k b) (l1 : a1 + 5 < r) (l2 : a2 + 5 < r) (e : Ext h h1) (s : sm (fun q z => ¬ (q = r ∧ z = 5) ∧ q ≠ r + 1) h h1) : SRC h1 r a1 a2 n1 n2 u1 u2 v1 v2 k b := by
  obtain ⟨z1, z2, z3, z4, z5⟩ := Z
  refine ⟨z1.ext e, z2.keep s fun q j q1 q2 => ?_, z3.keep s fun q j q1 q2 => ?_, (s _ _ ?_).1.trans z4, (s _ _ ?_).1.trans z5⟩ <;> omega
theorem S_fitsOneWay {x y : Nat} (Z : SRC h r a1 a2 n1 n2 u1 u2 v1 v2 k b) (hk : k < 4) (w1 : wfP n1 u1) (w2 : wfP n2 u2) (hx : x < n1) (hy : y < n1) (mx : mi h (r + 1) x = nI (f x)) (my : mi h (r + 1) y = nI (f y)) (fx : f x < n2) (fy : f y < n2) (hK : K (bI (fit u1 u2 k f x y)) h) : Ev (d + 1) g g m_S_fitsOneWay 0 [.ref r, .int (nI x), .int (nI y)] [] h (asI K) := by
  obtain ⟨z1, z2, z3, z4, z5⟩ := Z
  have h1 := w1.1.2
  have h2 := w2.1.2
  refine w_S_fitsOneWay_0 z1 (S_below z1.p_source z2.1 w1 hx hy fun _ => ⟨vp_in_nI (by omega) (by decide), vp_in_nI (by omega) (by decide), ?_⟩)
  rw [nI_clamp (n := x) (by omega), nI_clamp (n := y) (by omega), mx, my]
  refine S_below z1.p_target z3.1 w2 fx fy fun _ => ?_
  rw [z4]
  unfold fit at hK
  refine br_ne k 3 rfl rfl (fun e => ?_) (fun e => ?_)
  · rw [if_pos e] at hK
    revert hK
    cases le u1 x y <;> cases le u2 (f x) (f y) <;> intro hK
    · exact ⟨fun z => absurd rfl z, fun _ => hK⟩
    · exact ⟨fun _ => hK, fun z => absurd z (by decide)⟩
    · exact ⟨fun _ => hK, fun z => absurd z (by decide)⟩
    · exact ⟨fun z => absurd rfl z, fun _ => hK⟩
  · rw [if_neg e] at hK
    refine br_b (fun e1 => ?_) (fun e1 => br_b (fun e2 => ?_) (fun e2 => ?_))
    · rw [e1] at hK; exact hK
    · rw [e1, e2] at hK; exact hK
    · rw [e1, e2] at hK; exact hK
theorem S_fitsEarlier {p : Nat} (Z : SRC h r a1 a2 n1 n2 u1 u2 v1 v2 k b) (hk : k < 4) (w1 : wfP n1 u1) (w2 : wfP n2 u2) (hp : p < n1) (hm : ∀ x, x < p + 1 → mi h (r + 1) x = nI (f x) ∧ f x < n2) (Y : (∀ x, x < p → fit u1 u2 k f x p = true ∧ fit u1 u2 k f p x = true) → K (nI 1) h) (N : (∃ x, x < p ∧ (fit u1 u2 k f x p = false ∨ fit u1 u2 k f p x = false)) → K (nI 0) h) : Ev (d + 2) g g m_S_fitsEarlier 0 [.ref r, .int (nI p)] [] h (asI K) := by
  have h1 := w1.1.2
  have fp := hm p (by omega)
  refine w_S_fitsEarlier_0 Z.1 ?_
  refine for_up (σ := Unit) (fun x _ => Ev (d + 2) g g m_S_fitsEarlier 2 [.ref r, .int (nI p), .int (nI x)] [] h (asI K)) (fun x _ => ∀ x', x' < x → fit u1 u2 k f x' p = true ∧ fit u1 u2 k f p x' = true) p (fun _ hI => ?_) (fun x _ hx hI ih => ?_) 0 () (Nat.zero_le _) (fun x' z => by omega)
  · exact w_S_fitsEarlier_2 Z.1 (br_le _ _ rfl rfl (fun _ => Y hI) (fun z => by omega))
  · have fx := hm x (by omega)
    refine w_S_fitsEarlier_2 Z.1 (br_le _ x rfl rfl (fun z => by omega) (fun _ => S_fitsOneWay Z hk w1 w2 (by omega) hp fx.1 fp.1 fx.2 fp.2 fun _ => br_b (fun e => N ⟨x, hx, Or.inl e⟩) (fun e => S_fitsOneWay Z hk w1 w2 hp (by omega) fp.1 fx.1 fp.2 fx.2 fun _ => br_nb (fun e2 => N ⟨x, hx, Or.inr e2⟩) (fun e2 => ?_))))
    rw [nI_add]
    refine ih () fun x' hx' => ?_
    by_cases c : x' = x
    · subst c; exact ⟨e, e2⟩
    · exact hI x' (by omega)
theorem S_imagesOf {s : Nat} (Z : SRC h r a1 a2 n1 n2 u1 u2 v1 v2 k b) (w1 : wfP n1 u1) (w2 : wfP n2 u2) (hs : s < 64) (hm : ∀ x, x < n1 → mi h (r + 1) x = nI (f x) ∧ f x < n2) (hK : K (nI (imS f s n1)) h) : Ev d g g m_S_imagesOf 0 [.ref r, .int (nI s)] [] h (asI K) := by
  have h1 := w1.1.2
  have h2 := w2.1.2
  refine w_S_imagesOf_0 Z.1 ?_
  refine for_up (σ := Unit) (fun x _ => Ev d g g m_S_imagesOf 4 [.ref r, .int (nI s), .int (nI (imS f s x)), .int (nI x)] [] h (asI K)) (fun _ _ => True) n1 (fun _ _ => ?_) (fun x _ hx _ ih => ?_) 0 () (Nat.zero_le _) trivial
  · exact w_S_imagesOf_4 Z.1 (br_le _ _ Z.2.1.1.1 rfl (fun _ => hK) (fun z => by omega))
  · have i1 := ih () trivial
    have fx := hm x hx
    have fx2 := fx.2
    have l64 := imS_lt (f := f) (s := s) x fun y hy => by have := (hm y (by omega)).2; omega
    refine w_S_imagesOf_4 Z.1 (br_le _ x Z.2.1.1.1 rfl (fun z => by omega) (fun _ => ?_))
    rw [nm_tb s hs x (by omega), nI_add]
    refine br_tb (fun e => ?_) (fun e => ?_)
    · rw [imS_f e] at i1; exact i1
    · rw [imS_t e] at i1
      rw [nI_clamp (n := x) (by omega), fx.1, nm_bit1 (f x) (by omega), nm_or _ l64 _ (p2_lt (by omega))]
      exact ⟨vp_in_nI (by omega) (by decide), i1⟩
theorem S_SisBounded (Z : SRC h r a1 a2 n1 n2 u1 u2 v1 v2 k b) (w1 : wfP n1 u1) (w2 : wfP n2 u2) (hm : ∀ x, x < n1 → mi h (r + 1) x = nI (f x) ∧ f x < n2) (Y : bdP n1 u1 u2 f → K (nI 1) h) (N : ¬ bdP n1 u1 u2 f → K (nI 0) h) : Ev (d + 1) g g m_S_isBounded 0 [.ref r] [] h (asI K) := by
  have h1 := w1.1.2
  have h2 := w2.1.2
  have l64 : ∀ s, imS f s n1 < 64 := fun s => imS_lt n1 fun y hy => by have := (hm y hy).2; omega
  refine w_S_isBounded_0 Z.1 ?_
  refine for_up (σ := Unit) (fun x _ => Ev (d + 1) g g m_S_isBounded 2 [.ref r, .int (nI x)] [] h (asI K)) (fun x _ => ∀ x', x' < x → u2 (f x') &&& (imS f (u1 x') n1 ^^^ 63) = 0) n1 (fun _ hI => ?_) (fun x _ hx hI ih => ?_) 0 () (Nat.zero_le _) (fun x' z => by omega)
  · exact w_S_isBounded_2 Z.1 (br_le _ _ Z.2.1.1.1 rfl (fun _ => Y hI) (fun z => by omega))
  · have fx := hm x hx
    have fx2 := fx.2
    have e := nm_dif (u2 (f x)) (w2.u64 fx.2) (imS f (u1 x) n1) (l64 _)
    unfold m1 at e
    refine w_S_isBounded_2 Z.1 (br_le _ x Z.2.1.1.1 rfl (fun z => by omega) (fun _ => ?_))
    rw [nI_clamp (n := x) (by omega), fx.1, Z.2.1.1.2 x hx, nI_clamp (n := f x) (by omega), Z.2.2.1.1.2 _ fx.2, nI_add]
    refine ⟨vp_in_nI (by omega) (by decide), vp_in_nI (by omega) (by decide), vp_in_nI (by omega) (by decide), S_imagesOf Z w1 w2 (w1.u64 hx) hm fun _ => ?_⟩
    rw [e]
    have a64 := and64 (b := imS f (u1 x) n1 ^^^ 63) (w2.u64 fx.2)
    refine br_eq (u2 (f x) &&& (imS f (u1 x) n1 ^^^ 63)) 0 rfl rfl (fun z => ih () fun x' hx' => ?_) (fun z => N fun q => z (q x hx))
    by_cases c : x' = x
    · subst c; exact z
    · exact hI x' (by omega)
theorem S_accept {Q : AH → Prop} {m : Nat} (Z : SRC h r a1 a2 n1 n2 u1 u2 v1 v2 k b) (hk : k < 4) (w1 : wfP n1 u1) (w2 : wfP n2 u2) (hm : ∀ x, x < n1 → mi h (r + 1) x = nI (f x) ∧ f x < n2) (F : FIT u1 u2 k f n1) (hc : mi h r 5 = nI m) (Y : okP n1 n2 u1 u2 k f → Q (wi h r 5 (nI (m + 1)))) (N : ¬ okP n1 n2 u1 u2 k f → Q h) : Ev (d + 2) g g m_S_countIfAccepted 0 [.ref r] [] h (asV Q) := by
  have h1 := w1.1.2
  have h2 := w2.1.2
  have p1 := p2_le h1
  have p1' := p2_pos n1
  have p2 := p2_le h2
  have p2' := p2_pos n2
  have fl : ∀ x, x < n1 → f x < n2 := fun x hx => (hm x hx).2
  have l64 : ∀ s, imS f s n1 < 64 := fun s => imS_lt n1 fun y hy => by have := (hm y hy).2; omega
  refine w_S_countIfAccepted_0 Z.1 ?_
  rw [Z.2.2.2.1]
  refine br_eq k 1 rfl rfl (fun e => ?_) (fun e => ?_)
  · subst e
    refine S_SisBounded Z w1 w2 hm (fun y _ => ⟨fun _ => ?_, fun z => absurd z (by decide)⟩) (fun y _ => ⟨fun z => absurd rfl z, fun _ => N fun o => y (o.2.1 rfl)⟩)
    rw [Z.2.2.2.1, hc, nI_add]
    exact ⟨fun _ => Y (F.ok w1 w2 fl (fun _ => y) (fun z => by omega)), fun z => absurd z (by decide)⟩
  refine br_ne k 2 rfl rfl (fun e2 => ?_) (fun e2 => ?_)
  · subst e2
    refine S_SisBounded Z w1 w2 hm (fun y _ => ⟨fun _ => ?_, fun z => absurd z (by decide)⟩) (fun y _ => ⟨fun z => absurd rfl z, fun _ => N fun o => y (o.2.2.1 rfl).2⟩)
    rw [Z.2.2.2.1]
    refine ⟨fun z => absurd rfl z, fun _ => S_allPoints Z.1.p_source Z.2.1.1.1 h1 fun _ => S_imagesOf Z w1 w2 (by omega) hm fun _ => S_allPoints Z.1.p_target Z.2.2.1.1.1 h2 fun _ => ?_⟩
    have a := l64 (2 ^ n1 - 1)
    rw [hc, nI_add]
    exact br_eq (imS f (2 ^ n1 - 1) n1) (2 ^ n2 - 1) rfl rfl (fun z => Y (F.ok w1 w2 fl (fun q => by omega) (fun _ => ⟨z, y⟩))) (fun z => N fun o => z (o.2.2.1 rfl).1)
  · rw [hc, nI_add]
    exact ⟨fun _ => Y (F.ok w1 w2 fl (fun q => absurd q e) (fun q => absurd q e2)), fun z => absurd (nI_inj (by omega) (by decide) z) e2⟩
/-- not found yet, at a place in the list of all maps -/
def RUN (r n1 n2 : Nat) (u1 u2 : Nat → Nat) (k : Nat) (b : Bool) (pos : Nat) (h : AH) : Prop := mi h r 5 = nI (ck (AM n1 n2 u1 u2 k) pos) ∧ (b = true → ck (AM n1 n2 u1 u2 k) pos = 0)
def FND (r n1 n2 : Nat) (u1 u2 : Nat → Nat) (k : Nat) (b : Bool) (h : AH) : Prop := b = true ∧ mi h r 5 = nI 1 ∧ ∃ c, c < n2 ^ n1 ∧ AM n1 n2 u1 u2 k c = true ∧ (∀ c', c' < c → AM n1 n2 u1 u2 k c' = false) ∧ ∀ x, x < n1 → mi h (r + 1) x = nI (dec n1 n2 c x)
theorem S_search (hk : k < 4) (w1 : wfP n1 u1) (w2 : wfP n2 u2) (l1 : a1 + 5 < r) (l2 : a2 + 5 < r) : ∀ t j (f : Nat → Nat) (hh : AH) (Q : AH → Prop), j + t = n1 → SRC hh r a1 a2 n1 n2 u1 u2 v1 v2 k b → (∀ x, x < j → mi hh (r + 1) x = nI (f x) ∧ f x < n2) → FIT u1 u2 k f j → RUN r n1 n2 u1 u2 k b (val n2 f j * n2 ^ t) hh → (∀ h1, Ext hh h1 → sm (fun q z => ¬ (q = r ∧ z = 5) ∧ ¬ (q = r + 1 ∧ j ≤ z)) hh h1 → RUN r n1 n2 u1 u2 k b ((val n2 f j + 1) * n2 ^ t) h1 ∨ FND r n1 n2 u1 u2 k b h1 → Q h1) → Ev (d + 3 + t) g g m_C_searchMaps 0 [.ref r, .int (nI j)] [] hh (asV Q) := by
  have h1 := w1.1.2
  have h2 := w2.1.2
  have h2' := w2.1.1
  intro t
  induction t with
  | zero =>
    intro j f hh Q hj Z hm F R hK
    have hj : j = n1 := hj
    subst hj
    rw [Nat.pow_zero, Nat.mul_one] at R
    rw [Nat.pow_zero, Nat.mul_one] at hK
    have fl : ∀ x, x < j → f x < n2 := fun x hx => (hm x hx).2
    have vl := val_lt (n2 := n2) (f := f) j fl
    have de : ∀ x, x < j → dec j n2 (val n2 f j) x = f x := fun x hx => dec_pre (Nat.le_refl _) hx fl (by rw [Nat.sub_self, Nat.pow_zero, Nat.div_one])
    refine w_C_searchMaps_0 Z.1 (br_lt _ _ rfl Z.2.1.1.1 (fun z => by omega) (fun _ => ?_))
    refine S_accept Z hk w1 w2 hm F R.1 (fun o _ => ?_) (fun o _ => ?_)
    · have a : AM j n2 u1 u2 k (val n2 f j) = true := AM_t (ok_congr (fun x hx => (de x hx).symm) o)
      have e1 : ck (AM j n2 u1 u2 k) (val n2 f j + 1) = ck (AM j n2 u1 u2 k) (val n2 f j) + 1 := by
        show ck (AM j n2 u1 u2 k) (val n2 f j) + (bif AM j n2 u1 u2 k (val n2 f j) then 1 else 0) = _
        rw [a]; rfl
      refine hK _ (ext_wi _ _ _ _) (sm.rf.wi (fun q => q.1 ⟨rfl, rfl⟩)) ?_
      cases hb : b with
      | false => exact Or.inl ⟨by rw [mi_eq, e1], fun z => by cases z⟩
      | true =>
        have r0 := R.2 hb
        refine Or.inr ⟨rfl, by rw [mi_eq, r0], val n2 f j, vl, a, fun c' hc' => ck_zero r0 hc', fun x hx => ?_⟩
        rw [mi_ne (by omega), de x hx]
        exact (hm x hx).1
    · have a : AM j n2 u1 u2 k (val n2 f j) = false := AM_f fun o2 => o (ok_congr de o2)
      have e1 : ck (AM j n2 u1 u2 k) (val n2 f j + 1) = ck (AM j n2 u1 u2 k) (val n2 f j) := by
        show ck (AM j n2 u1 u2 k) (val n2 f j) + (bif AM j n2 u1 u2 k (val n2 f j) then 1 else 0) = _
        rw [a]; rfl
      exact hK hh Ext.rfl' sm.rf (Or.inl ⟨by rw [e1]; exact R.1, fun z => by rw [e1]; exact R.2 z⟩)
  | succ t it =>
    intro j f hh0 Q hj Z0 hm0 F R0 hK
    refine w_C_searchMaps_0 Z0.1 (br_lt _ _ rfl Z0.2.1.1.1 (fun _ => ?_) (fun z => by omega))
    refine for_up (σ := AH) (fun v hh => Ev (d + 3 + t + 1) g g m_C_searchMaps 18 [.ref r, .int (nI j), .int (nI v)] [] hh (asV Q)) (fun v hh => Ext hh0 hh ∧ sm (fun q z => ¬ (q = r ∧ z = 5) ∧ ¬ (q = r + 1 ∧ j ≤ z)) hh0 hh ∧ RUN r n1 n2 u1 u2 k b ((val n2 f j * n2 + v) * n2 ^ t) hh) n2 (fun hh hI => ?_) (fun v hh hv hI ih => ?_) 0 hh0 (Nat.zero_le _) ⟨Ext.rfl', sm.rf, by rw [Nat.add_zero, Nat.mul_assoc, Nat.mul_comm n2, ← Nat.pow_succ]; exact R0⟩
    · obtain ⟨ee, sa, R⟩ := hI
      have Z := Z0.keep l1 l2 ee (sa.sub fun q z hq => ⟨hq.1, fun y => hq.2 y.1⟩)
      refine w_C_searchMaps_18 Z.1 (br_le _ _ Z.2.2.1.1.1 rfl (fun _ => hK hh ee sa (Or.inl ?_)) (fun z => by omega))
      rw [show (val n2 f j + 1) * n2 ^ (t + 1) = (val n2 f j * n2 + n2) * n2 ^ t by rw [Nat.pow_succ, Nat.mul_comm (n2 ^ t), ← Nat.mul_assoc, Nat.succ_mul]]
      exact R
    obtain ⟨ee, sa, R⟩ := hI
    have Z := Z0.keep l1 l2 ee (sa.sub fun q z hq => ⟨hq.1, fun y => hq.2 y.1⟩)
    have e1 := ext_wi hh (r + 1) j (nI v)
    have s1 : sm (fun q z => ¬ (q = r ∧ z = 5) ∧ ¬ (q = r + 1 ∧ j ≤ z)) hh (wi hh (r + 1) j (nI v)) := sm.rf.wi (fun q => q.2 ⟨rfl, Nat.le_refl _⟩)
    have Z1 := Z.keep l1 l2 e1 (s1.sub fun q z hq => ⟨hq.1, fun y => hq.2 y.1⟩)
    have R1 : RUN r n1 n2 u1 u2 k b ((val n2 f j * n2 + v) * n2 ^ t) (wi hh (r + 1) j (nI v)) := ⟨by rw [mi_ne (by omega)]; exact R.1, R.2⟩
    have fv : val n2 (fun x => if x = j then v else f x) (j + 1) = val n2 f j * n2 + v := by
      show val n2 (fun x => if x = j then v else f x) j * n2 + (if j = j then v else f j) = _
      rw [if_pos rfl, val_congr j fun x hx => show (if x = j then v else f x) = f x from if_neg (by omega)]
    have hm1 : ∀ x, x < j + 1 → mi (wi hh (r + 1) j (nI v)) (r + 1) x = nI (if x = j then v else f x) ∧ (if x = j then v else f x) < n2 := fun x hx => by
      by_cases c : x = j
      · rw [if_pos c, c]; exact ⟨mi_eq, hv⟩
      · rw [if_neg c, mi_nj c, (sa _ _ ⟨fun q => by omega, fun q => by omega⟩).1]
        exact hm0 x (by omega)
    have next : ∀ h2, Ext hh0 h2 → sm (fun q z => ¬ (q = r ∧ z = 5) ∧ ¬ (q = r + 1 ∧ j ≤ z)) hh0 h2 → RUN r n1 n2 u1 u2 k b ((val n2 f j * n2 + v + 1) * n2 ^ t) h2 → Ev (d + 3 + t + 1) g g m_C_searchMaps 18 [.ref r, .int (nI j), .int (nI v + nI 1)] [] h2 (asV Q) := fun h2 e2 s2 R2 => by
      rw [nI_add]
      exact ih h2 ⟨e2, s2, R2⟩
    refine w_C_searchMaps_18 Z.1 (br_le _ v Z.2.2.1.1.1 rfl (fun z => by omega) (fun _ => ⟨vp_in_nI (by omega) (by decide), ?_⟩))
    rw [nI_clamp (n := j) (by omega), nI_add j 1]
    have dp : d + 3 + t = (d + 1 + t) + 2 := by omega
    rw [dp]
    refine S_fitsEarlier (f := fun x => if x = j then v else f x) Z1 hk w1 w2 (by omega) hm1 (fun Y _ => ⟨fun z => absurd z (by decide), fun _ => ?_⟩) (fun N _ => ⟨fun _ => ?_, fun z => absurd rfl z⟩)
    · rw [← dp]
      have F1 : FIT u1 u2 k (fun x => if x = j then v else f x) (j + 1) := fun x y hxy hy => by
        by_cases c : y = j
        · subst c; exact Y x hxy
        · have q := F x y hxy (by omega)
          have ex : (fun x => if x = j then v else f x) x = f x := if_neg (by omega)
          have ey : (fun x => if x = j then v else f x) y = f y := if_neg c
          unfold fit at q ⊢
          rw [ex, ey]
          exact q
      refine it (j + 1) _ _ _ (by omega) Z1 hm1 F1 (by rw [fv]; exact R1) fun h2 e2 s2 P => ?_
      rw [fv] at P
      have e02 := (ee.trans e1).trans e2
      have s02 : sm (fun q z => ¬ (q = r ∧ z = 5) ∧ ¬ (q = r + 1 ∧ j ≤ z)) hh0 h2 := (sa.trans s1).trans (s2.sub fun q z hq => ⟨hq.1, fun y => hq.2 ⟨y.1, by omega⟩⟩)
      have Z2 := Z0.keep l1 l2 e02 (s02.sub fun q z hq => ⟨hq.1, fun y => hq.2 y.1⟩)
      intro _
      rw [Z2.2.2.2.2]
      rcases P with P | P
      · refine br_b (fun eb => next h2 e02 s02 P) (fun eb => ?_)
        rw [P.1, P.2 eb]
        exact br_le 0 0 rfl rfl (fun _ => next h2 e02 s02 P) (fun z => by omega)
      · rw [P.1, P.2.1]
        refine ⟨fun z => absurd z (by decide), fun _ => br_le 1 0 rfl rfl (fun z => by omega) (fun _ => hK h2 e02 s02 (Or.inr P))⟩
    · rw [← dp]
      refine next _ (ee.trans e1) (sa.trans s1) ?_
      have e4 : (val n2 f j * n2 + v + 1) * n2 ^ t = (val n2 f j * n2 + v) * n2 ^ t + n2 ^ t := Nat.succ_mul _ _
      have e3 : ck (AM n1 n2 u1 u2 k) ((val n2 f j * n2 + v + 1) * n2 ^ t) = ck (AM n1 n2 u1 u2 k) ((val n2 f j * n2 + v) * n2 ^ t) := by
        rw [e4]
        refine ck_flat _ fun c hc1 hc2 => AM_f ?_
        have dv : c / n2 ^ (n1 - (j + 1)) = val n2 (fun x => if x = j then v else f x) (j + 1) := by
          rw [fv, show n1 - (j + 1) = t by omega]
          exact Nat.div_eq_of_lt_le hc1 (by rw [Nat.succ_mul]; exact hc2)
        have de : ∀ x, x < j + 1 → dec n1 n2 c x = if x = j then v else f x := fun x hx => dec_pre (f := fun x => if x = j then v else f x) (by omega) hx (fun y hy => (hm1 y hy).2) dv
        obtain ⟨x, hx, q⟩ := N
        have fe : ∀ y z, y < j + 1 → z < j + 1 → fit u1 u2 k (dec n1 n2 c) y z = fit u1 u2 k (fun x => if x = j then v else f x) y z := fun y z hy hz => by
          unfold fit
          rw [de y hy, de z hz]
        rcases q with q | q
        · exact fit_no (show x < n1 by omega) (show j < n1 by omega) (by rw [fe x j (by omega) (by omega)]; exact q)
        · exact fit_no (show j < n1 by omega) (show x < n1 by omega) (by rw [fe j x (by omega) (by omega)]; exact q)
      exact ⟨by rw [e3]; exact R1.1, fun z => by rw [e3]; exact R1.2 z⟩
end MAPC

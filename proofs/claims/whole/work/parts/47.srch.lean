/-! all valuations of a formula: choices, their numbers, the first that refutes -/
def chc (l : List Nat) (E v : Nat) : Nat := if l.count v = 0 then 1 else E
def prd (c : Nat → Nat) : Nat → Nat
  | 0 => 1
  | k + 1 => prd c k * c k
def dgt (c : Nat → Nat) (x v : Nat) : Nat := match v with
  | 0 => x / c 2 / c 1 % c 0
  | 1 => x / c 2 % c 1
  | _ => x % c 2
def cS (S : St) (i m v : Nat) : Nat := chc (sF S m).1 (pE (sP S i)).length v
def vV (S : St) (i m : Nat) : Nat := prd (cS S i m) 3
def envN (S : St) (i m x v : Nat) : Nat := (pE (sP S i)).getD (dgt (cS S i m) x v) 0
def vN (S : St) (i m x : Nat) : Nat := fval (sP S i).1 (sP S i).2.1 (envN S i m x) (sF S m).1
def Rf (S : St) (i m x : Nat) : Bool := !(vN S i m x == 2 ^ (sP S i).1 - 1)
def ffn (P : Nat → Bool) : Nat → Nat → Nat
  | 0, k => k
  | m + 1, k => bif P k then k else ffn P m (k + 1)
theorem ffn_step {P : Nat → Bool} {V k : Nat} (hk : k < V) (hp : P k = false) (J : ffn P V 0 = ffn P (V - k) k) : ffn P V 0 = ffn P (V - (k + 1)) (k + 1) := by
  rw [J, show V - k = V - (k + 1) + 1 by omega]
  show (bif P k then k else ffn P (V - (k + 1)) (k + 1)) = _
  rw [hp]
  rfl
theorem ffn_hit {P : Nat → Bool} {V k : Nat} (hk : k < V) (hp : P k = true) (J : ffn P V 0 = ffn P (V - k) k) : ffn P V 0 = k := by
  rw [J, show V - k = V - (k + 1) + 1 by omega]
  show (bif P k then k else ffn P (V - (k + 1)) (k + 1)) = _
  rw [hp]
  rfl
theorem ffn_end {P : Nat → Bool} {V : Nat} (J : ffn P V 0 = ffn P (V - V) V) : ffn P V 0 = V := by
  rw [J, Nat.sub_self]
  rfl
section DIG
variable {c : Nat → Nat} {p q r : Nat}
theorem prd3 : prd c 3 = c 0 * c 1 * c 2 := by show 1 * c 0 * c 1 * c 2 = _; rw [Nat.one_mul]
theorem idx_r : (p * c 1 + q) * c 2 + c 2 = (p * c 1 + (q + 1)) * c 2 + 0 := by rw [← Nat.add_assoc, Nat.succ_mul (p * c 1 + q) (c 2), Nat.add_zero]
theorem idx_q : (p * c 1 + c 1) * c 2 + 0 = ((p + 1) * c 1 + 0) * c 2 + 0 := by rw [Nat.succ_mul p (c 1), Nat.add_zero]; rfl
theorem idx_p : (c 0 * c 1 + 0) * c 2 + 0 = prd c 3 := by rw [prd3]; rfl
theorem ixx_lt (hp : p < c 0) (hq : q < c 1) (hr : r < c 2) : (p * c 1 + q) * c 2 + r < prd c 3 := by
  rw [prd3]
  have h1 : (p + 1) * c 1 ≤ c 0 * c 1 := Nat.mul_le_mul_right _ hp
  rw [Nat.succ_mul] at h1
  have h2 : (p * c 1 + q + 1) * c 2 ≤ c 0 * c 1 * c 2 := Nat.mul_le_mul_right _ (by omega)
  rw [Nat.succ_mul] at h2
  omega
theorem dg2 (hr : r < c 2) : dgt c ((p * c 1 + q) * c 2 + r) 2 = r := Nat.mul_add_mod_of_lt hr
theorem dvx (hr : r < c 2) : ((p * c 1 + q) * c 2 + r) / c 2 = p * c 1 + q := Nat.div_eq_of_lt_le (by omega) (by rw [Nat.succ_mul]; omega)
theorem dg1 (hq : q < c 1) (hr : r < c 2) : dgt c ((p * c 1 + q) * c 2 + r) 1 = q := by
  show ((p * c 1 + q) * c 2 + r) / c 2 % c 1 = q
  rw [dvx hr]
  exact Nat.mul_add_mod_of_lt hq
theorem dg0 (hp : p < c 0) (hq : q < c 1) (hr : r < c 2) : dgt c ((p * c 1 + q) * c 2 + r) 0 = p := by
  show ((p * c 1 + q) * c 2 + r) / c 2 / c 1 % c 0 = p
  rw [dvx hr, show (p * c 1 + q) / c 1 = p from Nat.div_eq_of_lt_le (by omega) (by rw [Nat.succ_mul]; omega)]
  exact Nat.mod_eq_of_lt hp
end DIG
section SRC
variable {d g : Nat} {h : AH} {S : St} {K : Int32 → AH → Prop} {i m : Nat}
theorem cS_b (W : WS S) (hi : i < 4) (v : Nat) : 1 ≤ cS S i m v ∧ cS S i m v ≤ (pE (sP S i)).length ∧ (pE (sP S i)).length ≤ 64 ∧ 0 < (pE (sP S i)).length := by
  have w := (W.1 i hi).1
  have hl : (pE (sP S i)).length ≤ 64 := elems_len (up := (sP S i).2.1) w.1.2
  have h0 : 0 < (pE (sP S i)).length := (el_zero w).2
  unfold cS chc
  split <;> omega
theorem dgt_lt (W : WS S) (hi : i < 4) (x v : Nat) : dgt (cS S i m) x v < (pE (sP S i)).length := by
  have b0 := cS_b (m := m) W hi 0
  have b1 := cS_b (m := m) W hi 1
  have b2 := cS_b (m := m) W hi 2
  unfold dgt
  split
  · exact Nat.lt_of_lt_of_le (Nat.mod_lt _ b0.1) b0.2.1
  · exact Nat.lt_of_lt_of_le (Nat.mod_lt _ b1.1) b1.2.1
  · exact Nat.lt_of_lt_of_le (Nat.mod_lt _ b2.1) b2.2.1
theorem envN_mem (W : WS S) (hi : i < 4) (x : Nat) : ∀ v, v < 3 → envN S i m x v ∈ pE (sP S i) := fun v _ => getD_mem (dgt_lt W hi x v)
theorem vV_le (W : WS S) (hi : i < 4) : vV S i m ≤ 262144 := by
  have b0 := cS_b (m := m) W hi 0
  have b1 := cS_b (m := m) W hi 1
  have b2 := cS_b (m := m) W hi 2
  unfold vV
  rw [prd3]
  have h1 : cS S i m 0 * cS S i m 1 ≤ 64 * 64 := Nat.mul_le_mul (by omega) (by omega)
  have h2 : cS S i m 0 * cS S i m 1 * cS S i m 2 ≤ 64 * 64 * 64 := Nat.mul_le_mul h1 (by omega)
  omega
theorem S_occurrences {a v : Nat} {l : List Nat} (f : is_F h a) (hl : l.length ≤ 60) (hv : v < 3) (hc : mi h a 0 = nI l.length ∧ ∀ k, k < l.length → mi h (a + 1) k = nI (l.getD k 0)) (h9 : ∀ c, c ∈ l → c < 9) (hK : K (nI (l.count v)) h) : Ev d g g m_F_occurrences 0 [.ref a, .int (nI v)] [] h (asI K) := by
  refine w_F_occurrences_0 f ?_
  have go : ∀ (rest : List Nat) (k acc : Nat), k + rest.length = l.length → (∀ j, j < rest.length → mi h (a + 1) (k + j) = nI (rest.getD j 0)) → (∀ c, c ∈ rest → c < 9) → acc + rest.count v = l.count v → Ev d g g m_F_occurrences 4 [.ref a, .int (nI v), .int (nI acc), .int (nI k)] [] h (asI K) := by
    intro rest
    induction rest with
    | nil =>
      intro k acc hk _ _ ha
      have e1 : k = l.length := hk
      have e2 : acc = l.count v := ha
      subst e1 e2
      exact w_F_occurrences_4 f (br_le l.length l.length hc.1 rfl (fun _ => hK) (fun z => by omega))
    | cons c rest ih =>
      intro k acc hk hs h9 ha
      have hlen : (c :: rest).length = rest.length + 1 := rfl
      rw [hlen] at hk hs
      have s0 : mi h (a + 1) k = nI c := hs 0 (by omega)
      have c9 := h9 c (by simp)
      have hs' : ∀ j, j < rest.length → mi h (a + 1) (k + 1 + j) = nI (rest.getD j 0) := fun j hj => by
        have := hs (j + 1) (by omega)
        rw [show k + (j + 1) = k + 1 + j by omega] at this
        exact this
      rw [List.count_cons] at ha
      refine w_F_occurrences_4 f (br_le l.length k hc.1 rfl (fun z => by omega) (fun _ => ⟨vp_in_nI (by omega) (by decide), ?_⟩))
      rw [nI_clamp (n := k) (by omega), s0, nI_add k 1, nI_add acc 1]
      refine br_ne c v rfl rfl (fun z => ?_) (fun z => ?_)
      · refine ih (k + 1) (acc + 1) (by omega) hs' (fun q hq => h9 q (by simp [hq])) ?_
        rw [if_pos (by simp [z])] at ha
        omega
      · refine ih (k + 1) acc (by omega) hs' (fun q hq => h9 q (by simp [hq])) ?_
        rw [if_neg (by simp [z])] at ha
        omega
  exact go l 0 0 (by omega) (fun j hj => by rw [Nat.zero_add]; exact hc.2 j hj) h9 (by omega)
theorem runC_9 {I : Nat → Nat → Nat} {T : Nat} {env : Nat → Nat} : ∀ (l st r : List Nat), runC I T env l st = some r → ∀ c, c ∈ l → c < 9
  | [], _, _, _, _, hc => by cases hc
  | c :: l, st, r, e, q, hq => by
    have c9 : c < 9 := by
      apply Classical.byContradiction
      intro z
      rw [runC_big (by omega)] at e
      cases e
    rcases List.mem_cons.mp hq with z | z
    · omega
    · by_cases h5 : c < 5
      · rw [runC_leaf h5] at e
        exact runC_9 l _ r e q z
      · by_cases h8 : c = 8
        · subst h8
          obtain ⟨_, _, _, e2⟩ := runC_one e
          exact runC_9 l _ r e2 q z
        · obtain ⟨_, _, _, _, e2⟩ := runC_two (by omega) (by omega) e
          exact runC_9 l _ r e2 q z
theorem F_9 {p : List Nat × List Nat} (fo : FOK p) : ∀ c, c ∈ p.1 → c < 9 := fun c hc => by
  by_cases h0 : p.1 = []
  · rw [h0] at hc; cases hc
  · exact runC_9 _ _ _ (fval_run fo h0 1 id id).1 c hc
theorem S_choices {v : Nat} (hv : v < 3) (hi : i < 4) (hm : m < 6) (W : WS S) (I : InvC h S) (hK : K (nI (cS S i m v)) h) : Ev (d + 1) g g m_F_choices 0 [.ref (aF m), .ref (aP i), .int (nI v)] [] h (asI K) := by
  have fo := W.2.2.1 m hm
  have b := cS_b (m := m) W hi v
  refine w_F_choices_0 (I.1.fs m hm).2 (I.1.ps i hi).2 (S_occurrences (I.1.fs m hm).2 fo.2.1 hv (I.2.2.2.1 m hm) (F_9 fo) fun _ => ?_)
  have cl : (sF S m).1.count v ≤ 60 := Nat.le_trans List.count_le_length fo.2.1
  unfold cS chc at hK
  refine br_le ((sF S m).1.count v) 0 rfl rfl (fun z => ?_) (fun z => ?_)
  · rw [if_pos (by omega)] at hK; exact hK
  · rw [if_neg (by omega)] at hK
    rw [(I.2.1 i hi).2.2.1.1]
    exact hK
theorem S_Fvaluations (hi : i < 4) (hm : m < 6) (W : WS S) (I : InvC h S) (hK : K (nI (vV S i m)) h) : Ev (d + 2) g g m_F_valuations 0 [.ref (aF m), .ref (aP i)] [] h (asI K) := by
  refine w_F_valuations_0 (I.1.fs m hm).2 (I.1.ps i hi).2 ?_
  refine for_up (σ := Unit) (fun k _ => Ev (d + 2) g g m_F_valuations 4 [.ref (aF m), .ref (aP i), .int (nI (prd (cS S i m) k)), .int (nI k)] [] h (asI K)) (fun _ _ => True) 3 (fun _ _ => ?_) (fun k _ hk _ ih => ?_) 0 () (Nat.zero_le _) trivial
  · exact w_F_valuations_4 (I.1.fs m hm).2 (I.1.ps i hi).2 (br_le 3 3 rfl rfl (fun _ => hK) (fun z => by omega))
  · refine w_F_valuations_4 (I.1.fs m hm).2 (I.1.ps i hi).2 (br_le 3 k rfl rfl (fun z => by omega) (fun _ => S_choices hk hi hm W I fun _ => ?_))
    rw [pk_mul, nI_add]
    exact ih () trivial
def srf (len V : Nat) (x : Int32) : Int32 := if len = 0 then kE3 else if V ≤ 20000 then x else kE5
theorem S_refusal (hi : i < 4) (hm : m < 6) (W : WS S) (I : InvC h S) (hK : K (srf (sF S m).1.length (vV S i m) (nI 0)) h) : Ev (d + 3) g g m_C_refusalToSearch 0 [.ref (aP i), .ref (aF m)] [] h (asI K) := by
  unfold srf at hK
  have vl := vV_le (m := m) W hi
  refine w_C_refusalToSearch_0 (I.1.ps i hi).2 (I.1.fs m hm).2 (S_Fmiss hm W I (fun z _ => ⟨fun q => absurd q (by decide), fun _ => by rw [if_pos z] at hK; exact hK⟩) (fun z _ => ⟨fun _ => ?_, fun q => absurd rfl q⟩))
  rw [if_neg (len_ne z)] at hK
  refine S_Fvaluations hi hm W I fun _ => br_le (vV S i m) 20000 rfl rfl (fun c => by rw [if_pos c] at hK; exact hK) (fun c => by rw [if_neg (by omega)] at hK; exact hK)
/-- one valuation, in the class: leaf bits 0 and 1 stand, 2 is written, the value comes -/
theorem S_oneVal {hh : AH} {p q r : Nat} (hi : i < 4) (hm : m < 6) (W : WS S) (I : InvC h S) (h0 : (sF S m).1 ≠ []) (hp : p < cS S i m 0) (hq : q < cS S i m 1) (hr : r < cS S i m 2) (ee : Ext h hh) (sa : same (fun q => q ≠ aF m + 2 ∧ q ≠ aF m + 3) h hh) (l0 : mi hh (aF m + 2) 0 = nI ((pE (sP S i)).getD p 0)) (l1 : mi hh (aF m + 2) 1 = nI ((pE (sP S i)).getD q 0)) (hK : ∀ h1, Ext h h1 → same (fun q => q ≠ aF m + 2 ∧ q ≠ aF m + 3) h h1 → mi h1 (aF m + 2) 0 = nI ((pE (sP S i)).getD p 0) → mi h1 (aF m + 2) 1 = nI ((pE (sP S i)).getD q 0) → vN S i m ((p * cS S i m 1 + q) * cS S i m 2 + r) < 64 → K (nI (vN S i m ((p * cS S i m 1 + q) * cS S i m 2 + r))) h1) : Ev (d + 3) g g m_F_bitsOfValue 0 [.ref (aF m), .ref (aP i)] [] (wi hh (aF m + 2) 2 (nI ((pE (sP S i)).getD r 0))) (asI K) := by
  have w := (W.1 i hi).1
  have h6 := w.1.2
  have cf := I.2.2.2.1 m hm
  have hab : aP i + 5 < aF m := by simp only [aP, aF]; omega
  have e2 := ee.trans (ext_wi hh (aF m + 2) 2 (nI ((pE (sP S i)).getD r 0)))
  have s2 : same (fun q => q ≠ aF m + 2 ∧ q ≠ aF m + 3) h (wi hh (aF m + 2) 2 (nI ((pE (sP S i)).getD r 0))) := sa.wi (fun q => q.1 rfl)
  have d0 := dg0 (c := cS S i m) hp hq hr
  have d1 := dg1 (c := cS S i m) (p := p) hq hr
  have d2 := dg2 (c := cS S i m) (p := p) (q := q) hr
  have ev0 : envN S i m ((p * cS S i m 1 + q) * cS S i m 2 + r) 0 = (pE (sP S i)).getD p 0 := by unfold envN; rw [d0]
  have ev1 : envN S i m ((p * cS S i m 1 + q) * cS S i m 2 + r) 1 = (pE (sP S i)).getD q 0 := by unfold envN; rw [d1]
  have ev2 : envN S i m ((p * cS S i m 1 + q) * cS S i m 2 + r) 2 = (pE (sP S i)).getD r 0 := by unfold envN; rw [d2]
  refine S_bitsOfValue (env := envN S i m ((p * cS S i m 1 + q) * cS S i m 2 + r)) (p := sF S m) hab w (envN_mem W hi _) ((I.1.fs m hm).2.ext e2) ((I.1.ps i hi).2.ext e2) ((I.2.1 i hi).keep s2.sm fun z j h1 h2 => by show z ≠ aF m + 2 ∧ z ≠ aF m + 3; omega) (W.2.2.1 m hm) h0 ⟨((s2 _ (by omega)).1 0).trans cf.1, fun k hk => ((s2 _ (by omega)).1 k).trans (cf.2 k hk)⟩ (fun v hv => ?_) fun h1 e1 s1 hv mm => hK h1 (e2.trans e1) (s2.trans s1) ((hv 0 (by decide)).trans (by rw [ev0])) ((hv 1 (by decide)).trans (by rw [ev1])) (el64 h6 mm)
  match v, hv with
  | 0, _ => rw [ev0, mi_nj (by decide)]; exact l0
  | 1, _ => rw [ev1, mi_nj (by decide)]; exact l1
  | 2, _ => rw [ev2]; exact mi_eq
theorem S_firstRef (hi : i < 4) (hm : m < 6) (W : WS S) (I : InvC h S) (h0 : (sF S m).1 ≠ []) (K1 : ffn (Rf S i m) (vV S i m) 0 = vV S i m → ∀ h1, doneC S h h1 → K kNone h1) (K2 : ∀ p q r, p < 64 → q < 64 → r < 64 → ffn (Rf S i m) (vV S i m) 0 < vV S i m → dgt (cS S i m) (ffn (Rf S i m) (vV S i m) 0) 0 = p → dgt (cS S i m) (ffn (Rf S i m) (vV S i m) 0) 1 = q → dgt (cS S i m) (ffn (Rf S i m) (vV S i m) 0) 2 = r → ∀ h1, doneC S h h1 → K (nI ((p * 64 + q) * 64 + r)) h1) : Ev (d + 4) g g m_F_firstRefutation 0 [.ref (aF m), .ref (aP i)] [] h (asI K) := by
  have w := (W.1 i hi).1
  have h6 := w.1.2
  have hpp := p2_pos (sP S i).1
  have hp64 := p2_le h6
  have P := I.2.1 i hi
  have fa := (I.1.fs m hm).2
  have fb := (I.1.ps i hi).2
  have hab : aP i + 5 < aF m := by simp only [aP, aF]; omega
  have b0 := cS_b (m := m) W hi 0
  have b1 := cS_b (m := m) W hi 1
  have b2 := cS_b (m := m) W hi 2
  have rd : ∀ {hh : AH}, same (fun q => q ≠ aF m + 2 ∧ q ≠ aF m + 3) h hh → ∀ x, x < (pE (sP S i)).length → mi hh (aP i + 3) x = nI ((pE (sP S i)).getD x 0) := fun sa x hx => ((sa _ (by omega)).1 x).trans (P.2.2.1.2.1 x hx)
  refine w_F_firstRefutation_0 fa fb (S_allPoints fb P.1.1 h6 fun _ => S_choices (by decide) hi hm W I fun _ => S_choices (by decide) hi hm W I fun _ => S_choices (by decide) hi hm W I fun _ => ?_)
  refine for_up (σ := AH) (fun p hh => Ev (d + 4) g g m_F_firstRefutation 31 [.ref (aF m), .ref (aP i), .int (nI (2 ^ (sP S i).1 - 1)), .int (nI (cS S i m 0)), .int (nI (cS S i m 1)), .int (nI (cS S i m 2)), .int (nI p)] [] hh (asI K)) (fun p hh => Ext h hh ∧ same (fun q => q ≠ aF m + 2 ∧ q ≠ aF m + 3) h hh ∧ ffn (Rf S i m) (vV S i m) 0 = ffn (Rf S i m) (vV S i m - ((p * cS S i m 1 + 0) * cS S i m 2 + 0)) ((p * cS S i m 1 + 0) * cS S i m 2 + 0)) (cS S i m 0) (fun hh hI => ?_) (fun p hh hp hI ih => ?_) 0 h (Nat.zero_le _) ⟨Ext.rfl', same.rf, by simp⟩
  · obtain ⟨ee, sa, J⟩ := hI
    rw [idx_p (c := cS S i m)] at J
    exact w_F_firstRefutation_31 (fa.ext ee) (fb.ext ee) (br_le _ _ rfl rfl (fun _ => K1 (ffn_end J) hh (frF hm I ee sa)) (fun z => by omega))
  obtain ⟨ee, sa, J⟩ := hI
  refine w_F_firstRefutation_31 (fa.ext ee) (fb.ext ee) (br_le _ p rfl rfl (fun z => by omega) (fun _ => ⟨vp_in_nI (by omega) (by decide), vp_in_nI (by decide) (by decide), ?_⟩))
  rw [nI_clamp (n := 0) (by decide), nI_clamp (n := p) (by omega), rd sa p (by omega)]
  refine for_up (σ := AH) (fun q hh => Ev (d + 4) g g m_F_firstRefutation 53 [.ref (aF m), .ref (aP i), .int (nI (2 ^ (sP S i).1 - 1)), .int (nI (cS S i m 0)), .int (nI (cS S i m 1)), .int (nI (cS S i m 2)), .int (nI p), .int (nI q)] [] hh (asI K)) (fun q hh => Ext h hh ∧ same (fun q => q ≠ aF m + 2 ∧ q ≠ aF m + 3) h hh ∧ mi hh (aF m + 2) 0 = nI ((pE (sP S i)).getD p 0) ∧ ffn (Rf S i m) (vV S i m) 0 = ffn (Rf S i m) (vV S i m - ((p * cS S i m 1 + q) * cS S i m 2 + 0)) ((p * cS S i m 1 + q) * cS S i m 2 + 0)) (cS S i m 1) (fun hh hI => ?_) (fun q hh hq hI ih2 => ?_) 0 _ (Nat.zero_le _) ⟨ee.trans (ext_wi _ _ _ _), sa.wi (fun q => q.1 rfl), mi_eq, J⟩
  · obtain ⟨ee, sa, l0, J⟩ := hI
    rw [idx_q (c := cS S i m)] at J
    refine w_F_firstRefutation_53 (fa.ext ee) (fb.ext ee) (br_le _ _ rfl rfl (fun _ => ?_) (fun z => by omega))
    rw [nI_add]
    exact ih hh ⟨ee, sa, J⟩
  obtain ⟨ee, sa, l0, J⟩ := hI
  refine w_F_firstRefutation_53 (fa.ext ee) (fb.ext ee) (br_le _ q rfl rfl (fun z => by omega) (fun _ => ⟨vp_in_nI (by omega) (by decide), vp_in_nI (by decide) (by decide), ?_⟩))
  rw [nI_clamp (n := 1) (by decide), nI_clamp (n := q) (by omega), rd sa q (by omega)]
  refine for_up (σ := AH) (fun r hh => Ev (d + 4) g g m_F_firstRefutation 76 [.ref (aF m), .ref (aP i), .int (nI (2 ^ (sP S i).1 - 1)), .int (nI (cS S i m 0)), .int (nI (cS S i m 1)), .int (nI (cS S i m 2)), .int (nI p), .int (nI q), .int (nI r)] [] hh (asI K)) (fun r hh => Ext h hh ∧ same (fun q => q ≠ aF m + 2 ∧ q ≠ aF m + 3) h hh ∧ (mi hh (aF m + 2) 0 = nI ((pE (sP S i)).getD p 0) ∧ mi hh (aF m + 2) 1 = nI ((pE (sP S i)).getD q 0)) ∧ ffn (Rf S i m) (vV S i m) 0 = ffn (Rf S i m) (vV S i m - ((p * cS S i m 1 + q) * cS S i m 2 + r)) ((p * cS S i m 1 + q) * cS S i m 2 + r)) (cS S i m 2) (fun hh hI => ?_) (fun r hh hr hI ih3 => ?_) 0 _ (Nat.zero_le _) ⟨ee.trans (ext_wi _ _ _ _), sa.wi (fun q => q.1 rfl), ⟨by rw [mi_nj (by decide)]; exact l0, mi_eq⟩, J⟩
  · obtain ⟨ee, sa, ⟨l0, l1⟩, J⟩ := hI
    rw [idx_r (c := cS S i m)] at J
    refine w_F_firstRefutation_76 (fa.ext ee) (fb.ext ee) (br_le _ _ rfl rfl (fun _ => ?_) (fun z => by omega))
    rw [nI_add]
    exact ih2 hh ⟨ee, sa, l0, J⟩
  obtain ⟨ee, sa, ⟨l0, l1⟩, J⟩ := hI
  have xlt := ixx_lt (c := cS S i m) hp hq hr
  refine w_F_firstRefutation_76 (fa.ext ee) (fb.ext ee) (br_le _ r rfl rfl (fun z => by omega) (fun _ => ⟨vp_in_nI (by omega) (by decide), vp_in_nI (by decide) (by decide), ?_⟩))
  rw [nI_clamp (n := 2) (by decide), nI_clamp (n := r) (by omega), rd sa r (by omega)]
  refine S_oneVal hi hm W I h0 hp hq hr ee sa l0 l1 fun h1 e1 s1 m0 m1 x64 _ => ?_
  refine br_eq (vN S i m ((p * cS S i m 1 + q) * cS S i m 2 + r)) (2 ^ (sP S i).1 - 1) rfl rfl (fun z => ?_) (fun z => ?_)
  · rw [nI_add]
    have rf : Rf S i m ((p * cS S i m 1 + q) * cS S i m 2 + r) = false := by unfold Rf; rw [z]; simp
    exact ih3 h1 ⟨e1, s1, ⟨m0, m1⟩, ffn_step xlt rf J⟩
  · have e : ffn (Rf S i m) (vV S i m) 0 = (p * cS S i m 1 + q) * cS S i m 2 + r := ffn_hit xlt (by unfold Rf; simpa using z) J
    rw [pk_mul, nI_add, pk_mul, nI_add]
    refine K2 p q r (by omega) (by omega) (by omega) (by rw [e]; exact xlt) ?_ ?_ ?_ h1 (frF hm I e1 s1)
    · rw [e]; exact dg0 hp hq hr
    · rw [e]; exact dg1 hq hr
    · rw [e]; exact dg2 hr
theorem S_valWith {t : Nat} (ht : t < 64) (hi : i < 4) (hm : m < 6) (W : WS S) (I : InvC h S) (h0 : (sF S m).1 ≠ []) (hK : ∀ h1, doneC S h h1 → K (nI (ck (fun x => vN S i m x == t) (vV S i m))) h1) : Ev (d + 4) g g m_F_valuationsWith 0 [.ref (aF m), .ref (aP i), .int (nI t)] [] h (asI K) := by
  have w := (W.1 i hi).1
  have h6 := w.1.2
  have P := I.2.1 i hi
  have fa := (I.1.fs m hm).2
  have fb := (I.1.ps i hi).2
  have hab : aP i + 5 < aF m := by simp only [aP, aF]; omega
  have b0 := cS_b (m := m) W hi 0
  have b1 := cS_b (m := m) W hi 1
  have b2 := cS_b (m := m) W hi 2
  have rd : ∀ {hh : AH}, same (fun q => q ≠ aF m + 2 ∧ q ≠ aF m + 3) h hh → ∀ x, x < (pE (sP S i)).length → mi hh (aP i + 3) x = nI ((pE (sP S i)).getD x 0) := fun sa x hx => ((sa _ (by omega)).1 x).trans (P.2.2.1.2.1 x hx)
  refine w_F_valuationsWith_0 fa fb (S_choices (by decide) hi hm W I fun _ => S_choices (by decide) hi hm W I fun _ => S_choices (by decide) hi hm W I fun _ => ?_)
  have st0 : (nI 0 : Int32) = nI (ck (fun x => vN S i m x == t) ((0 * cS S i m 1 + 0) * cS S i m 2 + 0)) := by simp [ck]
  have go : ∀ p hh, p ≤ cS S i m 0 → (Ext h hh ∧ same (fun q => q ≠ aF m + 2 ∧ q ≠ aF m + 3) h hh) → Ev (d + 4) g g m_F_valuationsWith 29 [.ref (aF m), .ref (aP i), .int (nI t), .int (nI (ck (fun x => vN S i m x == t) ((p * cS S i m 1 + 0) * cS S i m 2 + 0))), .int (nI (cS S i m 0)), .int (nI (cS S i m 1)), .int (nI (cS S i m 2)), .int (nI p)] [] hh (asI K) := by
    refine for_up (σ := AH) (fun p hh => Ev (d + 4) g g m_F_valuationsWith 29 [.ref (aF m), .ref (aP i), .int (nI t), .int (nI (ck (fun x => vN S i m x == t) ((p * cS S i m 1 + 0) * cS S i m 2 + 0))), .int (nI (cS S i m 0)), .int (nI (cS S i m 1)), .int (nI (cS S i m 2)), .int (nI p)] [] hh (asI K)) (fun p hh => Ext h hh ∧ same (fun q => q ≠ aF m + 2 ∧ q ≠ aF m + 3) h hh) (cS S i m 0) (fun hh hI => ?_) (fun p hh hp hI ih => ?_)
    · obtain ⟨ee, sa⟩ := hI
      rw [idx_p (c := cS S i m)]
      exact w_F_valuationsWith_29 (fa.ext ee) (fb.ext ee) (br_le _ _ rfl rfl (fun _ => hK hh (frF hm I ee sa)) (fun z => by omega))
    obtain ⟨ee, sa⟩ := hI
    refine w_F_valuationsWith_29 (fa.ext ee) (fb.ext ee) (br_le _ p rfl rfl (fun z => by omega) (fun _ => ⟨vp_in_nI (by omega) (by decide), vp_in_nI (by decide) (by decide), ?_⟩))
    rw [nI_clamp (n := 0) (by decide), nI_clamp (n := p) (by omega), rd sa p (by omega)]
    refine for_up (σ := AH) (fun q hh => Ev (d + 4) g g m_F_valuationsWith 52 [.ref (aF m), .ref (aP i), .int (nI t), .int (nI (ck (fun x => vN S i m x == t) ((p * cS S i m 1 + q) * cS S i m 2 + 0))), .int (nI (cS S i m 0)), .int (nI (cS S i m 1)), .int (nI (cS S i m 2)), .int (nI p), .int (nI q)] [] hh (asI K)) (fun q hh => Ext h hh ∧ same (fun q => q ≠ aF m + 2 ∧ q ≠ aF m + 3) h hh ∧ mi hh (aF m + 2) 0 = nI ((pE (sP S i)).getD p 0)) (cS S i m 1) (fun hh hI => ?_) (fun q hh hq hI ih2 => ?_) 0 _ (Nat.zero_le _) ⟨ee.trans (ext_wi _ _ _ _), sa.wi (fun q => q.1 rfl), mi_eq⟩
    · obtain ⟨ee, sa, l0⟩ := hI
      rw [idx_q (c := cS S i m)]
      refine w_F_valuationsWith_52 (fa.ext ee) (fb.ext ee) (br_le _ _ rfl rfl (fun _ => ?_) (fun z => by omega))
      rw [nI_add]
      exact ih hh ⟨ee, sa⟩
    obtain ⟨ee, sa, l0⟩ := hI
    refine w_F_valuationsWith_52 (fa.ext ee) (fb.ext ee) (br_le _ q rfl rfl (fun z => by omega) (fun _ => ⟨vp_in_nI (by omega) (by decide), vp_in_nI (by decide) (by decide), ?_⟩))
    rw [nI_clamp (n := 1) (by decide), nI_clamp (n := q) (by omega), rd sa q (by omega)]
    refine for_up (σ := AH) (fun r hh => Ev (d + 4) g g m_F_valuationsWith 75 [.ref (aF m), .ref (aP i), .int (nI t), .int (nI (ck (fun x => vN S i m x == t) ((p * cS S i m 1 + q) * cS S i m 2 + r))), .int (nI (cS S i m 0)), .int (nI (cS S i m 1)), .int (nI (cS S i m 2)), .int (nI p), .int (nI q), .int (nI r)] [] hh (asI K)) (fun r hh => Ext h hh ∧ same (fun q => q ≠ aF m + 2 ∧ q ≠ aF m + 3) h hh ∧ (mi hh (aF m + 2) 0 = nI ((pE (sP S i)).getD p 0) ∧ mi hh (aF m + 2) 1 = nI ((pE (sP S i)).getD q 0))) (cS S i m 2) (fun hh hI => ?_) (fun r hh hr hI ih3 => ?_) 0 _ (Nat.zero_le _) ⟨ee.trans (ext_wi _ _ _ _), sa.wi (fun q => q.1 rfl), ⟨by rw [mi_nj (by decide)]; exact l0, mi_eq⟩⟩
    · obtain ⟨ee, sa, ⟨l0, l1⟩⟩ := hI
      rw [idx_r (c := cS S i m)]
      refine w_F_valuationsWith_75 (fa.ext ee) (fb.ext ee) (br_le _ _ rfl rfl (fun _ => ?_) (fun z => by omega))
      rw [nI_add q 1]
      exact ih2 hh ⟨ee, sa, l0⟩
    obtain ⟨ee, sa, ⟨l0, l1⟩⟩ := hI
    have i4 := ih3
    refine w_F_valuationsWith_75 (fa.ext ee) (fb.ext ee) (br_le _ r rfl rfl (fun z => by omega) (fun _ => ⟨vp_in_nI (by omega) (by decide), vp_in_nI (by decide) (by decide), ?_⟩))
    rw [nI_clamp (n := 2) (by decide), nI_clamp (n := r) (by omega), rd sa r (by omega)]
    refine S_oneVal hi hm W I h0 hp hq hr ee sa l0 l1 fun h1 e1 s1 m0 m1 x64 _ => ?_
    rw [nI_add r 1, nI_add _ 1]
    have i5 := i4 h1 ⟨e1, s1, ⟨m0, m1⟩⟩
    rw [← Nat.add_assoc] at i5
    unfold ck at i5
    refine br_ne (vN S i m ((p * cS S i m 1 + q) * cS S i m 2 + r)) t rfl rfl (fun z => ?_) (fun z => ?_)
    · rw [show (vN S i m ((p * cS S i m 1 + q) * cS S i m 2 + r) == t) = true by simpa using z] at i5
      exact i5
    · rw [show (vN S i m ((p * cS S i m 1 + q) * cS S i m 2 + r) == t) = false by simpa using z] at i5
      exact i5
  have kk := go 0 h (Nat.zero_le _) ⟨Ext.rfl', same.rf⟩
  rw [← st0] at kk
  exact kk
theorem S_unpack {p q r x : Nat} (hp : p < 64) (hq : q < 64) (hr : r < 64) (hx : x < 3) (hK : K (nI (if x = 0 then p else if x = 1 then q else r)) h) : Ev d g g m_F_unpack 0 [.int (nI ((p * 64 + q) * 64 + r)), .int (nI x)] [] h (asI K) := by
  have n64 : ¬ nI 64 = 0 := by decide
  have m2 : nI 2 + (cI (.negSucc 0)) = nI 1 := nm1
  have m0 : nI 1 + (cI (.negSucc 0)) = nI 0 := nm1
  refine w_F_unpack_0 (w_F_unpack_4 ?_)
  rw [pk_rem (by omega) (by decide) (by decide), pk_div (by omega) (by decide) (by decide), m2]
  refine br_le 2 x rfl rfl (fun z => ⟨n64, ?_⟩) (fun z => ⟨n64, w_F_unpack_4 ?_⟩)
  · rw [if_neg (by omega), if_neg (by omega)] at hK
    rw [show ((p * 64 + q) * 64 + r) % 64 = r by omega]
    exact hK
  rw [pk_rem (by omega) (by decide) (by decide), pk_div (by omega) (by decide) (by decide), m0]
  refine br_le 1 x rfl rfl (fun z => ⟨n64, ?_⟩) (fun z => ⟨n64, w_F_unpack_4 ?_⟩)
  · rw [if_neg (by omega), if_pos (by omega)] at hK
    rw [show ((p * 64 + q) * 64 + r) / 64 % 64 = q by omega]
    exact hK
  rw [pk_rem (by omega) (by decide) (by decide)]
  refine br_le 0 x rfl rfl (fun z => ⟨n64, ?_⟩) (fun z => by omega)
  rw [if_pos (by omega)] at hK
  rw [show ((p * 64 + q) * 64 + r) / 64 / 64 % 64 = p by omega]
  exact hK
end SRC

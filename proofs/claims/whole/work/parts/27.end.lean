/-! minimal and maximal points, proper pairs -/
theorem nm_pair : ∀ u, u < 64 → ∀ k, k < 6 → u.testBit k = true → nI (pop u) - nI 1 = nI (pop (u &&& (2 ^ k ^^^ 63))) := by decide +kernel
def enB (n : Nat) (up : Nat → Nat) (b : Bool) (x : Nat) : Bool := (List.range n).all fun y => (y == x) || !(bif b then le up y x else le up x y)
theorem enB_iff {n : Nat} {up : Nat → Nat} {b : Bool} {x : Nat} : enB n up b x = true ↔ ∀ y, y < n → y ≠ x → (bif b then le up y x else le up x y) = false := by
  unfold enB
  simp only [List.all_eq_true, List.mem_range, Bool.or_eq_true, Bool.not_eq_true', beq_iff_eq]
  constructor
  · intro h y hy hne
    rcases h y hy with z | z
    · exact absurd z hne
    · exact z
  · intro h y hy
    by_cases e : y = x
    · exact Or.inl e
    · exact Or.inr (h y hy e)
theorem dn_tb {n : Nat} {up : Nat → Nat} {x y : Nat} (hx : x < n) : (dsk n up (2 ^ x) n).testBit y = (decide (y < n) && le up y x) := by
  rw [Bool.eq_iff_iff, dsk_tb, Bool.and_eq_true, decide_eq_true_eq]
  constructor
  · rintro ⟨z, _, hz, hy, e⟩
    rw [Nat.testBit_two_pow, decide_eq_true_eq] at hz
    subst hz
    exact ⟨hy, e⟩
  · rintro ⟨hy, e⟩
    exact ⟨x, hx, by rw [Nat.testBit_two_pow, decide_eq_true_eq], hy, e⟩
theorem one_iff {n a x : Nat} {f : Nat → Bool} (hn : n ≤ 6) (ha : a < 2 ^ n) (hx : x < n) (ht : ∀ y, y < n → a.testBit y = f y) (hr : f x = true) : a = 2 ^ x ↔ ∀ y, y < n → y ≠ x → f y = false := by
  constructor
  · intro e y hy hne
    rw [← ht y hy, e, Nat.testBit_two_pow, decide_eq_false (fun z => hne z.symm)]
  · intro h
    refine set_ext (Nat.lt_of_lt_of_le ha (p2_le hn)) (p2_lt (by omega)) fun y _ => ?_
    rw [Nat.testBit_two_pow]
    by_cases hy : y < n
    · rw [ht y hy]
      by_cases e : x = y
      · subst e; rw [hr]; exact (decide_eq_true rfl).symm
      · rw [h y hy fun z => e z.symm, decide_eq_false e]
    · rw [decide_eq_false (by omega)]
      cases hb : a.testBit y with
      | false => rfl
      | true => exact absurd (tb_lt ha hb) hy
theorem min_iff {n : Nat} {up : Nat → Nat} (w : wfP n up) {x : Nat} (hx : x < n) : dsk n up (2 ^ x) n = 2 ^ x ↔ enB n up true x = true := by
  rw [enB_iff]
  exact one_iff w.1.2 (dsk_lt n up _ n) hx (fun y hy => by rw [dn_tb hx, decide_eq_true hy]; rfl) (w.2.2.1 x hx)
theorem max_iff {n : Nat} {up : Nat → Nat} (w : wfP n up) {x : Nat} (hx : x < n) : up x = 2 ^ x ↔ enB n up false x = true := by
  rw [enB_iff]
  exact one_iff w.1.2 (w.2.1 x hx) hx (fun y hy => rfl) (w.2.2.1 x hx)
def prk (up : Nat → Nat) : Nat → Nat
  | 0 => 0
  | k + 1 => prk up k + pop (gt up k)
theorem bool_f {b : Bool} {P : Prop} (h : P ↔ b = true) (hn : ¬ P) : b = false := by
  cases hb : b with
  | false => rfl
  | true => exact absurd (h.mpr hb) hn
section ENDS
variable {d g aa i n x y s : Nat} {up val : Nat → Nat} {h : AH} {K : Int32 → AH → Prop}
theorem S_minimalPoints (f : is_P h aa) (P : PC h aa n up val) (w : wfP n up) (hK : K (nI (ck (enB n up true) n)) h) : Ev d g g m_P_minimalPoints 0 [.ref aa] [] h (asI K) := by
  have h6 := w.1.2
  refine w_P_minimalPoints_0 f ?_
  refine for_up (σ := Unit) (fun k _ => Ev d g g m_P_minimalPoints 4 [.ref aa, .int (nI (ck (enB n up true) k)), .int (nI k)] [] h (asI K)) (fun _ _ => True) n (fun _ _ => ?_) (fun k _ hk _ ih => ?_) 0 () (Nat.zero_le _) trivial
  · exact w_P_minimalPoints_4 f (br_le n n P.1.1 rfl (fun _ => hK) (fun z => by omega))
  · have i1 := ih () trivial
    have hp := p2_lt (x := k) (by omega)
    have hpn : 2 ^ k < 2 ^ n := Nat.pow_lt_pow_right (by decide) hk
    unfold ck at i1
    refine w_P_minimalPoints_4 f (br_le n k P.1.1 rfl (fun z => by omega) fun _ => ?_)
    rw [nm_bit1 k (by omega), nI_clamp (by omega), P.2.1 _ hpn, nI_add, nI_add]
    refine ⟨vp_in_nI hp (by decide), br_ne (dsk n up (2 ^ k) n) (2 ^ k) rfl rfl (fun z => ?_) (fun z => ?_) (Nat.lt_trans (Nat.lt_of_lt_of_le (dsk_lt n up _ n) (p2_le h6)) (by decide))⟩
    · rw [(min_iff w hk).mp z] at i1
      exact i1
    · rw [bool_f (min_iff w hk) z] at i1
      exact i1
theorem S_maximalPoints (f : is_P h aa) (P : PC h aa n up val) (w : wfP n up) (hK : K (nI (ck (enB n up false) n)) h) : Ev d g g m_P_maximalPoints 0 [.ref aa] [] h (asI K) := by
  have h6 := w.1.2
  refine w_P_maximalPoints_0 f ?_
  refine for_up (σ := Unit) (fun k _ => Ev d g g m_P_maximalPoints 4 [.ref aa, .int (nI (ck (enB n up false) k)), .int (nI k)] [] h (asI K)) (fun _ _ => True) n (fun _ _ => ?_) (fun k _ hk _ ih => ?_) 0 () (Nat.zero_le _) trivial
  · exact w_P_maximalPoints_4 f (br_le n n P.1.1 rfl (fun _ => hK) (fun z => by omega))
  · have i1 := ih () trivial
    have hp := p2_lt (x := k) (by omega)
    unfold ck at i1
    refine w_P_maximalPoints_4 f (br_le n k P.1.1 rfl (fun z => by omega) fun _ => ?_)
    rw [nm_bit1 k (by omega), nI_clamp (by omega), P.1.2 k hk, nI_add, nI_add]
    refine ⟨vp_in_nI (by omega) (by decide), br_ne (up k) (2 ^ k) rfl rfl (fun z => ?_) (fun z => ?_) (Nat.lt_trans (w.u64 hk) (by decide))⟩
    · rw [(max_iff w hk).mp z] at i1
      exact i1
    · rw [bool_f (max_iff w hk) z] at i1
      exact i1
theorem S_properPairs (f : is_P h aa) (P : PC h aa n up val) (w : wfP n up) (hK : K (nI (prk up n)) h) : Ev (d + 1) g g m_P_properPairs 0 [.ref aa] [] h (asI K) := by
  have h6 := w.1.2
  refine w_P_properPairs_0 f ?_
  refine for_up (σ := Unit) (fun k _ => Ev (d + 1) g g m_P_properPairs 4 [.ref aa, .int (nI (prk up k)), .int (nI k)] [] h (asI K)) (fun _ _ => True) n (fun _ _ => ?_) (fun k _ hk _ ih => ?_) 0 () (Nat.zero_le _) trivial
  · exact w_P_properPairs_4 f (br_le n n P.1.1 rfl (fun _ => hK) (fun z => by omega))
  · refine w_P_properPairs_4 f (br_le n k P.1.1 rfl (fun z => by omega) fun _ => S_greaterPoints f P.1 w hk fun _ => S_bitCount (and64 (w.u64 hk)) fun _ => ?_)
    rw [nI_add, nI_add]
    exact ih () trivial
theorem S_Mpairs (fM : is_M h) (hi : i < 5) (o : MO h i n up) (w : wfP n up) (hK : K (nI (prk up n)) h) : Ev (d + 1) g g m_M_pairs 0 [.ref A_M, .int (nI i)] [] h (asI K) := by
  have h6 := w.1.2
  refine w_M_pairs_0 fM ?_
  refine for_up (σ := Unit) (fun k _ => Ev (d + 1) g g m_M_pairs 4 [.ref A_M, .int (nI i), .int (nI (prk up k)), .int (nI k)] [] h (asI K)) (fun _ _ => True) n (fun _ _ => ?_) (fun k _ hk _ ih => ?_) 0 () (Nat.zero_le _) trivial
  · refine w_M_pairs_4 fM ⟨vp_in_nI hi (by decide), ?_⟩
    rw [nI_clamp (by omega)]
    exact br_le n n o.1 rfl (fun _ => hK) (fun z => by omega)
  · refine w_M_pairs_4 fM ⟨vp_in_nI hi (by decide), ?_⟩
    rw [nI_clamp (by omega), nI_ix, nI_clamp (by omega), o.2 k hk]
    refine br_le n k o.1 rfl (fun z => by omega) fun _ => ⟨vp_in_nI (by omega) (by decide), S_Mbits (w.u64 hk) fun _ => ?_⟩
    rw [nm_pair _ (w.u64 hk) k (by omega) (w.2.2.1 k hk), nI_add, nI_add]
    exact ih () trivial
theorem S_Mends {b : Bool} (fM : is_M h) (hi : i < 5) (o : MO h i n up) (w : wfP n up) (hK : K (nI (ck (enB n up b) n)) h) : Ev (d + 1) g g m_M_ends 0 [.ref A_M, .int (nI i), .int (bI b)] [] h (asI K) := by
  have h6 := w.1.2
  refine w_M_ends_0 fM ?_
  refine for_up (σ := Unit) (fun k _ => Ev (d + 1) g g m_M_ends 5 [.ref A_M, .int (nI i), .int (bI b), .int (nI (ck (enB n up b) k)), .int (nI k)] [] h (asI K)) (fun _ _ => True) n (fun _ _ => ?_) (fun k _ hk _ ih => ?_) 0 () (Nat.zero_le _) trivial
  · refine w_M_ends_5 fM ⟨vp_in_nI hi (by decide), ?_⟩
    rw [nI_clamp (by omega)]
    exact br_le n n o.1 rfl (fun _ => hK) (fun z => by omega)
  have i1 := ih () trivial
  unfold ck at i1
  refine w_M_ends_5 fM ⟨vp_in_nI hi (by decide), ?_⟩
  rw [nI_clamp (by omega)]
  refine br_le n k o.1 rfl (fun z => by omega) fun _ => ?_
  refine for_up (σ := Bool) (fun y c => Ev (d + 1) g g m_M_ends 22 [.ref A_M, .int (nI i), .int (bI b), .int (nI (ck (enB n up b) k)), .int (nI k), .int (bI c), .int (nI y)] [] h (asI K)) (fun y c => c = true ↔ ∀ y', y' < y → y' ≠ k → (bif b then le up y' k else le up k y') = false) n (fun c hc => ?_) (fun y c hy hc ih2 => ?_) 0 true (Nat.zero_le _) ⟨fun _ _ q => by omega, fun _ => rfl⟩
  · refine w_M_ends_22 fM ⟨vp_in_nI hi (by decide), ?_⟩
    rw [nI_clamp (by omega), nI_add, nI_add, nI_add, nI_add]
    refine br_le n n o.1 rfl (fun _ => br_b (fun z => ?_) (fun z => ?_)) (fun z => by omega)
    · rw [bool_f (hc.trans enB_iff.symm).symm.symm (fun q => by rw [q] at z; cases z)] at i1
      exact i1
    · rw [enB_iff.mpr (hc.mp z)] at i1
      exact i1
  · refine w_M_ends_22 fM ⟨vp_in_nI hi (by decide), ?_⟩
    rw [nI_clamp (by omega), nI_add, nI_add, nI_add, nI_add]
    have ok : (y ≠ k → (bif b then le up y k else le up k y) = false) → c = true → Ev (d + 1) g g m_M_ends 22 [.ref A_M, .int (nI i), .int (bI b), .int (nI (ck (enB n up b) k)), .int (nI k), .int (nI 1), .int (nI (y + 1))] [] h (asI K) := fun q z => ih2 true ⟨fun _ y' hy' hne => by
      by_cases e : y' = y
      · subst e; exact q hne
      · exact hc.mp z y' (by omega) hne, fun _ => rfl⟩
    have no : ¬ (∀ y', y' < y + 1 → y' ≠ k → (bif b then le up y' k else le up k y') = false) → Ev (d + 1) g g m_M_ends 22 [.ref A_M, .int (nI i), .int (bI b), .int (nI (ck (enB n up b) k)), .int (nI k), .int (nI 0), .int (nI (y + 1))] [] h (asI K) := fun q => ih2 false ⟨fun r => (by cases r), fun r => absurd r q⟩
    refine br_le n y o.1 rfl (fun z => by omega) fun _ => br_b (fun z => no fun r => ?_) (fun z => br_eq y k rfl rfl (fun e => ok (fun q => absurd e q) z) fun e => ?_)
    · rw [hc.mpr fun y' hy' => r y' (by omega)] at z
      cases z
    · cases b with
      | false => exact ⟨fun _ => S_MisLess fM hi o h6 (w.u64 hk) hk (by omega) fun _ => br_nb (fun q => ok (fun _ => q) z) (fun q => no fun r => by have := r y (by omega) e; rw [cond_false, q] at this; cases this), fun q => absurd rfl q⟩
      | true => exact ⟨fun q => absurd q (by decide), fun _ => S_MisLess fM hi o h6 (w.u64 hy) hy (by omega) fun _ => br_b (fun q => ok (fun _ => q) z) (fun q => no fun r => by have := r y (by omega) e; rw [cond_true, q] at this; cases this)⟩
end ENDS

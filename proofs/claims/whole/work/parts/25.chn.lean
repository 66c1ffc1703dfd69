/-! chains and antichains -/
theorem nm_tb2 : ∀ s, s < 64 → ∀ x, x < 6 → ∀ y, y < 6 → ((nI s >>> (nI x &&& 31)) &&& (nI s >>> (nI y &&& 31))) &&& nI 1 = nI (if (s.testBit x && s.testBit y) = true then 1 else 0) := by decide +kernel
def rel (up : Nat → Nat) (x y : Nat) : Bool := le up x y || le up y x
def rlk (n : Nat) (up : Nat → Nat) (x : Nat) : Nat := up x ||| dsk n up (2 ^ x) n
theorem rlk_tb {n : Nat} {up : Nat → Nat} {x y : Nat} (hx : x < n) (hy : y < n) : (rlk n up x).testBit y = rel up x y := by
  unfold rlk rel
  rw [Nat.testBit_or]
  have h : (dsk n up (2 ^ x) n).testBit y = le up y x := by
    rw [Bool.eq_iff_iff, dsk_tb]
    constructor
    · rintro ⟨z, _, hz, _, e⟩
      rw [Nat.testBit_two_pow, decide_eq_true_eq] at hz
      subst hz
      exact e
    · intro e
      exact ⟨x, hx, by rw [Nat.testBit_two_pow, decide_eq_true_eq], hy, e⟩
  rw [h]
  rfl
theorem rel_comm (up : Nat → Nat) (x y : Nat) : rel up x y = rel up y x := by unfold rel; rw [Bool.or_comm]
theorem rlk64 {n : Nat} {up : Nat → Nat} (w : wfP n up) {x : Nat} (hx : x < n) : rlk n up x < 64 := or64 (w.u64 hx) (Nat.lt_of_lt_of_le (dsk_lt n up _ n) (p2_le w.1.2))
def prs (n : Nat) (up : Nat → Nat) (b : Bool) (s : Nat) : Bool := (List.range n).all fun x => (List.range x).all fun y => !(s.testBit x && s.testBit y) || (rel up x y == b)
theorem prs_iff {n : Nat} {up : Nat → Nat} {b : Bool} {s : Nat} : prs n up b s = true ↔ ∀ x, x < n → ∀ y, y < x → s.testBit x = true → s.testBit y = true → rel up x y = b := by
  unfold prs
  simp only [List.all_eq_true, List.mem_range, Bool.or_eq_true, Bool.not_eq_true', Bool.and_eq_false_iff, beq_iff_eq]
  constructor
  · intro h x hx y hy h1 h2
    rcases h x hx y hy with z | z
    · rcases z with z | z
      · rw [h1] at z; cases z
      · rw [h2] at z; cases z
    · exact z
  · intro h x hx y hy
    cases h1 : s.testBit x with
    | false => exact Or.inl (Or.inl rfl)
    | true =>
      cases h2 : s.testBit y with
      | false => exact Or.inl (Or.inr rfl)
      | true => exact Or.inr (h x hx y hy h1 h2)
theorem prs_t {n : Nat} {up : Nat → Nat} (w : wfP n up) {s : Nat} : prs n up true s = true ↔ ∀ x, x < n → s.testBit x = true → ∀ y, y < n → s.testBit y = true → rel up x y = true := by
  rw [prs_iff]
  constructor
  · intro h x hx h1 y hy h2
    rcases Nat.lt_trichotomy x y with z | z | z
    · rw [rel_comm]; exact h y hy x z h2 h1
    · subst z; unfold rel; rw [w.2.2.1 x hx]; rfl
    · exact h x hx y z h1 h2
  · intro h x hx y hy h1 h2
    exact h x hx h1 y (by omega) h2
theorem prs_f {n : Nat} {up : Nat → Nat} {s : Nat} : prs n up false s = true ↔ ∀ x, x < n → s.testBit x = true → ∀ y, y < n → s.testBit y = true → x ≠ y → le up x y = false := by
  rw [prs_iff]
  have ro : ∀ x y, rel up x y = false ↔ le up x y = false ∧ le up y x = false := fun x y => by unfold rel; rw [Bool.or_eq_false_iff]
  constructor
  · intro h x hx h1 y hy h2 hne
    rcases Nat.lt_trichotomy x y with z | z | z
    · exact ((ro _ _).mp (h y hy x z h2 h1)).2
    · exact absurd z hne
    · exact ((ro _ _).mp (h x hx y z h1 h2)).1
  · intro h x hx y hy h1 h2
    exact (ro _ _).mpr ⟨h x hx h1 y (by omega) h2 (by omega), h y (by omega) h2 x hx h1 (by omega)⟩
def bst (P : Nat → Bool) : Nat → Nat
  | 0 => 0
  | k + 1 => bif P k then max (bst P k) (pop k) else bst P k
theorem bst_le {P : Nat → Bool} : ∀ k, k ≤ 64 → bst P k ≤ 6
  | 0, _ => Nat.zero_le _
  | k + 1, h => by
    unfold bst
    have := bst_le (P := P) k (by omega)
    have := pop_le6 6 (by decide) k (by omega)
    cases P k
    · exact bst_le k (by omega)
    · exact Nat.max_le.mpr ⟨by omega, by omega⟩
theorem bst_1 {P : Nat → Bool} : bst P 1 = 0 := by
  unfold bst bst
  cases P 0 <;> decide
theorem if_max {a b : Nat} (ha : a < 2147483648) (hb : b < 2147483648) : (if nI a < nI b then nI b else nI a) = nI (max a b) := by
  by_cases h : a < b
  · rw [if_pos ((nI_ltI ha hb).mpr h), Nat.max_eq_right (by omega)]
  · rw [if_neg (fun z => h ((nI_ltI ha hb).mp z)), Nat.max_eq_left (by omega)]
theorem and_zero {a b n : Nat} (ha : a < 2 ^ n) : a &&& b = 0 ↔ ∀ y, y < n → a.testBit y = true → b.testBit y = false := by
  constructor
  · intro h y _ hy
    have : (a &&& b).testBit y = false := by rw [h, Nat.zero_testBit]
    rw [Nat.testBit_and, hy] at this
    exact this
  · intro h
    apply Nat.eq_of_testBit_eq
    intro y
    rw [Nat.testBit_and, Nat.zero_testBit]
    cases hy : a.testBit y with
    | false => rfl
    | true => exact h y (tb_lt ha hy) hy
section CHN
variable {d g aa n x s : Nat} {up val : Nat → Nat} {h : AH} {K : Int32 → AH → Prop}
theorem S_relatedPoints (f : is_P h aa) (P : PC h aa n up val) (w : wfP n up) (hx : x < n) (hK : K (nI (rlk n up x)) h) : Ev d g g m_P_relatedPoints 0 [.ref aa, .int (nI x)] [] h (asI K) := by
  have h6 := w.1.2
  have hp := p2_lt (x := x) (by omega)
  have hpn : 2 ^ x < 2 ^ n := Nat.pow_lt_pow_right (by decide) hx
  refine w_P_relatedPoints_0 f ⟨vp_in_nI (by omega) (by decide), ?_⟩
  rw [nm_bit1 x (by omega), nI_clamp (by omega), nI_clamp (by omega), P.1.2 x hx, P.2.1 _ hpn, nm_or _ (w.u64 hx) _ (Nat.lt_of_lt_of_le (dsk_lt n up _ n) (p2_le h6))]
  exact ⟨vp_in_nI hp (by decide), hK⟩
theorem S_isChain (f : is_P h aa) (P : PC h aa n up val) (w : wfP n up) (hs : s < 2 ^ n) (hK : K (bI (prs n up true s)) h) : Ev (d + 1) g g m_P_isChain 0 [.ref aa, .int (nI s)] [] h (asI K) := by
  have h6 := w.1.2
  have s64 : s < 64 := Nat.lt_of_lt_of_le hs (p2_le h6)
  refine w_P_isChain_0 f ?_
  refine for_up (σ := Unit) (fun k _ => Ev (d + 1) g g m_P_isChain 2 [.ref aa, .int (nI s), .int (nI k)] [] h (asI K)) (fun k _ => ∀ x, x < k → s.testBit x = true → ∀ y, y < n → s.testBit y = true → rel up x y = true) n (fun _ hi => ?_) (fun k _ hk hi ih => ?_) 0 () (Nat.zero_le _) (fun i z => by omega)
  · rw [(prs_t w).mpr hi] at hK
    exact w_P_isChain_2 f (br_le n n P.1.1 rfl (fun _ => hK) (fun z => by omega))
  · refine w_P_isChain_2 f (br_le n k P.1.1 rfl (fun z => by omega) fun _ => ?_)
    rw [nm_tb _ s64 k (by omega), nI_add]
    refine br_tb (fun z => ih () fun i hik h1 => ?_) (fun z => S_relatedPoints f P w hk fun _ => ?_)
    · by_cases e : i = k
      · subst e; rw [z] at h1; cases h1
      · exact hi i (by omega) h1
    · have e1 := nm_dif _ s64 _ (rlk64 w hk)
      unfold m1 at e1
      rw [e1]
      refine br_eq (s &&& (rlk n up k ^^^ 63)) 0 rfl rfl (fun q => ih () fun i hik h1 => ?_) (fun q => ?_) (a31 s64)
      · by_cases e : i = k
        · subst e
          intro y hy h2
          rw [← rlk_tb hk hy]
          exact (dif_zero hs h6).mp q y hy h2
        · exact hi i (by omega) h1
      · have hp : prs n up true s = false := by
          cases hp : prs n up true s with
          | false => rfl
          | true => exact absurd ((dif_zero hs h6).mpr fun y hy h2 => by rw [rlk_tb hk hy]; exact (prs_t w).mp hp k hk z y hy h2) q
        rw [hp] at hK
        exact hK
theorem gt_tb {k y : Nat} (hk : k < 6) (hy : y < 6) : (gt up k).testBit y = (le up k y && !decide (k = y)) := by
  unfold gt
  rw [dif_tb hy, Nat.testBit_two_pow]
  rfl
theorem S_isAntichain (f : is_P h aa) (P : PC h aa n up val) (w : wfP n up) (hs : s < 2 ^ n) (hK : K (bI (prs n up false s)) h) : Ev (d + 1) g g m_P_isAntichain 0 [.ref aa, .int (nI s)] [] h (asI K) := by
  have h6 := w.1.2
  have s64 : s < 64 := Nat.lt_of_lt_of_le hs (p2_le h6)
  refine w_P_isAntichain_0 f ?_
  refine for_up (σ := Unit) (fun k _ => Ev (d + 1) g g m_P_isAntichain 2 [.ref aa, .int (nI s), .int (nI k)] [] h (asI K)) (fun k _ => ∀ x, x < k → s.testBit x = true → ∀ y, y < n → s.testBit y = true → x ≠ y → le up x y = false) n (fun _ hi => ?_) (fun k _ hk hi ih => ?_) 0 () (Nat.zero_le _) (fun i z => by omega)
  · rw [prs_f.mpr hi] at hK
    exact w_P_isAntichain_2 f (br_le n n P.1.1 rfl (fun _ => hK) (fun z => by omega))
  · refine w_P_isAntichain_2 f (br_le n k P.1.1 rfl (fun z => by omega) fun _ => ?_)
    rw [nm_tb _ s64 k (by omega), nI_add]
    refine br_tb (fun z => ih () fun i hik h1 => ?_) (fun z => S_greaterPoints f P.1 w hk fun _ => ?_)
    · by_cases e : i = k
      · subst e; rw [z] at h1; cases h1
      · exact hi i (by omega) h1
    · have g64 : gt up k < 64 := and64 (w.u64 hk)
      have e1 := nm_and _ s64 _ g64
      unfold gt at e1
      rw [e1]
      refine br_eq (s &&& gt up k) 0 rfl rfl (fun q => ih () fun i hik h1 => ?_) (fun q => ?_) (a31 s64)
      · by_cases e : i = k
        · subst e
          intro y hy h2 hne
          have := (and_zero hs).mp q y hy h2
          rw [gt_tb (by omega) (by omega), decide_eq_false hne] at this
          simpa using this
        · exact hi i (by omega) h1
      · have hp : prs n up false s = false := by
          cases hp : prs n up false s with
          | false => rfl
          | true =>
            refine absurd ((and_zero hs).mpr fun y hy h2 => ?_) q
            rw [gt_tb (by omega) (by omega)]
            by_cases e : k = y
            · rw [decide_eq_true e, Bool.not_true, Bool.and_false]
            · rw [prs_f.mp hp k hk z y hy h2 e, Bool.false_and]
        rw [hp] at hK
        exact hK
theorem S_largestChain (f : is_P h aa) (P : PC h aa n up val) (w : wfP n up) (hK : K (nI (bst (prs n up true) (2 ^ n))) h) : Ev (d + 2) g g m_P_largestChain 0 [.ref aa] [] h (asI K) := by
  have h6 := w.1.2
  have hp := p2_le h6
  have hpp := p2_pos n
  refine w_P_largestChain_0 f ?_
  refine for_up (σ := Unit) (fun k _ => Ev (d + 2) g g m_P_largestChain 4 [.ref aa, .int (nI (bst (prs n up true) k)), .int (nI k)] [] h (asI K)) (fun _ _ => True) (2 ^ n) (fun _ _ => ?_) (fun k _ hk _ ih => ?_) 0 () (Nat.zero_le _) trivial
  · exact w_P_largestChain_4 f (S_allPoints f P.1.1 h6 fun _ => br_lt (2 ^ n - 1) (2 ^ n) rfl rfl (fun _ => hK) (fun z => by omega))
  · have i1 := ih () trivial
    have b6 := bst_le (P := prs n up true) k (by omega)
    have p6 := pop_le6 6 (by decide) k (by omega)
    unfold bst at i1
    refine w_P_largestChain_4 f (S_allPoints f P.1.1 h6 fun _ => br_lt (2 ^ n - 1) k rfl rfl (fun z => by omega) fun _ => S_isChain f P w hk fun _ => br_b (fun z => ?_) (fun z => S_bitCount (by omega) fun _ => ?_))
    · rw [z] at i1
      rw [nI_add]
      exact i1
    · rw [z] at i1
      rw [nI_add, if_max (by omega) (by omega)]
      exact i1
theorem S_largestAntichain (f : is_P h aa) (P : PC h aa n up val) (w : wfP n up) (hK : K (nI (bst (prs n up false) (2 ^ n))) h) : Ev (d + 2) g g m_P_largestAntichain 0 [.ref aa] [] h (asI K) := by
  have h6 := w.1.2
  have hp := p2_le h6
  have hpp := p2_pos n
  refine w_P_largestAntichain_0 f ?_
  refine for_up (σ := Unit) (fun k _ => Ev (d + 2) g g m_P_largestAntichain 4 [.ref aa, .int (nI (bst (prs n up false) k)), .int (nI k)] [] h (asI K)) (fun _ _ => True) (2 ^ n) (fun _ _ => ?_) (fun k _ hk _ ih => ?_) 0 () (Nat.zero_le _) trivial
  · exact w_P_largestAntichain_4 f (S_allPoints f P.1.1 h6 fun _ => br_lt (2 ^ n - 1) (2 ^ n) rfl rfl (fun _ => hK) (fun z => by omega))
  · have i1 := ih () trivial
    have b6 := bst_le (P := prs n up false) k (by omega)
    have p6 := pop_le6 6 (by decide) k (by omega)
    unfold bst at i1
    refine w_P_largestAntichain_4 f (S_allPoints f P.1.1 h6 fun _ => br_lt (2 ^ n - 1) k rfl rfl (fun z => by omega) fun _ => S_isAntichain f P w hk fun _ => br_b (fun z => ?_) (fun z => S_bitCount (by omega) fun _ => ?_))
    · rw [z] at i1
      rw [nI_add]
      exact i1
    · rw [z] at i1
      rw [nI_add, if_max (by omega) (by omega)]
      exact i1
end CHN

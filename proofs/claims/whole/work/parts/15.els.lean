/-! down-sets and elements of a poset, as the class finds them -/
theorem dsk_lo (n : Nat) (up : Nat → Nat) {s x : Nat} (h : s < 2 ^ x) : dsk n up s (x + 1) = dsk n up s x := by
  unfold dsk
  rw [Nat.testBit_lt_two_pow h]
  cases x <;> rfl
theorem dsk_hi (n : Nat) (up : Nat → Nat) {t x : Nat} (h : t < 2 ^ x) : dsk n up (2 ^ x + t) (x + 1) = dsk n up t x ||| dnk up x n := by
  show (bif (2 ^ x + t).testBit x then dsk n up (2 ^ x + t) x ||| dnk up x n else dsk n up (2 ^ x + t) x) = _
  rw [Nat.testBit_two_pow_add_eq, Nat.testBit_lt_two_pow h, dsk_congr n up (t := t) x fun j hj => Nat.testBit_two_pow_add_gt hj t]
  rfl
theorem or_add {t x : Nat} (h : t < 2 ^ x) : t ||| 2 ^ x = 2 ^ x + t := by
  have := Nat.two_pow_add_eq_or_of_lt h 1
  rw [Nat.mul_one] at this
  rw [this, Nat.or_comm]
theorem PO.keep {h h1 : AH} {a n : Nat} {up : Nat → Nat} {P : Nat → Prop} (o : PO h a n up) (s : same P h h1) (p0 : P a) (p1 : P (a + 1)) : PO h1 a n up := ⟨((s a p0).1 0).trans o.1, fun x hx => ((s _ p1).1 x).trans (o.2 x hx)⟩
section PDS
variable {d g a n : Nat} {up : Nat → Nat} {h : AH} {K : AH → Prop}
theorem S_findDownSets (f : is_P h a) (o : PO h a n up) (w : wfP n up) (hK : ∀ h1, Ext h h1 → same (fun q => q ≠ a + 2) h h1 → (∀ s, s < 2 ^ n → mi h1 (a + 2) s = nI (dsk n up s n)) → K h1) : Ev (d + 2) g g m_P_findDownSets 0 [.ref a] [] h (asV K) := by
  have h6 := w.1.2
  refine w_P_findDownSets_0 f ⟨vp_in_nI (by decide) (by decide), ?_⟩
  refine for_up (σ := AH) (fun x hh => Ev (d + 2) g g m_P_findDownSets 9 [.ref a, .int (nI x)] [] hh (asV K)) (fun x hh => Ext h hh ∧ same (fun q => q ≠ a + 2) h hh ∧ ∀ s, s < 2 ^ x → mi hh (a + 2) s = nI (dsk n up s x)) n (fun hh hi => ?_) (fun x hh hx hi ih => ?_) 0 _ (Nat.zero_le _) ?_
  · obtain ⟨e, sm, hd⟩ := hi
    exact w_P_findDownSets_9 (f.ext e) (br_le n n (o.keep sm (by omega) (by omega)).1 rfl (fun _ => hK hh e sm hd) (fun z => by omega))
  · obtain ⟨e, sm, hd⟩ := hi
    have o1 := o.keep sm (by omega) (by omega)
    refine w_P_findDownSets_9 (f.ext e) (br_le n x o1.1 rfl (fun z => by omega) fun _ => ?_)
    refine S_pointsBelow (f.ext e) o1 w hx fun _ => ?_
    rw [nm_bit1 x (by omega)]
    have hxp : 2 ^ x ≤ 64 := p2_le (by omega)
    have hxp2 : 2 ^ (x + 1) ≤ 64 := p2_le (by omega)
    have hx2 : 2 ^ (x + 1) = 2 ^ x + 2 ^ x := by rw [Nat.pow_succ]; omega
    have hdl : dnk up x n < 64 := Nat.lt_of_lt_of_le (dnk_lt up x n) (p2_le h6)
    refine for_up (σ := AH) (fun s hh => Ev (d + 2) g g m_P_findDownSets 30 [.ref a, .int (nI x), .int (nI (dnk up x n)), .int (nI (2 ^ x)), .int (nI s)] [] hh (asV K)) (fun s hh => Ext h hh ∧ same (fun q => q ≠ a + 2) h hh ∧ (∀ t, t < 2 ^ x → mi hh (a + 2) t = nI (dsk n up t x)) ∧ ∀ t, t < s → mi hh (a + 2) (2 ^ x + t) = nI (dsk n up t x ||| dnk up x n)) (2 ^ x) (fun hh hi => ?_) (fun s hh hs hi ih2 => ?_) 0 hh (Nat.zero_le _) ⟨e, sm, hd, fun t ht => by omega⟩
    · obtain ⟨e, sm, hd, hd2⟩ := hi
      refine w_P_findDownSets_30 (f.ext e) (br_le (2 ^ x) (2 ^ x) rfl rfl (fun _ => ?_) (fun z => by omega))
      rw [nI_add]
      refine ih hh ⟨e, sm, fun s hs => ?_⟩
      by_cases hlt : s < 2 ^ x
      · rw [dsk_lo n up hlt]
        exact hd s hlt
      · have e1 : s = 2 ^ x + (s - 2 ^ x) := by omega
        rw [e1, dsk_hi n up (by omega)]
        exact hd2 _ (by omega)
    · obtain ⟨e, sm, hd, hd2⟩ := hi
      refine w_P_findDownSets_30 (f.ext e) (br_le (2 ^ x) s rfl rfl (fun z => by omega) fun _ => ?_)
      have e1 : nI s ||| nI (2 ^ x) = nI (2 ^ x + s) := by rw [nm_or s (by omega) (2 ^ x) (by omega), or_add hs]
      rw [e1, nI_clamp (by omega), nI_clamp (by omega), nI_add]
      refine ⟨vp_in_nI (by omega) (by decide), vp_in_nI (by omega) (by decide), ih2 _ ⟨e.trans (ext_wi _ _ _ _), sm.wi (by omega), fun t ht => ?_, fun t ht => ?_⟩⟩
      · rw [mi_nj (by omega)]
        exact hd t ht
      · by_cases hts : t = s
        · subst hts
          rw [mi_eq, hd t hs, nm_or _ (Nat.lt_of_lt_of_le (dsk_lt n up t x) (p2_le h6)) _ hdl]
        · rw [mi_nj (by omega)]
          exact hd2 t (by omega)
  · refine ⟨ext_wi _ _ _ _, same.rf.wi (by omega), fun s hs => ?_⟩
    have : s = 0 := by omega
    subst this
    exact mi_eq
end PDS
/-! up-sets -/
def UpS (n : Nat) (up : Nat → Nat) (s : Nat) : Prop := ∀ x y, x < n → y < n → s.testBit x = true → le up x y = true → s.testBit y = true
def isUp (n : Nat) (up : Nat → Nat) (s : Nat) : Bool := (List.range n).all fun x => !s.testBit x || (up x &&& (s ^^^ 63)) == 0
theorem tb63 : ∀ x, x < 6 → Nat.testBit 63 x = true := by decide
theorem dif_tb {a b x : Nat} (hx : x < 6) : (a &&& (b ^^^ 63)).testBit x = (a.testBit x && !b.testBit x) := by
  rw [Nat.testBit_and, Nat.testBit_xor, tb63 x hx]
  cases b.testBit x <;> rfl
theorem dif_zero {a b n : Nat} (ha : a < 2 ^ n) (hn : n ≤ 6) : a &&& (b ^^^ 63) = 0 ↔ ∀ y, y < n → a.testBit y = true → b.testBit y = true := by
  constructor
  · intro h y hy h1
    have h2 := dif_tb (a := a) (b := b) (show y < 6 by omega)
    rw [h, h1] at h2
    simp at h2
    cases hb : b.testBit y
    · rw [hb] at h2; simp at h2
    · rfl
  · intro h
    apply Nat.eq_of_testBit_eq
    intro y
    rw [Nat.zero_testBit]
    by_cases hy : y < n
    · rw [dif_tb (by omega)]
      cases h1 : a.testBit y
      · rfl
      · rw [h y hy h1]; rfl
    · have : a.testBit y = false := by
        cases h1 : a.testBit y
        · rfl
        · exact absurd (tb_lt ha h1) hy
      rw [Nat.testBit_and, this]
      rfl
theorem isUp_iff {n : Nat} {up : Nat → Nat} (w : wfP n up) (s : Nat) : isUp n up s = true ↔ UpS n up s := by
  unfold isUp UpS
  rw [List.all_eq_true]
  constructor
  · intro h x y hx hy h1 h2
    have h3 := h x (List.mem_range.mpr hx)
    rw [h1] at h3
    simp only [Bool.not_true, Bool.false_or, beq_iff_eq] at h3
    exact (dif_zero (w.2.1 x hx) w.1.2).mp h3 y hy h2
  · intro h x hx
    have hx := List.mem_range.mp hx
    cases h1 : s.testBit x
    · rfl
    · simp only [Bool.not_true, Bool.false_or, beq_iff_eq]
      exact (dif_zero (w.2.1 x hx) w.1.2).mpr fun y hy h2 => h x y hx hy h1 h2
theorem all_tb : ∀ n, n < 7 → ∀ x, x < 6 → (2 ^ n - 1).testBit x = decide (x < n) := by decide
/-- the class's own test -/
theorem upC_iff {n : Nat} {up : Nat → Nat} (w : wfP n up) {s : Nat} (hs : s < 2 ^ n) : (dsk n up ((2 ^ n - 1) &&& (s ^^^ 63)) n &&& s = 0) ↔ isUp n up s = true := by
  rw [isUp_iff w]
  have h6 := w.1.2
  have hc : ∀ x, x < n → ((2 ^ n - 1) &&& (s ^^^ 63)).testBit x = !s.testBit x := fun x hx => by
    rw [dif_tb (by omega), all_tb n (by omega) x (by omega)]
    simp [hx]
  constructor
  · intro h x y hx hy h1 h2
    cases h3 : s.testBit y
    · have h4 : (dsk n up ((2 ^ n - 1) &&& (s ^^^ 63)) n &&& s).testBit x = true := by
        rw [Nat.testBit_and, h1, Bool.and_true]
        exact (dsk_tb n up _ n x).mpr ⟨y, hy, by rw [hc y hy, h3]; rfl, hx, h2⟩
      rw [h] at h4
      simp at h4
    · rfl
  · intro h
    apply Nat.eq_of_testBit_eq
    intro x
    rw [Nat.zero_testBit, Nat.testBit_and]
    cases h1 : s.testBit x
    · rw [Bool.and_false]
    · rw [Bool.and_true]
      cases h2 : (dsk n up ((2 ^ n - 1) &&& (s ^^^ 63)) n).testBit x
      · rfl
      · obtain ⟨y, hy, h3, hx, h4⟩ := (dsk_tb n up _ n x).mp h2
        rw [hc y hy, h x y hx hy h1 h4] at h3
        cases h3
/-! the order of the sets -/
def pre (n c s : Nat) : List Nat := ((List.range c).flatMap fun k => (List.range (2 ^ n)).filter fun t => pop t == k) ++ (List.range s).filter fun t => pop t == c
theorem pre_yes {n c s : Nat} (h : pop s = c) : pre n c (s + 1) = pre n c s ++ [s] := by
  unfold pre
  rw [List.range_succ, List.filter_append, List.append_assoc]
  simp [h]
theorem pre_no {n c s : Nat} (h : pop s ≠ c) : pre n c (s + 1) = pre n c s := by
  unfold pre
  rw [List.range_succ, List.filter_append]
  simp [h]
theorem pre_row {n c : Nat} : pre n c (2 ^ n) = pre n (c + 1) 0 := by
  unfold pre
  rw [List.range_succ, List.flatMap_append]
  simp
theorem mem_pre {n c s t : Nat} (hs : s ≤ 2 ^ n) : t ∈ pre n c s ↔ t < 2 ^ n ∧ (pop t < c ∨ (pop t = c ∧ t < s)) := by
  unfold pre
  simp only [List.mem_append, List.mem_flatMap, List.mem_range, List.mem_filter, beq_iff_eq]
  constructor
  · rintro (⟨k, h1, h2, h3⟩ | ⟨h1, h2⟩)
    · exact ⟨h2, Or.inl (by omega)⟩
    · exact ⟨by omega, Or.inr ⟨h2, h1⟩⟩
  · rintro ⟨h1, h2 | ⟨h2, h3⟩⟩
    · exact Or.inl ⟨pop t, h2, h1, rfl⟩
    · exact Or.inr ⟨h3, h2⟩
theorem pre_len : ∀ n, n < 7 → ∀ s, s < 2 ^ n → (pre n (pop s) s).length < 2 ^ n := by decide +kernel
def els (n : Nat) (up : Nat → Nat) (c s : Nat) : List Nat := (pre n c s).filter (isUp n up)
def elems (n : Nat) (up : Nat → Nat) : List Nat := els n up (n + 1) 0
theorem els_len {n : Nat} {up : Nat → Nat} {s : Nat} (hn : n ≤ 6) (hs : s < 2 ^ n) : (els n up (pop s) s).length < 2 ^ n := Nat.lt_of_le_of_lt (List.length_filter_le _ _) (pre_len n (by omega) s hs)
theorem mem_elems {n : Nat} {up : Nat → Nat} {t : Nat} (hn : n ≤ 6) : t ∈ elems n up ↔ t < 2 ^ n ∧ isUp n up t = true := by
  unfold elems els
  rw [List.mem_filter, mem_pre (Nat.zero_le _)]
  constructor
  · rintro ⟨⟨h1, -⟩, h2⟩
    exact ⟨h1, h2⟩
  · rintro ⟨h1, h2⟩
    exact ⟨⟨h1, Or.inl (by have := pop_le6 n hn t h1; omega)⟩, h2⟩

/-! inversion of the stack's words -/
theorem pI_inv {st : List Value} {K : Int32 → List Value → Prop} (h : pI st K) : ∃ x s, st = .int x :: s ∧ K x s := by
  cases st with
  | nil => exact h.elim
  | cons v s => cases v <;> first | exact ⟨_, _, rfl, h⟩ | exact h.elim
theorem pJ_inv {st : List Value} {K : Int64 → List Value → Prop} (h : pJ st K) : ∃ x s, st = .long x :: s ∧ K x s := by
  cases st with
  | nil => exact h.elim
  | cons v s => cases v <;> first | exact ⟨_, _, rfl, h⟩ | exact h.elim
theorem pR_inv {st : List Value} {K : Nat → List Value → Prop} (h : pR st K) : ∃ x s, st = .ref x :: s ∧ K x s := by
  cases st with
  | nil => exact h.elim
  | cons v s => cases v <;> first | exact ⟨_, _, rfl, h⟩ | exact h.elim
theorem pV_inv {st : List Value} {K : Value → List Value → Prop} (h : pV st K) : ∃ x s, st = x :: s ∧ K x s := by
  cases st with
  | nil => exact h.elim
  | cons v s => exact ⟨_, _, rfl, h⟩
theorem lI_inv {v : Value} {K : Int32 → Prop} (h : lI v K) : ∃ x, v = .int x ∧ K x := by
  cases v <;> first | exact ⟨_, rfl, h⟩ | exact h.elim
theorem lJ_inv {v : Value} {K : Int64 → Prop} (h : lJ v K) : ∃ x, v = .long x ∧ K x := by
  cases v <;> first | exact ⟨_, rfl, h⟩ | exact h.elim
theorem lA_inv {v : Value} {K : Value → Prop} (h : lA v K) : (∃ a, v = .ref a ∧ K (.ref a)) ∨ (v = .null ∧ K .null) := by
  cases v <;> first | exact Or.inl ⟨_, rfl, h⟩ | exact Or.inr ⟨rfl, h⟩ | exact h.elim
theorem pN_inv : ∀ {n : Nat} {st : List Value} {K : List Value → List Value → Prop}, pN n st K → ∃ av s, st = av.reverse ++ s ∧ av.length = n ∧ K av s
  | 0, st, K, h => ⟨[], st, rfl, rfl, h⟩
  | n + 1, [], K, h => h.elim
  | n + 1, v :: st, K, h => by
    obtain ⟨as, s, h1, h2, h3⟩ := pN_inv (n := n) (st := st) h
    exact ⟨as ++ [v], s, by rw [h1]; simp, by simp [h2], h3⟩
theorem nil0_inv {st : List Value} {P : Prop} (h : nil0 st P) : st = [] ∧ P := by
  cases st with
  | nil => exact ⟨rfl, h⟩
  | cons v s => exact h.elim
theorem bif_inv {c : Bool} {P : Prop} (h : bif c then P else False) : c = true ∧ P := by
  cases c with
  | true => exact ⟨rfl, h⟩
  | false => exact h.elim
theorem cI_eq (n : Int) : Int32.ofInt n = cI n := by
  cases n with
  | ofNat k => exact Int32.ofInt_eq_ofNat
  | negSucc k => rfl
theorem cL_nat (n : Nat) : Int64.ofNat n = cL (.ofNat n) := Int64.ofInt_eq_ofNat.symm
theorem lk_mem {α : Type} {own idx : Nat} {e : α} : ∀ {t : List (Nat × Nat × α)}, lk t own idx = some e → (own, idx, e) ∈ t
  | [], h => by simp [lk] at h
  | q :: l, h => by
    unfold lk at h
    cases hc : (Nat.beq q.1 own && Nat.beq q.2.1 idx) with
    | true =>
      rw [hc] at h
      simp only [cond_true, Option.some.injEq] at h
      rw [Bool.and_eq_true] at hc
      have h1 := Nat.eq_of_beq_eq_true hc.1
      have h2 := Nat.eq_of_beq_eq_true hc.2
      rw [← h1, ← h2, ← h]
      exact List.mem_cons_self
    | false =>
      rw [hc] at h
      exact List.mem_cons_of_mem _ (lk_mem h)
theorem swT_get {x : Int32} {K : Int → Prop} : ∀ (l : List Int) (lo : Int) (j : Nat) (t : Int), swT x K lo l → l[j]? = some t → x = cI (lo + j) → K t
  | [], lo, j, t, h, e, _ => by simp at e
  | o :: l, lo, 0, t, h, e, hx => by
    simp only [List.getElem?_cons_zero, Option.some.injEq] at e
    rw [← e]
    exact h.1 (by simpa using hx)
  | o :: l, lo, j + 1, t, h, e, hx => by
    refine swT_get l (lo + 1) j t h.2 (by simpa using e) ?_
    rw [hx]
    congr 1
    omega
theorem lsw_get {x : Int32} {K : Int → Prop} {pc d : Int} : ∀ (l : List (Int × Int)), (∀ q ∈ l, -2147483648 ≤ q.1 ∧ q.1 < 2147483648) → lsw x K (pc + d) (l.map fun q => (q.1, pc + q.2)) → K (pc + Op.lookupswitch.offset l d x.toInt)
  | [], _, h => h
  | (a, o) :: l, hr, h => by
    rw [Op.lookupswitch.offset_cons]
    obtain ⟨h1, h2⟩ := h
    have hra := hr (a, o) List.mem_cons_self
    by_cases he : a = x.toInt
    · rw [if_pos he]
      exact h1 (by rw [← cI_eq]; show x = Int32.ofInt a; rw [he, Int32.ofInt_toInt])
    · rw [if_neg he]
      refine lsw_get l (fun q hq => hr q (List.mem_cons_of_mem _ hq)) (h2 fun e => he ?_)
      rw [← cI_eq] at e
      rw [e]
      exact (Int32.toInt_ofInt_of_le hra.1 hra.2).symm
/-- what the data's entries must keep of locals and targets -/
def stoOK (mL : Nat) (i : Instr) : Bool := match i with
  | .istore k => Nat.blt k mL
  | .astore k => Nat.blt k mL
  | .lstore k => Nat.blt (k + 1) mL
  | .iinc k _ => Nat.blt k mL
  | .goto t => decide (0 ≤ t)
  | .if_icmp _ t => decide (0 ≤ t)
  | .ifCond _ t => decide (0 ≤ t)
  | .ifnull t => decide (0 ≤ t)
  | .ifnonnull t => decide (0 ≤ t)
  | .tableswitch dt _ _ offs => decide (0 ≤ dt) && offs.toList.all fun t => decide (0 ≤ t)
  | .lookupswitch dt ps => decide (0 ≤ dt) && ps.toList.all fun t => decide (0 ≤ t.2)
  | _ => true
theorem lay_in {ci : Nat} {C : String} {T : u_T} {N : Nat} (h : vwCl[ci]? = some (C, T, N)) : ∀ w ∈ u_ws C T N, w ∈ GWL := by
  intro w hw
  have hg : goodWord w = true := by
    obtain ⟨k, -, rfl⟩ := List.mem_map.mp hw
    unfold u_lay
    split <;> rfl
  refine gw_in ?_ hg
  match ci, h with
  | 0, h => cases h; exact wd_lay0 w hw
  | 1, h => cases h; exact wd_lay1 w hw
  | 2, h => cases h; exact wd_lay2 w hw
  | 3, h => cases h; exact wd_lay3 w hw
  | 4, h => cases h; exact wd_lay4 w hw
  | 5, h => cases h; exact wd_lay5 w hw
  | 6, h => cases h; exact wd_lay6 w hw
  | 7, h => cases h; exact wd_lay7 w hw
  | k + 8, h => simp at h
theorem ty_ok {ci : Nat} {C : String} {T : u_T} {N : Nat} (h : vwCl[ci]? = some (C, T, N)) : (∀ k, k < N → parseFieldDescriptor (T k).2.2.1 = some (tyA ci k)) ∧ (∀ a, a < N → ∀ b, b < N → a ≠ b → (T a).2.1 ≠ (T b).2.1) := by
  match ci, h with
  | 0, h => cases h; exact ⟨tyX0_ok, nmX0⟩
  | 1, h => cases h; exact ⟨tyX1_ok, nmX1⟩
  | 2, h => cases h; exact ⟨tyX2_ok, nmX2⟩
  | 3, h => cases h; exact ⟨tyX3_ok, nmX3⟩
  | 4, h => cases h; exact ⟨tyX4_ok, nmX4⟩
  | 5, h => cases h; exact ⟨tyX5_ok, nmX5⟩
  | 6, h => cases h; exact ⟨tyX6_ok, nmX6⟩
  | 7, h => cases h; exact ⟨tyX7_ok, nmX7⟩
  | k + 8, h => simp at h
/-- what the number of a field says -/
theorem fld_ok {own idx r : Nat} (h : (own, idx, r) ∈ fldT) : ∃ (C : String) (T : u_T) (N : Nat), vwCl[r / 256]? = some (C, T, N) ∧ r / 4 % 64 < N ∧ N = lenOf (r / 256) ∧ r / 256 < 8 ∧ C = ow (r / 256) ∧ (T (r / 4 % 64)).1 = C ∧ Cond.fieldLink (ow own) idx (T (r / 4 % 64)).1 (T (r / 4 % 64)).2.1 (T (r / 4 % 64)).2.2.1 ∈ GWL ∧ ((tyA (r / 256) (r / 4 % 64) = .int ∧ r % 4 = 0) ∨ (isRefT (tyA (r / 256) (r / 4 % 64)) = true ∧ r % 4 = 1) ∨ (tyA (r / 256) (r / 4 % 64) = .boolean ∧ r % 4 = 2)) := by
  have h1 := List.all_eq_true.mp ok_F _ h
  have h2 := wd_fld _ h
  dsimp only at h1 h2
  unfold fOK at h1
  unfold fT at h2
  cases hc : vwCl[r / 256]? with
  | none => rw [hc] at h1; cases h1
  | some c =>
    obtain ⟨C, T, N⟩ := c
    rw [hc] at h1 h2
    simp only [Bool.and_eq_true, decide_eq_true_eq] at h1
    obtain ⟨⟨⟨⟨⟨a1, a2⟩, a3⟩, a4⟩, a5⟩, a6⟩ := h1
    have a1 : r / 4 % 64 < N := Nat.lt_of_lt_of_le (Nat.lt_succ_self _) (Nat.le_of_ble_eq_true a1)
    have a2 : N = lenOf (r / 256) := Nat.eq_of_beq_eq_true a2
    have a3 : r / 256 < 8 := Nat.lt_of_lt_of_le (Nat.lt_succ_self _) (Nat.le_of_ble_eq_true a3)
    refine ⟨C, T, N, rfl, a1, a2, a3, a4, a5, gw_in h2 rfl, ?_⟩
    rw [(ty_ok hc).1 _ a1] at a6
    revert a6
    generalize tyA (r / 256) (r / 4 % 64) = ty
    generalize r % 4 = kd
    intro a6
    cases ty <;> (match kd, a6 with
      | 0, a6 => first | exact Or.inl ⟨rfl, rfl⟩ | cases a6
      | 1, a6 => first | exact Or.inr (Or.inl ⟨rfl, rfl⟩) | cases a6
      | 2, a6 => first | exact Or.inr (Or.inr ⟨rfl, rfl⟩) | cases a6
      | k + 3, a6 => cases a6)

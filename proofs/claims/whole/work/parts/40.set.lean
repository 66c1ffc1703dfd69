/-! the state changed at one of its places -/
def PCx (q j : Nat) : Prop := 1 ≤ q ∧ q ≤ 72 ∧ (q = 1 → j = 5 ∨ j = 7) ∧ (q = 5 → j = 0) ∧ q ≠ 7 ∧ q ≠ 8 ∧ (q = 10 → j = 0) ∧ q ≠ 15 ∧ q ≠ 16 ∧ q ≠ 17 ∧ q ≠ 18 ∧ ¬ (43 ≤ q ∧ q < 67 ∧ 2 ≤ (q - 43) % 4)
section SET
variable {h h1 : AH} {S S' : St} {P : Nat → Nat → Prop}
theorem InvC.upd (I : InvC h S) (e : Ext h h1) (s : sm P h h1)
    (hp : ∀ i, i < 4 → (sP S' i = sP S i ∧ ∀ q j, aP i ≤ q → q ≤ aP i + 5 → P q j) ∨ PC h1 (aP i) (sP S' i).1 (sP S' i).2.1 (sP S' i).2.2)
    (ht : (sT S' = sT S ∧ P 5 0 ∧ ∀ j, P 6 j) ∨ CT h1 (sT S'))
    (hf : ∀ i, i < 6 → (sF S' i = sF S i ∧ P (aF i) 0 ∧ ∀ j, P (aF i + 1) j) ∨ CFo h1 i (sF S' i).1)
    (hg : (sG S' = sG S ∧ P 1 5 ∧ ∀ j, P 9 j) ∨ CG h1 (sG S'))
    (hd : (sD S' = sD S ∧ P 10 0 ∧ ∀ j, P 11 j ∧ P 12 j ∧ P 13 j ∧ P 14 j) ∨ CD h1 (sD S'))
    (hr : ∀ r, r < 3 → (sR S' r = sR S r ∧ ∀ q j, aR r ≤ q → q ≤ aR r + 1 → P q j) ∨ CR h1 r (sR S' r))
    (hl : (sL S' = sL S ∧ P 1 7) ∨ mi h1 A_x 7 = nI (sL S')) : InvC h1 S' := by
  refine ⟨I.1.ext e, fun i hi => ?_, ?_, fun i hi => ?_, ?_, ?_, fun r hr' => ?_, ?_⟩
  · rcases hp i hi with ⟨q, k⟩ | k
    · rw [q]; exact (I.2.1 i hi).keep s k
    · exact k
  · rcases ht with ⟨q, k, k2⟩ | k
    · rw [q]; exact I.2.2.1.keep s k k2
    · exact k
  · rcases hf i hi with ⟨q, k, k2⟩ | k
    · rw [q]; exact (I.2.2.2.1 i hi).keep s k k2
    · exact k
  · rcases hg with ⟨q, k, k2⟩ | k
    · rw [q]; exact I.2.2.2.2.1.keep s k k2
    · exact k
  · rcases hd with ⟨q, k, k2⟩ | k
    · rw [q]
      have c := I.2.2.2.2.2.1
      refine ⟨(s _ _ k).1.trans c.1, fun k hk => ?_⟩
      obtain ⟨c1, c2, c3, c4⟩ := c.2 k hk
      obtain ⟨p1, p2, p3, p4⟩ := k2 k
      exact ⟨(s _ _ p1).2.trans c1, (s _ _ p2).1.trans c2, (s _ _ p3).1.trans c3, (s _ _ p4).1.trans c4⟩
    · exact k
  · rcases hr r hr' with ⟨q, k⟩ | k
    · rw [q]; exact (I.2.2.2.2.2.2.1 r hr').keep s k
    · exact k
  · rcases hl with ⟨q, k⟩ | k
    · rw [q]; exact (s _ _ k).1.trans I.2.2.2.2.2.2.2
    · exact k
theorem InvC.kx (I : InvC h S) (e : Ext h h1) (s : sm PCx h h1) : InvC h1 S := by
  refine I.upd e s (fun i hi => Or.inl ⟨rfl, fun q j a b => ?_⟩) (Or.inl ⟨rfl, ?_, fun j => ?_⟩) (fun i hi => Or.inl ⟨rfl, ?_, fun j => ?_⟩) (Or.inl ⟨rfl, ?_, fun j => ?_⟩) (Or.inl ⟨rfl, ?_, fun j => ⟨?_, ?_, ?_, ?_⟩⟩) (fun r hr => Or.inl ⟨rfl, fun q j a b => ?_⟩) (Or.inl ⟨rfl, ?_⟩) <;> (first | (simp only [PCx, aP, aF, aR] at *; omega) | (simp [PCx, aF, aP, aR]; done) | (simp [PCx, aF, aP, aR]; omega))
theorem InvC.atT {t : List Nat} (I : InvC h S) (e : Ext h h1) (s : sm (fun q j => PCx q j ∧ q ≠ 5 ∧ q ≠ 6) h h1) (k : CT h1 t) : InvC h1 (setT S t) := by
  refine I.upd e s (fun i hi => Or.inl ⟨rfl, fun q j a b => ?_⟩) (Or.inr k) (fun i hi => Or.inl ⟨rfl, ?_, fun j => ?_⟩) (Or.inl ⟨rfl, ?_, fun j => ?_⟩) (Or.inl ⟨rfl, ?_, fun j => ⟨?_, ?_, ?_, ?_⟩⟩) (fun r hr => Or.inl ⟨rfl, fun q j a b => ?_⟩) (Or.inl ⟨rfl, ?_⟩) <;> (first | (simp only [PCx, aP, aF, aR] at *; omega) | (simp [PCx, aF, aP, aR]; done) | (simp [PCx, aF, aP, aR]; omega))
theorem sF_set {i j : Nat} {p : List Nat × List Nat} : sF (setF S i p) j = if j = i then p else sF S j := rfl
theorem sR_set {i j : Nat} {p : RwT} : sR (setR S i p) j = if j = i then p else sR S j := rfl
theorem sP_set {i j : Nat} {p : PT} : sP (setP S i p) j = if j = i then p else sP S j := rfl
theorem InvC.atF {m : Nat} {p : List Nat × List Nat} (hm6 : m < 6) (I : InvC h S) (e : Ext h h1) (s : sm (fun q j => PCx q j ∧ q ≠ aF m ∧ q ≠ aF m + 1) h h1) (k : CFo h1 m p.1) : InvC h1 (setF S m p) := by
  refine I.upd e s (fun i hi => Or.inl ⟨rfl, fun q j a b => ?_⟩) (Or.inl ⟨rfl, ?_, fun j => ?_⟩) (fun i hi => ?_) (Or.inl ⟨rfl, ?_, fun j => ?_⟩) (Or.inl ⟨rfl, ?_, fun j => ⟨?_, ?_, ?_, ?_⟩⟩) (fun r hr => Or.inl ⟨rfl, fun q j a b => ?_⟩) (Or.inl ⟨rfl, ?_⟩)
  case refine_4 =>
    by_cases hm : i = m
    · subst hm; rw [sF_set, if_pos rfl]; exact Or.inr k
    · rw [sF_set, if_neg hm]
      refine Or.inl ⟨rfl, ?_, fun j => ?_⟩ <;> (first | (simp only [PCx, aP, aF, aR] at *; omega) | (simp [PCx, aF, aP, aR]; done) | (simp [PCx, aF, aP, aR]; omega))
  all_goals (first | (simp only [PCx, aP, aF, aR] at *; omega) | (simp [PCx, aF, aP, aR]; done) | (simp [PCx, aF, aP, aR]; omega))
theorem InvC.atG {t : List Nat} (I : InvC h S) (e : Ext h h1) (s : sm (fun q j => PCx q j ∧ ¬ (q = 1 ∧ j = 5) ∧ q ≠ 9) h h1) (k : CG h1 t) : InvC h1 (setG S t) := by
  refine I.upd e s (fun i hi => Or.inl ⟨rfl, fun q j a b => ?_⟩) (Or.inl ⟨rfl, ?_, fun j => ?_⟩) (fun i hi => Or.inl ⟨rfl, ?_, fun j => ?_⟩) (Or.inr k) (Or.inl ⟨rfl, ?_, fun j => ⟨?_, ?_, ?_, ?_⟩⟩) (fun r hr => Or.inl ⟨rfl, fun q j a b => ?_⟩) (Or.inl ⟨rfl, ?_⟩) <;> (first | (simp only [PCx, aP, aF, aR] at *; omega) | (simp [PCx, aF, aP, aR]; done) | (simp [PCx, aF, aP, aR]; omega))
theorem InvC.atD {t : FT} (I : InvC h S) (e : Ext h h1) (s : sm (fun q j => PCx q j ∧ ¬ (10 ≤ q ∧ q ≤ 14)) h h1) (k : CD h1 t) : InvC h1 (setD S t) := by
  refine I.upd e s (fun i hi => Or.inl ⟨rfl, fun q j a b => ?_⟩) (Or.inl ⟨rfl, ?_, fun j => ?_⟩) (fun i hi => Or.inl ⟨rfl, ?_, fun j => ?_⟩) (Or.inl ⟨rfl, ?_, fun j => ?_⟩) (Or.inr k) (fun r hr => Or.inl ⟨rfl, fun q j a b => ?_⟩) (Or.inl ⟨rfl, ?_⟩) <;> (first | (simp only [PCx, aP, aF, aR] at *; omega) | (simp [PCx, aF, aP, aR]; done) | (simp [PCx, aF, aP, aR]; omega))
theorem InvC.atR {m : Nat} {p : RwT} (I : InvC h S) (e : Ext h h1) (s : sm (fun q j => PCx q j ∧ q ≠ aR m ∧ q ≠ aR m + 1) h h1) (k : CR h1 m p) : InvC h1 (setR S m p) := by
  refine I.upd e s (fun i hi => Or.inl ⟨rfl, fun q j a b => ?_⟩) (Or.inl ⟨rfl, ?_, fun j => ?_⟩) (fun i hi => Or.inl ⟨rfl, ?_, fun j => ?_⟩) (Or.inl ⟨rfl, ?_, fun j => ?_⟩) (Or.inl ⟨rfl, ?_, fun j => ⟨?_, ?_, ?_, ?_⟩⟩) (fun r hr => ?_) (Or.inl ⟨rfl, ?_⟩)
  case refine_13 =>
    by_cases hm : r = m
    · subst hm; rw [sR_set, if_pos rfl]; exact Or.inr k
    · rw [sR_set, if_neg hm]
      refine Or.inl ⟨rfl, fun q j a b => ?_⟩
      simp only [PCx, aP, aF, aR] at *; omega
  all_goals (first | (simp only [PCx, aP, aF, aR] at *; omega) | (simp [PCx, aF, aP, aR]; done) | (simp [PCx, aF, aP, aR]; omega))
theorem InvC.atL {t : Nat} (I : InvC h S) (e : Ext h h1) (s : sm (fun q j => PCx q j ∧ ¬ (q = 1 ∧ j = 7)) h h1) (k : mi h1 A_x 7 = nI t) : InvC h1 (setL S t) := by
  refine I.upd e s (fun i hi => Or.inl ⟨rfl, fun q j a b => ?_⟩) (Or.inl ⟨rfl, ?_, fun j => ?_⟩) (fun i hi => Or.inl ⟨rfl, ?_, fun j => ?_⟩) (Or.inl ⟨rfl, ?_, fun j => ?_⟩) (Or.inl ⟨rfl, ?_, fun j => ⟨?_, ?_, ?_, ?_⟩⟩) (fun r hr => Or.inl ⟨rfl, fun q j a b => ?_⟩) (Or.inr k) <;> (first | (simp only [PCx, aP, aF, aR] at *; omega) | (simp [PCx, aF, aP, aR]; done) | (simp [PCx, aF, aP, aR]; omega))
theorem InvM.upd (W : WS S) (I : InvM h S) (e : Ext h h1) (s : sm P h h1)
    (hp : ∀ i, i < 4 → sP S' i = sP S i ∧ P 74 i ∧ (∀ x, x < 6 → P 75 (6 * i + x)) ∧ ∀ x, x < 3 → P 76 (3 * i + x))
    (ht : (sT S' = sT S ∧ P 73 7 ∧ ∀ j, P 79 j) ∨ MT h1 (sT S'))
    (hf : ∀ i, i < 6 → (sF S' i = sF S i ∧ P 81 i ∧ ∀ j, j < 60 → P 80 (60 * i + j)) ∨ MFo h1 i (sF S' i).2)
    (hg : (sG S' = sG S ∧ P 73 25 ∧ ∀ j, P 86 j) ∨ MG h1 (sG S'))
    (hd : (sD S' = sD S ∧ P 73 26 ∧ ∀ j, P 90 j ∧ P 87 j ∧ P 88 j ∧ P 89 j) ∨ MD h1 (sD S'))
    (hr : ∀ r, r < 3 → (sR S' r = sR S r ∧ P 94 r ∧ P 95 r ∧ ∀ j, j < 30 → P 92 (30 * r + j)) ∨ MR h1 r (sR S' r))
    (hl : (sL S' = sL S ∧ P 73 32) ∨ mi h1 A_M 32 = nI (sL S')) : InvM h1 S' := by
  refine ⟨I.1.ext e, fun i hi => ?_, ?_, fun i hi => ?_, ?_, ?_, fun r hr' => ?_, ?_⟩
  · obtain ⟨q, k1, k2, k3⟩ := hp i hi
    rw [q]
    have h6 := (W.1 i hi).1.1.2
    exact ⟨(I.2.1 i hi).1.keep s k1 fun x hx => k2 x (by omega), fun u hu => (s _ _ (k3 u hu)).1.trans ((I.2.1 i hi).2 u hu)⟩
  · rcases ht with ⟨q, k, k2⟩ | k
    · rw [q]; exact ⟨(s _ _ k).1.trans I.2.2.1.1, fun i hi => (s _ _ (k2 i)).1.trans (I.2.2.1.2 i hi)⟩
    · exact k
  · rcases hf i hi with ⟨q, k, k2⟩ | k
    · rw [q]
      have hlen := (W.2.2.1 i hi).1
      have hle := (W.2.2.1 i hi).2.1
      exact ⟨(s _ _ k).1.trans (I.2.2.2.1 i hi).1, fun j hj => (s _ _ (k2 j (by omega))).1.trans ((I.2.2.2.1 i hi).2 j hj)⟩
    · exact k
  · rcases hg with ⟨q, k, k2⟩ | k
    · rw [q]; exact ⟨(s _ _ k).1.trans I.2.2.2.2.1.1, fun i hi => (s _ _ (k2 i)).1.trans (I.2.2.2.2.1.2 i hi)⟩
    · exact k
  · rcases hd with ⟨q, k, k2⟩ | k
    · rw [q]
      have c := I.2.2.2.2.2.1
      refine ⟨(s _ _ k).1.trans c.1, fun k hk => ?_⟩
      obtain ⟨c1, c2, c3, c4⟩ := c.2 k hk
      obtain ⟨p1, p2, p3, p4⟩ := k2 k
      exact ⟨(s _ _ p1).2.trans c1, (s _ _ p2).1.trans c2, (s _ _ p3).1.trans c3, (s _ _ p4).1.trans c4⟩
    · exact k
  · rcases hr r hr' with ⟨q, k, k2, k3⟩ | k
    · rw [q]
      have c : MR h r (sR S r) := I.2.2.2.2.2.2.1 r hr'
      have wr := W.2.2.2.2.2.1 r
      revert c wr
      generalize sR S r = ww
      intro c wr
      match ww, c, wr with
      | none, c, _ => exact (s _ _ k).1.trans c
      | some (t, n, f), c, wr =>
        have hn := (wr t n f hr' rfl).2
        exact ⟨(s _ _ k).1.trans c.1, (s _ _ k2).1.trans c.2.1, fun j hj => (s _ _ (k3 j (by omega))).1.trans (c.2.2 j hj)⟩
    · exact k
  · rcases hl with ⟨q, k⟩ | k
    · rw [q]; exact (s _ _ k).1.trans I.2.2.2.2.2.2.2
    · exact k
theorem InvM.atT {t : List Nat} (W : WS S) (I : InvM h S) (e : Ext h h1) (s : sm (fun q j => PMx q j ∧ ¬ (q = 73 ∧ j = 7) ∧ q ≠ 79) h h1) (k : MT h1 t) : InvM h1 (setT S t) := by
  refine InvM.upd W I e s (fun i hi => ⟨rfl, ?_, fun x hx => ?_, fun x hx => ?_⟩) (Or.inr k) (fun i hi => Or.inl ⟨rfl, ?_, fun j hj => ?_⟩) (Or.inl ⟨rfl, ?_, fun j => ?_⟩) (Or.inl ⟨rfl, ?_, fun j => ⟨?_, ?_, ?_, ?_⟩⟩) (fun r hr => Or.inl ⟨rfl, ?_, ?_, fun j hj => ?_⟩) (Or.inl ⟨rfl, ?_⟩) <;> (first | (simp only [PMx, M_size, M_elements, M_numberOf, M_made, M_pending, M_given, M_stack, M_map, M_moved, M_up]; omega) | (simp [PMx]; done) | (simp [PMx]; omega))
theorem InvM.atF {m : Nat} {p : List Nat × List Nat} (W : WS S) (I : InvM h S) (e : Ext h h1) (s : sm (fun q j => PMx q j ∧ ¬ (q = 81 ∧ j = m) ∧ ¬ (q = 80 ∧ 60 * m ≤ j ∧ j < 60 * m + 60)) h h1) (k : MFo h1 m p.2) : InvM h1 (setF S m p) := by
  refine InvM.upd W I e s (fun i hi => ⟨rfl, ?_, fun x hx => ?_, fun x hx => ?_⟩) (Or.inl ⟨rfl, ?_, fun j => ?_⟩) (fun i hi => ?_) (Or.inl ⟨rfl, ?_, fun j => ?_⟩) (Or.inl ⟨rfl, ?_, fun j => ⟨?_, ?_, ?_, ?_⟩⟩) (fun r hr => Or.inl ⟨rfl, ?_, ?_, fun j hj => ?_⟩) (Or.inl ⟨rfl, ?_⟩)
  case refine_6 =>
    by_cases hm : i = m
    · subst hm; rw [sF_set, if_pos rfl]; exact Or.inr k
    · rw [sF_set, if_neg hm]
      refine Or.inl ⟨rfl, ?_, fun j hj => ?_⟩ <;> (first | (simp only [PMx, M_size, M_elements, M_numberOf, M_made, M_pending, M_given, M_stack, M_map, M_moved, M_up]; omega) | (simp [PMx]; done) | (simp [PMx]; omega))
  all_goals (first | (simp only [PMx, M_size, M_elements, M_numberOf, M_made, M_pending, M_given, M_stack, M_map, M_moved, M_up]; omega) | (simp [PMx]; done) | (simp [PMx]; omega))
theorem InvM.atG {t : List Nat} (W : WS S) (I : InvM h S) (e : Ext h h1) (s : sm (fun q j => PMx q j ∧ ¬ (q = 73 ∧ j = 25) ∧ q ≠ 86) h h1) (k : MG h1 t) : InvM h1 (setG S t) := by
  refine InvM.upd W I e s (fun i hi => ⟨rfl, ?_, fun x hx => ?_, fun x hx => ?_⟩) (Or.inl ⟨rfl, ?_, fun j => ?_⟩) (fun i hi => Or.inl ⟨rfl, ?_, fun j hj => ?_⟩) (Or.inr k) (Or.inl ⟨rfl, ?_, fun j => ⟨?_, ?_, ?_, ?_⟩⟩) (fun r hr => Or.inl ⟨rfl, ?_, ?_, fun j hj => ?_⟩) (Or.inl ⟨rfl, ?_⟩) <;> (first | (simp only [PMx, M_size, M_elements, M_numberOf, M_made, M_pending, M_given, M_stack, M_map, M_moved, M_up]; omega) | (simp [PMx]; done) | (simp [PMx]; omega))
theorem InvM.atD {t : FT} (W : WS S) (I : InvM h S) (e : Ext h h1) (s : sm (fun q j => PMx q j ∧ ¬ (q = 73 ∧ j = 26) ∧ ¬ (87 ≤ q ∧ q ≤ 90)) h h1) (k : MD h1 t) : InvM h1 (setD S t) := by
  refine InvM.upd W I e s (fun i hi => ⟨rfl, ?_, fun x hx => ?_, fun x hx => ?_⟩) (Or.inl ⟨rfl, ?_, fun j => ?_⟩) (fun i hi => Or.inl ⟨rfl, ?_, fun j hj => ?_⟩) (Or.inl ⟨rfl, ?_, fun j => ?_⟩) (Or.inr k) (fun r hr => Or.inl ⟨rfl, ?_, ?_, fun j hj => ?_⟩) (Or.inl ⟨rfl, ?_⟩) <;> (first | (simp only [PMx, M_size, M_elements, M_numberOf, M_made, M_pending, M_given, M_stack, M_map, M_moved, M_up]; omega) | (simp [PMx]; done) | (simp [PMx]; omega))
theorem InvM.atR {m : Nat} {p : RwT} (W : WS S) (I : InvM h S) (e : Ext h h1) (s : sm (fun q j => PMx q j ∧ ¬ (q = 94 ∧ j = m) ∧ ¬ (q = 95 ∧ j = m) ∧ ¬ (q = 92 ∧ 30 * m ≤ j ∧ j < 30 * m + 30)) h h1) (k : MR h1 m p) : InvM h1 (setR S m p) := by
  refine InvM.upd W I e s (fun i hi => ⟨rfl, ?_, fun x hx => ?_, fun x hx => ?_⟩) (Or.inl ⟨rfl, ?_, fun j => ?_⟩) (fun i hi => Or.inl ⟨rfl, ?_, fun j hj => ?_⟩) (Or.inl ⟨rfl, ?_, fun j => ?_⟩) (Or.inl ⟨rfl, ?_, fun j => ⟨?_, ?_, ?_, ?_⟩⟩) (fun r hr => ?_) (Or.inl ⟨rfl, ?_⟩)
  case refine_15 =>
    by_cases hm : r = m
    · subst hm; rw [sR_set, if_pos rfl]; exact Or.inr k
    · rw [sR_set, if_neg hm]
      refine Or.inl ⟨rfl, ?_, ?_, fun j hj => ?_⟩ <;> (first | (simp only [PMx, M_size, M_elements, M_numberOf, M_made, M_pending, M_given, M_stack, M_map, M_moved, M_up]; omega) | (simp [PMx]; done) | (simp [PMx]; omega))
  all_goals (first | (simp only [PMx, M_size, M_elements, M_numberOf, M_made, M_pending, M_given, M_stack, M_map, M_moved, M_up]; omega) | (simp [PMx]; done) | (simp [PMx]; omega))
theorem InvM.atL {t : Nat} (W : WS S) (I : InvM h S) (e : Ext h h1) (s : sm (fun q j => PMx q j ∧ ¬ (q = 73 ∧ j = 32)) h h1) (k : mi h1 A_M 32 = nI t) : InvM h1 (setL S t) := by
  refine InvM.upd W I e s (fun i hi => ⟨rfl, ?_, fun x hx => ?_, fun x hx => ?_⟩) (Or.inl ⟨rfl, ?_, fun j => ?_⟩) (fun i hi => Or.inl ⟨rfl, ?_, fun j hj => ?_⟩) (Or.inl ⟨rfl, ?_, fun j => ?_⟩) (Or.inl ⟨rfl, ?_, fun j => ⟨?_, ?_, ?_, ?_⟩⟩) (fun r hr => Or.inl ⟨rfl, ?_, ?_, fun j hj => ?_⟩) (Or.inr k) <;> (first | (simp only [PMx, M_size, M_elements, M_numberOf, M_made, M_pending, M_given, M_stack, M_map, M_moved, M_up]; omega) | (simp [PMx]; done) | (simp [PMx]; omega))
end SET

/-! the reference: one poset set anew -/
def PMi (i a j : Nat) : Prop := PMx a j ∧ ¬ (a = 74 ∧ j = i) ∧ ¬ (a = 75 ∧ 6 * i ≤ j ∧ j < 6 * i + 6) ∧ ¬ (a = 76 ∧ 3 * i ≤ j ∧ j < 3 * i + 3)
theorem PMi.arr {i a j : Nat} (h : (73 < a ∧ a ≤ 95 ∧ a ≠ 74 ∧ a ≠ 75 ∧ a ≠ M_elements ∧ a ≠ M_numberOf ∧ a ≠ M_made ∧ a ≠ M_pending ∧ a ≠ M_given ∧ a ≠ M_stack ∧ a ≠ M_map ∧ a ≠ M_moved) ∧ a ≠ 76) : PMi i a j := ⟨PMx.arr h.1, fun hq => h.1.2.2.1 hq.1, fun hq => h.1.2.2.2.1 hq.1, fun hq => h.2 hq.1⟩
theorem PMi.fld {i j : Nat} (h : j = 7 ∨ j = 25 ∨ j = 26 ∨ j = 32) : PMi i 73 j := ⟨Or.inr ⟨rfl, h⟩, fun hq => absurd hq.1 (by decide), fun hq => absurd hq.1 (by decide), fun hq => absurd hq.1 (by decide)⟩
theorem InvM.atP {h h1 : AH} {S : St} {i : Nat} {p : PT} (W : WS S) (I : InvM h S) (e : Ext h h1) (s : sm (PMi i) h h1) (ho : MO h1 i p.1 p.2.1) (hv : MV h1 i p.2.2) : InvM h1 (setP S i p) := by
  have t : ∀ j, PMi i M_text j := fun j => PMi.arr (by decide)
  have f1 : ∀ j, PMi i M_formulaSizes j := fun j => PMi.arr (by decide)
  have f2 : ∀ j, PMi i M_formula j := fun j => PMi.arr (by decide)
  have g1 : ∀ j, PMi i M_generators j := fun j => PMi.arr (by decide)
  have d1 : ∀ j, PMi i M_cost j := fun j => PMi.arr (by decide)
  have d2 : ∀ j, PMi i M_operator j := fun j => PMi.arr (by decide)
  have d3 : ∀ j, PMi i M_left j := fun j => PMi.arr (by decide)
  have d4 : ∀ j, PMi i M_right j := fun j => PMi.arr (by decide)
  have r1 : ∀ j, PMi i M_rowType j := fun j => PMi.arr (by decide)
  have r2 : ∀ j, PMi i M_rowLength j := fun j => PMi.arr (by decide)
  have r3 : ∀ j, PMi i M_rows j := fun j => PMi.arr (by decide)
  obtain ⟨i1, i2, i3, i4, i5, i6, i7, i8⟩ := I
  refine ⟨i1.ext e, fun j hj => ?_, ⟨(s _ _ (PMi.fld (Or.inl rfl))).1.trans i3.1, fun k hk => (s _ _ (t _)).1.trans (i3.2 k hk)⟩, fun j hj => ⟨(s _ _ (f1 _)).1.trans (i4 j hj).1, fun k hk => (s _ _ (f2 _)).1.trans ((i4 j hj).2 k hk)⟩, ⟨(s _ _ (PMi.fld (Or.inr (Or.inl rfl)))).1.trans i5.1, fun k hk => (s _ _ (g1 _)).1.trans (i5.2 k hk)⟩, ⟨(s _ _ (PMi.fld (Or.inr (Or.inr (Or.inl rfl))))).1.trans i6.1, fun k hk => ?_⟩, fun r hr => ?_, (s _ _ (PMi.fld (Or.inr (Or.inr (Or.inr rfl))))).1.trans i8⟩
  · by_cases hji : j = i
    · subst hji
      show MO h1 j (if j = j then p else sP S j).1 (if j = j then p else sP S j).2.1 ∧ MV h1 j (if j = j then p else sP S j).2.2
      rw [if_pos rfl]
      exact ⟨ho, hv⟩
    · show MO h1 j (if j = i then p else sP S j).1 (if j = i then p else sP S j).2.1 ∧ MV h1 j (if j = i then p else sP S j).2.2
      rw [if_neg hji]
      have h6 := (W.1 j hj).1.1.2
      refine ⟨(i2 j hj).1.keep s ?_ fun x hx => ?_, fun u hu => (s _ _ ?_).1.trans ((i2 j hj).2 u hu)⟩
      · simp only [PMi, PMx, M_size, M_elements, M_numberOf, M_made, M_pending, M_given, M_stack, M_map, M_moved, M_up]; omega
      · simp only [PMi, PMx, M_size, M_elements, M_numberOf, M_made, M_pending, M_given, M_stack, M_map, M_moved, M_up]; omega
      · simp only [PMi, PMx, M_size, M_elements, M_numberOf, M_made, M_pending, M_given, M_stack, M_map, M_moved, M_up, M_valued]; omega
  · obtain ⟨c1, c2, c3, c4⟩ := i6.2 k hk
    exact ⟨(s _ _ (d1 _)).2.trans c1, (s _ _ (d2 _)).1.trans c2, (s _ _ (d3 _)).1.trans c3, (s _ _ (d4 _)).1.trans c4⟩
  · have c : MR h r (sR S r) := i7 r hr
    show MR h1 r (sR S r)
    revert c
    generalize sR S r = ww
    intro c
    match ww, c with
    | none, c => exact (s _ _ (r1 _)).1.trans c
    | some (t, n, f), c => exact ⟨(s _ _ (r1 _)).1.trans c.1, (s _ _ (r2 _)).1.trans c.2.1, fun k hk => (s _ _ (r3 _)).1.trans (c.2.2 k hk)⟩

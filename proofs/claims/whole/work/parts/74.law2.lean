/-! the law: one call on both sides -/
def SC (L : Nat) (s : Nat → Int32) (h : AH) : Prop := hs h 0 = some (9, L) ∧ ∀ i, mi h 0 i = s i
def LI (L : Nat) (s : Nat → Int32) (h : AH) (S : St) : Prop := WS S ∧ InvC h S ∧ InvM h S ∧ 96 ≤ h.1.length ∧ SC L s h
def MID (L : Nat) (s : Nat → Int32) (h : AH) (S S' : St) : Prop := WS S ∧ InvC h S' ∧ InvM h S ∧ 96 ≤ h.1.length ∧ SC L s h
theorem ext_len {h h1 : AH} (e : Ext h h1) : h.1.length ≤ h1.1.length := by
  obtain ⟨⟨l, q⟩, -⟩ := e
  rw [q, List.length_append]; omega
section LAW
variable {L : Nat} {s : Nat → Int32} {h h1 h2 : AH} {S S' : St} {d g : Nat}
theorem LI.mid (l : LI L s h S) (c : doneC S' h h1) : MID L s h1 S S' := by
  obtain ⟨w, i1, i2, hl, s1, s2⟩ := l
  obtain ⟨c1, c2, c3⟩ := c
  have := ext_len c2
  exact ⟨w, c1, InvM.keep w i2 c2 (c3.sub fun q j hq => by simp only [PMx] at hq; omega), by omega, c2.shp s1, fun i => ((c3 0 i (Or.inl rfl)).1).trans (s2 i)⟩
theorem LI.mid0 (l : LI L s h S) : MID L s h S S := l
theorem MID.fin (l : MID L s h1 S S') (w : WS S') (c : doneM S' h1 h2) : LI L s h2 S' := by
  obtain ⟨-, i1, i2, hl, s1, s2⟩ := l
  obtain ⟨c1, c2, c3⟩ := c
  have := ext_len c2
  exact ⟨w, InvC.keep i1 c2 c3, c1, by omega, c2.shp s1, fun i => ((c3 0 i (Nat.zero_le _)).1).trans (s2 i)⟩
theorem lg_self (x : Int64) : lg_cmp x x = 0 := by
  unfold lg_cmp
  simp
variable {i1 i2 i3 i4 i5 : Nat} {A1 A2 A3 A4 A5 : Prop} {E K0 : AH → Prop}
theorem k_reset (l : LI L s h S) (a1 : A1) (a2 : A2) (ce : ∀ h2 S2, LI L s h2 S2 → E h2) : Ev (d + 10) g g m_C_reset 0 [.ref A_x, .int (mi h 0 i1), .int (mi h 0 i2)] [] h (asI fun x1 h1 => Ext h h1 → A1 ∧ A2 ∧ Ev (d + 10) g g m_M_reset 0 [.ref A_M, .int (mi h1 0 i1), .int (mi h1 0 i2)] [] h1 (asI fun x2 h2 => Ext h1 h2 → (x1 = x2 → E h2) ∧ (¬ x1 = x2 → K0 h2))) := by
  refine C_reset l.2.1 (fun h1 dc _ => ⟨a1, a2, ?_⟩)
  have m := l.mid dc
  have sc : ∀ i, mi h1 0 i = mi h 0 i := fun i => (m.2.2.2.2.2 i).trans (l.2.2.2.2.2 i).symm
  rw [sc i1, sc i2]
  exact M_reset l.1 m.2.2.1 (fun h2 dm _ => ⟨fun _ => ce h2 _ (m.fin (l.1.reset) dm), fun q => absurd (rfl) q⟩)
theorem k_points (l : LI L s h S) (a1 : A1) (ce : ∀ h2 S2, LI L s h2 S2 → E h2) : Ev (d + 10) g g m_C_points 0 [.ref A_x, .int (mi h 0 i1)] [] h (asI fun x1 h1 => Ext h h1 → A1 ∧ Ev (d + 10) g g m_M_points 0 [.ref A_M, .int (mi h1 0 i1)] [] h1 (asI fun x2 h2 => Ext h1 h2 → (x1 = x2 → E h2) ∧ (¬ x1 = x2 → K0 h2))) := by
  refine C_points l.2.1 (fun _ => ⟨a1, ?_⟩)
  have m := l.mid0
  exact M_points l.1 m.2.2.1 (fun h2 dm _ => ⟨fun _ => ce h2 _ (m.fin (l.1) dm), fun q => absurd (rfl) q⟩)
theorem k_relate (l : LI L s h S) (a1 : A1) (a2 : A2) (a3 : A3) (ce : ∀ h2 S2, LI L s h2 S2 → E h2) : Ev (d + 10) g g m_C_relate 0 [.ref A_x, .int (mi h 0 i1), .int (mi h 0 i2), .int (mi h 0 i3)] [] h (asI fun x1 h1 => Ext h h1 → A1 ∧ A2 ∧ A3 ∧ Ev (d + 10) g g m_M_relate 0 [.ref A_M, .int (mi h1 0 i1), .int (mi h1 0 i2), .int (mi h1 0 i3)] [] h1 (asI fun x2 h2 => Ext h1 h2 → (x1 = x2 → E h2) ∧ (¬ x1 = x2 → K0 h2))) := by
  refine C_relate l.1 l.2.1 (fun h1 dc _ => ⟨a1, a2, a3, ?_⟩)
  have m := l.mid dc
  have sc : ∀ i, mi h1 0 i = mi h 0 i := fun i => (m.2.2.2.2.2 i).trans (l.2.2.2.2.2 i).symm
  rw [sc i1, sc i2, sc i3]
  exact M_relate l.1 m.2.2.1 (fun h2 dm _ => ⟨fun _ => ce h2 _ (m.fin (l.1.rel) dm), fun q => absurd (rfl) q⟩)
theorem k_isBelow (l : LI L s h S) (a1 : A1) (a2 : A2) (a3 : A3) (ce : ∀ h2 S2, LI L s h2 S2 → E h2) : Ev (d + 10) g g m_C_isBelow 0 [.ref A_x, .int (mi h 0 i1), .int (mi h 0 i2), .int (mi h 0 i3)] [] h (asI fun x1 h1 => Ext h h1 → A1 ∧ A2 ∧ A3 ∧ Ev (d + 10) g g m_M_isBelow 0 [.ref A_M, .int (mi h1 0 i1), .int (mi h1 0 i2), .int (mi h1 0 i3)] [] h1 (asI fun x2 h2 => Ext h1 h2 → (x1 = x2 → E h2) ∧ (¬ x1 = x2 → K0 h2))) := by
  refine C_isBelow l.1 l.2.1 (fun _ => ⟨a1, a2, a3, ?_⟩)
  have m := l.mid0
  exact M_isBelow l.1 m.2.2.1 (fun h2 dm _ => ⟨fun _ => ce h2 _ (m.fin (l.1) dm), fun q => absurd (rfl) q⟩)
theorem k_covers (l : LI L s h S) (a1 : A1) (a2 : A2) (ce : ∀ h2 S2, LI L s h2 S2 → E h2) : Ev (d + 10) g g m_C_covers 0 [.ref A_x, .int (mi h 0 i1), .int (mi h 0 i2)] [] h (asI fun x1 h1 => Ext h h1 → A1 ∧ A2 ∧ Ev (d + 10) g g m_M_covers 0 [.ref A_M, .int (mi h1 0 i1), .int (mi h1 0 i2)] [] h1 (asI fun x2 h2 => Ext h1 h2 → (x1 = x2 → E h2) ∧ (¬ x1 = x2 → K0 h2))) := by
  refine C_covers l.1 l.2.1 (fun _ => ⟨a1, a2, ?_⟩)
  have m := l.mid0
  exact M_covers l.1 m.2.2.1 (fun h2 dm _ => ⟨fun _ => ce h2 _ (m.fin (l.1) dm), fun q => absurd (rfl) q⟩)
theorem k_property (l : LI L s h S) (a1 : A1) (a2 : A2) (ce : ∀ h2 S2, LI L s h2 S2 → E h2) : Ev (d + 10) g g m_C_property 0 [.ref A_x, .int (mi h 0 i1), .int (mi h 0 i2)] [] h (asI fun x1 h1 => Ext h h1 → A1 ∧ A2 ∧ Ev (d + 10) g g m_M_property 0 [.ref A_M, .int (mi h1 0 i1), .int (mi h1 0 i2)] [] h1 (asI fun x2 h2 => Ext h1 h2 → (x1 = x2 → E h2) ∧ (¬ x1 = x2 → K0 h2))) := by
  refine C_property l.1 l.2.1 (fun _ => ⟨a1, a2, ?_⟩)
  have m := l.mid0
  exact M_property l.1 m.2.2.1 (fun h2 dm _ => ⟨fun _ => ce h2 _ (m.fin (l.1) dm), fun q => absurd (rfl) q⟩)
theorem k_elementCount (l : LI L s h S) (a1 : A1) (ce : ∀ h2 S2, LI L s h2 S2 → E h2) : Ev (d + 10) g g m_C_elementCount 0 [.ref A_x, .int (mi h 0 i1)] [] h (asI fun x1 h1 => Ext h h1 → A1 ∧ Ev (d + 10) g g m_M_elementCount 0 [.ref A_M, .int (mi h1 0 i1)] [] h1 (asI fun x2 h2 => Ext h1 h2 → (x1 = x2 → E h2) ∧ (¬ x1 = x2 → K0 h2))) := by
  refine C_elementCount l.2.1 (fun _ => ⟨a1, ?_⟩)
  have m := l.mid0
  exact M_elementCount l.1 m.2.2.1 (fun h2 dm _ => ⟨fun _ => ce h2 _ (m.fin (l.1) dm), fun q => absurd (rfl) q⟩)
theorem k_elementBits (l : LI L s h S) (a1 : A1) (a2 : A2) (ce : ∀ h2 S2, LI L s h2 S2 → E h2) : Ev (d + 10) g g m_C_elementBits 0 [.ref A_x, .int (mi h 0 i1), .int (mi h 0 i2)] [] h (asI fun x1 h1 => Ext h h1 → A1 ∧ A2 ∧ Ev (d + 10) g g m_M_elementBits 0 [.ref A_M, .int (mi h1 0 i1), .int (mi h1 0 i2)] [] h1 (asI fun x2 h2 => Ext h1 h2 → (x1 = x2 → E h2) ∧ (¬ x1 = x2 → K0 h2))) := by
  refine C_elementBits l.1 l.2.1 (fun _ => ⟨a1, a2, ?_⟩)
  have m := l.mid0
  exact M_elementBits l.1 m.2.2.1 (fun h2 dm _ => ⟨fun _ => ce h2 _ (m.fin (l.1) dm), fun q => absurd (rfl) q⟩)
theorem k_elementOf (l : LI L s h S) (a1 : A1) (a2 : A2) (ce : ∀ h2 S2, LI L s h2 S2 → E h2) : Ev (d + 10) g g m_C_elementOf 0 [.ref A_x, .int (mi h 0 i1), .int (mi h 0 i2)] [] h (asI fun x1 h1 => Ext h h1 → A1 ∧ A2 ∧ Ev (d + 10) g g m_M_elementOf 0 [.ref A_M, .int (mi h1 0 i1), .int (mi h1 0 i2)] [] h1 (asI fun x2 h2 => Ext h1 h2 → (x1 = x2 → E h2) ∧ (¬ x1 = x2 → K0 h2))) := by
  refine C_elementOf l.1 l.2.1 (fun _ => ⟨a1, a2, ?_⟩)
  have m := l.mid0
  exact M_elementOf l.1 m.2.2.1 (fun h2 dm _ => ⟨fun _ => ce h2 _ (m.fin (l.1) dm), fun q => absurd (rfl) q⟩)
theorem k_meet (l : LI L s h S) (a1 : A1) (a2 : A2) (a3 : A3) (ce : ∀ h2 S2, LI L s h2 S2 → E h2) : Ev (d + 10) g g m_C_meet 0 [.ref A_x, .int (mi h 0 i1), .int (mi h 0 i2), .int (mi h 0 i3)] [] h (asI fun x1 h1 => Ext h h1 → A1 ∧ A2 ∧ A3 ∧ Ev (d + 10) g g m_M_meet 0 [.ref A_M, .int (mi h1 0 i1), .int (mi h1 0 i2), .int (mi h1 0 i3)] [] h1 (asI fun x2 h2 => Ext h1 h2 → (x1 = x2 → E h2) ∧ (¬ x1 = x2 → K0 h2))) := by
  refine C_meet l.1 l.2.1 (fun _ => ⟨a1, a2, a3, ?_⟩)
  have m := l.mid0
  exact M_meet l.1 m.2.2.1 (fun h2 dm _ => ⟨fun _ => ce h2 _ (m.fin (l.1) dm), fun q => absurd (rfl) q⟩)
theorem k_join (l : LI L s h S) (a1 : A1) (a2 : A2) (a3 : A3) (ce : ∀ h2 S2, LI L s h2 S2 → E h2) : Ev (d + 10) g g m_C_join 0 [.ref A_x, .int (mi h 0 i1), .int (mi h 0 i2), .int (mi h 0 i3)] [] h (asI fun x1 h1 => Ext h h1 → A1 ∧ A2 ∧ A3 ∧ Ev (d + 10) g g m_M_join 0 [.ref A_M, .int (mi h1 0 i1), .int (mi h1 0 i2), .int (mi h1 0 i3)] [] h1 (asI fun x2 h2 => Ext h1 h2 → (x1 = x2 → E h2) ∧ (¬ x1 = x2 → K0 h2))) := by
  refine C_join l.1 l.2.1 (fun _ => ⟨a1, a2, a3, ?_⟩)
  have m := l.mid0
  exact M_join l.1 m.2.2.1 (fun h2 dm _ => ⟨fun _ => ce h2 _ (m.fin (l.1) dm), fun q => absurd (rfl) q⟩)
theorem k_implies (l : LI L s h S) (a1 : A1) (a2 : A2) (a3 : A3) (ce : ∀ h2 S2, LI L s h2 S2 → E h2) : Ev (d + 10) g g m_C_implies 0 [.ref A_x, .int (mi h 0 i1), .int (mi h 0 i2), .int (mi h 0 i3)] [] h (asI fun x1 h1 => Ext h h1 → A1 ∧ A2 ∧ A3 ∧ Ev (d + 10) g g m_M_implies 0 [.ref A_M, .int (mi h1 0 i1), .int (mi h1 0 i2), .int (mi h1 0 i3)] [] h1 (asI fun x2 h2 => Ext h1 h2 → (x1 = x2 → E h2) ∧ (¬ x1 = x2 → K0 h2))) := by
  refine C_implies l.1 l.2.1 (fun _ => ⟨a1, a2, a3, ?_⟩)
  have m := l.mid0
  exact M_implies l.1 m.2.2.1 (fun h2 dm _ => ⟨fun _ => ce h2 _ (m.fin (l.1) dm), fun q => absurd (rfl) q⟩)
theorem k_append (l : LI L s h S) (a1 : A1) (ce : ∀ h2 S2, LI L s h2 S2 → E h2) : Ev (d + 10) g g m_C_append 0 [.ref A_x, .int (mi h 0 i1)] [] h (asI fun x1 h1 => Ext h h1 → A1 ∧ Ev (d + 10) g g m_M_append 0 [.ref A_M, .int (mi h1 0 i1)] [] h1 (asI fun x2 h2 => Ext h1 h2 → (x1 = x2 → E h2) ∧ (¬ x1 = x2 → K0 h2))) := by
  refine C_append l.1 l.2.1 (fun h1 dc _ => ⟨a1, ?_⟩)
  have m := l.mid dc
  have sc : ∀ i, mi h1 0 i = mi h 0 i := fun i => (m.2.2.2.2.2 i).trans (l.2.2.2.2.2 i).symm
  rw [sc i1]
  exact M_append l.1 m.2.2.1 (fun h2 dm _ => ⟨fun _ => ce h2 _ (m.fin (l.1.app) dm), fun q => absurd (rfl) q⟩)
theorem k_clearText (l : LI L s h S)  (ce : ∀ h2 S2, LI L s h2 S2 → E h2) : Ev (d + 10) g g m_C_clearText 0 [.ref A_x] [] h (asI fun x1 h1 => Ext h h1 → Ev (d + 10) g g m_M_clearText 0 [.ref A_M] [] h1 (asI fun x2 h2 => Ext h1 h2 → (x1 = x2 → E h2) ∧ (¬ x1 = x2 → K0 h2))) := by
  refine C_clearText l.2.1 (fun h1 dc _ => ?_)
  have m := l.mid dc
  exact M_clearText l.1 m.2.2.1 (fun h2 dm _ => ⟨fun _ => ce h2 _ (m.fin (l.1.clr) dm), fun q => absurd (rfl) q⟩)
theorem k_parse (l : LI L s h S) (a1 : A1) (ce : ∀ h2 S2, LI L s h2 S2 → E h2) : Ev (d + 10) g g m_C_parse 0 [.ref A_x, .int (mi h 0 i1)] [] h (asI fun x1 h1 => Ext h h1 → A1 ∧ Ev (d + 10) g g m_M_parse 0 [.ref A_M, .int (mi h1 0 i1)] [] h1 (asI fun x2 h2 => Ext h1 h2 → (x1 = x2 → E h2) ∧ (¬ x1 = x2 → K0 h2))) := by
  refine C_parse l.1 l.2.1 (fun h1 dc _ => ⟨a1, ?_⟩)
  have m := l.mid dc
  have sc : ∀ i, mi h1 0 i = mi h 0 i := fun i => (m.2.2.2.2.2 i).trans (l.2.2.2.2.2 i).symm
  rw [sc i1]
  exact M_parse l.1 m.2.2.1 (fun h2 dm _ => ⟨fun _ => ce h2 _ (m.fin (l.1.par) dm), fun q => absurd (rfl) q⟩)
theorem k_formulaSize (l : LI L s h S) (a1 : A1) (ce : ∀ h2 S2, LI L s h2 S2 → E h2) : Ev (d + 10) g g m_C_formulaSize 0 [.ref A_x, .int (mi h 0 i1)] [] h (asI fun x1 h1 => Ext h h1 → A1 ∧ Ev (d + 10) g g m_M_formulaSize 0 [.ref A_M, .int (mi h1 0 i1)] [] h1 (asI fun x2 h2 => Ext h1 h2 → (x1 = x2 → E h2) ∧ (¬ x1 = x2 → K0 h2))) := by
  refine C_formulaSize l.1 l.2.1 (fun _ => ⟨a1, ?_⟩)
  have m := l.mid0
  exact M_formulaSize l.1 m.2.2.1 (fun h2 dm _ => ⟨fun _ => ce h2 _ (m.fin (l.1) dm), fun q => absurd (rfl) q⟩)
theorem k_substitute (l : LI L s h S) (a1 : A1) (a2 : A2) (a3 : A3) (a4 : A4) (ce : ∀ h2 S2, LI L s h2 S2 → E h2) : Ev (d + 10) g g m_C_substitute 0 [.ref A_x, .int (mi h 0 i1), .int (mi h 0 i2), .int (mi h 0 i3), .int (mi h 0 i4)] [] h (asI fun x1 h1 => Ext h h1 → A1 ∧ A2 ∧ A3 ∧ A4 ∧ Ev (d + 10) g g m_M_substitute 0 [.ref A_M, .int (mi h1 0 i1), .int (mi h1 0 i2), .int (mi h1 0 i3), .int (mi h1 0 i4)] [] h1 (asI fun x2 h2 => Ext h1 h2 → (x1 = x2 → E h2) ∧ (¬ x1 = x2 → K0 h2))) := by
  refine C_substitute l.1 l.2.1 (fun h1 dc _ => ⟨a1, a2, a3, a4, ?_⟩)
  have m := l.mid dc
  have sc : ∀ i, mi h1 0 i = mi h 0 i := fun i => (m.2.2.2.2.2 i).trans (l.2.2.2.2.2 i).symm
  rw [sc i1, sc i2, sc i3, sc i4]
  exact M_substitute l.1 m.2.2.1 (fun h2 dm _ => ⟨fun _ => ce h2 _ (m.fin (l.1.sub) dm), fun q => absurd (rfl) q⟩)
theorem k_setValue (l : LI L s h S) (a1 : A1) (a2 : A2) (a3 : A3) (ce : ∀ h2 S2, LI L s h2 S2 → E h2) : Ev (d + 10) g g m_C_setValue 0 [.ref A_x, .int (mi h 0 i1), .int (mi h 0 i2), .int (mi h 0 i3)] [] h (asI fun x1 h1 => Ext h h1 → A1 ∧ A2 ∧ A3 ∧ Ev (d + 10) g g m_M_setValue 0 [.ref A_M, .int (mi h1 0 i1), .int (mi h1 0 i2), .int (mi h1 0 i3)] [] h1 (asI fun x2 h2 => Ext h1 h2 → (x1 = x2 → E h2) ∧ (¬ x1 = x2 → K0 h2))) := by
  refine C_setValue l.1 l.2.1 (fun h1 dc _ => ⟨a1, a2, a3, ?_⟩)
  have m := l.mid dc
  have sc : ∀ i, mi h1 0 i = mi h 0 i := fun i => (m.2.2.2.2.2 i).trans (l.2.2.2.2.2 i).symm
  rw [sc i1, sc i2, sc i3]
  exact M_setValue l.1 m.2.2.1 (fun h2 dm _ => ⟨fun _ => ce h2 _ (m.fin (l.1.set) dm), fun q => absurd (rfl) q⟩)
theorem k_value (l : LI L s h S) (a1 : A1) (a2 : A2) (ce : ∀ h2 S2, LI L s h2 S2 → E h2) : Ev (d + 10) g g m_C_value 0 [.ref A_x, .int (mi h 0 i1), .int (mi h 0 i2)] [] h (asI fun x1 h1 => Ext h h1 → A1 ∧ A2 ∧ Ev (d + 10) g g m_M_value 0 [.ref A_M, .int (mi h1 0 i1), .int (mi h1 0 i2)] [] h1 (asI fun x2 h2 => Ext h1 h2 → (x1 = x2 → E h2) ∧ (¬ x1 = x2 → K0 h2))) := by
  refine C_value l.1 l.2.1 (fun h1 dc _ => ⟨a1, a2, ?_⟩)
  have m := l.mid dc
  have sc : ∀ i, mi h1 0 i = mi h 0 i := fun i => (m.2.2.2.2.2 i).trans (l.2.2.2.2.2 i).symm
  rw [sc i1, sc i2]
  exact M_value l.1 m.2.2.1 (fun h2 dm _ => ⟨fun _ => ce h2 _ (m.fin (l.1) dm), fun q => absurd (rfl) q⟩)
theorem k_isForced (l : LI L s h S) (a1 : A1) (a2 : A2) (a3 : A3) (ce : ∀ h2 S2, LI L s h2 S2 → E h2) : Ev (d + 10) g g m_C_isForced 0 [.ref A_x, .int (mi h 0 i1), .int (mi h 0 i2), .int (mi h 0 i3)] [] h (asI fun x1 h1 => Ext h h1 → A1 ∧ A2 ∧ A3 ∧ Ev (d + 10) g g m_M_isForced 0 [.ref A_M, .int (mi h1 0 i1), .int (mi h1 0 i2), .int (mi h1 0 i3)] [] h1 (asI fun x2 h2 => Ext h1 h2 → (x1 = x2 → E h2) ∧ (¬ x1 = x2 → K0 h2))) := by
  refine C_isForced l.1 l.2.1 (fun h1 dc _ => ⟨a1, a2, a3, ?_⟩)
  have m := l.mid dc
  have sc : ∀ i, mi h1 0 i = mi h 0 i := fun i => (m.2.2.2.2.2 i).trans (l.2.2.2.2.2 i).symm
  rw [sc i1, sc i2, sc i3]
  exact M_isForced l.1 m.2.2.1 (fun h2 dm _ => ⟨fun _ => ce h2 _ (m.fin (l.1) dm), fun q => absurd (rfl) q⟩)
theorem k_isValid (l : LI L s h S) (a1 : A1) (a2 : A2) (ce : ∀ h2 S2, LI L s h2 S2 → E h2) : Ev (d + 10) g g m_C_isValid 0 [.ref A_x, .int (mi h 0 i1), .int (mi h 0 i2)] [] h (asI fun x1 h1 => Ext h h1 → A1 ∧ A2 ∧ Ev (d + 10) g g m_M_isValid 0 [.ref A_M, .int (mi h1 0 i1), .int (mi h1 0 i2)] [] h1 (asI fun x2 h2 => Ext h1 h2 → (x1 = x2 → E h2) ∧ (¬ x1 = x2 → K0 h2))) := by
  refine C_isValid l.1 l.2.1 (fun h1 dc _ => ⟨a1, a2, ?_⟩)
  have m := l.mid dc
  have sc : ∀ i, mi h1 0 i = mi h 0 i := fun i => (m.2.2.2.2.2 i).trans (l.2.2.2.2.2 i).symm
  rw [sc i1, sc i2]
  exact M_isValid l.1 m.2.2.1 (fun h2 dm _ => ⟨fun _ => ce h2 _ (m.fin (l.1) dm), fun q => absurd (rfl) q⟩)
theorem k_refutation (l : LI L s h S) (a1 : A1) (a2 : A2) (a3 : A3) (ce : ∀ h2 S2, LI L s h2 S2 → E h2) : Ev (d + 10) g g m_C_refutation 0 [.ref A_x, .int (mi h 0 i1), .int (mi h 0 i2), .int (mi h 0 i3)] [] h (asI fun x1 h1 => Ext h h1 → A1 ∧ A2 ∧ A3 ∧ Ev (d + 10) g g m_M_refutation 0 [.ref A_M, .int (mi h1 0 i1), .int (mi h1 0 i2), .int (mi h1 0 i3)] [] h1 (asI fun x2 h2 => Ext h1 h2 → (x1 = x2 → E h2) ∧ (¬ x1 = x2 → K0 h2))) := by
  refine C_refutation l.1 l.2.1 (fun h1 dc _ => ⟨a1, a2, a3, ?_⟩)
  have m := l.mid dc
  have sc : ∀ i, mi h1 0 i = mi h 0 i := fun i => (m.2.2.2.2.2 i).trans (l.2.2.2.2.2 i).symm
  rw [sc i1, sc i2, sc i3]
  exact M_refutation l.1 m.2.2.1 (fun h2 dm _ => ⟨fun _ => ce h2 _ (m.fin (l.1) dm), fun q => absurd (rfl) q⟩)
theorem k_countValuations (l : LI L s h S) (a1 : A1) (a2 : A2) (a3 : A3) (ce : ∀ h2 S2, LI L s h2 S2 → E h2) : Ev (d + 10) g g m_C_countValuations 0 [.ref A_x, .int (mi h 0 i1), .int (mi h 0 i2), .int (mi h 0 i3)] [] h (asI fun x1 h1 => Ext h h1 → A1 ∧ A2 ∧ A3 ∧ Ev (d + 10) g g m_M_countValuations 0 [.ref A_M, .int (mi h1 0 i1), .int (mi h1 0 i2), .int (mi h1 0 i3)] [] h1 (asI fun x2 h2 => Ext h1 h2 → (x1 = x2 → E h2) ∧ (¬ x1 = x2 → K0 h2))) := by
  refine C_countValuations l.1 l.2.1 (fun h1 dc _ => ⟨a1, a2, a3, ?_⟩)
  have m := l.mid dc
  have sc : ∀ i, mi h1 0 i = mi h 0 i := fun i => (m.2.2.2.2.2 i).trans (l.2.2.2.2.2 i).symm
  rw [sc i1, sc i2, sc i3]
  exact M_countValuations l.1 m.2.2.1 (fun h2 dm _ => ⟨fun _ => ce h2 _ (m.fin (l.1) dm), fun q => absurd (rfl) q⟩)
theorem k_filterClass (l : LI L s h S) (a1 : A1) (a2 : A2) (a3 : A3) (ce : ∀ h2 S2, LI L s h2 S2 → E h2) : Ev (d + 10) g g m_C_filterClass 0 [.ref A_x, .int (mi h 0 i1), .int (mi h 0 i2), .int (mi h 0 i3)] [] h (asI fun x1 h1 => Ext h h1 → A1 ∧ A2 ∧ A3 ∧ Ev (d + 10) g g m_M_filterClass 0 [.ref A_M, .int (mi h1 0 i1), .int (mi h1 0 i2), .int (mi h1 0 i3)] [] h1 (asI fun x2 h2 => Ext h1 h2 → (x1 = x2 → E h2) ∧ (¬ x1 = x2 → K0 h2))) := by
  refine C_filterClass l.1 l.2.1 (fun _ => ⟨a1, a2, a3, ?_⟩)
  have m := l.mid0
  exact M_filterClass l.1 m.2.2.1 (fun h2 dm _ => ⟨fun _ => ce h2 _ (m.fin (l.1) dm), fun q => absurd (rfl) q⟩)
theorem k_quotientSize (l : LI L s h S) (a1 : A1) (a2 : A2) (ce : ∀ h2 S2, LI L s h2 S2 → E h2) : Ev (d + 10) g g m_C_quotientSize 0 [.ref A_x, .int (mi h 0 i1), .int (mi h 0 i2)] [] h (asI fun x1 h1 => Ext h h1 → A1 ∧ A2 ∧ Ev (d + 10) g g m_M_quotientSize 0 [.ref A_M, .int (mi h1 0 i1), .int (mi h1 0 i2)] [] h1 (asI fun x2 h2 => Ext h1 h2 → (x1 = x2 → E h2) ∧ (¬ x1 = x2 → K0 h2))) := by
  refine C_quotientSize l.1 l.2.1 (fun _ => ⟨a1, a2, ?_⟩)
  have m := l.mid0
  exact M_quotientSize l.1 m.2.2.1 (fun h2 dm _ => ⟨fun _ => ce h2 _ (m.fin (l.1) dm), fun q => absurd (rfl) q⟩)
theorem k_isPrime (l : LI L s h S) (a1 : A1) (a2 : A2) (ce : ∀ h2 S2, LI L s h2 S2 → E h2) : Ev (d + 10) g g m_C_isPrime 0 [.ref A_x, .int (mi h 0 i1), .int (mi h 0 i2)] [] h (asI fun x1 h1 => Ext h h1 → A1 ∧ A2 ∧ Ev (d + 10) g g m_M_isPrime 0 [.ref A_M, .int (mi h1 0 i1), .int (mi h1 0 i2)] [] h1 (asI fun x2 h2 => Ext h1 h2 → (x1 = x2 → E h2) ∧ (¬ x1 = x2 → K0 h2))) := by
  refine C_isPrime l.1 l.2.1 (fun _ => ⟨a1, a2, ?_⟩)
  have m := l.mid0
  exact M_isPrime l.1 m.2.2.1 (fun h2 dm _ => ⟨fun _ => ce h2 _ (m.fin (l.1) dm), fun q => absurd (rfl) q⟩)
theorem k_addGenerator (l : LI L s h S) (a1 : A1) (ce : ∀ h2 S2, LI L s h2 S2 → E h2) : Ev (d + 10) g g m_C_addGenerator 0 [.ref A_x, .int (mi h 0 i1)] [] h (asI fun x1 h1 => Ext h h1 → A1 ∧ Ev (d + 10) g g m_M_addGenerator 0 [.ref A_M, .int (mi h1 0 i1)] [] h1 (asI fun x2 h2 => Ext h1 h2 → (x1 = x2 → E h2) ∧ (¬ x1 = x2 → K0 h2))) := by
  refine C_addGenerator l.1 l.2.1 (fun h1 dc _ => ⟨a1, ?_⟩)
  have m := l.mid dc
  have sc : ∀ i, mi h1 0 i = mi h 0 i := fun i => (m.2.2.2.2.2 i).trans (l.2.2.2.2.2 i).symm
  rw [sc i1]
  exact M_addGenerator l.1 m.2.2.1 (fun h2 dm _ => ⟨fun _ => ce h2 _ (m.fin (l.1.gen) dm), fun q => absurd (rfl) q⟩)
theorem k_clearGenerators (l : LI L s h S)  (ce : ∀ h2 S2, LI L s h2 S2 → E h2) : Ev (d + 10) g g m_C_clearGenerators 0 [.ref A_x] [] h (asI fun x1 h1 => Ext h h1 → Ev (d + 10) g g m_M_clearGenerators 0 [.ref A_M] [] h1 (asI fun x2 h2 => Ext h1 h2 → (x1 = x2 → E h2) ∧ (¬ x1 = x2 → K0 h2))) := by
  refine C_clearGenerators l.2.1 (fun h1 dc _ => ?_)
  have m := l.mid dc
  exact M_clearGenerators l.1 m.2.2.1 (fun h2 dm _ => ⟨fun _ => ce h2 _ (m.fin (l.1.clg) dm), fun q => absurd (rfl) q⟩)
theorem k_generate (l : LI L s h S) (a1 : A1) (ce : ∀ h2 S2, LI L s h2 S2 → E h2) : Ev (d + 10) g g m_C_generate 0 [.ref A_x, .int (mi h 0 i1)] [] h (asI fun x1 h1 => Ext h h1 → A1 ∧ Ev (d + 10) g g m_M_generate 0 [.ref A_M, .int (mi h1 0 i1)] [] h1 (asI fun x2 h2 => Ext h1 h2 → (x1 = x2 → E h2) ∧ (¬ x1 = x2 → K0 h2))) := by
  refine C_generate l.1 l.2.1 (fun h1 hx dc _ => ⟨a1, ?_⟩)
  have m := l.mid dc
  have sc : ∀ i, mi h1 0 i = mi h 0 i := fun i => (m.2.2.2.2.2 i).trans (l.2.2.2.2.2 i).symm
  rw [sc i1]
  exact M_generate l.1 m.2.2.1 (fun h2 dm _ => ⟨fun _ => ce h2 _ (m.fin (l.1.gnr hx) dm), fun q => absurd (rfl) q⟩)
theorem k_term (l : LI L s h S) (a1 : A1) (a2 : A2) (ce : ∀ h2 S2, LI L s h2 S2 → E h2) : Ev (d + 10) g g m_C_term 0 [.ref A_x, .int (mi h 0 i1), .int (mi h 0 i2)] [] h (asL fun x1 h1 => Ext h h1 → A1 ∧ A2 ∧ Ev (d + 10) g g m_M_term 0 [.ref A_M, .int (mi h1 0 i1), .int (mi h1 0 i2)] [] h1 (asL fun x2 h2 => Ext h1 h2 → (lg_cmp x1 x2 = 0 → E h2) ∧ (¬ lg_cmp x1 x2 = 0 → K0 h2))) := by
  refine C_term l.1 l.2.1 (fun _ => ⟨a1, a2, ?_⟩)
  have m := l.mid0
  exact M_term l.1 m.2.2.1 (fun h2 dm _ => ⟨fun _ => ce h2 _ (m.fin (l.1) dm), fun q => absurd (lg_self _) q⟩)
theorem k_countMaps (l : LI L s h S) (a1 : A1) (a2 : A2) (a3 : A3) (ce : ∀ h2 S2, LI L s h2 S2 → E h2) : Ev (d + 10) (g + 2) g m_C_countMaps 0 [.ref A_x, .int (mi h 0 i1), .int (mi h 0 i2), .int (mi h 0 i3)] [] h (asI fun x1 h1 => Ext h h1 → A1 ∧ A2 ∧ A3 ∧ Ev (d + 10) g g m_M_countMaps 0 [.ref A_M, .int (mi h1 0 i1), .int (mi h1 0 i2), .int (mi h1 0 i3)] [] h1 (asI fun x2 h2 => Ext h1 h2 → (x1 = x2 → E h2) ∧ (¬ x1 = x2 → K0 h2))) := by
  refine C_countMaps l.1 l.2.1 l.2.2.2.1 (fun h1 dc _ => ⟨a1, a2, a3, ?_⟩)
  have m := l.mid dc
  have sc : ∀ i, mi h1 0 i = mi h 0 i := fun i => (m.2.2.2.2.2 i).trans (l.2.2.2.2.2 i).symm
  rw [sc i1, sc i2, sc i3]
  exact M_countMaps l.1 m.2.2.1 (fun h2 dm _ => ⟨fun _ => ce h2 _ (m.fin (l.1) dm), fun q => absurd (rfl) q⟩)
theorem k_firstMap (l : LI L s h S) (a1 : A1) (a2 : A2) (a3 : A3) (ce : ∀ h2 S2, LI L s h2 S2 → E h2) : Ev (d + 10) (g + 2) g m_C_firstMap 0 [.ref A_x, .int (mi h 0 i1), .int (mi h 0 i2), .int (mi h 0 i3)] [] h (asI fun x1 h1 => Ext h h1 → A1 ∧ A2 ∧ A3 ∧ Ev (d + 10) g g m_M_firstMap 0 [.ref A_M, .int (mi h1 0 i1), .int (mi h1 0 i2), .int (mi h1 0 i3)] [] h1 (asI fun x2 h2 => Ext h1 h2 → (x1 = x2 → E h2) ∧ (¬ x1 = x2 → K0 h2))) := by
  refine C_firstMap l.1 l.2.1 l.2.2.2.1 (fun h1 dc _ => ⟨a1, a2, a3, ?_⟩)
  have m := l.mid dc
  have sc : ∀ i, mi h1 0 i = mi h 0 i := fun i => (m.2.2.2.2.2 i).trans (l.2.2.2.2.2 i).symm
  rw [sc i1, sc i2, sc i3]
  exact M_firstMap l.1 m.2.2.1 (fun h2 dm _ => ⟨fun _ => ce h2 _ (m.fin (l.1) dm), fun q => absurd (rfl) q⟩)
theorem k_isIsomorphic (l : LI L s h S) (a1 : A1) (a2 : A2) (ce : ∀ h2 S2, LI L s h2 S2 → E h2) : Ev (d + 10) (g + 2) g m_C_isIsomorphic 0 [.ref A_x, .int (mi h 0 i1), .int (mi h 0 i2)] [] h (asI fun x1 h1 => Ext h h1 → A1 ∧ A2 ∧ Ev (d + 10) g g m_M_isIsomorphic 0 [.ref A_M, .int (mi h1 0 i1), .int (mi h1 0 i2)] [] h1 (asI fun x2 h2 => Ext h1 h2 → (x1 = x2 → E h2) ∧ (¬ x1 = x2 → K0 h2))) := by
  refine C_isIsomorphic l.1 l.2.1 l.2.2.2.1 (fun h1 dc _ => ⟨a1, a2, ?_⟩)
  have m := l.mid dc
  have sc : ∀ i, mi h1 0 i = mi h 0 i := fun i => (m.2.2.2.2.2 i).trans (l.2.2.2.2.2 i).symm
  rw [sc i1, sc i2]
  exact M_isIsomorphic l.1 m.2.2.1 (fun h2 dm _ => ⟨fun _ => ce h2 _ (m.fin (l.1) dm), fun q => absurd (rfl) q⟩)
theorem k_sum (l : LI L s h S) (a1 : A1) (a2 : A2) (a3 : A3) (a4 : A4) (ce : ∀ h2 S2, LI L s h2 S2 → E h2) : Ev (d + 10) g g m_C_sum 0 [.ref A_x, .int (mi h 0 i1), .int (mi h 0 i2), .int (mi h 0 i3), .int (mi h 0 i4)] [] h (asI fun x1 h1 => Ext h h1 → A1 ∧ A2 ∧ A3 ∧ A4 ∧ Ev (d + 10) g g m_M_sum 0 [.ref A_M, .int (mi h1 0 i1), .int (mi h1 0 i2), .int (mi h1 0 i3), .int (mi h1 0 i4)] [] h1 (asI fun x2 h2 => Ext h1 h2 → (x1 = x2 → E h2) ∧ (¬ x1 = x2 → K0 h2))) := by
  refine C_sum l.1 l.2.1 (fun h1 dc _ => ⟨a1, a2, a3, a4, ?_⟩)
  have m := l.mid dc
  have sc : ∀ i, mi h1 0 i = mi h 0 i := fun i => (m.2.2.2.2.2 i).trans (l.2.2.2.2.2 i).symm
  rw [sc i1, sc i2, sc i3, sc i4]
  exact M_sum l.1 m.2.2.1 (fun h2 dm _ => ⟨fun _ => ce h2 _ (m.fin (l.1.sum) dm), fun q => absurd (rfl) q⟩)
theorem k_product (l : LI L s h S) (a1 : A1) (a2 : A2) (a3 : A3) (ce : ∀ h2 S2, LI L s h2 S2 → E h2) : Ev (d + 10) g g m_C_product 0 [.ref A_x, .int (mi h 0 i1), .int (mi h 0 i2), .int (mi h 0 i3)] [] h (asI fun x1 h1 => Ext h h1 → A1 ∧ A2 ∧ A3 ∧ Ev (d + 10) g g m_M_product 0 [.ref A_M, .int (mi h1 0 i1), .int (mi h1 0 i2), .int (mi h1 0 i3)] [] h1 (asI fun x2 h2 => Ext h1 h2 → (x1 = x2 → E h2) ∧ (¬ x1 = x2 → K0 h2))) := by
  refine C_product l.1 l.2.1 (fun h1 dc _ => ⟨a1, a2, a3, ?_⟩)
  have m := l.mid dc
  have sc : ∀ i, mi h1 0 i = mi h 0 i := fun i => (m.2.2.2.2.2 i).trans (l.2.2.2.2.2 i).symm
  rw [sc i1, sc i2, sc i3]
  exact M_product l.1 m.2.2.1 (fun h2 dm _ => ⟨fun _ => ce h2 _ (m.fin (l.1.prod) dm), fun q => absurd (rfl) q⟩)
theorem k_restrict (l : LI L s h S) (a1 : A1) (a2 : A2) (a3 : A3) (ce : ∀ h2 S2, LI L s h2 S2 → E h2) : Ev (d + 10) g g m_C_restrict 0 [.ref A_x, .int (mi h 0 i1), .int (mi h 0 i2), .int (mi h 0 i3)] [] h (asI fun x1 h1 => Ext h h1 → A1 ∧ A2 ∧ A3 ∧ Ev (d + 10) g g m_M_restrict 0 [.ref A_M, .int (mi h1 0 i1), .int (mi h1 0 i2), .int (mi h1 0 i3)] [] h1 (asI fun x2 h2 => Ext h1 h2 → (x1 = x2 → E h2) ∧ (¬ x1 = x2 → K0 h2))) := by
  refine C_restrict l.1 l.2.1 (fun h1 dc _ => ⟨a1, a2, a3, ?_⟩)
  have m := l.mid dc
  have sc : ∀ i, mi h1 0 i = mi h 0 i := fun i => (m.2.2.2.2.2 i).trans (l.2.2.2.2.2 i).symm
  rw [sc i1, sc i2, sc i3]
  exact M_restrict l.1 m.2.2.1 (fun h2 dm _ => ⟨fun _ => ce h2 _ (m.fin (l.1.res) dm), fun q => absurd (rfl) q⟩)
theorem k_dual (l : LI L s h S) (a1 : A1) (a2 : A2) (ce : ∀ h2 S2, LI L s h2 S2 → E h2) : Ev (d + 10) g g m_C_dual 0 [.ref A_x, .int (mi h 0 i1), .int (mi h 0 i2)] [] h (asI fun x1 h1 => Ext h h1 → A1 ∧ A2 ∧ Ev (d + 10) g g m_M_dual 0 [.ref A_M, .int (mi h1 0 i1), .int (mi h1 0 i2)] [] h1 (asI fun x2 h2 => Ext h1 h2 → (x1 = x2 → E h2) ∧ (¬ x1 = x2 → K0 h2))) := by
  refine C_dual l.1 l.2.1 (fun h1 dc _ => ⟨a1, a2, ?_⟩)
  have m := l.mid dc
  have sc : ∀ i, mi h1 0 i = mi h 0 i := fun i => (m.2.2.2.2.2 i).trans (l.2.2.2.2.2 i).symm
  rw [sc i1, sc i2]
  exact M_dual l.1 m.2.2.1 (fun h2 dm _ => ⟨fun _ => ce h2 _ (m.fin (l.1.dual) dm), fun q => absurd (rfl) q⟩)
theorem k_allocate (l : LI L s h S) (a1 : A1) (a2 : A2) (a3 : A3) (ce : ∀ h2 S2, LI L s h2 S2 → E h2) : Ev (d + 10) g g m_C_allocate 0 [.ref A_x, .int (mi h 0 i1), .int (mi h 0 i2), .int (mi h 0 i3)] [] h (asI fun x1 h1 => Ext h h1 → A1 ∧ A2 ∧ A3 ∧ Ev (d + 10) g g m_M_allocate 0 [.ref A_M, .int (mi h1 0 i1), .int (mi h1 0 i2), .int (mi h1 0 i3)] [] h1 (asI fun x2 h2 => Ext h1 h2 → (x1 = x2 → E h2) ∧ (¬ x1 = x2 → K0 h2))) := by
  refine C_allocate l.2.1 (fun h1 dc _ => ⟨a1, a2, a3, ?_⟩)
  have m := l.mid dc
  have sc : ∀ i, mi h1 0 i = mi h 0 i := fun i => (m.2.2.2.2.2 i).trans (l.2.2.2.2.2 i).symm
  rw [sc i1, sc i2, sc i3]
  exact M_allocate l.1 m.2.2.1 (fun h2 dm _ => ⟨fun _ => ce h2 _ (m.fin (l.1.all) dm), fun q => absurd (rfl) q⟩)
theorem k_put (l : LI L s h S) (a1 : A1) (a2 : A2) (a3 : A3) (ce : ∀ h2 S2, LI L s h2 S2 → E h2) : Ev (d + 10) g g m_C_put 0 [.ref A_x, .int (mi h 0 i1), .int (mi h 0 i2), .int (mi h 0 i3)] [] h (asI fun x1 h1 => Ext h h1 → A1 ∧ A2 ∧ A3 ∧ Ev (d + 10) g g m_M_put 0 [.ref A_M, .int (mi h1 0 i1), .int (mi h1 0 i2), .int (mi h1 0 i3)] [] h1 (asI fun x2 h2 => Ext h1 h2 → (x1 = x2 → E h2) ∧ (¬ x1 = x2 → K0 h2))) := by
  refine C_put l.1 l.2.1 (fun h1 dc _ => ⟨a1, a2, a3, ?_⟩)
  have m := l.mid dc
  have sc : ∀ i, mi h1 0 i = mi h 0 i := fun i => (m.2.2.2.2.2 i).trans (l.2.2.2.2.2 i).symm
  rw [sc i1, sc i2, sc i3]
  exact M_put l.1 m.2.2.1 (fun h2 dm _ => ⟨fun _ => ce h2 _ (m.fin (l.1.put) dm), fun q => absurd (rfl) q⟩)
theorem k_rowElement (l : LI L s h S) (a1 : A1) (a2 : A2) (ce : ∀ h2 S2, LI L s h2 S2 → E h2) : Ev (d + 10) g g m_C_rowElement 0 [.ref A_x, .int (mi h 0 i1), .int (mi h 0 i2)] [] h (asL fun x1 h1 => Ext h h1 → A1 ∧ A2 ∧ Ev (d + 10) g g m_M_rowElement 0 [.ref A_M, .int (mi h1 0 i1), .int (mi h1 0 i2)] [] h1 (asL fun x2 h2 => Ext h1 h2 → (lg_cmp x1 x2 = 0 → E h2) ∧ (¬ lg_cmp x1 x2 = 0 → K0 h2))) := by
  refine C_rowElement l.1 l.2.1 (fun _ => ⟨a1, a2, ?_⟩)
  have m := l.mid0
  exact M_rowElement l.1 m.2.2.1 (fun h2 dm _ => ⟨fun _ => ce h2 _ (m.fin (l.1) dm), fun q => absurd (lg_self _) q⟩)
theorem k_copyElements (l : LI L s h S) (a1 : A1) (a2 : A2) (a3 : A3) (a4 : A4) (a5 : A5) (ce : ∀ h2 S2, LI L s h2 S2 → E h2) : Ev (d + 10) g g m_C_copyElements 0 [.ref A_x, .int (mi h 0 i1), .int (mi h 0 i2), .int (mi h 0 i3), .int (mi h 0 i4), .int (mi h 0 i5)] [] h (asI fun x1 h1 => Ext h h1 → A1 ∧ A2 ∧ A3 ∧ A4 ∧ A5 ∧ Ev (d + 10) g g m_M_copyElements 0 [.ref A_M, .int (mi h1 0 i1), .int (mi h1 0 i2), .int (mi h1 0 i3), .int (mi h1 0 i4), .int (mi h1 0 i5)] [] h1 (asI fun x2 h2 => Ext h1 h2 → (x1 = x2 → E h2) ∧ (¬ x1 = x2 → K0 h2))) := by
  refine C_copyElements l.1 l.2.1 (fun h1 dc _ => ⟨a1, a2, a3, a4, a5, ?_⟩)
  have m := l.mid dc
  have sc : ∀ i, mi h1 0 i = mi h 0 i := fun i => (m.2.2.2.2.2 i).trans (l.2.2.2.2.2 i).symm
  rw [sc i1, sc i2, sc i3, sc i4, sc i5]
  exact M_copyElements l.1 m.2.2.1 (fun h2 dm _ => ⟨fun _ => ce h2 _ (m.fin (l.1.cp) dm), fun q => absurd (rfl) q⟩)
theorem k_storeElements (l : LI L s h S) (a1 : A1) (a2 : A2) (ce : ∀ h2 S2, LI L s h2 S2 → E h2) : Ev (d + 10) g g m_C_storeElements 0 [.ref A_x, .int (mi h 0 i1), .int (mi h 0 i2)] [] h (asI fun x1 h1 => Ext h h1 → A1 ∧ A2 ∧ Ev (d + 10) g g m_M_storeElements 0 [.ref A_M, .int (mi h1 0 i1), .int (mi h1 0 i2)] [] h1 (asI fun x2 h2 => Ext h1 h2 → (x1 = x2 → E h2) ∧ (¬ x1 = x2 → K0 h2))) := by
  refine C_storeElements l.1 l.2.1 (fun h1 dc _ => ⟨a1, a2, ?_⟩)
  have m := l.mid dc
  have sc : ∀ i, mi h1 0 i = mi h 0 i := fun i => (m.2.2.2.2.2 i).trans (l.2.2.2.2.2 i).symm
  rw [sc i1, sc i2]
  exact M_storeElements l.1 m.2.2.1 (fun h2 dm _ => ⟨fun _ => ce h2 _ (m.fin (l.1.sto) dm), fun q => absurd (rfl) q⟩)
theorem k_loadOrder (l : LI L s h S) (a1 : A1) (a2 : A2) (ce : ∀ h2 S2, LI L s h2 S2 → E h2) : Ev (d + 10) g g m_C_loadOrder 0 [.ref A_x, .int (mi h 0 i1), .int (mi h 0 i2)] [] h (asI fun x1 h1 => Ext h h1 → A1 ∧ A2 ∧ Ev (d + 10) g g m_M_loadOrder 0 [.ref A_M, .int (mi h1 0 i1), .int (mi h1 0 i2)] [] h1 (asI fun x2 h2 => Ext h1 h2 → (x1 = x2 → E h2) ∧ (¬ x1 = x2 → K0 h2))) := by
  refine C_loadOrder l.1 l.2.1 (fun h1 dc _ => ⟨a1, a2, ?_⟩)
  have m := l.mid dc
  have sc : ∀ i, mi h1 0 i = mi h 0 i := fun i => (m.2.2.2.2.2 i).trans (l.2.2.2.2.2 i).symm
  rw [sc i1, sc i2]
  exact M_loadOrder l.1 m.2.2.1 (fun h2 dm _ => ⟨fun _ => ce h2 _ (m.fin (l.1.ld) dm), fun q => absurd (rfl) q⟩)
theorem k_failure (l : LI L s h S)  (ce : ∀ h2 S2, LI L s h2 S2 → E h2) : Ev (d + 10) g g m_C_failure 0 [.ref A_x] [] h (asI fun x1 h1 => Ext h h1 → Ev (d + 10) g g m_M_failure 0 [.ref A_M] [] h1 (asI fun x2 h2 => Ext h1 h2 → (x1 = x2 → E h2) ∧ (¬ x1 = x2 → K0 h2))) := by
  refine C_failure l.2.1 (fun _ => ?_)
  have m := l.mid0
  exact M_failure m.2.2.1 (fun h2 dm _ => ⟨fun _ => ce h2 _ (m.fin (l.1) dm), fun q => absurd (rfl) q⟩)
end LAW

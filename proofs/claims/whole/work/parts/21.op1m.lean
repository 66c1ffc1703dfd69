/-! the reference's side of the operations that read one poset -/
def doneM (S : St) (h h1 : AH) : Prop := InvM h1 S ∧ Ext h h1 ∧ FrC h h1
theorem doneM.rf {S : St} {h : AH} (I : InvM h S) : doneM S h h := ⟨I, Ext.rfl', sm.rf⟩
theorem doneM.fin {S : St} {h h1 : AH} (W : WS S) (I : InvM h S) (e : Ext h h1) (s : sm PF h h1) : doneM S h h1 := by
  refine ⟨I.keep W e (s.sub fun a j q => PF.mx q), e, s.sub fun a j q => ?_⟩
  simp only [PF, M_elements, M_numberOf, A_M]
  omega
section OPM
variable {d g : Nat} {h : AH} {S : St}
theorem S_fnd {v : Int32} {A B : AH → Prop} (W : WS S) (I : InvM h S) (hn : ix v 4 = none → A h) (hs : ∀ j, j < 4 → v = nI j → ix v 4 = some j → ∀ h1, doneM S h h1 → ELp (mi h1 M_elements) (mi h1 M_numberOf) (mi h1 A_M 5) (pE (sP S j)) → B h1) : Ev (d + 2) g g m_M_isFound 0 [.ref A_M, .int v] [] h (asI fun x h1 => Ext h h1 → (x = 0 → A h1) ∧ (¬ x = 0 → B h1)) := by
  refine S_MisFound I.1 (fun e _ => ⟨fun _ => hn e, fun z => absurd rfl z⟩) fun j e => ?_
  obtain ⟨hj, rfl⟩ := ix_some e
  exact ⟨_, _, (I.2.1 j hj).1, (W.1 j hj).1, fun h1 e1 s1 el _ => ⟨fun z => absurd z (by decide), fun _ => hs j hj rfl e h1 (doneM.fin W I e1 s1) el⟩⟩
theorem S_fnd' {v : Int32} {A B : AH → Prop} (W : WS S) (I : InvM h S) (hn : ix v 4 = none → A h) (hs : ∀ j, j < 4 → v = nI j → ix v 4 = some j → ∀ h1, doneM S h h1 → ELp (mi h1 M_elements) (mi h1 M_numberOf) (mi h1 A_M 5) (pE (sP S j)) → B h1) : Ev (d + 2) g g m_M_isFound 0 [.ref A_M, .int v] [] h (asI fun x h1 => Ext h h1 → (¬ x = 0 → B h1) ∧ (x = 0 → A h1)) := (S_fnd W I hn hs).mI fun x h1 _ k e => (k e).symm
theorem S_isP {v : Int32} {A B : AH → Prop} (hn : ix v 4 = none → A h) (hs : ∀ j, j < 4 → v = nI j → ix v 4 = some j → B h) : Ev d g g m_M_isPoset 0 [.int v] [] h (asI fun x h1 => Ext h h1 → (x = 0 → A h1) ∧ (¬ x = 0 → B h1)) := by
  refine S_MisPoset fun _ => br_b (fun e => hn (iS_none e)) (fun e => ?_)
  obtain ⟨j, hj⟩ := Option.isSome_iff_exists.mp e
  exact hs j (ix_some hj).1 (ix_some hj).2 hj
variable {K : Int32 → AH → Prop}
theorem M_points {v : Int32} (W : WS S) (I : InvM h S) (hK : ∀ h1, doneM S h h1 → K (rPo S v fun p => nI p.1) h1) : Ev (d + 1) g g m_M_points 0 [.ref A_M, .int v] [] h (asI K) := by
  have hk := hK h (doneM.rf I)
  refine w_M_points_0 I.1 (S_isP (fun e => by rw [rPo_none e] at hk; exact hk) (fun j hj hv e => ?_))
  subst hv
  rw [rPo_some e] at hk
  rw [nI_clamp (by omega), (I.2.1 j hj).1.1]
  exact ⟨vp_in_nI (by omega) (by decide), hk⟩
theorem M_isBelow {v a b : Int32} (W : WS S) (I : InvM h S) (hK : ∀ h1, doneM S h h1 → K (rPo S v fun p => r2 a b p.1 fun x y => bI (le p.2.1 x y)) h1) : Ev (d + 1) g g m_M_isBelow 0 [.ref A_M, .int v, .int a, .int b] [] h (asI K) := by
  have hk := hK h (doneM.rf I)
  refine w_M_isBelow_0 I.1 (S_isP (fun e => by rw [rPo_none e] at hk; exact hk) (fun j hj hv e => ?_))
  subst hv
  rw [rPo_some e] at hk
  have w := (W.1 j hj).1
  have o := (I.2.1 j hj).1
  refine S_MisPoint I.1 (by omega) o.1 w.1.2 fun _ => br_b (fun e1 => ?_) (fun e1 => S_MisPoint I.1 (by omega) o.1 w.1.2 fun _ => br_nb (fun e2 => ?_) (fun e2 => ?_))
  · rw [r2_n1 e1] at hk
    exact hk
  · rw [r2_n2 e2] at hk
    exact hk
  · obtain ⟨x, hx⟩ := Option.isSome_iff_exists.mp e1
    obtain ⟨y, hy⟩ := Option.isSome_iff_exists.mp e2
    rw [r2_s hx hy] at hk
    obtain ⟨lx, rfl⟩ := ix_some hx
    obtain ⟨ly, rfl⟩ := ix_some hy
    have h6 := w.1.2
    exact S_MisLess I.1 (by omega) o w.1.2 (w.u64 lx) lx (by omega) fun _ => br_b (fun e3 => by rw [e3] at hk; exact hk) (fun e3 => by rw [e3] at hk; exact hk)
theorem M_elementCount {v : Int32} (W : WS S) (I : InvM h S) (hK : ∀ h1, doneM S h h1 → K (rPo S v fun p => nI (pE p).length) h1) : Ev (d + 3) g g m_M_elementCount 0 [.ref A_M, .int v] [] h (asI K) := by
  refine w_M_elementCount_0 I.1 (S_fnd W I (fun e => ?_) (fun j hj hv e h1 dn el => ?_))
  · have hK := hK h (doneM.rf I)
    rw [rPo_none e] at hK
    exact hK
  · have hk := hK h1 dn
    rw [rPo_some e] at hk
    rw [el.1]
    exact hk
theorem M_elementBits {v a : Int32} (W : WS S) (I : InvM h S) (hK : ∀ h1, doneM S h h1 → K (rPo S v fun p => r1 a (pE p).length fun k => nI ((pE p).getD k 0)) h1) : Ev (d + 3) g g m_M_elementBits 0 [.ref A_M, .int v, .int a] [] h (asI K) := by
  refine w_M_elementBits_0 I.1 (S_fnd W I (fun e => ?_) (fun j hj hv e h1 dn el => ?_))
  · have hK := hK h (doneM.rf I)
    rw [rPo_none e] at hK
    exact hK
  · have hk := hK h1 dn
    rw [rPo_some e] at hk
    have hl : (pE (sP S j)).length ≤ 64 := elems_len (up := (sP S j).2.1) (W.1 j hj).1.1.2
    refine S_MisElement dn.1.1 el.1 hl fun _ => br_b (fun e1 => ?_) (fun e1 => ?_)
    · rw [r1_n e1] at hk
      exact hk
    · obtain ⟨x, hx⟩ := Option.isSome_iff_exists.mp e1
      rw [r1_s hx] at hk
      obtain ⟨lx, rfl⟩ := ix_some hx
      rw [nI_clamp (by omega), el.2.1 x lx]
      exact ⟨vp_in_nI (by omega) (by decide), hk⟩
theorem M_elementOf {v a : Int32} (W : WS S) (I : InvM h S) (hK : ∀ h1, doneM S h h1 → K (rPo S v fun p => match ix a (2 ^ p.1) with
    | none => kE2
    | some s => bif isUp p.1 p.2.1 s then nI ((pE p).idxOf s) else kNone) h1) : Ev (d + 3) g g m_M_elementOf 0 [.ref A_M, .int v, .int a] [] h (asI K) := by
  refine w_M_elementOf_0 I.1 (S_fnd' W I (fun e => ?_) (fun j hj hv e h1 dn el => ?_))
  · have hK := hK h (doneM.rf I)
    rw [rPo_none e] at hK
    exact hK
  · have hk := hK h1 dn
    rw [rPo_some e] at hk
    subst hv
    have w := (W.1 j hj).1
    have h6 := w.1.2
    have hp := p2_le h6
    have o := (dn.1.2.1 j hj).1
    refine S_MallOf dn.1.1 (by omega) o.1 h6 fun _ => br_msk h6 (fun s e1 => ?_) (fun e1 => ?_)
    · rw [e1] at hk
      obtain ⟨ls, rfl⟩ := ix_some e1
      refine S_MisUpSet dn.1.1 (by omega) o w (by omega) fun _ => br_b (fun hu => ?_) (fun hu => ?_)
      · dsimp only at hk
        rw [hu] at hk
        exact hk
      · dsimp only at hk
        rw [hu] at hk
        rw [nI_clamp (by omega), el.2.2 s ((mem_elems h6).mpr ⟨ls, hu⟩)]
        exact ⟨vp_in_nI (by omega) (by decide), hk⟩
    · rw [e1] at hk
      exact hk
theorem S_are {v a b : Int32} {A B : AH → Prop} (W : WS S) (I : InvM h S) (hn : ∀ h1, doneM S h h1 → (ix v 4 = none ∨ ∃ j, ix v 4 = some j ∧ ((ix a (pE (sP S j)).length).isSome = false ∨ (ix b (pE (sP S j)).length).isSome = false)) → A h1) (hs : ∀ j x y, j < 4 → v = nI j → ix v 4 = some j → ix a (pE (sP S j)).length = some x → ix b (pE (sP S j)).length = some y → ∀ h1, doneM S h h1 → ELp (mi h1 M_elements) (mi h1 M_numberOf) (mi h1 A_M 5) (pE (sP S j)) → B h1) : Ev (d + 3) g g m_M_areElements 0 [.ref A_M, .int v, .int a, .int b] [] h (asI fun x h1 => Ext h h1 → (x = 0 → A h1) ∧ (¬ x = 0 → B h1)) := by
  have z0 : ∀ {h1 : AH}, A h1 → ((nI 0 : Int32) = 0 → A h1) ∧ (¬ (nI 0 : Int32) = 0 → B h1) := fun q => ⟨fun _ => q, fun z => absurd rfl z⟩
  have z1 : ∀ {h1 : AH}, B h1 → ((nI 1 : Int32) = 0 → A h1) ∧ (¬ (nI 1 : Int32) = 0 → B h1) := fun q => ⟨fun z => absurd z (by decide), fun _ => q⟩
  refine w_M_areElements_0 I.1 (S_fnd W I (fun e _ => z0 (hn h (doneM.rf I) (Or.inl e))) (fun j hj hv e h1 dn el => ?_))
  have hl : (pE (sP S j)).length ≤ 64 := elems_len (up := (sP S j).2.1) (W.1 j hj).1.1.2
  refine S_MisElement dn.1.1 el.1 hl fun _ => br_b (fun e1 _ => z0 (hn h1 dn (Or.inr ⟨j, e, Or.inl e1⟩))) (fun e1 => S_MisElement dn.1.1 el.1 hl fun _ => br_b (fun e2 _ => z0 (hn h1 dn (Or.inr ⟨j, e, Or.inr e2⟩))) (fun e2 _ => z1 ?_))
  obtain ⟨x, hx⟩ := Option.isSome_iff_exists.mp e1
  obtain ⟨y, hy⟩ := Option.isSome_iff_exists.mp e2
  exact hs j x y hj hv e hx hy h1 dn el
theorem rOp_bad {op : Nat} {v a b : Int32} (hb : ix v 4 = none ∨ ∃ j, ix v 4 = some j ∧ ((ix a (pE (sP S j)).length).isSome = false ∨ (ix b (pE (sP S j)).length).isSome = false)) : rOp S op v a b = m1 := by
  unfold rOp
  rcases hb with e | ⟨j, e, e1 | e1⟩
  · exact rPo_none e
  · rw [rPo_some e, r2_n1 e1]
  · rw [rPo_some e, r2_n2 e1]
theorem M_meet {v a b : Int32} (W : WS S) (I : InvM h S) (hK : ∀ h1, doneM S h h1 → K (rOp S 0 v a b) h1) : Ev (d + 4) g g m_M_meet 0 [.ref A_M, .int v, .int a, .int b] [] h (asI K) := by
  refine w_M_meet_0 I.1 (S_are W I (fun h1 dn hb => by have := hK h1 dn; rw [rOp_bad hb] at this; exact this) (fun j x y hj hv e hx hy h1 dn el => ?_))
  have hk := hK h1 dn
  unfold rOp at hk
  rw [rPo_some e, r2_s hx hy] at hk
  have w := (W.1 j hj).1
  have h6 := w.1.2
  have hl : (pE (sP S j)).length ≤ 64 := elems_len (up := (sP S j).2.1) h6
  obtain ⟨lx, rfl⟩ := ix_some hx
  obtain ⟨ly, rfl⟩ := ix_some hy
  have mo := opS_mem w (op := 0) (getD_mem lx) (getD_mem ly)
  have mo : (pE (sP S j)).getD x 0 &&& (pE (sP S j)).getD y 0 ∈ pE (sP S j) := mo
  have l1 := el64 h6 mo
  rw [nI_clamp (by omega), nI_clamp (by omega), el.2.1 x lx, el.2.1 y ly, nm_and ((pE (sP S j)).getD x 0) (el64 h6 (getD_mem lx)) ((pE (sP S j)).getD y 0) (el64 h6 (getD_mem ly)), nI_clamp (by omega), el.2.2 _ mo]
  exact ⟨vp_in_nI (by omega) (by decide), vp_in_nI (by omega) (by decide), vp_in_nI (by omega) (by decide), hk⟩
theorem M_join {v a b : Int32} (W : WS S) (I : InvM h S) (hK : ∀ h1, doneM S h h1 → K (rOp S 1 v a b) h1) : Ev (d + 4) g g m_M_join 0 [.ref A_M, .int v, .int a, .int b] [] h (asI K) := by
  refine w_M_join_0 I.1 (S_are W I (fun h1 dn hb => by have := hK h1 dn; rw [rOp_bad hb] at this; exact this) (fun j x y hj hv e hx hy h1 dn el => ?_))
  have hk := hK h1 dn
  unfold rOp at hk
  rw [rPo_some e, r2_s hx hy] at hk
  have w := (W.1 j hj).1
  have h6 := w.1.2
  have hl : (pE (sP S j)).length ≤ 64 := elems_len (up := (sP S j).2.1) h6
  obtain ⟨lx, rfl⟩ := ix_some hx
  obtain ⟨ly, rfl⟩ := ix_some hy
  have mo := opS_mem w (op := 1) (getD_mem lx) (getD_mem ly)
  have mo : (pE (sP S j)).getD x 0 ||| (pE (sP S j)).getD y 0 ∈ pE (sP S j) := mo
  have l1 := el64 h6 mo
  rw [nI_clamp (by omega), nI_clamp (by omega), el.2.1 x lx, el.2.1 y ly, nm_or ((pE (sP S j)).getD x 0) (el64 h6 (getD_mem lx)) ((pE (sP S j)).getD y 0) (el64 h6 (getD_mem ly)), nI_clamp (by omega), el.2.2 _ mo]
  exact ⟨vp_in_nI (by omega) (by decide), vp_in_nI (by omega) (by decide), vp_in_nI (by omega) (by decide), hk⟩
theorem M_implies {v a b : Int32} (W : WS S) (I : InvM h S) (hK : ∀ h1, doneM S h h1 → K (rOp S 2 v a b) h1) : Ev (d + 4) g g m_M_implies 0 [.ref A_M, .int v, .int a, .int b] [] h (asI K) := by
  refine w_M_implies_0 I.1 (S_are W I (fun h1 dn hb => by have := hK h1 dn; rw [rOp_bad hb] at this; exact this) (fun j x y hj hv e hx hy h1 dn el => ?_))
  have hk := hK h1 dn
  unfold rOp at hk
  rw [rPo_some e, r2_s hx hy] at hk
  have w := (W.1 j hj).1
  have h6 := w.1.2
  have hl : (pE (sP S j)).length ≤ 64 := elems_len (up := (sP S j).2.1) h6
  subst hv
  obtain ⟨lx, rfl⟩ := ix_some hx
  obtain ⟨ly, rfl⟩ := ix_some hy
  have mo := opS_mem w (op := 2) (getD_mem lx) (getD_mem ly)
  have mo : impk (sP S j).2.1 ((pE (sP S j)).getD x 0) ((pE (sP S j)).getD y 0) (sP S j).1 ∈ pE (sP S j) := mo
  have l1 := el64 h6 mo
  rw [nI_clamp (by omega), nI_clamp (by omega), el.2.1 x lx, el.2.1 y ly]
  refine ⟨vp_in_nI (by omega) (by decide), vp_in_nI (by omega) (by decide), S_MimpliedBits dn.1.1 (by omega) (dn.1.2.1 j hj).1 w (el64 h6 (getD_mem lx)) (el64 h6 (getD_mem ly)) fun _ => ?_⟩
  rw [nI_clamp (by omega), el.2.2 _ mo]
  exact ⟨vp_in_nI (by omega) (by decide), hk⟩
end OPM

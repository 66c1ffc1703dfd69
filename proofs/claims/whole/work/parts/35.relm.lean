/-! relate, the reference -/
section RELM3
variable {d g : Nat} {h : AH} {S : St} {K : Int32 → AH → Prop}
theorem M_relate {v a b : Int32} (W : WS S) (I : InvM h S) (hK : ∀ h1, doneM (oRel S v a b).2 h h1 → K (oRel S v a b).1 h1) : Ev (d + 2) g g m_M_relate 0 [.ref A_M, .int v, .int a, .int b] [] h (asI K) := by
  refine w_M_relate_0 I.1 (S_isP (fun e => by rw [oRel_n e] at hK; exact hK h (doneM.rf I)) (fun j hj hv e => ?_))
  subst hv
  have w := (W.1 j hj).1
  have o := (I.2.1 j hj).1
  have h6 := w.1.2
  refine S_MisPoint I.1 (by omega) o.1 h6 fun _ => br_b (fun e1 => ?_) (fun e1 => S_MisPoint I.1 (by omega) o.1 h6 fun _ => br_nb (fun e2 => ?_) (fun e2 => ?_))
  · rw [oRel_a e e1] at hK
    exact hK h (doneM.rf I)
  · rw [oRel_b e e2] at hK
    exact hK h (doneM.rf I)
  obtain ⟨x, hx⟩ := Option.isSome_iff_exists.mp e1
  obtain ⟨y, hy⟩ := Option.isSome_iff_exists.mp e2
  rw [oRel_s e hx hy] at hK
  obtain ⟨lx, rfl⟩ := ix_some hx
  obtain ⟨ly, rfl⟩ := ix_some hy
  unfold oRel2 at hK
  have run : ¬ (x ≠ y ∧ le (sP S j).2.1 y x = true) → Ev (d + 2) g g m_M_relate 48 [.ref A_M, .int (nI j), .int (nI x), .int (nI y), .int (nI 0)] [] h (asI K) := fun hno => by
    rw [if_neg hno] at hK
    refine S_MrelLoop I.1 hj o w lx ly (fun hz => Classical.byContradiction fun hne => hno ⟨hne, hz⟩) fun h1 ee ss mo mv => hK h1 ⟨InvM.atP W I ee (ss.sub fun q _ hq => ⟨hq.2.2.1, hq.2.2.2⟩) mo mv, ee, ss.sub fun q _ hq => ⟨fun hz => ?_, fun hz => ?_⟩⟩
    · omega
    · omega
  refine br_eq x y rfl rfl (fun hz => run fun hq => hq.1 hz) (fun hz => S_MisLess I.1 (by omega) o h6 (w.u64 ly) ly (by omega) fun _ => br_b (fun hq => run fun hr => ?_) (fun hq => ?_))
  · rw [hq] at hr
    exact absurd hr.2 (by decide)
  · rw [if_pos ⟨hz, hq⟩] at hK
    exact hK h (doneM.rf I)
end RELM3

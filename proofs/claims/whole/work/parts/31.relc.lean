/-! relate, the class -/
abbrev kE4 : Int32 := cI (.negSucc 3)
def doneC (S : St) (h h1 : AH) : Prop := InvC h1 S ∧ Ext h h1 ∧ FrM h h1
theorem doneC.rf {S : St} {h : AH} (I : InvC h S) : doneC S h h := ⟨I, Ext.rfl', sm.rf⟩
def oRel2 (S : St) (i x y : Nat) : Int32 × St :=
  if x ≠ y ∧ le (sP S i).2.1 y x = true then (kE4, S) else (nI (prk (upR (sP S i).2.1 x y) (sP S i).1), setP S i ((sP S i).1, upR (sP S i).2.1 x y, fun _ => 0))
def oRel (S : St) (v a b : Int32) : Int32 × St := match ix v 4 with
  | none => (m1, S)
  | some i => match ix a (sP S i).1, ix b (sP S i).1 with
    | some x, some y => oRel2 S i x y
    | _, _ => (m1, S)
theorem oRel_n {S : St} {v a b : Int32} (e : ix v 4 = none) : oRel S v a b = (m1, S) := by unfold oRel; rw [e]
theorem oRel_a {S : St} {v a b : Int32} {i : Nat} (e : ix v 4 = some i) (e1 : (ix a (sP S i).1).isSome = false) : oRel S v a b = (m1, S) := by
  unfold oRel
  rw [e]
  show (match ix a (sP S i).1, ix b (sP S i).1 with
    | some x, some y => oRel2 S i x y
    | _, _ => (m1, S)) = (m1, S)
  rw [iS_none e1]
theorem oRel_b {S : St} {v a b : Int32} {i : Nat} (e : ix v 4 = some i) (e1 : (ix b (sP S i).1).isSome = false) : oRel S v a b = (m1, S) := by
  unfold oRel
  rw [e]
  show (match ix a (sP S i).1, ix b (sP S i).1 with
    | some x, some y => oRel2 S i x y
    | _, _ => (m1, S)) = (m1, S)
  rw [iS_none e1]
  cases ix a (sP S i).1 <;> rfl
theorem oRel_s {S : St} {v a b : Int32} {i x y : Nat} (e : ix v 4 = some i) (e1 : ix a (sP S i).1 = some x) (e2 : ix b (sP S i).1 = some y) : oRel S v a b = oRel2 S i x y := by
  unfold oRel
  rw [e]
  show (match ix a (sP S i).1, ix b (sP S i).1 with
    | some x, some y => oRel2 S i x y
    | _, _ => (m1, S)) = oRel2 S i x y
  rw [e1, e2]
section RELC
variable {d g : Nat} {h : AH} {S : St} {K : Int32 → AH → Prop}
theorem C_relate {v a b : Int32} (W : WS S) (I : InvC h S) (hK : ∀ h1, doneC (oRel S v a b).2 h h1 → K (oRel S v a b).1 h1) : Ev (d + 5) g g m_C_relate 0 [.ref A_x, .int v, .int a, .int b] [] h (asI K) := by
  refine w_C_relate_0 I.1 (S_posetAt I.1 (fun e => by rw [oRel_n e] at hK; exact hK h (doneC.rf I)) (fun j hj _ fp e => ⟨fp, ?_⟩))
  have w := (W.1 j hj).1
  have o := (I.2.1 j hj).1
  refine w_P_extendOrder_0 fp (S_hasPoint fp o.1 w.1.2 fun _ => br_b (fun e1 => ?_) (fun e1 => S_hasPoint fp o.1 w.1.2 fun _ => br_nb (fun e2 => ?_) (fun e2 => ?_)))
  · rw [oRel_a e e1] at hK
    exact fun _ => hK h (doneC.rf I)
  · rw [oRel_b e e2] at hK
    exact fun _ => hK h (doneC.rf I)
  obtain ⟨x, hx⟩ := Option.isSome_iff_exists.mp e1
  obtain ⟨y, hy⟩ := Option.isSome_iff_exists.mp e2
  rw [oRel_s e hx hy] at hK
  obtain ⟨lx, rfl⟩ := ix_some hx
  obtain ⟨ly, rfl⟩ := ix_some hy
  have h6 := w.1.2
  unfold oRel2 at hK
  have run : ¬ (x ≠ y ∧ le (sP S j).2.1 y x = true) → Ev (d + 4) g g m_P_extendOrder 37 [.ref (aP j), .int (nI x), .int (nI y), .int (nI 0)] [] h (asI fun x2 h2 => Ext h h2 → K x2 h2) := fun hno => by
    rw [if_neg hno] at hK
    refine S_extendLoop fp o w lx ly (fun hz => Classical.byContradiction fun hne => hno ⟨hne, hz⟩) fun h1 ee ss pc _ => hK h1 ⟨InvC.atP hj I ee (ss.sm.sub fun q _ hq => ?_) pc, ee, ss.sm.sub fun q _ hq => ?_⟩
    · simp only [aP] at *; omega
    · simp only [aP] at *; omega
  refine br_eq x y rfl rfl (fun hz => run fun hq => hq.1 hz) (fun hz => S_below fp o w ly lx fun _ => br_b (fun hq => run fun hr => ?_) (fun hq => ?_))
  · rw [hq] at hr
    exact absurd hr.2 (by decide)
  · rw [if_pos ⟨hz, hq⟩] at hK
    exact fun _ => hK h (doneC.rf I)
end RELC

/-! the state stays well formed -/
theorem WS.atP {S : St} (W : WS S) {i : Nat} {p : PT} (hp : wPT p) : WS (setP S i p) := by
  refine ⟨fun j hj => ?_, W.2⟩
  show wPT (if j = i then p else sP S j)
  by_cases hji : j = i
  · rw [if_pos hji]; exact hp
  · rw [if_neg hji]; exact W.1 j hj
theorem wPT.z {n : Nat} {up : Nat → Nat} (w : wfP n up) : wPT (n, up, fun _ => 0) := ⟨w, fun _ _ => (el_zero w).2⟩
theorem WS.rel {S : St} (W : WS S) {v a b : Int32} : WS (oRel S v a b).2 := by
  cases e : ix v 4 with
  | none => rw [oRel_n e]; exact W
  | some i =>
    cases e1 : ix a (sP S i).1 with
    | none => rw [oRel_a e (by rw [e1]; rfl)]; exact W
    | some x =>
      cases e2 : ix b (sP S i).1 with
      | none => rw [oRel_b e (by rw [e2]; rfl)]; exact W
      | some y =>
        rw [oRel_s e e1 e2]
        have w := (W.1 i (ix_some e).1).1
        unfold oRel2
        by_cases hc : x ≠ y ∧ le (sP S i).2.1 y x = true
        · rw [if_pos hc]; exact W
        · rw [if_neg hc]
          exact W.atP (wPT.z (upR_wf w (ix_some e1).1 (ix_some e2).1 fun hz => Classical.byContradiction fun hne => hc ⟨hne, hz⟩))

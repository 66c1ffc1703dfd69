/-! relate, the reference -/
section RELM
variable {d g i n a b : Nat} {up : Nat → Nat} {h : AH} {S : St} {K : Int32 → AH → Prop}
theorem S_Munvalues {Q : AH → Prop} (fM : is_M h) (hi : i < 4) (hK : ∀ h1, Ext h h1 → sm (fun q j => ¬ (q = 76 ∧ 3 * i ≤ j ∧ j < 3 * i + 3)) h h1 → MV h1 i (fun _ => 0) → Q h1) : Ev d g g m_M_unvalues 0 [.ref A_M, .int (nI i)] [] h (asV Q) := by
  refine w_M_unvalues_0 fM ?_
  refine for_up (σ := AH) (fun k hh => Ev d g g m_M_unvalues 2 [.ref A_M, .int (nI i), .int (nI k)] [] hh (asV Q)) (fun k hh => Ext h hh ∧ sm (fun q j => ¬ (q = 76 ∧ 3 * i ≤ j ∧ j < 3 * i + 3)) h hh ∧ ∀ v, v < k → mi hh M_valued (3 * i + v) = nI 0) 3 (fun hh hj => ?_) (fun k hh hk hj ih => ?_) 0 h (Nat.zero_le _) ⟨Ext.rfl', sm.rf, fun v hv => by omega⟩
  · obtain ⟨e, s, hv⟩ := hj
    exact w_M_unvalues_2 (fM.ext e) (br_le 3 3 rfl rfl (fun _ => hK hh e s hv) (fun hz => by omega))
  · obtain ⟨e, s, hv⟩ := hj
    refine w_M_unvalues_2 (fM.ext e) (br_le 3 k rfl rfl (fun hz => by omega) fun _ => ?_)
    rw [nI_ix3, nI_clamp (by omega), nI_add]
    refine ⟨vp_in_nI (by omega) (by decide), ih _ ⟨e.trans (ext_wi _ _ _ _), s.wi (fun hq => hq ⟨rfl, by omega, by omega⟩), fun v hv1 => ?_⟩⟩
    by_cases ev : v = k
    · subst ev
      exact mi_eq
    · rw [mi_nj (fun (hq : 3 * i + v = 3 * i + k) => ev (by omega))]
      exact hv v (by omega)
end RELM

/-! property -/
def prB (p : PT) (a : Int32) : Int32 := match ix a 6 with
  | some 0 => nI (bst (prs p.1 p.2.1 true) (2 ^ p.1))
  | some 1 => nI (bst (prs p.1 p.2.1 false) (2 ^ p.1))
  | some 2 => nI (ck (enB p.1 p.2.1 true) p.1)
  | some 3 => nI (ck (enB p.1 p.2.1 false) p.1)
  | some 4 => nI (csk p.1 p.2.1 p.1).1
  | some 5 => nI (prk p.2.1 p.1)
  | _ => kE2
theorem prB_n {p : PT} {a : Int32} (hz : a.toInt < 0 ∨ 5 < a.toInt) : prB p a = kE2 := by
  have e : ix a 6 = none := by unfold ix; rw [if_neg]; omega
  unfold prB
  rw [e]
def rProp (S : St) (v a : Int32) : Int32 := rPo S v fun p => prB p a
section PROP
variable {d g : Nat} {h : AH} {S : St} {K : Int32 → AH → Prop}
theorem C_property {v a : Int32} (W : WS S) (I : InvC h S) (hK : K (rProp S v a) h) : Ev (d + 3) g g m_C_property 0 [.ref A_x, .int v, .int a] [] h (asI K) := by
  unfold rProp at hK
  refine w_C_property_0 I.1 (S_posetAt I.1 (fun e => by rw [rPo_none e] at hK; exact hK) (fun j hj _ fp e => ⟨fp, ?_⟩))
  rw [rPo_some e] at hK
  have w := (W.1 j hj).1
  have P := I.2.1 j hj
  refine ⟨fun hz => ?_, fun hz => ?_, fun hz => ?_, fun hz => ?_, fun hz => ?_, fun hz => ?_, fun hz => ?_⟩
  · subst hz
    unfold prB at hK
    rw [ix_nI (by decide) (by decide)] at hK
    exact S_largestChain fp P w fun _ => hK
  · subst hz
    unfold prB at hK
    rw [ix_nI (by decide) (by decide)] at hK
    exact S_largestAntichain fp P w fun _ => hK
  · subst hz
    unfold prB at hK
    rw [ix_nI (by decide) (by decide)] at hK
    exact S_minimalPoints fp P w fun _ => hK
  · subst hz
    unfold prB at hK
    rw [ix_nI (by decide) (by decide)] at hK
    exact S_maximalPoints fp P w fun _ => hK
  · subst hz
    unfold prB at hK
    rw [ix_nI (by decide) (by decide)] at hK
    exact S_components fp P w fun _ => hK
  · subst hz
    unfold prB at hK
    rw [ix_nI (by decide) (by decide)] at hK
    exact S_properPairs fp P w fun _ => hK
  · rw [prB_n hz] at hK
    exact hK
theorem M_property {v a : Int32} (W : WS S) (I : InvM h S) (hK : ∀ h1, doneM S h h1 → K (rProp S v a) h1) : Ev (d + 3) g g m_M_property 0 [.ref A_M, .int v, .int a] [] h (asI K) := by
  have hk := hK h (doneM.rf I)
  unfold rProp at hk
  refine w_M_property_0 I.1 ((S_isP (fun e => by rw [rPo_none e] at hk; exact hk) (fun j hj hv e => ?_)).mI fun x h1 _ k e => (k e).symm)
  subst hv
  rw [rPo_some e] at hk
  have w := (W.1 j hj).1
  have o := (I.2.1 j hj).1
  have hi : j < 5 := by omega
  refine ⟨fun hz => ?_, fun hz => ?_, fun hz => ?_, fun hz => ?_, fun hz => ?_, fun hz => ?_, fun hz => ?_⟩
  · subst hz
    unfold prB at hk
    rw [ix_nI (by decide) (by decide)] at hk
    exact S_Mlargest (b := true) I.1 hi o w fun _ => hk
  · subst hz
    unfold prB at hk
    rw [ix_nI (by decide) (by decide)] at hk
    exact S_Mlargest (b := false) I.1 hi o w fun _ => hk
  · subst hz
    unfold prB at hk
    rw [ix_nI (by decide) (by decide)] at hk
    exact S_Mends (b := true) I.1 hi o w fun _ => hk
  · subst hz
    unfold prB at hk
    rw [ix_nI (by decide) (by decide)] at hk
    exact S_Mends (b := false) I.1 hi o w fun _ => hk
  · subst hz
    unfold prB at hk
    rw [ix_nI (by decide) (by decide)] at hk
    exact S_Mcomponents I.1 hi o w fun _ => hk
  · subst hz
    unfold prB at hk
    rw [ix_nI (by decide) (by decide)] at hk
    exact S_Mpairs I.1 hi o w fun _ => hk
  · rw [prB_n hz] at hk
    exact hk
end PROP

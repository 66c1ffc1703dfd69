/-! the law from its start -/
theorem ws_0 : WS S0 := by
  refine ⟨fun i _ => wPT.z (eqR_wf (by decide) (by decide)), ⟨Nat.zero_le _, fun c hc => by cases hc⟩, fun i _ => ⟨rfl, Nat.zero_le _, fun _ _ => rfl, fun z => absurd rfl z⟩, ⟨Nat.zero_le _, fun c hc => by cases hc⟩, ⟨Nat.zero_le _, fun k => by show 0 < 2 ^ 63; decide⟩, fun r t n f _ e => (by cases e), (by decide)⟩
theorem law_ev (L : Nat) (xs : Nat → Int32) (hL : L ≤ 3072) : Ev 30 1200 0 m_L_law 0 [.ref 0] [] (h00 L xs) (asI fun x _ => x = 1) := by
  show Ev (29 + 1) (1103 + 97) 0 m_L_law 0 [.ref 0] [] (h00 L xs) (asI fun x _ => x = 1)
  have f0 : hs (h00 L xs) 0 = some (9, L) := rfl
  refine w_L_law_0 (d := 29) (g := 1103) (n0 := L) f0 ?_
  refine I_C (d := 24) (g := 1126) (h := hn (h00 L xs) 16 10) rfl rfl (fun i => rfl) fun h1 l1 i1 k1 e1 => ?_
  rw [l1]
  refine I_M (d := 27) (g := 1103) (h := hn h1 17 33) (by rw [hs_hn', l1, if_pos rfl]) (by rw [len_hn, l1]) (fun i => by rw [mr_hn, l1, if_pos rfl]) (fun i => by rw [mi_hn, l1, if_pos rfl]) fun h2 k2 i2 e2 => ?_
  have e12 : Ext h1 h2 := (ext_hn _ _ _).trans e2
  have fr : FrC h1 h2 := fun a i ha => by
    obtain ⟨x1, x2⟩ := k2 a i (show a < 73 by have : a ≤ 72 := ha; omega)
    rw [mi_hn, l1, if_neg (by have : a ≤ 72 := ha; omega)] at x1
    rw [ml_hn, l1, if_neg (by have : a ≤ 72 := ha; omega)] at x2
    exact ⟨x1, x2⟩
  have c95 := i2.1.2 (31, M_rowLength, 0, 3) (by decide)
  have ln : 96 ≤ h2.1.length := hs_lt c95.2
  refine law_loop (d := 19) (s := xs) hL (fun _ => rfl) 512 1103 0 h2 S0 (Nat.zero_le _) (by omega) (by decide) ⟨ws_0, InvC.keep i1 e12 fr, i2, ln, e12.shp (e1.shp rfl), fun i => ?_⟩
  exact ((fr 0 i (Nat.zero_le _)).1).trans ((k1 0 i (by decide)).1.trans rfl)

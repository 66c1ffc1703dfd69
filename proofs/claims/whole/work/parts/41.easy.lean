/-! operations on single cells: texts, generators, valuations, the last search's costs, failure, sizes -/
abbrev kE3 : Int32 := cI (.negSucc 2)
abbrev kE7 : Int32 := cI (.negSucc 6)
theorem br_rg' {v : Int32} {lo hi : Nat} {A B : Prop} (f : rg v lo hi = none → B) (g : ∀ j, rg v lo hi = some j → A) (hl : lo < 2147483648 := by decide) (hh : hi + 1 < 2147483648 := by decide) : (v < nI lo → B) ∧ (¬ v < nI lo → (v < nI (hi + 1) → A) ∧ (¬ v < nI (hi + 1) → B)) := by
  have h1 : v < nI (hi + 1) ↔ v ≤ nI hi := by
    rw [Int32.lt_iff_toInt_lt, Int32.le_iff_toInt_le, nI_toInt hh, nI_toInt (by omega)]
    omega
  have k := br_rg (v := v) (lo := lo) (hi := hi) f g hl (by omega)
  exact ⟨k.1, fun z => ⟨fun q => (k.2 z).1 (h1.mp q), fun q => (k.2 z).2 fun y => q (h1.mpr y)⟩⟩
section LST
variable {h : AH} {S : St}
theorem getD_snoc {L : List Nat} {c k : Nat} (hk : k < L.length + 1) : (L ++ [c]).getD k 0 = if k = L.length then c else L.getD k 0 := by
  by_cases e : k = L.length
  · rw [if_pos e, e]; exact getD_app2
  · rw [if_neg e]; exact getD_app1 (by omega)
end LST
/-! append, clearText -/
def oApp (S : St) (v : Int32) : Int32 × St := match rg v 33 126 with
  | none => (kE2, S)
  | some c => if (sT S).length < 40 then (nI ((sT S).length + 1), setT S (sT S ++ [c])) else (kE7, S)
theorem oApp_n {S : St} {v : Int32} (e : rg v 33 126 = none) : oApp S v = (kE2, S) := by unfold oApp; rw [e]
theorem oApp_s {S : St} {v : Int32} {c : Nat} (e : rg v 33 126 = some c) : oApp S v = if (sT S).length < 40 then (nI ((sT S).length + 1), setT S (sT S ++ [c])) else (kE7, S) := by unfold oApp; rw [e]
theorem WS.app {S : St} (W : WS S) {v : Int32} : WS (oApp S v).2 := by
  cases e : rg v 33 126 with
  | none => rw [oApp_n e]; exact W
  | some c =>
    rw [oApp_s e]
    obtain ⟨c1, c2, -⟩ := rg_some e
    by_cases hc : (sT S).length < 40
    · rw [if_pos hc]
      refine ⟨W.1, ⟨?_, fun q hq => ?_⟩, W.2.2⟩
      · show (sT S ++ [c]).length ≤ 40
        rw [List.length_append]
        exact hc
      · rcases List.mem_append.mp hq with z | z
        · exact W.2.1.2 q z
        · have : q = c := by simpa using z
          omega
    · rw [if_neg hc]; exact W
theorem WS.clr {S : St} (W : WS S) : WS (setT S []) := ⟨W.1, ⟨Nat.zero_le _, fun q hq => (by cases hq)⟩, W.2.2⟩
section TXT
variable {d g : Nat} {h : AH} {S : St} {K : Int32 → AH → Prop}
theorem C_append {v : Int32} (W : WS S) (I : InvC h S) (hK : ∀ h1, doneC (oApp S v).2 h h1 → K (oApp S v).1 h1) : Ev d g g m_C_append 0 [.ref A_x, .int v] [] h (asI K) := by
  have hl := W.2.1.1
  have ct := I.2.2.1
  refine w_C_append_0 I.1 (br_rg (lo := 33) (hi := 126) (fun e => by rw [oApp_n e] at hK; exact hK h (doneC.rf I)) (fun c e => ?_))
  rw [oApp_s e] at hK
  obtain ⟨-, -, rfl⟩ := rg_some e
  rw [ct.1]
  refine br_lt (sT S).length 40 rfl rfl (fun hc => ⟨vp_in_nI hc (by decide), ?_⟩) (fun hc => by rw [if_neg (by omega)] at hK; exact hK h (doneC.rf I))
  rw [if_pos hc] at hK
  rw [mi_eq, mi_ne (by decide), ct.1, nI_clamp (by omega), nI_add]
  refine hK _ ⟨InvC.atT I ((ext_wi _ _ _ _).trans (ext_wi _ _ _ _)) ((sm.rf.wi (fun q => q.2.2 rfl)).wi (fun q => q.2.1 rfl)) ⟨by rw [mi_eq, List.length_append]; rfl, fun i hi => ?_⟩, (ext_wi _ _ _ _).trans (ext_wi _ _ _ _), (sm.rf.wi (by decide)).wi (by decide)⟩
  have hi : i < (sT S).length + 1 := by rw [List.length_append] at hi; exact hi
  rw [mi_ne (by decide), getD_snoc hi]
  by_cases ei : i = (sT S).length
  · rw [if_pos ei, ei]; exact mi_eq
  · rw [if_neg ei, mi_nj ei]; exact ct.2 i (by omega)
theorem M_append {v : Int32} (W : WS S) (I : InvM h S) (hK : ∀ h1, doneM (oApp S v).2 h h1 → K (oApp S v).1 h1) : Ev (d + 1) g g m_M_append 0 [.ref A_M, .int v] [] h (asI K) := by
  have hl := W.2.1.1
  have ct := I.2.2.1
  refine w_M_append_0 I.1 (S_Mrg (lo := 33) (hi := 126) fun _ => br_nb (fun e => by rw [oApp_n (rS_none e)] at hK; exact hK h (doneM.rf I)) (fun e1 => ?_))
  obtain ⟨c, e⟩ := Option.isSome_iff_exists.mp e1
  rw [oApp_s e] at hK
  obtain ⟨-, -, rfl⟩ := rg_some e
  rw [ct.1]
  refine br_ne (sT S).length 40 rfl rfl (fun hc => by rw [if_neg (by omega)] at hK; exact hK h (doneM.rf I)) (fun hc => ⟨vp_in_nI (by omega) (by decide), ?_⟩)
  rw [if_pos (by omega)] at hK
  rw [mi_eq, mi_ne (by decide), ct.1, nI_clamp (by omega), nI_add]
  refine hK _ ⟨InvM.atT W I ((ext_wi _ _ _ _).trans (ext_wi _ _ _ _)) ((sm.rf.wi (fun q => q.2.2 rfl)).wi (fun q => q.2.1 ⟨rfl, rfl⟩)) ⟨by rw [mi_eq, List.length_append]; rfl, fun i hi => ?_⟩, (ext_wi _ _ _ _).trans (ext_wi _ _ _ _), (sm.rf.wi (by decide)).wi (by decide)⟩
  have hi : i < (sT S).length + 1 := by rw [List.length_append] at hi; exact hi
  rw [mi_ne (by decide), getD_snoc hi]
  by_cases ei : i = (sT S).length
  · rw [if_pos ei, ei]; exact mi_eq
  · rw [if_neg ei, mi_nj ei]; exact ct.2 i (by omega)
theorem C_clearText (I : InvC h S) (hK : ∀ h1, doneC (setT S []) h h1 → K (nI (sT S).length) h1) : Ev d g g m_C_clearText 0 [.ref A_x] [] h (asI K) := by
  refine w_C_clearText_0 I.1 ?_
  rw [I.2.2.1.1]
  exact hK _ ⟨InvC.atT I (ext_wi _ _ _ _) (sm.rf.wi (fun q => q.2.1 rfl)) ⟨mi_eq, fun i hi => absurd hi (Nat.not_lt_zero i)⟩, ext_wi _ _ _ _, sm.rf.wi (by decide)⟩
theorem M_clearText (W : WS S) (I : InvM h S) (hK : ∀ h1, doneM (setT S []) h h1 → K (nI (sT S).length) h1) : Ev d g g m_M_clearText 0 [.ref A_M] [] h (asI K) := by
  refine w_M_clearText_0 I.1 ?_
  rw [I.2.2.1.1]
  exact hK _ ⟨InvM.atT W I (ext_wi _ _ _ _) (sm.rf.wi (fun q => q.2.1 ⟨rfl, rfl⟩)) ⟨mi_eq, fun i hi => absurd hi (Nat.not_lt_zero i)⟩, ext_wi _ _ _ _, sm.rf.wi (by decide)⟩
end TXT
/-! addGenerator, clearGenerators -/
def oGen (S : St) (v : Int32) : Int32 × St := match rg v 0 63 with
  | none => (kE2, S)
  | some c => if (sG S).length < 4 then (nI ((sG S).length + 1), setG S (sG S ++ [c])) else (kE7, S)
theorem oGen_n {S : St} {v : Int32} (e : rg v 0 63 = none) : oGen S v = (kE2, S) := by unfold oGen; rw [e]
theorem oGen_s {S : St} {v : Int32} {c : Nat} (e : rg v 0 63 = some c) : oGen S v = if (sG S).length < 4 then (nI ((sG S).length + 1), setG S (sG S ++ [c])) else (kE7, S) := by unfold oGen; rw [e]
theorem WS.gen {S : St} (W : WS S) {v : Int32} : WS (oGen S v).2 := by
  cases e : rg v 0 63 with
  | none => rw [oGen_n e]; exact W
  | some c =>
    rw [oGen_s e]
    obtain ⟨c1, c2, -⟩ := rg_some e
    by_cases hc : (sG S).length < 4
    · rw [if_pos hc]
      refine ⟨W.1, W.2.1, W.2.2.1, ⟨?_, fun q hq => ?_⟩, W.2.2.2.2⟩
      · show (sG S ++ [c]).length ≤ 4
        rw [List.length_append]
        exact hc
      · rcases List.mem_append.mp hq with z | z
        · exact W.2.2.2.1.2 q z
        · have : q = c := by simpa using z
          omega
    · rw [if_neg hc]; exact W
theorem WS.clg {S : St} (W : WS S) : WS (setG S []) := ⟨W.1, W.2.1, W.2.2.1, ⟨Nat.zero_le _, fun q hq => (by cases hq)⟩, W.2.2.2.2⟩
section GENS
variable {d g : Nat} {h : AH} {S : St} {K : Int32 → AH → Prop}
theorem C_addGenerator {v : Int32} (W : WS S) (I : InvC h S) (hK : ∀ h1, doneC (oGen S v).2 h h1 → K (oGen S v).1 h1) : Ev d g g m_C_addGenerator 0 [.ref A_x, .int v] [] h (asI K) := by
  have hl := W.2.2.2.1.1
  have ct := I.2.2.2.2.1
  refine w_C_addGenerator_0 I.1 (br_rg' (lo := 0) (hi := 63) (fun e => by rw [oGen_n e] at hK; exact hK h (doneC.rf I)) (fun c e => ?_))
  rw [oGen_s e] at hK
  obtain ⟨-, -, rfl⟩ := rg_some e
  rw [ct.1]
  refine br_lt (sG S).length 4 rfl rfl (fun hc => ⟨vp_in_nI hc (by decide), ?_⟩) (fun hc => by rw [if_neg (by omega)] at hK; exact hK h (doneC.rf I))
  rw [if_pos hc] at hK
  rw [mi_eq, mi_ne (by decide), ct.1, nI_clamp (by omega), nI_add]
  refine hK _ ⟨InvC.atG I ((ext_wi _ _ _ _).trans (ext_wi _ _ _ _)) ((sm.rf.wi (fun q => q.2.2 rfl)).wi (fun q => q.2.1 ⟨rfl, rfl⟩)) ⟨by rw [mi_eq, List.length_append]; rfl, fun i hi => ?_⟩, (ext_wi _ _ _ _).trans (ext_wi _ _ _ _), (sm.rf.wi (by decide)).wi (by decide)⟩
  have hi : i < (sG S).length + 1 := by rw [List.length_append] at hi; exact hi
  rw [mi_ne (by decide), getD_snoc hi]
  by_cases ei : i = (sG S).length
  · rw [if_pos ei, ei]; exact mi_eq
  · rw [if_neg ei, mi_nj ei]; exact ct.2 i (by omega)
theorem M_addGenerator {v : Int32} (W : WS S) (I : InvM h S) (hK : ∀ h1, doneM (oGen S v).2 h h1 → K (oGen S v).1 h1) : Ev (d + 1) g g m_M_addGenerator 0 [.ref A_M, .int v] [] h (asI K) := by
  have hl := W.2.2.2.1.1
  have ct := I.2.2.2.2.1
  refine w_M_addGenerator_0 I.1 (S_Mrg (lo := 0) (hi := 63) fun _ => br_nb (fun e => by rw [oGen_n (rS_none e)] at hK; exact hK h (doneM.rf I)) (fun e1 => ?_))
  obtain ⟨c, e⟩ := Option.isSome_iff_exists.mp e1
  rw [oGen_s e] at hK
  obtain ⟨-, -, rfl⟩ := rg_some e
  rw [ct.1]
  refine br_ne (sG S).length 4 rfl rfl (fun hc => by rw [if_neg (by omega)] at hK; exact hK h (doneM.rf I)) (fun hc => ⟨vp_in_nI (by omega) (by decide), ?_⟩)
  rw [if_pos (by omega)] at hK
  rw [mi_eq, mi_ne (by decide), ct.1, nI_clamp (by omega), nI_add]
  refine hK _ ⟨InvM.atG W I ((ext_wi _ _ _ _).trans (ext_wi _ _ _ _)) ((sm.rf.wi (fun q => q.2.2 rfl)).wi (fun q => q.2.1 ⟨rfl, rfl⟩)) ⟨by rw [mi_eq, List.length_append]; rfl, fun i hi => ?_⟩, (ext_wi _ _ _ _).trans (ext_wi _ _ _ _), (sm.rf.wi (by decide)).wi (by decide)⟩
  have hi : i < (sG S).length + 1 := by rw [List.length_append] at hi; exact hi
  rw [mi_ne (by decide), getD_snoc hi]
  by_cases ei : i = (sG S).length
  · rw [if_pos ei, ei]; exact mi_eq
  · rw [if_neg ei, mi_nj ei]; exact ct.2 i (by omega)
theorem C_clearGenerators (I : InvC h S) (hK : ∀ h1, doneC (setG S []) h h1 → K (nI (sG S).length) h1) : Ev d g g m_C_clearGenerators 0 [.ref A_x] [] h (asI K) := by
  refine w_C_clearGenerators_0 I.1 ?_
  rw [I.2.2.2.2.1.1]
  exact hK _ ⟨InvC.atG I (ext_wi _ _ _ _) (sm.rf.wi (fun q => q.2.1 ⟨rfl, rfl⟩)) ⟨mi_eq, fun i hi => absurd hi (Nat.not_lt_zero i)⟩, ext_wi _ _ _ _, sm.rf.wi (by decide)⟩
theorem M_clearGenerators (W : WS S) (I : InvM h S) (hK : ∀ h1, doneM (setG S []) h h1 → K (nI (sG S).length) h1) : Ev d g g m_M_clearGenerators 0 [.ref A_M] [] h (asI K) := by
  refine w_M_clearGenerators_0 I.1 ?_
  rw [I.2.2.2.2.1.1]
  exact hK _ ⟨InvM.atG W I (ext_wi _ _ _ _) (sm.rf.wi (fun q => q.2.1 ⟨rfl, rfl⟩)) ⟨mi_eq, fun i hi => absurd hi (Nat.not_lt_zero i)⟩, ext_wi _ _ _ _, sm.rf.wi (by decide)⟩
theorem C_failure (I : InvC h S) (hK : K (nI (sL S)) h) : Ev d g g m_C_failure 0 [.ref A_x] [] h (asI K) := by
  refine w_C_failure_0 I.1 ?_
  rw [I.2.2.2.2.2.2.2]
  exact hK
theorem M_failure (I : InvM h S) (hK : ∀ h1, doneM S h h1 → K (nI (sL S)) h1) : Ev d g g m_M_failure 0 [.ref A_M] [] h (asI K) := by
  refine w_M_failure_0 I.1 ?_
  rw [I.2.2.2.2.2.2.2]
  exact hK h (doneM.rf I)
end GENS
/-! setValue -/
def oSet (S : St) (v a b : Int32) : Int32 × St := match ix v 4 with
  | none => (m1, S)
  | some i => match ix a 3, ix b (pE (sP S i)).length with
    | some x, some y => (nI ((sP S i).2.2 x), setP S i ((sP S i).1, (sP S i).2.1, fun w => if w = x then y else (sP S i).2.2 w))
    | _, _ => (m1, S)
section SETV
variable {S : St} {v a b : Int32}
theorem oSet_v (e : ix v 4 = none) : oSet S v a b = (m1, S) := by unfold oSet; rw [e]
theorem oSet_a {i : Nat} (e : ix v 4 = some i) (e1 : (ix a 3).isSome = false) : oSet S v a b = (m1, S) := by unfold oSet; rw [e, iS_none e1]
theorem oSet_s {i x y : Nat} (e : ix v 4 = some i) (e1 : ix a 3 = some x) (e2 : ix b (pE (sP S i)).length = some y) : oSet S v a b = (nI ((sP S i).2.2 x), setP S i ((sP S i).1, (sP S i).2.1, fun w => if w = x then y else (sP S i).2.2 w)) := by
  unfold oSet
  rw [e, e1]
  show (match some x, ix b (pE (sP S i)).length with
    | some x, some y => (nI ((sP S i).2.2 x), setP S i ((sP S i).1, (sP S i).2.1, fun w => if w = x then y else (sP S i).2.2 w))
    | _, _ => (m1, S)) = _
  rw [e2]
theorem oSet_b {i : Nat} (e : ix v 4 = some i) (e2 : (ix b (pE (sP S i)).length).isSome = false) : oSet S v a b = (m1, S) := by
  unfold oSet
  rw [e]
  show (match ix a 3, ix b (pE (sP S i)).length with
    | some x, some y => (nI ((sP S i).2.2 x), setP S i ((sP S i).1, (sP S i).2.1, fun w => if w = x then y else (sP S i).2.2 w))
    | _, _ => (m1, S)) = _
  rw [iS_none e2]
  cases ix a 3 <;> rfl
theorem WS.set (W : WS S) : WS (oSet S v a b).2 := by
  cases e : ix v 4 with
  | none => rw [oSet_v e]; exact W
  | some i =>
    cases e1 : ix a 3 with
    | none => rw [oSet_a e (by rw [e1]; rfl)]; exact W
    | some x =>
      cases e2 : ix b (pE (sP S i)).length with
      | none => rw [oSet_b e (by rw [e2]; rfl)]; exact W
      | some y =>
        rw [oSet_s e e1 e2]
        refine W.atP ⟨(W.1 i (ix_some e).1).1, fun w hw => ?_⟩
        show (if w = x then y else (sP S i).2.2 w) < (pE (sP S i)).length
        by_cases c : w = x
        · rw [if_pos c]; exact (ix_some e2).1
        · rw [if_neg c]; exact (W.1 i (ix_some e).1).2 w hw
variable {d g : Nat} {h : AH} {K : Int32 → AH → Prop}
theorem S_CisVariable (hK : K (bI (ix v 3).isSome) h) : Ev d g g m_C_isVariable 0 [.int v] [] h (asI K) := w_C_isVariable_0 (br_ix (by omega) (fun e => by rw [e] at hK; exact hK) (fun j e => by rw [e] at hK; exact hK))
theorem S_MisVariable (hK : K (bI (ix v 3).isSome) h) : Ev d g g m_M_isVariable 0 [.int v] [] h (asI K) := w_M_isVariable_0 (br_ix (by omega) (fun e => by rw [e] at hK; exact hK) (fun j e => by rw [e] at hK; exact hK))
theorem C_setValue (W : WS S) (I : InvC h S) (hK : ∀ h1, doneC (oSet S v a b).2 h h1 → K (oSet S v a b).1 h1) : Ev (d + 1) g g m_C_setValue 0 [.ref A_x, .int v, .int a, .int b] [] h (asI K) := by
  have bad : oSet S v a b = (m1, S) → K m1 h := fun e => by rw [e] at hK; exact hK h (doneC.rf I)
  refine w_C_setValue_0 I.1 (S_posetAt I.1 (fun e => bad (oSet_v e)) (fun j hj _ fp e => ⟨fp, ?_⟩))
  have w := (W.1 j hj).1
  have P := I.2.1 j hj
  have hl : (pE (sP S j)).length ≤ 64 := elems_len (up := (sP S j).2.1) w.1.2
  refine S_CisVariable fun _ => br_b (fun e1 => bad (oSet_a e e1)) (fun e1 => S_hasElement fp P.2.2.1.1 hl fun _ => br_nb (fun e2 => bad (oSet_b e e2)) (fun e2 => ?_))
  obtain ⟨x, hx⟩ := Option.isSome_iff_exists.mp e1
  obtain ⟨y, hy⟩ := Option.isSome_iff_exists.mp e2
  rw [oSet_s e hx hy] at hK
  obtain ⟨lx, rfl⟩ := ix_some hx
  obtain ⟨ly, rfl⟩ := ix_some hy
  rw [nI_clamp (by omega), P.2.2.2.2 x lx]
  refine ⟨vp_in_nI lx (by decide), vp_in_nI lx (by decide), hK _ ⟨InvC.atP hj I (ext_wi _ _ _ _) (sm.rf.wi (fun q => by simp only [aP] at *; omega)) ?_, ext_wi _ _ _ _, sm.rf.wi (by simp only [aP]; omega)⟩⟩
  obtain ⟨o, hd, el, nn, hv⟩ := P
  refine ⟨⟨by rw [mi_ne (by omega)]; exact o.1, fun z hz => by rw [mi_ne (by omega)]; exact o.2 z hz⟩, fun t ht => by rw [mi_ne (by omega)]; exact hd t ht, ⟨by rw [mi_ne (by omega)]; exact el.1, fun i hi => by rw [mi_ne (by omega)]; exact el.2.1 i hi, fun t ht => by rw [mi_ne (by omega)]; exact el.2.2 t ht⟩, fun t ht hu => by rw [mi_ne (by omega)]; exact nn t ht hu, fun u hu => ?_⟩
  show _ = nI (if u = x then y else (sP S j).2.2 u)
  by_cases c : u = x
  · subst c; rw [if_pos rfl]; exact mi_eq
  · rw [if_neg c, mi_nj c]; exact hv u hu
theorem M_setValue (W : WS S) (I : InvM h S) (hK : ∀ h1, doneM (oSet S v a b).2 h h1 → K (oSet S v a b).1 h1) : Ev (d + 3) g g m_M_setValue 0 [.ref A_M, .int v, .int a, .int b] [] h (asI K) := by
  have bad : ∀ h1, doneM S h h1 → oSet S v a b = (m1, S) → K m1 h1 := fun h1 dn e => by rw [e] at hK; exact hK h1 dn
  refine w_M_setValue_0 I.1 (S_fnd W I (fun e => bad h (doneM.rf I) (oSet_v e)) (fun j hj hv e h1 dn el => ?_))
  subst hv
  have w := (W.1 j hj).1
  have hl : (pE (sP S j)).length ≤ 64 := elems_len (up := (sP S j).2.1) w.1.2
  refine S_MisVariable fun _ => br_b (fun e1 => bad h1 dn (oSet_a e e1)) (fun e1 => S_MisElement dn.1.1 el.1 hl fun _ => br_nb (fun e2 => bad h1 dn (oSet_b e e2)) (fun e2 => ?_))
  obtain ⟨x, hx⟩ := Option.isSome_iff_exists.mp e1
  obtain ⟨y, hy⟩ := Option.isSome_iff_exists.mp e2
  rw [oSet_s e hx hy] at hK
  obtain ⟨lx, rfl⟩ := ix_some hx
  obtain ⟨ly, rfl⟩ := ix_some hy
  obtain ⟨I1, ee, fr⟩ := dn
  rw [nI_ix3, nI_clamp (by omega), (I1.2.1 j hj).2 x lx]
  refine ⟨vp_in_nI (by omega) (by decide), vp_in_nI (by omega) (by decide), hK _ ⟨InvM.atP W I1 (ext_wi _ _ _ _) (sm.rf.wi (fun q => q.2.2.2 ⟨rfl, by omega, by omega⟩)) ⟨by rw [mi_ne (by decide)]; exact (I1.2.1 j hj).1.1, fun z hz => by rw [mi_ne (by decide)]; exact (I1.2.1 j hj).1.2 z hz⟩ (fun u hu => ?_), ee.trans (ext_wi _ _ _ _), fr.wi (by decide)⟩⟩
  show _ = nI (if u = x then y else (sP S j).2.2 u)
  by_cases c : u = x
  · subst c; rw [if_pos rfl]; exact mi_eq
  · rw [if_neg c, mi_nj (fun (q : 3 * j + u = 3 * j + x) => c (by omega))]; exact (I1.2.1 j hj).2 u hu
end SETV
/-! term -/
def trm (f : FT) (k : Nat) (a : Int32) : Int64 := match rg a 0 3 with
  | none => cL (.negSucc 1)
  | some c => if lg_cmp (lN (f.2.1 k)) (cL (.ofNat 0)) = 0 then cL (.negSucc 5) else if c = 0 then lN (f.2.1 k) else if c = 1 then (f.2.2.1 k).toInt64 else if c = 2 then (f.2.2.2.1 k).toInt64 else (f.2.2.2.2 k).toInt64
def rTerm (S : St) (v a : Int32) : Int64 := match ix v (sD S).1 with
  | none => cL (.negSucc 0)
  | some k => trm (sD S) k a
theorem rTerm_n {S : St} {v a : Int32} (e : ix v (sD S).1 = none) : rTerm S v a = cL (.negSucc 0) := by unfold rTerm; rw [e]
theorem rTerm_s {S : St} {v a : Int32} {k : Nat} (e : ix v (sD S).1 = some k) : rTerm S v a = trm (sD S) k a := by unfold rTerm; rw [e]
theorem trm_n {f : FT} {k : Nat} {a : Int32} (e : rg a 0 3 = none) : trm f k a = cL (.negSucc 1) := by unfold trm; rw [e]
theorem trm_s {f : FT} {k c : Nat} {a : Int32} (e : rg a 0 3 = some c) : trm f k a = if lg_cmp (lN (f.2.1 k)) (cL (.ofNat 0)) = 0 then cL (.negSucc 5) else if c = 0 then lN (f.2.1 k) else if c = 1 then (f.2.2.1 k).toInt64 else if c = 2 then (f.2.2.2.1 k).toInt64 else (f.2.2.2.2 k).toInt64 := by unfold trm; rw [e]
theorem br_ix' {v : Int32} {n : Nat} {A B : Prop} (hn : n < 2147483648) (f : ix v n = none → A) (g : ∀ j, ix v n = some j → B) : (v < 0 → A) ∧ (¬ v < 0 → (v < nI n → B) ∧ (¬ v < nI n → A)) := by
  have k := br_ix (v := v) (n := n) hn f g
  have e : v < nI n ↔ ¬ nI n ≤ v := by rw [Int32.lt_iff_toInt_lt, Int32.le_iff_toInt_le]; omega
  exact ⟨k.1, fun z => ⟨fun q => (k.2 z).2 (e.mp q), fun q => (k.2 z).1 (Classical.byContradiction fun y => q (e.mpr y))⟩⟩
section TERM
variable {S : St} {v a : Int32} {d g : Nat} {h : AH} {K : Int64 → AH → Prop}
theorem C_term (W : WS S) (I : InvC h S) (hK : K (rTerm S v a) h) : Ev d g g m_C_term 0 [.ref A_x, .int v, .int a] [] h (asL K) := by
  have hn := W.2.2.2.2.1.1
  obtain ⟨c0, cc⟩ := I.2.2.2.2.2.1
  refine w_C_term_0 I.1 ?_
  rw [c0]
  refine br_ix' (by omega) (fun e => by rw [rTerm_n e] at hK; exact hK) (fun k e => ?_)
  rw [rTerm_s e] at hK
  obtain ⟨lk, rfl⟩ := ix_some e
  obtain ⟨k1, k2, k3, k4⟩ := cc k lk
  refine br_rg (lo := 0) (hi := 3) (fun e1 => by rw [trm_n e1] at hK; exact hK) (fun c e1 => ?_)
  rw [trm_s e1] at hK
  obtain ⟨-, c3, rfl⟩ := rg_some e1
  have vi : vp_in (nI k) 64 := vp_in_nI (by omega) (by decide)
  rw [nI_clamp (by omega), k1, k2, k3, k4]
  refine ⟨vi, ⟨fun z => ?_, fun z => by rw [if_pos z] at hK; exact hK⟩⟩
  rw [if_neg z] at hK
  refine ⟨fun q => ⟨vi, ?_⟩, fun q => ⟨vi, ?_⟩, fun q => ⟨vi, ?_⟩, fun q => ⟨vi, ?_⟩⟩
  · have := nI_inj (by omega) (by decide) q; subst this
    exact hK
  · have := nI_inj (by omega) (by decide) q; subst this
    exact hK
  · have := nI_inj (by omega) (by decide) q; subst this
    exact hK
  · rw [nI_toInt (by omega)] at q
    have : c = 3 := by omega
    subst this
    exact hK
theorem toInt_m2 : ((m1 : Int32) - nI 1).toInt64.toInt = -2 := by decide
theorem S_Mix {n : Nat} {Q : Int32 → AH → Prop} (hn : n < 1000) (hQ : Q (bI (ix v n).isSome) h) : Ev d g g m_M_isBetween 0 [.long v.toInt64, unk, .long (cL (.ofNat 0)), unk, .long (nI n - nI 1).toInt64, unk] [] h (asI Q) := by
  refine S_btw ?_
  rw [cL_toInt (by decide), Int32.toInt_toInt64, Int32.toInt_toInt64, pk_sub_toInt (by omega) (by decide)]
  refine Eq.mpr (congrArg (fun z => Q (bI z) h) ?_) hQ
  unfold ix
  by_cases c : 0 ≤ v.toInt ∧ v.toInt < n
  · rw [if_pos c, decide_eq_true (by omega)]; rfl
  · rw [if_neg c, decide_eq_false (by omega)]; rfl
theorem M_term (W : WS S) (I : InvM h S) (hK : ∀ h1, doneM S h h1 → K (rTerm S v a) h1) : Ev (d + 1) g g m_M_term 0 [.ref A_M, .int v, .int a] [] h (asL K) := by
  have hn := W.2.2.2.2.1.1
  have hk := hK h (doneM.rf I)
  obtain ⟨c0, cc⟩ := I.2.2.2.2.2.1
  refine w_M_term_0 I.1 ?_
  have go : ∀ Q : Int32 → AH → Prop, Q (bI (ix v (sD S).1).isSome) h → Ev d g g m_M_isBetween 0 [.long v.toInt64, unk, .long (cL (.ofNat 0)), unk, .long (mi h A_M 26 - nI 1).toInt64, unk] [] h (asI Q) := fun Q hQ => by
    rw [c0]
    by_cases z : (sD S).1 = 0
    · rw [if_pos z]
      refine S_btw ?_
      rw [cL_toInt (by decide), toInt_m2, decide_eq_false (by omega)]
      have : ix v (sD S).1 = none := by unfold ix; rw [if_neg (by omega)]
      rw [this] at hQ
      exact hQ
    · rw [if_neg z]
      exact S_Mix (by omega) hQ
  refine go _ fun _ => br_nb (fun e => by rw [rTerm_n (iS_none e)] at hk; exact hk) (fun e2 => ?_)
  obtain ⟨k, e⟩ := Option.isSome_iff_exists.mp e2
  rw [rTerm_s e] at hk
  obtain ⟨lk, rfl⟩ := ix_some e
  obtain ⟨k1, k2, k3, k4⟩ := cc k lk
  refine S_Mrg (lo := 0) (hi := 3) fun _ => br_nb (fun e1 => by rw [trm_n (rS_none e1)] at hk; exact hk) (fun e3 => ?_)
  obtain ⟨c, e1⟩ := Option.isSome_iff_exists.mp e3
  rw [trm_s e1] at hk
  obtain ⟨-, c3, rfl⟩ := rg_some e1
  have vi : vp_in (nI k) 64 := vp_in_nI (by omega) (by decide)
  rw [nI_clamp (by omega), k1, k2, k3, k4]
  refine ⟨vi, ⟨fun z => ?_, fun z => by rw [if_pos z] at hk; exact hk⟩⟩
  rw [if_neg z] at hk
  refine br_ne c 0 rfl rfl (fun q => ⟨vi, by rw [if_pos q] at hk; exact hk⟩) (fun q => ?_)
  rw [if_neg q] at hk
  refine br_ne c 1 rfl rfl (fun q => ⟨vi, by rw [if_pos q] at hk; exact hk⟩) (fun q => ?_)
  rw [if_neg q] at hk
  refine br_ne c 2 rfl rfl (fun q => ⟨vi, by rw [if_pos q] at hk; exact hk⟩) (fun q => ⟨vi, ?_⟩)
  rw [if_neg q] at hk
  exact hk
end TERM
/-! formulaSize -/
def rFsz (S : St) (v : Int32) : Int32 := match ix v 6 with
  | none => m1
  | some i => if (sF S i).1.length = 0 then kE3 else nI (sF S i).1.length
theorem rFsz_n {S : St} {v : Int32} (e : ix v 6 = none) : rFsz S v = m1 := by unfold rFsz; rw [e]
theorem rFsz_s {S : St} {v : Int32} {i : Nat} (e : ix v 6 = some i) : rFsz S v = if (sF S i).1.length = 0 then kE3 else nI (sF S i).1.length := by unfold rFsz; rw [e]
section FSZ
variable {S : St} {v : Int32} {d g : Nat} {h : AH} {K : Int32 → AH → Prop}
theorem S_formulaAt {A : AH → Prop} {B : Nat → AH → Prop} (fC : is_C h) (hn : ix v 6 = none → A h) (hs : ∀ j, j < 6 → v = nI j → is_F h (aF j) → ix v 6 = some j → B (aF j) h) : Ev d g g m_C_formulaAt 0 [.ref A_x, .int v] [] h (asR fun r h1 => Ext h h1 → (r = none → A h1) ∧ (∀ a, r = some a → B a h1)) := by
  refine w_C_formulaAt_0 fC (br_ix (by omega) (fun e => ?_) (fun j e => ?_))
  · exact fun _ => ⟨fun _ => hn e, fun a ha => by cases ha⟩
  · obtain ⟨hj, rfl⟩ := ix_some e
    rw [nI_clamp (by omega)]
    refine ⟨vp_in_nI hj (by decide), aF j, (fC.fs j hj).1, fun _ => ⟨fun z => (by cases z), fun a ha => ?_⟩⟩
    cases ha
    exact hs j hj rfl (fC.fs j hj).2 e
theorem S_rowAt {A : AH → Prop} {B : Nat → AH → Prop} (fC : is_C h) (hn : ix v 3 = none → A h) (hs : ∀ j, j < 3 → v = nI j → is_R h (aR j) → ix v 3 = some j → B (aR j) h) : Ev d g g m_C_rowAt 0 [.ref A_x, .int v] [] h (asR fun r h1 => Ext h h1 → (r = none → A h1) ∧ (∀ a, r = some a → B a h1)) := by
  refine w_C_rowAt_0 fC (br_ix (by omega) (fun e => ?_) (fun j e => ?_))
  · exact fun _ => ⟨fun _ => hn e, fun a ha => by cases ha⟩
  · obtain ⟨hj, rfl⟩ := ix_some e
    rw [nI_clamp (by omega)]
    refine ⟨vp_in_nI hj (by decide), aR j, (fC.rs j hj).1, fun _ => ⟨fun z => (by cases z), fun a ha => ?_⟩⟩
    cases ha
    exact hs j hj rfl (fC.rs j hj).2 e
theorem S_isF {A B : AH → Prop} (hn : ix v 6 = none → A h) (hs : ∀ j, j < 6 → v = nI j → ix v 6 = some j → B h) : Ev d g g m_M_isFormula 0 [.int v] [] h (asI fun x h1 => Ext h h1 → (x = 0 → A h1) ∧ (¬ x = 0 → B h1)) := by
  refine w_M_isFormula_0 (br_ix (by omega) (fun e _ => ⟨fun _ => hn e, fun z => absurd rfl z⟩) (fun j e _ => ⟨fun z => absurd z (by decide), fun _ => hs j (ix_some e).1 (ix_some e).2 e⟩))
theorem S_isF' {A B : AH → Prop} (hn : ix v 6 = none → A h) (hs : ∀ j, j < 6 → v = nI j → ix v 6 = some j → B h) : Ev d g g m_M_isFormula 0 [.int v] [] h (asI fun x h1 => Ext h h1 → (¬ x = 0 → B h1) ∧ (x = 0 → A h1)) := (S_isF hn hs).mI fun x h1 _ k e => (k e).symm
theorem S_isR {A B : AH → Prop} (hn : ix v 3 = none → A h) (hs : ∀ j, j < 3 → v = nI j → ix v 3 = some j → B h) : Ev d g g m_M_isRow 0 [.int v] [] h (asI fun x h1 => Ext h h1 → (x = 0 → A h1) ∧ (¬ x = 0 → B h1)) := by
  refine w_M_isRow_0 (br_ix (by omega) (fun e _ => ⟨fun _ => hn e, fun z => absurd rfl z⟩) (fun j e _ => ⟨fun z => absurd z (by decide), fun _ => hs j (ix_some e).1 (ix_some e).2 e⟩))
theorem S_isR' {A B : AH → Prop} (hn : ix v 3 = none → A h) (hs : ∀ j, j < 3 → v = nI j → ix v 3 = some j → B h) : Ev d g g m_M_isRow 0 [.int v] [] h (asI fun x h1 => Ext h h1 → (¬ x = 0 → B h1) ∧ (x = 0 → A h1)) := (S_isR hn hs).mI fun x h1 _ k e => (k e).symm
theorem C_formulaSize (W : WS S) (I : InvC h S) (hK : K (rFsz S v) h) : Ev (d + 1) g g m_C_formulaSize 0 [.ref A_x, .int v] [] h (asI K) := by
  refine w_C_formulaSize_0 I.1 (S_formulaAt I.1 (fun e => by rw [rFsz_n e] at hK; exact hK) (fun j hj _ ff e => ⟨ff, ?_⟩))
  rw [rFsz_s e] at hK
  have hl := (W.2.2.1 j hj).2.1
  refine w_F_isMissing_0 ff ?_
  rw [(I.2.2.2.1 j hj).1]
  refine br_ne (sF S j).1.length 0 rfl rfl (fun z _ => ⟨fun q => absurd q (by decide), fun _ => ?_⟩) (fun z _ => ⟨fun _ => ?_, fun q => absurd rfl q⟩)
  · rw [if_pos z] at hK; exact hK
  · rw [if_neg z] at hK; exact hK
theorem M_formulaSize (W : WS S) (I : InvM h S) (hK : ∀ h1, doneM S h h1 → K (rFsz S v) h1) : Ev (d + 1) g g m_M_formulaSize 0 [.ref A_M, .int v] [] h (asI K) := by
  have hk := hK h (doneM.rf I)
  refine w_M_formulaSize_0 I.1 (S_isF' (fun e => by rw [rFsz_n e] at hk; exact hk) (fun j hj hv e => ?_))
  subst hv
  rw [rFsz_s e] at hk
  have hl := (W.2.2.1 j hj).2.1
  have he := (W.2.2.1 j hj).1
  rw [nI_clamp (by omega), (I.2.2.2.1 j hj).1, ← he]
  refine ⟨vp_in_nI hj (by decide), br_ne (sF S j).1.length 0 rfl rfl (fun z => ?_) (fun z => ⟨vp_in_nI hj (by decide), ?_⟩)⟩
  · rw [if_pos z] at hk; exact hk
  · rw [if_neg z] at hk; exact hk
end FSZ

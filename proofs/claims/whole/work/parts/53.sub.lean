/-! substitute -/
def sb (x : Nat) (q : List Nat) : List Nat → List Nat
  | [] => []
  | c :: l => (if c = x then q else [c]) ++ sb x q l
theorem sb_len {x : Nat} {q : List Nat} (hq : q ≠ []) : ∀ l, (sb x q l).length = l.length + l.count x * (q.length - 1)
  | [] => by simp [sb]
  | c :: l => by
    have hl := len_ne hq
    show ((if c = x then q else [c]) ++ sb x q l).length = _
    rw [List.length_append, sb_len hq l, List.count_cons]
    by_cases e : c = x
    · rw [if_pos e, if_pos (by simp [e]), Nat.succ_mul]
      show q.length + _ = l.length + 1 + _
      omega
    · rw [if_neg e, if_neg (by simp [e]), Nat.add_zero]
      show 1 + _ = l.length + 1 + _
      omega
theorem sb_count {x v : Nat} {q : List Nat} : ∀ l, (sb x q l).count v = (if v = x then 0 else l.count v) + l.count x * q.count v
  | [] => by simp [sb]
  | c :: l => by
    show ((if c = x then q else [c]) ++ sb x q l).count v = _
    rw [List.count_append, sb_count l, List.count_cons, List.count_cons]
    by_cases e : c = x
    · subst e
      rw [if_pos rfl, if_pos (by simp : (c == c) = true), Nat.succ_mul]
      by_cases e2 : v = c
      · rw [if_pos e2, if_pos e2]; omega
      · rw [if_neg e2, if_neg e2, if_neg (by simp; exact fun z => e2 z.symm)]; omega
    · have e1 : (c == x) = false := by simpa using e
      rw [if_neg e, e1, if_neg (show ¬ (false = true) by decide), Nat.add_zero]
      by_cases e2 : v = x
      · subst e2
        rw [if_pos rfl, if_pos rfl]
        have : [c].count v = 0 := by rw [List.count_cons, if_neg (by simp [e])]; rfl
        omega
      · rw [if_neg e2, if_neg e2]
        have : [c].count v = if (c == v) = true then 1 else 0 := by rw [List.count_cons]; simp
        omega
section RUNS
variable {I : Nat → Nat → Nat} {T : Nat} {env : Nat → Nat}
theorem runC_cons (c : Nat) (l st : List Nat) : runC I T env (c :: l) st = (runC I T env [c] st).bind (runC I T env l) := by
  match c, st with
  | 0, st => rfl
  | 1, st => rfl
  | 2, st => rfl
  | 3, st => rfl
  | 4, st => rfl
  | 5, [] => rfl
  | 5, [_] => rfl
  | 5, _ :: _ :: _ => rfl
  | 6, [] => rfl
  | 6, [_] => rfl
  | 6, _ :: _ :: _ => rfl
  | 7, [] => rfl
  | 7, [_] => rfl
  | 7, _ :: _ :: _ => rfl
  | 8, [] => rfl
  | 8, _ :: _ => rfl
  | k + 9, st => rfl
theorem runM_cons (c : Nat) (l st : List Nat) : runM I T env (c :: l) st = (runM I T env [c] st).bind (runM I T env l) := by
  match c, st with
  | 0, st => rfl
  | 1, st => rfl
  | 2, st => rfl
  | 3, st => rfl
  | 4, st => rfl
  | 5, [] => rfl
  | 5, _ :: _ => rfl
  | 6, [] => rfl
  | 6, [_] => rfl
  | 6, _ :: _ :: _ => rfl
  | 7, [] => rfl
  | 7, [_] => rfl
  | 7, _ :: _ :: _ => rfl
  | 8, [] => rfl
  | 8, [_] => rfl
  | 8, _ :: _ :: _ => rfl
  | k + 9, st => rfl
theorem runC_app : ∀ (l l2 st : List Nat), runC I T env (l ++ l2) st = (runC I T env l st).bind (runC I T env l2)
  | [], l2, st => rfl
  | c :: l, l2, st => by
    rw [List.cons_append, runC_cons, runC_cons c l st]
    cases runC I T env [c] st with
    | none => rfl
    | some s => exact runC_app l l2 s
theorem runM_app : ∀ (l l2 st : List Nat), runM I T env (l ++ l2) st = (runM I T env l st).bind (runM I T env l2)
  | [], l2, st => rfl
  | c :: l, l2, st => by
    rw [List.cons_append, runM_cons, runM_cons c l st]
    cases runM I T env [c] st with
    | none => rfl
    | some s => exact runM_app l l2 s
theorem runC_env {env2 : Nat → Nat} {c : Nat} (h : c < 3 → env c = env2 c) (st : List Nat) : runC I T env [c] st = runC I T env2 [c] st := by
  match c, st, h with
  | 0, st, h => show some (env 0 :: st) = some (env2 0 :: st); rw [h (by decide)]
  | 1, st, h => show some (env 1 :: st) = some (env2 1 :: st); rw [h (by decide)]
  | 2, st, h => show some (env 2 :: st) = some (env2 2 :: st); rw [h (by decide)]
  | 3, st, _ => rfl
  | 4, st, _ => rfl
  | 5, [], _ => rfl
  | 5, [_], _ => rfl
  | 5, _ :: _ :: _, _ => rfl
  | 6, [], _ => rfl
  | 6, [_], _ => rfl
  | 6, _ :: _ :: _, _ => rfl
  | 7, [], _ => rfl
  | 7, [_], _ => rfl
  | 7, _ :: _ :: _, _ => rfl
  | 8, [], _ => rfl
  | 8, _ :: _, _ => rfl
  | k + 9, st, _ => rfl
theorem runM_env {env2 : Nat → Nat} {c : Nat} (h : c < 3 → env c = env2 c) (st : List Nat) : runM I T env [c] st = runM I T env2 [c] st := by
  match c, st, h with
  | 0, st, h => show some (env 0 :: st) = some (env2 0 :: st); rw [h (by decide)]
  | 1, st, h => show some (env 1 :: st) = some (env2 1 :: st); rw [h (by decide)]
  | 2, st, h => show some (env 2 :: st) = some (env2 2 :: st); rw [h (by decide)]
  | 3, st, _ => rfl
  | 4, st, _ => rfl
  | 5, [], _ => rfl
  | 5, _ :: _, _ => rfl
  | 6, [], _ => rfl
  | 6, [_], _ => rfl
  | 6, _ :: _ :: _, _ => rfl
  | 7, [], _ => rfl
  | 7, [_], _ => rfl
  | 7, _ :: _ :: _, _ => rfl
  | 8, [], _ => rfl
  | 8, [_], _ => rfl
  | 8, _ :: _ :: _, _ => rfl
  | k + 9, st, _ => rfl
theorem sb_runC {x y : Nat} {q : List Nat} (hx : x < 3) (hq : ∀ st, runC I T env q st = some (y :: st)) : ∀ l st, runC I T env (sb x q l) st = runC I T (fun u => if u = x then y else env u) l st
  | [], st => rfl
  | c :: l, st => by
    show runC I T env ((if c = x then q else [c]) ++ sb x q l) st = _
    rw [runC_app, runC_cons c l st]
    by_cases e : c = x
    · subst e
      rw [if_pos rfl, hq, runC_leaf (by omega), leaf_env hx, if_pos rfl]
      exact sb_runC hx hq l (y :: st)
    · rw [if_neg e, runC_env (env2 := fun u => if u = x then y else env u) (fun _ => (if_neg e).symm)]
      cases runC I T (fun u => if u = x then y else env u) [c] st with
      | none => rfl
      | some s => exact sb_runC hx hq l s
theorem sb_runM {x y : Nat} {q : List Nat} (hx : x < 3) (hq : ∀ st, runM I T env q st = some (y :: st)) : ∀ l st, runM I T env (sb x q l) st = runM I T (fun u => if u = x then y else env u) l st
  | [], st => rfl
  | c :: l, st => by
    show runM I T env ((if c = x then q else [c]) ++ sb x q l) st = _
    rw [runM_app, runM_cons c l st]
    by_cases e : c = x
    · subst e
      rw [if_pos rfl, hq, runM_leaf (by omega), leaf_env hx, if_pos rfl]
      exact sb_runM hx hq l (y :: st)
    · rw [if_neg e, runM_env (env2 := fun u => if u = x then y else env u) (fun _ => (if_neg e).symm)]
      cases runM I T (fun u => if u = x then y else env u) [c] st with
      | none => rfl
      | some s => exact sb_runM hx hq l s
end RUNS
theorem len_f {p : List Nat × List Nat} (fo : FOK p) (h : p.1 ≠ []) : p.2 ≠ [] := fun z => h (List.length_eq_zero_iff.mp (by rw [fo.1, z]; rfl))
theorem sb_FOK {p q : List Nat × List Nat} {x : Nat} (fp : FOK p) (fq : FOK q) (hp : p.1 ≠ []) (hq : q.1 ≠ []) (hx : x < 3) (hl : (sb x q.1 p.1).length ≤ 60) : FOK (sb x q.1 p.1, sb x q.2 p.2) := by
  refine ⟨?_, hl, fun v hv => ?_, fun _ I T env => ?_⟩
  · show (sb x q.1 p.1).length = (sb x q.2 p.2).length
    rw [sb_len hq, sb_len (len_f fq hq), fp.1, fq.1, fp.2.2.1 x hx]
  · show (sb x q.1 p.1).count v = (sb x q.2 p.2).count v
    rw [sb_count, sb_count, fp.2.2.1 v hv, fp.2.2.1 x hx, fq.2.2.1 v hv]
  · obtain ⟨y, hy⟩ := fq.2.2.2 hq I T env
    obtain ⟨z, hz⟩ := fp.2.2.2 hp I T fun u => if u = x then y else env u
    refine ⟨z, fun st => ⟨?_, ?_⟩⟩
    · show runC I T env (sb x q.1 p.1) st = _
      rw [sb_runC hx fun st => (hy st).1]
      exact (hz st).1
    · show runM I T env (sb x q.2 p.2) st = _
      rw [sb_runM hx fun st => (hy st).2]
      exact (hz st).2
/-! a row of signs put into a formula -/
section REPS
variable {d g m : Nat} {h : AH} {S : St} {Q : AH → Prop}
theorem S_replaceSigns {b n2 : Nat} {l : List Nat} (hm : m < 6) (f : is_F h (aF m)) (fb : hs h b = some (0, n2)) (b1 : b ≠ aF m) (b2 : b ≠ aF m + 1) (hl : l.length ≤ 60) (hl2 : l.length ≤ n2) (hn2 : n2 ≤ 60) (hc : ∀ k, k < l.length → mi h b k = nI (l.getD k 0)) (hQ : ∀ h1, Ext h h1 → same (fun q => q ≠ aF m ∧ q ≠ aF m + 1) h h1 → CFo h1 m l → Q h1) : Ev d g g m_F_replaceSigns 0 [.ref (aF m), .int (nI l.length), .ref b] [] h (asV Q) := by
  refine w_F_replaceSigns_0 f fb ?_
  refine for_up (σ := AH) (fun k hh => Ev d g g m_F_replaceSigns 7 [.ref (aF m), .int (nI l.length), .ref b, .int (nI k)] [] hh (asV Q)) (fun k hh => Ext h hh ∧ same (fun q => q ≠ aF m ∧ q ≠ aF m + 1) h hh ∧ mi hh (aF m) 0 = nI l.length ∧ ∀ y, y < k → mi hh (aF m + 1) y = nI (l.getD y 0)) l.length (fun hh hI => ?_) (fun k hh hk hI ih => ?_) 0 _ (Nat.zero_le _) ?_
  · obtain ⟨e, sa, h0, hr⟩ := hI
    exact w_F_replaceSigns_7 (f.ext e) (e.shp fb) (br_le _ _ rfl rfl (fun _ => hQ hh e sa ⟨h0, hr⟩) (fun z => by omega))
  · obtain ⟨e, sa, h0, hr⟩ := hI
    refine w_F_replaceSigns_7 (f.ext e) (e.shp fb) (br_le _ k rfl rfl (fun z => by omega) (fun _ => ?_))
    rw [nI_clamp (by omega), nI_add, (sa b ⟨b1, b2⟩).1 k, hc k hk]
    refine ⟨vp_in_nI (by omega) (by omega), vp_in_nI (by omega) (by decide), ih _ ⟨e.trans (ext_wi _ _ _ _), sa.wi (fun q => q.2 rfl), by rw [mi_ne (by omega)]; exact h0, fun y hy => ?_⟩⟩
    by_cases ey : y = k
    · subst ey; exact mi_eq
    · rw [mi_nj ey]; exact hr y (by omega)
  · exact ⟨ext_wi _ _ _ _, same.rf.wi (fun q => q.1 rfl), mi_eq, fun y hy => by omega⟩
theorem S_Mstores {l : List Nat} (hm : m < 6) (fM : is_M h) (hl : l.length ≤ 60) (h13 : mi h A_M 13 = nI l.length) (hc : ∀ k, k < l.length → mi h M_made k = nI (l.getD k 0)) (hQ : ∀ h1, Ext h h1 → sm (fun q j => ¬ (q = 81 ∧ j = m) ∧ ¬ (q = 80 ∧ 60 * m ≤ j ∧ j < 60 * m + 60)) h h1 → MFo h1 m l → Q h1) : Ev d g g m_M_stores 0 [.ref A_M, .int (nI m)] [] h (asV Q) := by
  refine w_M_stores_0 fM ⟨vp_in_nI hm (by decide), ?_⟩
  rw [nI_clamp (n := m) (by omega), h13]
  refine for_up (σ := AH) (fun k hh => Ev d g g m_M_stores 12 [.ref A_M, .int (nI m), .int (nI k)] [] hh (asV Q)) (fun k hh => Ext h hh ∧ sm (fun q j => ¬ (q = 81 ∧ j = m) ∧ ¬ (q = 80 ∧ 60 * m ≤ j ∧ j < 60 * m + 60)) h hh ∧ mi hh M_formulaSizes m = nI l.length ∧ ∀ y, y < k → mi hh M_formula (60 * m + y) = nI (l.getD y 0)) l.length (fun hh hI => ?_) (fun k hh hk hI ih => ?_) 0 _ (Nat.zero_le _) ?_
  · obtain ⟨e, sa, h0, hr⟩ := hI
    refine w_M_stores_12 (fM.ext e) ?_
    rw [(sa A_M 13 ⟨fun q => absurd q.1 (by decide), fun q => absurd q.1 (by decide)⟩).1, h13]
    exact br_le _ _ rfl rfl (fun _ => hQ hh e sa ⟨h0, hr⟩) (fun z => by omega)
  · obtain ⟨e, sa, h0, hr⟩ := hI
    refine w_M_stores_12 (fM.ext e) ?_
    rw [(sa A_M 13 ⟨fun q => absurd q.1 (by decide), fun q => absurd q.1 (by decide)⟩).1, h13, nI_ix60, nI_add, nI_clamp (n := k) (by omega), nI_clamp (by omega), (sa M_made k ⟨fun q => absurd q.1 (by decide), fun q => absurd q.1 (by decide)⟩).1, hc k hk]
    refine br_le _ k rfl rfl (fun z => by omega) (fun _ => ⟨vp_in_nI (by omega) (by decide), vp_in_nI (by omega) (by decide), ih _ ⟨e.trans (ext_wi _ _ _ _), sa.wi (fun q => q.2 ⟨rfl, by omega, by omega⟩), by rw [mi_ne (by decide)]; exact h0, fun y hy => ?_⟩⟩)
    by_cases ey : y = k
    · subst ey; exact mi_eq
    · rw [mi_nj (fun (q : 60 * m + y = 60 * m + k) => ey (by omega))]; exact hr y (by omega)
  · exact ⟨ext_wi _ _ _ _, sm.rf.wi (fun q => q.1 ⟨rfl, rfl⟩), mi_eq, fun y hy => by omega⟩
theorem getD_app {L L2 : List Nat} {k : Nat} : (L ++ L2).getD k 0 = if k < L.length then L.getD k 0 else L2.getD (k - L.length) 0 := by
  by_cases c : k < L.length
  · rw [if_pos c, List.getD_eq_getElem?_getD, List.getD_eq_getElem?_getD, List.getElem?_append_left c]
  · rw [if_neg c, List.getD_eq_getElem?_getD, List.getD_eq_getElem?_getD, List.getElem?_append_right (by omega)]
end REPS
def oSub2 (S : St) (i x j t : Nat) : Int32 × St := if (sF S i).1.length = 0 ∨ (sF S j).1.length = 0 then (kE3, S) else if (sb x (sF S j).1 (sF S i).1).length ≤ 60 then (nI (sb x (sF S j).1 (sF S i).1).length, setF S t (sb x (sF S j).1 (sF S i).1, sb x (sF S j).2 (sF S i).2)) else (kE5, S)
def oSub (S : St) (a v b t : Int32) : Int32 × St := match ix a 6, ix v 3, ix b 6, ix t 6 with
  | some i, some x, some j, some l => oSub2 S i x j l
  | _, _, _, _ => (m1, S)
section SUBS
variable {d g : Nat} {h : AH} {S : St} {K : Int32 → AH → Prop} {a v b t : Int32}
theorem oSub_a (e : ix a 6 = none) : oSub S a v b t = (m1, S) := by unfold oSub; rw [e]
theorem oSub_v (e : ix v 3 = none) : oSub S a v b t = (m1, S) := by unfold oSub; rw [e]; cases ix a 6 <;> rfl
theorem oSub_b (e : ix b 6 = none) : oSub S a v b t = (m1, S) := by unfold oSub; rw [e]; cases ix a 6 <;> cases ix v 3 <;> rfl
theorem oSub_t (e : ix t 6 = none) : oSub S a v b t = (m1, S) := by unfold oSub; rw [e]; cases ix a 6 <;> cases ix v 3 <;> cases ix b 6 <;> rfl
theorem oSub_s {i x j l : Nat} (e1 : ix a 6 = some i) (e2 : ix v 3 = some x) (e3 : ix b 6 = some j) (e4 : ix t 6 = some l) : oSub S a v b t = oSub2 S i x j l := by unfold oSub; rw [e1, e2, e3, e4]
theorem WS.atF (W : WS S) {m : Nat} {p : List Nat × List Nat} (fo : FOK p) : WS (setF S m p) := by
  refine ⟨W.1, W.2.1, fun j hj => ?_, W.2.2.2⟩
  rw [sF_set]
  by_cases c : j = m
  · rw [if_pos c]; exact fo
  · rw [if_neg c]; exact W.2.2.1 j hj
theorem WS.sub (W : WS S) : WS (oSub S a v b t).2 := by
  cases e1 : ix a 6 with
  | none => rw [oSub_a e1]; exact W
  | some i =>
    cases e2 : ix v 3 with
    | none => rw [oSub_v e2]; exact W
    | some x =>
      cases e3 : ix b 6 with
      | none => rw [oSub_b e3]; exact W
      | some j =>
        cases e4 : ix t 6 with
        | none => rw [oSub_t e4]; exact W
        | some l =>
          rw [oSub_s e1 e2 e3 e4]
          unfold oSub2
          by_cases c : (sF S i).1.length = 0 ∨ (sF S j).1.length = 0
          · rw [if_pos c]; exact W
          · rw [if_neg c]
            by_cases c2 : (sb x (sF S j).1 (sF S i).1).length ≤ 60
            · rw [if_pos c2]
              exact W.atF (sb_FOK (W.2.2.1 i (ix_some e1).1) (W.2.2.1 j (ix_some e3).1) (ne_len fun z => c (Or.inl z)) (ne_len fun z => c (Or.inr z)) (ix_some e2).1 c2)
            · rw [if_neg c2]; exact W
theorem S_draftSub {i x j : Nat} {Q : AH → Prop} (hi : i < 6) (hx : x < 3) (hj : j < 6) (W : WS S) (I : InvC h S) (hl : (sb x (sF S j).1 (sF S i).1).length ≤ 60) (hQ : ∀ h1, Ext h h1 → same (fun q => q ≠ A_dSig) h h1 → (∀ k, k < (sb x (sF S j).1 (sF S i).1).length → mi h1 A_dSig k = nI ((sb x (sF S j).1 (sF S i).1).getD k 0)) → Q h1) : Ev (d + 1) g g m_C_draftSubstitution 0 [.ref A_x, .ref (aF i), .int (nI x), .ref (aF j)] [] h (asV Q) := by
  have fi := (I.1.fs i hi).2
  have fj := (I.1.fs j hj).2
  have ci := I.2.2.2.1 i hi
  have cj := I.2.2.2.1 j hj
  have li := (W.2.2.1 i hi).2.1
  have lj := (W.2.2.1 j hj).2.1
  have ai : aF i ≠ A_dSig ∧ aF i + 1 ≠ A_dSig ∧ aF j ≠ A_dSig ∧ aF j + 1 ≠ A_dSig := by simp only [aF, A_dSig]; omega
  refine w_C_draftSubstitution_0 I.1 fi fj ?_
  have go : ∀ (rest D : List Nat) (k : Nat) (hh : AH), k + rest.length = (sF S i).1.length → (∀ y, y < rest.length → mi h (aF i + 1) (k + y) = nI (rest.getD y 0)) → (∀ c, c ∈ rest → c < 9) → D ++ sb x (sF S j).1 rest = sb x (sF S j).1 (sF S i).1 → Ext h hh → same (fun q => q ≠ A_dSig) h hh → (∀ y, y < D.length → mi hh A_dSig y = nI (D.getD y 0)) → Ev (d + 1) g g m_C_draftSubstitution 6 [.ref A_x, .ref (aF i), .int (nI x), .ref (aF j), .int (nI D.length), .int (nI k)] [] hh (asV Q) := by
    intro rest
    induction rest with
    | nil =>
      intro D k hh hk _ _ hD ee sa hd
      have e1 : k = (sF S i).1.length := hk
      have e2 : D = sb x (sF S j).1 (sF S i).1 := by rw [← hD]; show D = D ++ []; rw [List.append_nil]
      subst e1
      subst e2
      exact w_C_draftSubstitution_6 (I.1.ext ee) (fi.ext ee) (fj.ext ee) (br_le _ _ (((sa _ ai.1).1 0).trans ci.1) rfl (fun _ => hQ hh ee sa hd) (fun z => by omega))
    | cons c rest ih =>
      intro D k hh hk hs h9 hD ee sa hd
      have hlen : (c :: rest).length = rest.length + 1 := rfl
      rw [hlen] at hk hs
      have s0 : mi h (aF i + 1) k = nI c := hs 0 (by omega)
      have c9 := h9 c (by simp)
      have hs' : ∀ y, y < rest.length → mi h (aF i + 1) (k + 1 + y) = nI (rest.getD y 0) := fun y hy => by
        have := hs (y + 1) (by omega)
        rw [show k + (y + 1) = k + 1 + y by omega] at this
        exact this
      have hD2 : D ++ ((if c = x then (sF S j).1 else [c]) ++ sb x (sF S j).1 rest) = sb x (sF S j).1 (sF S i).1 := hD
      rw [← List.append_assoc] at hD2
      have tl : (D ++ (if c = x then (sF S j).1 else [c])).length ≤ 60 := by
        have e := congrArg List.length hD2
        rw [List.length_append] at e
        omega
      rw [List.length_append] at tl
      refine w_C_draftSubstitution_6 (I.1.ext ee) (fi.ext ee) (fj.ext ee) (br_le _ k (((sa _ ai.1).1 0).trans ci.1) rfl (fun z => by omega) (fun _ => ⟨vp_in_nI (by omega) (by decide), ?_⟩))
      rw [nI_clamp (n := k) (by omega), (sa _ ai.2.1).1 k, s0, nI_add k 1, (sa _ ai.2.2.1).1 0, cj.1]
      refine br_ne c x rfl rfl (fun z => ?_) (fun z => ?_)
      · rw [if_pos z] at tl hD2
        rw [nI_add, nI_clamp (n := 0) (by decide), nI_clamp (n := D.length) (by omega), nI_clamp (n := (sF S j).1.length) (by omega)]
        refine br_le (D.length + (sF S j).1.length) 60 rfl rfl (fun _ => ⟨⟨nI_nl (by decide), nI_nl (by omega), nI_nl (by omega), by omega, by omega⟩, ?_⟩) (fun q => by omega)
        have kk := ih (D ++ (sF S j).1) (k + 1) (wa hh A_dSig (va_cpy (hh.2.1 (aF j + 1)) (hh.2.1 A_dSig) 0 D.length (sF S j).1.length)) (by omega) hs' (fun q hq => h9 q (by simp [hq])) hD2 (ee.trans (ext_wa _ _ _)) (sa.wa (fun q => q rfl)) (fun y hy => ?_)
        · rw [List.length_append] at kk
          exact kk
        · rw [List.length_append] at hy
          rw [mi_wa, if_pos rfl, getD_app]
          show va_cpy (mi hh (aF j + 1)) (mi hh A_dSig) 0 D.length (sF S j).1.length y = _
          by_cases cy : y < D.length
          · rw [if_pos cy, pk_cpy_out (Or.inl cy)]; exact hd y cy
          · rw [if_neg cy, pk_cpy_in (by omega) (by omega), Nat.zero_add, (sa _ ai.2.2.2).1]
            exact cj.2 _ (by omega)
      · rw [if_neg z] at tl hD2
        have tl : D.length + 1 ≤ 60 := tl
        rw [nI_add D.length 1, nI_clamp (n := D.length) (by omega)]
        refine br_le (D.length + 1) 60 rfl rfl (fun _ => ⟨vp_in_nI (by omega) (by decide), vp_in_nI (by omega) (by decide), ?_⟩) (fun q => by omega)
        have kk := ih (D ++ [c]) (k + 1) (wi hh A_dSig D.length (nI c)) (by omega) hs' (fun q hq => h9 q (by simp [hq])) hD2 (ee.trans (ext_wi _ _ _ _)) (sa.wi (fun q => q rfl)) (fun y hy => ?_)
        · rw [List.length_append] at kk
          exact kk
        · have hy : y < D.length + 1 := by rw [List.length_append] at hy; exact hy
          rw [getD_snoc hy]
          by_cases cy : y = D.length
          · rw [if_pos cy, cy]; exact mi_eq
          · rw [if_neg cy, mi_nj cy]; exact hd y (by omega)
  exact go (sF S i).1 [] 0 h (by omega) (fun y hy => by rw [Nat.zero_add]; exact ci.2 y hy) (F_9 (W.2.2.1 i hi)) rfl Ext.rfl' same.rf (fun y hy => by cases hy)
theorem C_substitute (W : WS S) (I : InvC h S) (hK : ∀ h1, doneC (oSub S a v b t).2 h h1 → K (oSub S a v b t).1 h1) : Ev (d + 2) g g m_C_substitute 0 [.ref A_x, .int a, .int v, .int b, .int t] [] h (asI K) := by
  have bad : oSub S a v b t = (m1, S) → K m1 h := fun e => by rw [e] at hK; exact hK h (doneC.rf I)
  refine w_C_substitute_0 I.1 (S_formulaAt I.1 (fun e => ?_) (fun i hi _ fi e1 => ⟨fi, ?_⟩))
  · have kk := bad (oSub_a e)
    exact S_formulaAt I.1 (fun _ => S_formulaAt I.1 (fun _ => kk) (fun l _ _ fp _ => ⟨fp, kk⟩)) (fun j _ _ fj _ => ⟨fj, S_formulaAt I.1 (fun _ => kk) (fun l _ _ fp _ => ⟨fp, kk⟩)⟩)
  refine S_formulaAt I.1 (fun e => ?_) (fun j hj _ fj e3 => ⟨fj, ?_⟩)
  · have kk := bad (oSub_b e)
    exact S_formulaAt I.1 (fun _ => kk) (fun l _ _ fp _ => ⟨fp, kk⟩)
  refine S_formulaAt I.1 (fun e => bad (oSub_t e)) (fun l hl _ fl e4 => ⟨fl, ?_⟩)
  refine S_CisVariable fun _ => br_nb (fun e => bad (oSub_v (iS_none e))) (fun e => ?_)
  obtain ⟨x, e2⟩ := Option.isSome_iff_exists.mp e
  rw [oSub_s e1 e2 e3 e4] at hK
  obtain ⟨lx, rfl⟩ := ix_some e2
  unfold oSub2 at hK
  refine S_Fmiss hi W I (fun z _ => ⟨fun _ => by rw [if_pos (Or.inl z)] at hK; exact hK h (doneC.rf I), fun q => absurd q (by decide)⟩) (fun z _ => ⟨fun q => absurd rfl q, fun _ => ?_⟩)
  refine S_Fmiss hj W I (fun z _ => ⟨fun q => absurd q (by decide), fun _ => by rw [if_pos (Or.inr z)] at hK; exact hK h (doneC.rf I)⟩) (fun z2 _ => ⟨fun _ => ?_, fun q => absurd rfl q⟩)
  have fo := W.2.2.1 i hi
  have fo2 := W.2.2.1 j hj
  rw [if_neg (fun q => q.elim (len_ne z) (len_ne z2))] at hK
  have nl := len_ne z2
  have sl := sb_len (x := x) z2 (sF S i).1
  have c1 : (sF S i).1.count x ≤ 60 := Nat.le_trans List.count_le_length fo.2.1
  have c2 := fo2.2.1
  have c3 := fo.2.1
  have c4 : (sF S i).1.count x * ((sF S j).1.length - 1) ≤ 60 * 60 := Nat.mul_le_mul c1 (by omega)
  refine S_occurrences fi fo.2.1 lx (I.2.2.2.1 i hi) (F_9 fo) fun _ => ?_
  rw [(I.2.2.2.1 i hi).1, (I.2.2.2.1 j hj).1, pk_sub (by omega), pk_mul, nI_add, ← sl]
  refine br_le (sb x (sF S j).1 (sF S i).1).length 60 rfl rfl (fun c => ?_) (fun c => by rw [if_neg (by omega)] at hK; exact hK h (doneC.rf I))
  rw [if_pos c] at hK
  refine S_draftSub hi lx hj W I c fun h1 ee sa hd _ => ?_
  refine S_replaceSigns hl (fl.ext ee) (I.1.ext ee).s_draftSigns (by simp only [aF, A_dSig]; omega) (by simp only [aF, A_dSig]; omega) c c (by decide) hd fun h2 e2 s2 cf _ => hK h2 ⟨InvC.atF hl I (ee.trans e2) ((sa.sm.sub fun q z hq => ?_).trans (s2.sm.sub fun q z hq => hq.2)) cf, ee.trans e2, (sa.sm.sub fun q z hq => ?_).trans (s2.sm.sub fun q z hq => ?_)⟩
  · have := hq.1
    simp only [PCx, A_dSig] at *; omega
  · simp only [A_dSig]; omega
  · simp only [aF]; omega
/-! the reference -/
def MADE (h : AH) (D : List Nat) : Prop := mi h A_M 13 = nI D.length ∧ ∀ y, y < D.length → mi h M_made y = nI (D.getD y 0)
theorem S_Mmakes {D : List Nat} {c : Nat} {Q : AH → Prop} (fM : is_M h) (hD : MADE h D) (hl : D.length < 64) (hQ : ∀ h1, Ext h h1 → sm (fun q j => ¬ (q = 73 ∧ j = 13) ∧ q ≠ 82) h h1 → MADE h1 (D ++ [c]) → Q h1) : Ev d g g m_M_makes 0 [.ref A_M, .int (nI c)] [] h (asV Q) := by
  refine w_M_makes_0 fM ?_
  rw [mi_ne (show A_M ≠ M_made by decide), hD.1, nI_clamp (by omega), nI_add]
  refine ⟨vp_in_nI hl (by decide), hQ _ ((ext_wi _ _ _ _).trans (ext_wi _ _ _ _)) ((sm.rf.wi (fun q => q.2 rfl)).wi (fun q => q.1 ⟨rfl, rfl⟩)) ⟨by rw [mi_eq, List.length_append]; rfl, fun y hy => ?_⟩⟩
  have hy : y < D.length + 1 := by rw [List.length_append] at hy; exact hy
  rw [mi_ne (show M_made ≠ A_M by decide), getD_snoc hy]
  by_cases c : y = D.length
  · rw [if_pos c, c]; exact mi_eq
  · rw [if_neg c, mi_nj c]; exact hD.2 y (by omega)
theorem M_subLoop {i x j l : Nat} (hi : i < 6) (hx : x < 3) (hj : j < 6) (hl : l < 6) (W : WS S) (I : InvM h S) (hL : (sb x (sF S j).2 (sF S i).2).length ≤ 60) (hK : ∀ h1, Ext h h1 → sm (fun q z => ¬ (q = 73 ∧ z = 13) ∧ q ≠ 82) h h1 → MADE h1 (sb x (sF S j).2 (sF S i).2) → Ev d g g m_M_stores 0 [.ref A_M, .int (nI l)] [] h1 (asV fun h2 => Ext h1 h2 → K (mi h2 A_M 13) h2)) : Ev (d + 1) g g m_M_substitute 131 [.ref A_M, .int (nI i), .int (nI x), .int (nI j), .int (nI l), unk, .int (nI 0)] [] (wi h A_M 13 (nI 0)) (asI K) := by
  have ci := I.2.2.2.1 i hi
  have cj := I.2.2.2.1 j hj
  have foi := W.2.2.1 i hi
  have foj := W.2.2.1 j hj
  have li : (sF S i).2.length ≤ 60 := by rw [← foi.1]; exact foi.2.1
  have lj : (sF S j).2.length ≤ 60 := by rw [← foj.1]; exact foj.2.1
  have vi : vp_in (nI i) 6 := vp_in_nI hi (by decide)
  have vj : vp_in (nI j) 6 := vp_in_nI hj (by decide)
  have go : ∀ (rest D : List Nat) (k : Nat) (hh : AH), k + rest.length = (sF S i).2.length → (∀ y, y < rest.length → mi h M_formula (60 * i + (k + y)) = nI (rest.getD y 0)) → (∀ c, c ∈ rest → c < 9) → D ++ sb x (sF S j).2 rest = sb x (sF S j).2 (sF S i).2 → Ext h hh → sm (fun q z => ¬ (q = 73 ∧ z = 13) ∧ q ≠ 82) h hh → MADE hh D → Ev (d + 1) g g m_M_substitute 131 [.ref A_M, .int (nI i), .int (nI x), .int (nI j), .int (nI l), unk, .int (nI k)] [] hh (asI K) := by
    intro rest
    induction rest with
    | nil =>
      intro D k hh hk _ _ hD ee sa hd
      have e1 : k = (sF S i).2.length := hk
      have e2 : D = sb x (sF S j).2 (sF S i).2 := by rw [← hD]; show D = D ++ []; rw [List.append_nil]
      subst e1
      subst e2
      refine w_M_substitute_131 (I.1.ext ee) ⟨vi, ?_⟩
      rw [nI_clamp (n := i) (by omega), (sa M_formulaSizes i ⟨fun q => absurd q.1 (by decide), by decide⟩).1, ci.1]
      exact br_le _ _ rfl rfl (fun _ => hK hh ee sa hd) (fun z => by omega)
    | cons c rest ih =>
      intro D k hh hk hs h9 hD ee sa hd
      have hlen : (c :: rest).length = rest.length + 1 := rfl
      rw [hlen] at hk hs
      have s0 : mi h M_formula (60 * i + k) = nI c := hs 0 (by omega)
      have c9 := h9 c (by simp)
      have hs' : ∀ y, y < rest.length → mi h M_formula (60 * i + (k + 1 + y)) = nI (rest.getD y 0) := fun y hy => by
        have := hs (y + 1) (by omega)
        rw [show k + (y + 1) = k + 1 + y by omega] at this
        exact this
      have hD2 : D ++ ((if c = x then (sF S j).2 else [c]) ++ sb x (sF S j).2 rest) = sb x (sF S j).2 (sF S i).2 := hD
      rw [← List.append_assoc] at hD2
      have tl : (D ++ (if c = x then (sF S j).2 else [c])).length ≤ 60 := by
        have e := congrArg List.length hD2
        rw [List.length_append] at e
        omega
      rw [List.length_append] at tl
      refine w_M_substitute_131 (I.1.ext ee) ⟨vi, ?_⟩
      rw [nI_clamp (n := i) (by omega), (sa M_formulaSizes i ⟨fun q => absurd q.1 (by decide), by decide⟩).1, ci.1, nI_ix60, nI_clamp (n := 60 * i + k) (by omega), (sa M_formula _ ⟨fun q => absurd q.1 (by decide), by decide⟩).1, s0]
      refine br_le _ k rfl rfl (fun z => by omega) (fun _ => ⟨vp_in_nI (by omega) (by decide), br_eq c x rfl rfl (fun z => ?_) (fun z => ?_)⟩)
      · subst z
        rw [if_pos rfl] at tl hD2
        have cp : ∀ (rq D2 : List Nat) (u : Nat) (hg : AH), u + rq.length = (sF S j).2.length → (∀ y, y < rq.length → mi h M_formula (60 * j + (u + y)) = nI (rq.getD y 0)) → D2 ++ rq = D ++ (sF S j).2 → Ext h hg → sm (fun q z => ¬ (q = 73 ∧ z = 13) ∧ q ≠ 82) h hg → MADE hg D2 → Ev (d + 1) g g m_M_substitute 171 [.ref A_M, .int (nI i), .int (nI c), .int (nI j), .int (nI l), unk, .int (nI k), .int (nI c), .int (nI u)] [] hg (asI K) := by
          intro rq
          induction rq with
          | nil =>
            intro D2 u hg hu _ hE eg sg hd2
            have e1 : u = (sF S j).2.length := hu
            have e2 : D2 = D ++ (sF S j).2 := by rw [← hE, List.append_nil]
            subst e1
            subst e2
            refine w_M_substitute_171 (I.1.ext eg) ⟨fun z => absurd rfl z, fun _ => ⟨vj, ?_⟩⟩
            rw [nI_clamp (n := j) (by omega), (sg M_formulaSizes j ⟨fun q => absurd q.1 (by decide), by decide⟩).1, cj.1, nI_add k 1]
            exact br_le _ _ rfl rfl (fun _ => ih _ (k + 1) hg (by omega) hs' (fun q hq => h9 q (by simp [hq])) hD2 eg sg hd2) (fun z => by omega)
          | cons y rq iq =>
            intro D2 u hg hu hsq hE eg sg hd2
            have hlen : (y :: rq).length = rq.length + 1 := rfl
            rw [hlen] at hu hsq
            have t0 : mi h M_formula (60 * j + u) = nI y := hsq 0 (by omega)
            have hsq' : ∀ z, z < rq.length → mi h M_formula (60 * j + (u + 1 + z)) = nI (rq.getD z 0) := fun z hz => by
              have := hsq (z + 1) (by omega)
              rw [show u + (z + 1) = u + 1 + z by omega] at this
              exact this
            have dl : D2.length < 64 := by
              have e := congrArg List.length hE
              rw [List.length_append, List.length_append] at e
              omega
            have hE2 : D2 ++ [y] ++ rq = D ++ (sF S j).2 := by rw [List.append_assoc]; exact hE
            refine w_M_substitute_171 (I.1.ext eg) ⟨fun z => absurd rfl z, fun _ => ⟨vj, ?_⟩⟩
            rw [nI_clamp (n := j) (by omega), (sg M_formulaSizes j ⟨fun q => absurd q.1 (by decide), by decide⟩).1, cj.1, nI_ix60, nI_clamp (n := 60 * j + u) (by omega), (sg M_formula _ ⟨fun q => absurd q.1 (by decide), by decide⟩).1, t0, nI_add u 1]
            refine br_le _ u rfl rfl (fun z => by omega) (fun _ => ⟨vp_in_nI (by omega) (by decide), S_Mmakes (I.1.ext eg) hd2 dl fun h2 e2 s2 hd3 _ => ?_⟩)
            exact iq (D2 ++ [y]) (u + 1) h2 (by omega) hsq' hE2 (eg.trans e2) (sg.trans s2) hd3
        exact cp (sF S j).2 D 0 hh (by omega) (fun y hy => by rw [Nat.zero_add]; exact cj.2 y hy) rfl ee sa hd
      · rw [if_neg z] at tl hD2
        have tl : D.length + 1 ≤ 60 := tl
        refine S_Mmakes (I.1.ext ee) hd (by omega) fun h2 e2 s2 hd2 _ => w_M_substitute_171 (I.1.ext (ee.trans e2)) ⟨fun _ => ?_, fun q => absurd (nI_inj (by omega) (by omega) q) z⟩
        rw [nI_add k 1]
        exact ih (D ++ [c]) (k + 1) h2 (by omega) hs' (fun q hq => h9 q (by simp [hq])) hD2 (ee.trans e2) (sa.trans s2) hd2
  exact go (sF S i).2 [] 0 _ (by omega) (fun y hy => by rw [Nat.zero_add]; exact ci.2 y hy) (F_9m foi) rfl (ext_wi _ _ _ _) (sm.rf.wi (fun q => q.1 ⟨rfl, rfl⟩)) ⟨mi_eq, fun y hy => by cases hy⟩
theorem M_substitute (W : WS S) (I : InvM h S) (hK : ∀ h1, doneM (oSub S a v b t).2 h h1 → K (oSub S a v b t).1 h1) : Ev (d + 2) g g m_M_substitute 0 [.ref A_M, .int a, .int v, .int b, .int t] [] h (asI K) := by
  have bad : oSub S a v b t = (m1, S) → K m1 h := fun e => by rw [e] at hK; exact hK h (doneM.rf I)
  refine w_M_substitute_0 I.1 (S_isF (fun e => bad (oSub_a e)) (fun i hi hv1 e1 => S_MisVariable fun _ => br_b (fun e => bad (oSub_v (iS_none e))) (fun e => S_isF (fun e => bad (oSub_b e)) (fun j hj hv2 e3 => S_isF' (fun e => bad (oSub_t e)) (fun l hl hv3 e4 => ?_)))))
  subst hv1 hv2 hv3
  obtain ⟨x, e2⟩ := Option.isSome_iff_exists.mp e
  rw [oSub_s e1 e2 e3 e4] at hK
  obtain ⟨lx, rfl⟩ := ix_some e2
  unfold oSub2 at hK
  have foi := W.2.2.1 i hi
  have foj := W.2.2.1 j hj
  have vi : vp_in (nI i) 6 := vp_in_nI hi (by decide)
  have vj : vp_in (nI j) 6 := vp_in_nI hj (by decide)
  have ci := I.2.2.2.1 i hi
  have cj := I.2.2.2.1 j hj
  have c2 := foi.2.1
  have c3 := foj.2.1
  rw [nI_clamp (n := i) (by omega), nI_clamp (n := j) (by omega), ci.1, cj.1, ← foi.1, ← foj.1]
  refine ⟨vi, br_eq (sF S i).1.length 0 rfl rfl (fun z => by rw [if_pos (Or.inl z)] at hK; exact hK h (doneM.rf I)) (fun z => ⟨vj, br_ne (sF S j).1.length 0 rfl rfl (fun z2 => by rw [if_pos (Or.inr z2)] at hK; exact hK h (doneM.rf I)) (fun z2 => ⟨vi, ?_⟩)⟩)⟩
  rw [if_neg (fun q => q.elim z z2)] at hK
  have fk := sb_len (x := x) (ne_len z2) (sF S i).1
  have c1 : (sF S i).1.count x ≤ 60 := Nat.le_trans List.count_le_length foi.2.1
  have c4 : (sF S i).1.count x * ((sF S j).1.length - 1) ≤ 60 * 60 := Nat.mul_le_mul c1 (by omega)
  have li : (sF S i).2.length ≤ 60 := by rw [← foi.1]; exact foi.2.1
  have lenE : (sb x (sF S j).2 (sF S i).2).length = (sb x (sF S j).1 (sF S i).1).length := by
    rw [fk, sb_len (len_f foj (ne_len z2)), foi.1, foj.1, foi.2.2.1 x lx]
  have go : ∀ (rest : List Nat) (k acc : Nat), k + rest.length = (sF S i).2.length → (∀ y, y < rest.length → mi h M_formula (60 * i + (k + y)) = nI (rest.getD y 0)) → (∀ c, c ∈ rest → c < 9) → acc + rest.count x * ((sF S j).1.length - 1) = (sb x (sF S j).1 (sF S i).1).length → Ev (d + 2) g g m_M_substitute 63 [.ref A_M, .int (nI i), .int (nI x), .int (nI j), .int (nI l), .int (nI acc), .int (nI k)] [] h (asI K) := by
    intro rest
    induction rest with
    | nil =>
      intro k acc hk _ _ ha
      have e1 : k = (sF S i).2.length := hk
      have e2 : acc = (sb x (sF S j).1 (sF S i).1).length := by rw [← ha]; simp
      subst e1
      subst e2
      refine w_M_substitute_63 I.1 ⟨vi, ?_⟩
      rw [nI_clamp (n := i) (by omega), ci.1]
      refine br_le _ _ rfl rfl (fun _ => br_le (sb x (sF S j).1 (sF S i).1).length 60 rfl rfl (fun c => ?_) (fun c => by rw [if_neg (by omega)] at hK; exact hK h (doneM.rf I))) (fun z => by omega)
      rw [if_pos c] at hK
      refine M_subLoop hi lx hj hl W I (by rw [lenE]; exact c) fun h1 ee sa hd => ?_
      refine S_Mstores hl (I.1.ext ee) (by rw [lenE]; exact c) hd.1 hd.2 fun h2 e2 s2 mf _ => ?_
      rw [(s2 A_M 13 ⟨fun q => absurd q.1 (by decide), fun q => absurd q.1 (by decide)⟩).1, hd.1, lenE]
      refine hK h2 ⟨InvM.atF W I (ee.trans e2) ((sa.sub fun q z hq => ?_).trans (s2.sub fun q z hq => hq.2)) mf, ee.trans e2, (sa.sub fun q z hq => ?_).trans (s2.sub fun q z hq => ?_)⟩
      · have := hq.1
        simp only [PMx, M_size, M_elements, M_numberOf, M_made, M_pending, M_given, M_stack, M_map, M_moved, M_up] at this
        omega
      · omega
      · omega
    | cons c rest ih =>
      intro k acc hk hs h9 ha
      have hlen : (c :: rest).length = rest.length + 1 := rfl
      rw [hlen] at hk hs
      have s0 : mi h M_formula (60 * i + k) = nI c := hs 0 (by omega)
      have c9 := h9 c (by simp)
      have hs' : ∀ y, y < rest.length → mi h M_formula (60 * i + (k + 1 + y)) = nI (rest.getD y 0) := fun y hy => by
        have := hs (y + 1) (by omega)
        rw [show k + (y + 1) = k + 1 + y by omega] at this
        exact this
      rw [List.count_cons] at ha
      refine w_M_substitute_63 I.1 ⟨vi, ?_⟩
      rw [nI_clamp (n := i) (by omega), ci.1, nI_ix60, nI_clamp (n := 60 * i + k) (by omega), s0, nI_clamp (n := j) (by omega), cj.1, ← foj.1, pk_sub (by omega), nI_add acc 0, nI_add acc _, nI_add k 1]
      refine br_le _ k rfl rfl (fun z => by omega) (fun _ => ⟨vp_in_nI (by omega) (by decide), br_ne c x rfl rfl (fun q => ⟨vj, ?_⟩) (fun q => ?_)⟩)
      · refine ih (k + 1) _ (by omega) hs' (fun q hq => h9 q (by simp [hq])) ?_
        rw [if_pos (by simp [q]), Nat.succ_mul] at ha
        omega
      · refine ih (k + 1) _ (by omega) hs' (fun q hq => h9 q (by simp [hq])) ?_
        rw [if_neg (by simp [q]), Nat.add_zero] at ha
        omega
  exact go (sF S i).2 0 _ (by omega) (fun y hy => by rw [Nat.zero_add]; exact ci.2 y hy) (F_9m foi) (by rw [fk, foi.2.2.1 x lx])
end SUBS

/-! rows: allocate, put, rowElement, copyElements, storeElements -/
abbrev kE8 : Int32 := cI (.negSucc 7)
abbrev kE9 : Int32 := cI (.negSucc 8)
abbrev kE10 : Int32 := cI (.negSucc 9)
abbrev kE11 : Int32 := cI (.negSucc 10)
abbrev kMin : Int64 := cL (.negSucc 9223372036854775807)
def nar (t : Nat) (v : Int32) : Int32 := if t = 0 then v.toInt8.toInt32 else if t = 1 then v.toInt16.toInt32 else v
theorem br_rg2 {v : Int32} {lo hi : Nat} {A B : Prop} (f : rg v lo hi = none → B) (g : ∀ j, rg v lo hi = some j → A) (hl : lo < 2147483648 := by decide) (hh : hi < 2147483648 := by decide) : (v < nI lo → B) ∧ (¬ v < nI lo → (nI hi < v → B) ∧ (¬ nI hi < v → A)) := by
  have h1 : nI hi < v ↔ ¬ v ≤ nI hi := by rw [Int32.lt_iff_toInt_lt, Int32.le_iff_toInt_le]; omega
  have k := br_rg (v := v) (lo := lo) (hi := hi) f g hl hh
  exact ⟨k.1, fun z => ⟨fun q => (k.2 z).2 (h1.mp q), fun q => (k.2 z).1 (Classical.byContradiction fun y => q (h1.mpr y))⟩⟩
theorem br_len {v : Int32} {A B C : Prop} (f : ∀ j, rg v 0 30 = some j → A) (g : rg v 0 30 = none → v.toInt < 0 → B) (c : rg v 0 30 = none → ¬ v.toInt < 0 → C) : (v ≤ nI 30 → (0 ≤ v → A) ∧ (¬ 0 ≤ v → B)) ∧ (¬ v ≤ nI 30 → C) := by
  have h0 : (0 : Int32) ≤ v ↔ 0 ≤ v.toInt := Int32.le_iff_toInt_le
  have h1 : v ≤ nI 30 ↔ v.toInt ≤ 30 := by rw [Int32.le_iff_toInt_le, nI_toInt (by decide)]; rfl
  refine ⟨fun z => ⟨fun y => f v.toInt.toNat ?_, fun y => g ?_ ?_⟩, fun z => c ?_ ?_⟩
  · have a1 := h1.mp z
    have a2 := h0.mp y
    unfold rg
    rw [if_pos (by omega)]
  · have a2 : ¬ 0 ≤ v.toInt := fun q => y (h0.mpr q)
    unfold rg
    rw [if_neg (by omega)]
  · have a2 : ¬ 0 ≤ v.toInt := fun q => y (h0.mpr q)
    omega
  · have a1 : ¬ v.toInt ≤ 30 := fun q => z (h1.mpr q)
    unfold rg
    rw [if_neg (by omega)]
  · have a1 : ¬ v.toInt ≤ 30 := fun q => z (h1.mpr q)
    omega
theorem m1_neg : ¬ (0 : Int32) ≤ m1 := by decide
theorem m1_lt : (m1 : Int32) < 0 := by decide
theorem nI_nn {n : Nat} (h : n < 2147483648) : (0 : Int32) ≤ nI n := nI_pos' h
theorem nI_nl {n : Nat} (h : n < 2147483648) : ¬ nI n < (0 : Int32) := nI_pos h
section ROWL
variable {d g r : Nat} {h : AH} {S : St} {K : Int32 → AH → Prop}
theorem S_missN (f : is_R h (aR r)) (e : mi h (aR r) 1 = m1) (hK : K (nI 1) h) : Ev d g g m_R_isMissing 0 [.ref (aR r)] [] h (asI K) := by
  refine w_R_isMissing_0 f ?_
  rw [e]
  exact ⟨fun z => absurd z m1_neg, fun _ => hK⟩
theorem S_missS {n : Nat} (f : is_R h (aR r)) (e : mi h (aR r) 1 = nI n) (hn : n ≤ 30) (hK : K (nI 0) h) : Ev d g g m_R_isMissing 0 [.ref (aR r)] [] h (asI K) := by
  refine w_R_isMissing_0 f ?_
  rw [e]
  exact ⟨fun _ => hK, fun z => absurd (nI_nn (by omega)) z⟩
theorem S_hasIndex {n : Nat} {v : Int32} (f : is_R h (aR r)) (e : mi h (aR r) 1 = nI n) (hn : n ≤ 30) (hK : K (bI (ix v n).isSome) h) : Ev d g g m_R_hasIndex 0 [.ref (aR r), .int v] [] h (asI K) := by
  refine w_R_hasIndex_0 f ?_
  rw [e]
  exact br_ix (by omega) (fun e => by rw [e] at hK; exact hK) (fun j e => by rw [e] at hK; exact hK)
theorem S_narrowed {t : Nat} {v : Int32} (f : is_R h (aR r)) (e : mi h (aR r) 0 = nI t) (ht : t < 3) (hK : K (nar t v) h) : Ev d g g m_R_narrowed 0 [.ref (aR r), .int v] [] h (asI K) := by
  refine w_R_narrowed_0 f ?_
  rw [e]
  unfold nar at hK
  refine br_ne t 0 rfl rfl (fun z => by rw [if_pos z] at hK; exact hK) (fun z => ?_)
  rw [if_neg z] at hK
  exact br_ne t 1 rfl rfl (fun z => by rw [if_pos z] at hK; exact hK) (fun z => by rw [if_neg z] at hK; exact hK)
theorem nI_ix30 {i x : Nat} : nI 30 * nI i + nI x = nI (30 * i + x) := by rw [pk_mul, nI_add]
theorem S_Mputs {t i : Nat} {v : Int32} {Q : AH → Prop} (fM : is_M h) (hr : r < 3) (hi : i < 30) (e : mi h M_rowType r = nI t) (ht : t < 3) (hQ : Q (wi h M_rows (30 * r + i) (nar t v))) : Ev d g g m_M_puts 0 [.ref A_M, .int (nI r), .int (nI i), .int v] [] h (asV Q) := by
  refine w_M_puts_0 fM ?_
  rw [nI_ix30, nI_clamp (n := r) (by omega), nI_clamp (n := 30 * r + i) (by omega), e]
  have v1 : vp_in (nI r) 3 := vp_in_nI hr (by decide)
  have v2 : vp_in (nI (30 * r + i)) 90 := vp_in_nI (by omega) (by decide)
  unfold nar at hQ
  refine ⟨v1, br_ne t 0 rfl rfl (fun z => ⟨v2, by rw [if_pos z] at hQ; exact hQ⟩) (fun z => ⟨v1, ?_⟩)⟩
  rw [if_neg z] at hQ
  exact br_ne t 1 rfl rfl (fun z => ⟨v2, by rw [if_pos z] at hQ; exact hQ⟩) (fun z => ⟨v2, by rw [if_neg z] at hQ; exact hQ⟩)
theorem rowC (I : InvC h S) (hr : r < 3) : CR h r (sR S r) := I.2.2.2.2.2.2.1 r hr
theorem rowCn (I : InvC h S) (hr : r < 3) (e : sR S r = none) : mi h (aR r) 1 = m1 := by
  have c := rowC I hr
  rw [e] at c
  exact c
theorem rowCs {t n : Nat} {f : Nat → Int32} (I : InvC h S) (hr : r < 3) (e : sR S r = some (t, n, f)) : mi h (aR r) 0 = nI t ∧ mi h (aR r) 1 = nI n ∧ ∀ k, k < n → mi h (aR r + 1) k = f k := by
  have c := rowC I hr
  rw [e] at c
  exact c
theorem rowMn (I : InvM h S) (hr : r < 3) (e : sR S r = none) : mi h M_rowType r = m1 := by
  have c : MR h r (sR S r) := I.2.2.2.2.2.2.1 r hr
  rw [e] at c
  exact c
theorem rowMs {t n : Nat} {f : Nat → Int32} (I : InvM h S) (hr : r < 3) (e : sR S r = some (t, n, f)) : mi h M_rowType r = nI t ∧ mi h M_rowLength r = nI n ∧ ∀ k, k < n → mi h M_rows (30 * r + k) = f k := by
  have c : MR h r (sR S r) := I.2.2.2.2.2.2.1 r hr
  rw [e] at c
  exact c
theorem WS.atR (W : WS S) {t n : Nat} {f : Nat → Int32} (ht : t < 3) (hn : n ≤ 30) : WS (setR S r (some (t, n, f))) := by
  refine ⟨W.1, W.2.1, W.2.2.1, W.2.2.2.1, W.2.2.2.2.1, fun q t' n' f' hq e => ?_, W.2.2.2.2.2.2⟩
  rw [sR_set] at e
  by_cases c : q = r
  · rw [if_pos c] at e
    injection e with e1
    injection e1 with e2 e3
    injection e3 with e4 e5
    omega
  · rw [if_neg c] at e
    exact W.2.2.2.2.2.1 q t' n' f' hq e
end ROWL
/-! allocate -/
def oAll (S : St) (v a b : Int32) : Int32 × St := match ix v 3 with
  | none => (m1, S)
  | some r => match rg a 0 2 with
    | none => (kE2, S)
    | some t => match rg b 0 30 with
      | some n => (nI n, setR S r (some (t, n, fun _ => nI 0)))
      | none => (if b.toInt < 0 then kE11 else kE2, S)
section ALL
variable {d g : Nat} {h : AH} {S : St} {K : Int32 → AH → Prop} {v a b : Int32}
theorem oAll_v (e : ix v 3 = none) : oAll S v a b = (m1, S) := by unfold oAll; rw [e]
theorem oAll_a {r : Nat} (e : ix v 3 = some r) (e1 : rg a 0 2 = none) : oAll S v a b = (kE2, S) := by unfold oAll; rw [e, e1]
theorem oAll_b {r t : Nat} (e : ix v 3 = some r) (e1 : rg a 0 2 = some t) (e2 : rg b 0 30 = none) : oAll S v a b = (if b.toInt < 0 then kE11 else kE2, S) := by unfold oAll; rw [e, e1, e2]
theorem oAll_s {r t n : Nat} (e : ix v 3 = some r) (e1 : rg a 0 2 = some t) (e2 : rg b 0 30 = some n) : oAll S v a b = (nI n, setR S r (some (t, n, fun _ => nI 0))) := by unfold oAll; rw [e, e1, e2]
theorem WS.all (W : WS S) : WS (oAll S v a b).2 := by
  cases e : ix v 3 with
  | none => rw [oAll_v e]; exact W
  | some r =>
    cases e1 : rg a 0 2 with
    | none => rw [oAll_a e e1]; exact W
    | some t =>
      cases e2 : rg b 0 30 with
      | none => rw [oAll_b e e1 e2]; exact W
      | some n => rw [oAll_s e e1 e2]; exact W.atR (by have := (rg_some e1).2.1; omega) (rg_some e2).2.1
theorem C_allocate (I : InvC h S) (hK : ∀ h1, doneC (oAll S v a b).2 h h1 → K (oAll S v a b).1 h1) : Ev (d + 1) g g m_C_allocate 0 [.ref A_x, .int v, .int a, .int b] [] h (asI K) := by
  refine w_C_allocate_0 I.1 (S_rowAt I.1 (fun e => by rw [oAll_v e] at hK; exact hK h (doneC.rf I)) (fun r hr _ fr e => ⟨fr, ?_⟩))
  refine br_rg2 (lo := 0) (hi := 2) (fun e1 => by rw [oAll_a e e1] at hK; exact hK h (doneC.rf I)) (fun t e1 => ?_)
  refine br_len (fun n e2 => ?_) (fun e2 z => by rw [oAll_b e e1 e2, if_pos z] at hK; exact hK h (doneC.rf I)) (fun e2 z => by rw [oAll_b e e1 e2, if_neg z] at hK; exact hK h (doneC.rf I))
  rw [oAll_s e e1 e2] at hK
  obtain ⟨-, t2, rfl⟩ := rg_some e1
  obtain ⟨-, n30, rfl⟩ := rg_some e2
  refine w_R_replaceRow_0 fr ?_
  refine for_up (σ := AH) (fun k hh => Ev d g g m_R_replaceRow 12 [.ref (aR r), unk, unk, .int (nI k)] [] hh (asV fun h2 => Ext h h2 → K (nI n) h2)) (fun k hh => Ext h hh ∧ same (fun q => q ≠ aR r ∧ q ≠ aR r + 1) h hh ∧ (mi hh (aR r) 0 = nI t ∧ mi hh (aR r) 1 = nI n) ∧ ∀ y, y < k → mi hh (aR r + 1) y = nI 0) 30 (fun hh hI => ?_) (fun k hh hk hI ih => ?_) 0 _ (Nat.zero_le _) ?_
  · obtain ⟨ee, sa, hm, hz⟩ := hI
    refine w_R_replaceRow_12 (fr.ext ee) (br_le 30 30 rfl rfl (fun _ _ => hK hh ⟨InvC.atR I ee (sa.sm.sub fun q j hq => hq.2) ⟨hm.1, hm.2, fun y hy => hz y (by omega)⟩, ee, sa.sm.sub fun q j hq => ?_⟩) (fun z => by omega))
    simp only [aR]; omega
  · obtain ⟨ee, sa, hm, hz⟩ := hI
    refine w_R_replaceRow_12 (fr.ext ee) (br_le 30 k rfl rfl (fun z => by omega) (fun _ => ⟨vp_in_nI hk (by decide), ?_⟩))
    rw [nI_add, nI_clamp (by omega)]
    refine ih _ ⟨ee.trans (ext_wi _ _ _ _), sa.wi (fun q => q.2 rfl), ⟨by rw [mi_ne (by omega)]; exact hm.1, by rw [mi_ne (by omega)]; exact hm.2⟩, fun y hy => ?_⟩
    by_cases c : y = k
    · subst c; exact mi_eq
    · rw [mi_nj c]; exact hz y (by omega)
  · exact ⟨(ext_wi _ _ _ _).trans (ext_wi _ _ _ _), (same.rf.wi (fun q => q.1 rfl)).wi (fun q => q.1 rfl), ⟨by rw [mi_nj (by decide), mi_eq], mi_eq⟩, fun y hy => by omega⟩
theorem M_allocate (W : WS S) (I : InvM h S) (hK : ∀ h1, doneM (oAll S v a b).2 h h1 → K (oAll S v a b).1 h1) : Ev (d + 1) g g m_M_allocate 0 [.ref A_M, .int v, .int a, .int b] [] h (asI K) := by
  refine w_M_allocate_0 I.1 (S_isR' (fun e => by rw [oAll_v e] at hK; exact hK h (doneM.rf I)) (fun r hr hv e => ?_))
  subst hv
  refine S_Mrg (lo := 0) (hi := 2) fun _ => br_b (fun e1 => by rw [oAll_a e (rS_none e1)] at hK; exact hK h (doneM.rf I)) (fun e3 => ?_)
  obtain ⟨t, e1⟩ := Option.isSome_iff_exists.mp e3
  refine br_len (fun n e2 => ?_) (fun e2 z => by rw [oAll_b e e1 e2, if_pos z] at hK; exact hK h (doneM.rf I)) (fun e2 z => by rw [oAll_b e e1 e2, if_neg z] at hK; exact hK h (doneM.rf I))
  rw [oAll_s e e1 e2] at hK
  obtain ⟨-, t2, rfl⟩ := rg_some e1
  obtain ⟨-, n30, rfl⟩ := rg_some e2
  rw [nI_clamp (n := r) (by omega)]
  refine ⟨vp_in_nI hr (by decide), vp_in_nI hr (by decide), ?_⟩
  refine for_up (σ := AH) (fun k hh => Ev (d + 1) g g m_M_allocate 54 [.ref A_M, .int (nI r), unk, .int (nI n), .int (nI k)] [] hh (asI K)) (fun k hh => Ext h hh ∧ sm (fun q j => ¬ (q = 94 ∧ j = r) ∧ ¬ (q = 95 ∧ j = r) ∧ ¬ (q = 92 ∧ 30 * r ≤ j ∧ j < 30 * r + 30)) h hh ∧ (mi hh M_rowType r = nI t ∧ mi hh M_rowLength r = nI n) ∧ ∀ y, y < k → mi hh M_rows (30 * r + y) = nI 0) n (fun hh hI => ?_) (fun k hh hk hI ih => ?_) 0 _ (Nat.zero_le _) ?_
  · obtain ⟨ee, sa, hm, hz⟩ := hI
    refine w_M_allocate_54 (I.1.ext ee) (br_le n n rfl rfl (fun _ => hK hh ⟨InvM.atR W I ee (sa.sub fun q j hq => hq.2) ⟨hm.1, hm.2, hz⟩, ee, sa.sub fun q j hq => ?_⟩) (fun z => by omega))
    omega
  · obtain ⟨ee, sa, hm, hz⟩ := hI
    refine w_M_allocate_54 (I.1.ext ee) (br_le n k rfl rfl (fun z => by omega) (fun _ => ?_))
    rw [nI_ix30, nI_add, nI_clamp (by omega)]
    refine ⟨vp_in_nI (by omega) (by decide), ih _ ⟨ee.trans (ext_wi _ _ _ _), sa.wi (fun q => q.2.2 ⟨rfl, by omega, by omega⟩), ⟨by rw [mi_ne (by decide)]; exact hm.1, by rw [mi_ne (by decide)]; exact hm.2⟩, fun y hy => ?_⟩⟩
    by_cases c : y = k
    · subst c; exact mi_eq
    · rw [mi_nj (fun (q : 30 * r + y = 30 * r + k) => c (by omega))]; exact hz y (by omega)
  · exact ⟨(ext_wi _ _ _ _).trans (ext_wi _ _ _ _), (sm.rf.wi (fun q => q.1 ⟨rfl, rfl⟩)).wi (fun q => q.2.1 ⟨rfl, rfl⟩), ⟨by rw [mi_ne (by decide), mi_eq], mi_eq⟩, fun y hy => by omega⟩
end ALL
/-! put, rowElement -/
def oPut2 (S : St) (r t n : Nat) (f : Nat → Int32) (a b : Int32) : Int32 × St := match ix a n with
  | none => (kE10, S)
  | some k => (nI 1, setR S r (some (t, n, fun j => if j = k then nar t b else f j)))
def oPut (S : St) (v a b : Int32) : Int32 × St := match ix v 3 with
  | none => (m1, S)
  | some r => match sR S r with
    | none => (kE8, S)
    | some (t, n, f) => oPut2 S r t n f a b
def rRow2 (n : Nat) (f : Nat → Int32) (a : Int32) : Int64 := match ix a n with
  | none => kMin
  | some k => (f k).toInt64
def rRow (S : St) (v a : Int32) : Int64 := match ix v 3 with
  | none => kMin
  | some r => match sR S r with
    | none => kMin
    | some (_, n, f) => rRow2 n f a
section PUTR
variable {d g : Nat} {h : AH} {S : St} {K : Int32 → AH → Prop} {Q : Int64 → AH → Prop} {v a b : Int32} {r t n : Nat} {f : Nat → Int32}
theorem oPut_v (e : ix v 3 = none) : oPut S v a b = (m1, S) := by unfold oPut; rw [e]
theorem oPut_n (e : ix v 3 = some r) (e1 : sR S r = none) : oPut S v a b = (kE8, S) := by unfold oPut; rw [e]; show (match sR S r with | none => (kE8, S) | some (t, n, f) => oPut2 S r t n f a b) = _; rw [e1]
theorem oPut_s (e : ix v 3 = some r) (e1 : sR S r = some (t, n, f)) : oPut S v a b = oPut2 S r t n f a b := by unfold oPut; rw [e]; show (match sR S r with | none => (kE8, S) | some (t, n, f) => oPut2 S r t n f a b) = _; rw [e1]
theorem oPut2_n (e : ix a n = none) : oPut2 S r t n f a b = (kE10, S) := by unfold oPut2; rw [e]
theorem oPut2_s {k : Nat} (e : ix a n = some k) : oPut2 S r t n f a b = (nI 1, setR S r (some (t, n, fun j => if j = k then nar t b else f j))) := by unfold oPut2; rw [e]
theorem rRow_v (e : ix v 3 = none) : rRow S v a = kMin := by unfold rRow; rw [e]
theorem rRow_n (e : ix v 3 = some r) (e1 : sR S r = none) : rRow S v a = kMin := by unfold rRow; rw [e]; show (match sR S r with | none => kMin | some (_, n, f) => rRow2 n f a) = _; rw [e1]
theorem rRow_s (e : ix v 3 = some r) (e1 : sR S r = some (t, n, f)) : rRow S v a = rRow2 n f a := by unfold rRow; rw [e]; show (match sR S r with | none => kMin | some (_, n, f) => rRow2 n f a) = _; rw [e1]
theorem rRow2_n (e : ix a n = none) : rRow2 n f a = kMin := by unfold rRow2; rw [e]
theorem rRow2_s {k : Nat} (e : ix a n = some k) : rRow2 n f a = (f k).toInt64 := by unfold rRow2; rw [e]
theorem WS.put (W : WS S) : WS (oPut S v a b).2 := by
  cases e : ix v 3 with
  | none => rw [oPut_v e]; exact W
  | some r =>
    cases e1 : sR S r with
    | none => rw [oPut_n e e1]; exact W
    | some p =>
      obtain ⟨t, n, f⟩ := p
      rw [oPut_s e e1]
      have wr := W.2.2.2.2.2.1 r t n f (ix_some e).1 e1
      cases e2 : ix a n with
      | none => rw [oPut2_n e2]; exact W
      | some k => rw [oPut2_s e2]; exact W.atR wr.1 wr.2
theorem C_put (W : WS S) (I : InvC h S) (hK : ∀ h1, doneC (oPut S v a b).2 h h1 → K (oPut S v a b).1 h1) : Ev (d + 1) g g m_C_put 0 [.ref A_x, .int v, .int a, .int b] [] h (asI K) := by
  refine w_C_put_0 I.1 (S_rowAt I.1 (fun e => by rw [oPut_v e] at hK; exact hK h (doneC.rf I)) (fun r hr _ fr e => ⟨fr, ?_⟩))
  cases e1 : sR S r with
  | none =>
    rw [oPut_n e e1] at hK
    exact S_missN fr (rowCn I hr e1) fun _ => ⟨fun z => absurd z (by decide), fun _ => hK h (doneC.rf I)⟩
  | some p =>
    obtain ⟨t, n, f⟩ := p
    rw [oPut_s e e1] at hK
    have wr := W.2.2.2.2.2.1 r t n f hr e1
    obtain ⟨c1, c2, c3⟩ := rowCs I hr e1
    refine S_missS fr c2 wr.2 fun _ => ⟨fun _ => ?_, fun z => absurd rfl z⟩
    refine S_hasIndex fr c2 wr.2 fun _ => br_nb (fun e2 => by rw [oPut2_n (iS_none e2)] at hK; exact hK h (doneC.rf I)) (fun e2 => ?_)
    obtain ⟨k, e3⟩ := Option.isSome_iff_exists.mp e2
    rw [oPut2_s e3] at hK
    obtain ⟨lk, rfl⟩ := ix_some e3
    refine S_narrowed fr c1 wr.1 fun _ => ?_
    rw [nI_clamp (by omega)]
    refine ⟨vp_in_nI (by omega) (by decide), hK _ ⟨InvC.atR I (ext_wi _ _ _ _) (sm.rf.wi (fun q => q.2.2 rfl)) ⟨by rw [mi_ne (by omega)]; exact c1, by rw [mi_ne (by omega)]; exact c2, fun j hj => ?_⟩, ext_wi _ _ _ _, sm.rf.wi (by simp only [aR]; omega)⟩⟩
    show _ = if j = k then nar t b else f j
    by_cases c : j = k
    · subst c; rw [if_pos rfl]; exact mi_eq
    · rw [if_neg c, mi_nj c]; exact c3 j hj
theorem M_put (W : WS S) (I : InvM h S) (hK : ∀ h1, doneM (oPut S v a b).2 h h1 → K (oPut S v a b).1 h1) : Ev (d + 1) g g m_M_put 0 [.ref A_M, .int v, .int a, .int b] [] h (asI K) := by
  refine w_M_put_0 I.1 (S_isR' (fun e => by rw [oPut_v e] at hK; exact hK h (doneM.rf I)) (fun r hr hv e => ⟨?_, ?_⟩))
  · subst hv; exact vp_in_nI hr (by decide)
  subst hv
  rw [nI_clamp (n := r) (by omega)]
  cases e1 : sR S r with
  | none =>
    rw [oPut_n e e1] at hK
    rw [rowMn I hr e1]
    exact ⟨fun z => absurd z m1_neg, fun _ => hK h (doneM.rf I)⟩
  | some p =>
    obtain ⟨t, n, f⟩ := p
    rw [oPut_s e e1] at hK
    have wr := W.2.2.2.2.2.1 r t n f hr e1
    obtain ⟨c1, c2, c3⟩ := rowMs I hr e1
    rw [c1, c2]
    refine ⟨fun _ => ⟨vp_in_nI hr (by decide), ?_⟩, fun z => absurd (nI_nn (by omega)) z⟩
    refine S_Mix (by omega) fun _ => br_nb (fun e2 => by rw [oPut2_n (iS_none e2)] at hK; exact hK h (doneM.rf I)) (fun e2 => ?_)
    obtain ⟨k, e3⟩ := Option.isSome_iff_exists.mp e2
    rw [oPut2_s e3] at hK
    obtain ⟨lk, rfl⟩ := ix_some e3
    refine S_Mputs I.1 hr (by omega) c1 wr.1 fun _ => hK _ ⟨InvM.atR W I (ext_wi _ _ _ _) (sm.rf.wi (fun q => q.2.2.2 ⟨rfl, by omega, by omega⟩)) ⟨by rw [mi_ne (by decide)]; exact c1, by rw [mi_ne (by decide)]; exact c2, fun j hj => ?_⟩, ext_wi _ _ _ _, sm.rf.wi (by decide)⟩
    show _ = if j = k then nar t b else f j
    by_cases c : j = k
    · subst c; rw [if_pos rfl]; exact mi_eq
    · rw [if_neg c, mi_nj (fun (q : 30 * r + j = 30 * r + k) => c (by omega))]; exact c3 j hj
theorem C_rowElement (W : WS S) (I : InvC h S) (hK : Q (rRow S v a) h) : Ev (d + 1) g g m_C_rowElement 0 [.ref A_x, .int v, .int a] [] h (asL Q) := by
  refine w_C_rowElement_0 I.1 (S_rowAt I.1 (fun e => by rw [rRow_v e] at hK; exact hK) (fun r hr _ fr e => ⟨fr, ?_⟩))
  cases e1 : sR S r with
  | none =>
    rw [rRow_n e e1] at hK
    exact S_missN fr (rowCn I hr e1) fun _ => ⟨fun _ => hK, fun z => absurd z (by decide)⟩
  | some p =>
    obtain ⟨t, n, f⟩ := p
    rw [rRow_s e e1] at hK
    have wr := W.2.2.2.2.2.1 r t n f hr e1
    obtain ⟨c1, c2, c3⟩ := rowCs I hr e1
    refine S_missS fr c2 wr.2 fun _ => ⟨fun z => absurd rfl z, fun _ => ?_⟩
    refine S_hasIndex fr c2 wr.2 fun _ => br_nb (fun e2 => by rw [rRow2_n (iS_none e2)] at hK; exact hK) (fun e2 => ?_)
    obtain ⟨k, e3⟩ := Option.isSome_iff_exists.mp e2
    rw [rRow2_s e3] at hK
    obtain ⟨lk, rfl⟩ := ix_some e3
    rw [nI_clamp (by omega), c3 k lk]
    exact ⟨vp_in_nI (by omega) (by decide), hK⟩
theorem M_rowElement (W : WS S) (I : InvM h S) (hQ : ∀ h1, doneM S h h1 → Q (rRow S v a) h1) : Ev (d + 1) g g m_M_rowElement 0 [.ref A_M, .int v, .int a] [] h (asL Q) := by
  have hK := hQ h (doneM.rf I)
  refine w_M_rowElement_0 I.1 (S_isR (fun e => by rw [rRow_v e] at hK; exact hK) (fun r hr hv e => ⟨?_, ?_⟩))
  · subst hv; exact vp_in_nI hr (by decide)
  subst hv
  rw [nI_clamp (n := r) (by omega)]
  cases e1 : sR S r with
  | none =>
    rw [rRow_n e e1] at hK
    rw [rowMn I hr e1]
    exact ⟨fun _ => hK, fun z => absurd m1_lt z⟩
  | some p =>
    obtain ⟨t, n, f⟩ := p
    rw [rRow_s e e1] at hK
    have wr := W.2.2.2.2.2.1 r t n f hr e1
    obtain ⟨c1, c2, c3⟩ := rowMs I hr e1
    rw [c1, c2]
    refine ⟨fun z => absurd z (nI_nl (by omega)), fun _ => ⟨vp_in_nI hr (by decide), ?_⟩⟩
    refine S_Mix (by omega) fun _ => br_nb (fun e2 => by rw [rRow2_n (iS_none e2)] at hK; exact hK) (fun e2 => ?_)
    obtain ⟨k, e3⟩ := Option.isSome_iff_exists.mp e2
    rw [rRow2_s e3] at hK
    obtain ⟨lk, rfl⟩ := ix_some e3
    rw [nI_ix30, nI_clamp (by omega), c3 k lk]
    exact ⟨vp_in_nI (by omega) (by decide), hK⟩
end PUTR

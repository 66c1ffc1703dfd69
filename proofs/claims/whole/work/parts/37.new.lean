/-! new orders by a relation; ranges of arguments; an order put in place -/
def bset (p : Nat → Bool) : Nat → Nat
  | 0 => 0
  | k + 1 => bif p k then bset p k ||| 2 ^ k else bset p k
theorem bset_tb (p : Nat → Bool) : ∀ k y, (bset p k).testBit y = (decide (y < k) && p y)
  | 0, y => by simp [bset]
  | k + 1, y => by
    unfold bset
    have ih := bset_tb p k y
    cases hb : p k with
    | true =>
      simp only [cond_true, Nat.testBit_or, ih, Nat.testBit_two_pow]
      rcases Nat.lt_trichotomy y k with h | h | h
      · simp [h, Nat.lt_succ_of_lt h, Nat.ne_of_gt h]
      · subst h; simp [hb]
      · simp [Nat.not_lt_of_gt h, Nat.ne_of_lt h, show ¬ y < k + 1 by omega]
    | false =>
      simp only [cond_false, ih]
      rcases Nat.lt_trichotomy y k with h | h | h
      · simp [h, Nat.lt_succ_of_lt h]
      · subst h; simp [hb]
      · simp [Nat.not_lt_of_gt h, show ¬ y < k + 1 by omega]
theorem bset_lt (p : Nat → Bool) (k : Nat) : bset p k < 2 ^ k := by
  apply Nat.lt_pow_two_of_testBit
  intro i hi
  rw [bset_tb]
  simp [Nat.not_lt_of_ge hi]
def upB (n : Nat) (rr : Nat → Nat → Bool) (x : Nat) : Nat := bset (rr x) n
theorem upB_le (n : Nat) (rr : Nat → Nat → Bool) (x y : Nat) : le (upB n rr) x y = (decide (y < n) && rr x y) := bset_tb (rr x) n y
theorem upB_wf {n : Nat} {rr : Nat → Nat → Bool} (h1 : 1 ≤ n) (h6 : n ≤ 6) (rf : ∀ x, x < n → rr x x = true) (tr : ∀ x y z, x < n → y < n → z < n → rr x y = true → rr y z = true → rr x z = true) (an : ∀ x y, x < n → y < n → rr x y = true → rr y x = true → x = y) : wfP n (upB n rr) := by
  refine ⟨⟨h1, h6⟩, fun x hx => bset_lt _ _, fun x hx => ?_, fun x y z hx hy hz a b => ?_, fun x y hx hy a b => ?_⟩
  · rw [upB_le, decide_eq_true hx, rf x hx]; rfl
  · rw [upB_le, decide_eq_true hy, Bool.true_and] at a
    rw [upB_le, decide_eq_true hz, Bool.true_and] at b
    rw [upB_le, decide_eq_true hz, Bool.true_and]
    exact tr x y z hx hy hz a b
  · rw [upB_le, decide_eq_true hy, Bool.true_and] at a
    rw [upB_le, decide_eq_true hx, Bool.true_and] at b
    exact an x y hx hy a b
theorem upB_eq {n : Nat} {rr : Nat → Nat → Bool} {x s : Nat} (h6 : n ≤ 6) (hs : s < 64) (h : ∀ y, y < 6 → s.testBit y = (decide (y < n) && rr x y)) : s = upB n rr x :=
  set_ext hs (Nat.lt_of_lt_of_le (bset_lt _ _) (p2_le h6)) fun y hy => (h y hy).trans (bset_tb (rr x) n y).symm
/-- an argument between two bounds -/
def rg (v : Int32) (lo hi : Nat) : Option Nat := if (lo : Int) ≤ v.toInt ∧ v.toInt ≤ hi then some v.toInt.toNat else none
theorem rg_some {v : Int32} {lo hi j : Nat} (h : rg v lo hi = some j) : lo ≤ j ∧ j ≤ hi ∧ v = nI j := by
  unfold rg at h
  split at h
  · rename_i hc
    cases h
    refine ⟨by omega, by omega, ?_⟩
    apply Int32.toInt_inj.mp
    have hv := Int32.toInt_lt v
    rw [nI_toInt (by omega)]
    omega
  · cases h
theorem rg_nI {lo hi j : Nat} (h1 : lo ≤ j) (h2 : j ≤ hi) (h3 : j < 2147483648) : rg (nI j) lo hi = some j := by
  unfold rg
  rw [nI_toInt h3, if_pos (by omega)]
  rfl
theorem br_rg {v : Int32} {lo hi : Nat} {A B : Prop} (f : rg v lo hi = none → B) (g : ∀ j, rg v lo hi = some j → A) (hl : lo < 2147483648 := by decide) (hh : hi < 2147483648 := by decide) : (v < nI lo → B) ∧ (¬ v < nI lo → (v ≤ nI hi → A) ∧ (¬ v ≤ nI hi → B)) := by
  have h0 : v < nI lo ↔ v.toInt < lo := by rw [Int32.lt_iff_toInt_lt, nI_toInt hl]
  have h1 : v ≤ nI hi ↔ v.toInt ≤ hi := by rw [Int32.le_iff_toInt_le, nI_toInt hh]
  refine ⟨fun h => f ?_, fun h => ⟨fun h2 => g v.toInt.toNat ?_, fun h2 => f ?_⟩⟩
  · unfold rg; rw [if_neg]; have := h0.mp h; omega
  · unfold rg
    rw [if_pos]
    have a1 : ¬ v.toInt < lo := fun z => h (h0.mpr z)
    have a2 := h1.mp h2
    omega
  · unfold rg; rw [if_neg]; have : ¬ v.toInt ≤ hi := fun z => h2 (h1.mpr z); omega
theorem lgc_lt (x y : Int64) : lg_cmp x y < 0 ↔ x.toInt < y.toInt := by
  have h1 : x > y ↔ y.toInt < x.toInt := Int64.lt_iff_toInt_lt
  have h2 : x = y ↔ x.toInt = y.toInt := Int64.toInt_inj.symm
  unfold lg_cmp
  by_cases c : x > y
  · rw [if_pos c]
    have := h1.mp c
    exact ⟨fun z => absurd z (by decide), fun z => by omega⟩
  · rw [if_neg c]
    by_cases c2 : x = y
    · rw [if_pos c2]
      have := h2.mp c2
      exact ⟨fun z => absurd z (by decide), fun z => by omega⟩
    · rw [if_neg c2]
      have c3 : ¬ y.toInt < x.toInt := fun z => c (h1.mpr z)
      have c4 : ¬ x.toInt = y.toInt := fun z => c2 (h2.mpr z)
      exact ⟨fun _ => by omega, fun _ => by decide⟩
theorem lgc_gt (x y : Int64) : 0 < lg_cmp x y ↔ y.toInt < x.toInt := by
  have h1 : x > y ↔ y.toInt < x.toInt := Int64.lt_iff_toInt_lt
  unfold lg_cmp
  by_cases c : x > y
  · rw [if_pos c]
    exact ⟨fun _ => h1.mp c, fun _ => by decide⟩
  · rw [if_neg c]
    have c3 : ¬ y.toInt < x.toInt := fun z => c (h1.mpr z)
    refine ⟨fun z => ?_, fun z => absurd z c3⟩
    by_cases c2 : x = y
    · rw [if_pos c2] at z; exact absurd z (by decide)
    · rw [if_neg c2] at z; exact absurd z (by decide)
theorem cL_toInt {n : Nat} (h : n < 2147483648) : (cL (.ofNat n)).toInt = (n : Int) := by
  show (Int64.ofInt (n : Int)).toInt = _
  rw [Int64.toInt_ofInt]
  have e : Int64.size = 18446744073709551616 := rfl
  rw [e]
  exact Int.bmod_eq_of_le (by omega) (by omega)
section BTW
variable {d g : Nat} {h : AH} {K : Int32 → AH → Prop}
theorem S_btw {x lo hi : Int64} (hK : K (bI (decide (lo.toInt ≤ x.toInt ∧ x.toInt ≤ hi.toInt))) h) : Ev d g g m_M_isBetween 0 [.long x, unk, .long lo, unk, .long hi, unk] [] h (asI K) := by
  refine w_M_isBetween_0 ⟨fun z => ?_, fun z => ⟨fun z2 => ?_, fun z2 => ?_⟩⟩
  · have := (lgc_lt x lo).mp z
    rw [decide_eq_false (by omega)] at hK
    exact hK
  · have := (lgc_gt x hi).mp z2
    rw [decide_eq_false (by omega)] at hK
    exact hK
  · have a1 : ¬ x.toInt < lo.toInt := fun q => z ((lgc_lt x lo).mpr q)
    have a2 : ¬ hi.toInt < x.toInt := fun q => z2 ((lgc_gt x hi).mpr q)
    rw [decide_eq_true (by omega)] at hK
    exact hK
theorem S_Mrg {v : Int32} {lo hi : Nat} (hK : K (bI (rg v lo hi).isSome) h) (hl : lo < 2147483648 := by decide) (hh : hi < 2147483648 := by decide) : Ev d g g m_M_isBetween 0 [.long v.toInt64, unk, .long (cL (.ofNat lo)), unk, .long (cL (.ofNat hi)), unk] [] h (asI K) := by
  refine S_btw ?_
  rw [cL_toInt hl, cL_toInt hh, Int32.toInt_toInt64]
  refine Eq.mpr (congrArg (fun z => K (bI z) h) ?_) hK
  unfold rg
  by_cases c : (lo : Int) ≤ v.toInt ∧ v.toInt ≤ hi
  · rw [if_pos c, decide_eq_true c]; rfl
  · rw [if_neg c, decide_eq_false c]; rfl
end BTW
theorem rS_none {v : Int32} {lo hi : Nat} (e : (rg v lo hi).isSome = false) : rg v lo hi = none := by cases h : rg v lo hi with | none => rfl | some x => rw [h] at e; cases e
section PUT
variable {d g a n : Nat} {up : Nat → Nat} {h hh : AH} {S : St}
theorem S_replaceOrder {b : Nat} {Q : AH → Prop} (f : is_P h a) (fb : hs h b = some (0, 6)) (hb : b < a ∨ a + 5 < b) (w : wfP n up) (hu : ∀ x, x < n → mi h b x = nI (up x)) (hK : ∀ h1, Ext h h1 → same (fun q => q < a ∨ a + 5 < q) h h1 → PC h1 a n up (fun _ => 0) → Q h1) : Ev (d + 4) g g m_P_replaceOrder 0 [.ref a, .int (nI n), .ref b] [] h (asV Q) := by
  have h6 := w.1.2
  refine w_P_replaceOrder_0 f fb ?_
  refine for_up (σ := AH) (fun x hh => Ev (d + 4) g g m_P_replaceOrder 7 [.ref a, .int (nI n), .ref b, .int (nI x)] [] hh (asV Q)) (fun x hh => Ext h hh ∧ same (fun q => q < a ∨ a + 5 < q) h hh ∧ mi hh a 0 = nI n ∧ ∀ y, y < x → mi hh (a + 1) y = nI (up y)) n (fun hh hi => ?_) (fun x hh hx hi ih => ?_) 0 _ (Nat.zero_le _) ?_
  · obtain ⟨e, sa, h0, hr⟩ := hi
    refine w_P_replaceOrder_7 (f.ext e) (e.shp fb) (br_le n n rfl rfl (fun _ => ?_) (fun z => by omega))
    exact S_refresh (f.ext e) ⟨h0, hr⟩ w fun h1 e1 s1 pc _ => hK h1 (e.trans e1) (sa.trans s1) pc
  · obtain ⟨e, sa, h0, hr⟩ := hi
    refine w_P_replaceOrder_7 (f.ext e) (e.shp fb) (br_le n x rfl rfl (fun z => by omega) (fun _ => ?_))
    rw [nI_clamp (by omega), nI_add, (sa b hb).1 x, hu x hx]
    refine ⟨vp_in_nI (by omega) (by decide), vp_in_nI (by omega) (by decide), ih _ ⟨e.trans (ext_wi _ _ _ _), sa.wi (by omega), by rw [mi_ne (by omega)]; exact h0, fun y hy => ?_⟩⟩
    by_cases ey : y = x
    · subst ey; exact mi_eq
    · rw [mi_nj ey]; exact hr y (by omega)
  · exact ⟨ext_wi _ _ _ _, same.rf.wi (by omega), mi_eq, fun y hy => by omega⟩
theorem C_fin {j : Nat} {p : PT} {h1 : AH} (hj : j < 4) (I : InvC h S) (e : Ext h hh) (sa : same (fun q => q ≠ A_dOrd) h hh) (e1 : Ext hh h1) (s1 : same (fun q => q < aP j ∨ aP j + 5 < q) hh h1) (pc : PC h1 (aP j) p.1 p.2.1 p.2.2) : doneC (setP S j p) h h1 := by
  refine ⟨InvC.atP hj I (e.trans e1) ((sa.sm.sub fun q _ hq => hq.2.2.2).trans (s1.sm.sub fun q _ hq => ?_)) pc, e.trans e1, (sa.sm.sub fun q _ hq => ?_).trans (s1.sm.sub fun q _ hq => ?_)⟩
  · simp only [aP] at *; omega
  · simp only [A_dOrd] at *; omega
  · simp only [aP] at *; omega
theorem S_rep {j : Nat} {Q : AH → Prop} (hj : j < 4) (I : InvC h S) (e : Ext h hh) (sa : same (fun q => q ≠ A_dOrd) h hh) (w : wfP n up) (hu : ∀ x, x < n → mi hh A_dOrd x = nI (up x)) (hK : ∀ h1, doneC (setP S j (n, up, fun _ => 0)) h h1 → Q h1) : Ev (d + 4) g g m_P_replaceOrder 0 [.ref (aP j), .int (nI n), .ref A_dOrd] [] hh (asV fun h1 => Ext hh h1 → Q h1) := by
  refine S_replaceOrder ((I.1.ps j hj).2.ext e) (I.1.ext e).s_draftOrder (by simp only [aP, A_dOrd]; omega) w hu fun h1 e1 s1 pc _ => hK h1 (C_fin hj I e sa e1 s1 pc)
theorem S_Msettles {i : Nat} {Q : AH → Prop} (fM : is_M h) (hi : i < 4) (h6 : n ≤ 6) (hn : mi h M_size 4 = nI n) (hu : ∀ x, x < n → mi h M_up (24 + x) = nI (up x)) (hK : ∀ h1, Ext h h1 → sm (fun q j => ¬ (q = 74 ∧ j = i) ∧ ¬ (q = 75 ∧ 6 * i ≤ j ∧ j < 6 * i + 6) ∧ ¬ (q = 76 ∧ 3 * i ≤ j ∧ j < 3 * i + 3)) h h1 → MO h1 i n up → MV h1 i (fun _ => 0) → Q h1) : Ev (d + 1) g g m_M_settles 0 [.ref A_M, .int (nI i)] [] h (asV Q) := by
  refine w_M_settles_0 fM ?_
  rw [nI_clamp (n := 4) (by decide), hn, nI_clamp (n := i) (by omega)]
  refine ⟨vp_in_nI (by decide) (by decide), vp_in_nI (by omega) (by decide), ?_⟩
  refine for_up (σ := AH) (fun k hh => Ev (d + 1) g g m_M_settles 14 [.ref A_M, .int (nI i), .int (nI k)] [] hh (asV Q)) (fun k hh => Ext h hh ∧ sm (fun q j => ¬ (q = 74 ∧ j = i) ∧ ¬ (q = 75 ∧ 6 * i ≤ j ∧ j < 6 * i + 6) ∧ ¬ (q = 76 ∧ 3 * i ≤ j ∧ j < 3 * i + 3)) h hh ∧ mi hh M_size i = nI n ∧ ∀ y, y < k → mi hh M_up (6 * i + y) = nI (up y)) n (fun hh hj => ?_) (fun k hh hk hj ih => ?_) 0 _ (Nat.zero_le _) ?_
  · obtain ⟨e, sa, h0, hr⟩ := hj
    refine w_M_settles_14 (fM.ext e) ⟨vp_in_nI (by omega) (by decide), ?_⟩
    rw [nI_clamp (n := i) (by omega), h0]
    refine br_le n n rfl rfl (fun _ => ?_) (fun z => by omega)
    exact S_Munvalues (fM.ext e) hi fun h1 e1 s1 mv _ => hK h1 (e.trans e1) (sa.trans (s1.sub fun q j hq => hq.2.2)) ⟨(s1 _ _ (fun q => absurd q.1 (by decide))).1.trans h0, fun x hx => (s1 _ _ (fun q => absurd q.1 (by decide))).1.trans (hr x hx)⟩ mv
  · obtain ⟨e, sa, h0, hr⟩ := hj
    refine w_M_settles_14 (fM.ext e) ⟨vp_in_nI (by omega) (by decide), ?_⟩
    rw [nI_clamp (n := i) (by omega), h0]
    refine br_le n k rfl rfl (fun z => by omega) (fun _ => ?_)
    rw [nI_ix, nI_add 24 k, nI_add k 1, nI_clamp (n := 24 + k) (by omega), nI_clamp (n := 6 * i + k) (by omega), (sa M_up (24 + k) ⟨fun q => absurd q.1 (by decide), fun q => by omega, fun q => absurd q.1 (by decide)⟩).1, hu k hk]
    refine ⟨vp_in_nI (by omega) (by decide), vp_in_nI (by omega) (by decide), ih _ ⟨e.trans (ext_wi _ _ _ _), sa.wi (fun q => q.2.1 ⟨rfl, by omega, by omega⟩), by rw [mi_ne (by decide)]; exact h0, fun y hy => ?_⟩⟩
    by_cases ey : y = k
    · subst ey; exact mi_eq
    · rw [mi_nj (fun (q : 6 * i + y = 6 * i + k) => ey (by omega))]; exact hr y (by omega)
  · exact ⟨ext_wi _ _ _ _, sm.rf.wi (fun q => q.1 ⟨rfl, rfl⟩), mi_eq, fun y hy => by omega⟩
/-- the reference's cells but those of its draft -/
def PD (a j : Nat) : Prop := PF a j ∧ ¬ (a = 74 ∧ j = 4) ∧ ¬ (a = 75 ∧ 24 ≤ j)
theorem PD.mx {a j : Nat} (q : PMx a j) : PD a j := by
  refine ⟨PF.mx q, ?_⟩
  simp only [PMx, M_size, M_elements, M_numberOf, M_made, M_pending, M_given, M_stack, M_map, M_moved, M_up] at *
  omega
theorem PD.c {a j : Nat} (h1 : a ≤ 72) : PD a j := by
  simp only [PD, PF, M_elements, M_numberOf, A_M]
  omega
theorem InvM.kD (W : WS S) (I : InvM h S) (e : Ext h hh) (sa : sm PD h hh) : InvM hh S := I.keep W e (sa.sub fun _ _ q => PD.mx q)
theorem S_set {j : Nat} {Q : AH → Prop} (W : WS S) (hj : j < 4) (I : InvM h S) (e : Ext h hh) (sa : sm PD h hh) (w : wfP n up) (hn : mi hh M_size 4 = nI n) (hu : ∀ x, x < n → mi hh M_up (24 + x) = nI (up x)) (hK : ∀ h1, doneM (setP S j (n, up, fun _ => 0)) h h1 → mi h1 M_size j = nI n → Q h1) : Ev (d + 1) g g m_M_settles 0 [.ref A_M, .int (nI j)] [] hh (asV fun h1 => Ext hh h1 → Q h1) := by
  refine S_Msettles (I.1.ext e) hj w.1.2 hn hu fun h1 e1 s1 mo mv _ => hK h1 ⟨InvM.atP W I (e.trans e1) ((sa.sub fun q z hq => PD.mx hq.1).trans (s1.sub fun q z hq => ⟨hq.2.1, hq.2.2.1, hq.2.2.2⟩)) mo mv, e.trans e1, (sa.sub fun q z hq => PD.c hq).trans (s1.sub fun q z hq => ?_)⟩ mo.1
  omega
end PUT
/-! reset -/
def eqR (x y : Nat) : Bool := x == y
theorem eqR_wf {n : Nat} (h1 : 1 ≤ n) (h6 : n ≤ 6) : wfP n (upB n eqR) := upB_wf h1 h6 (fun x _ => by unfold eqR; simp) (fun x y z _ _ _ a b => by unfold eqR at *; simp at *; omega) (fun x y _ _ a _ => by unfold eqR at *; simp at *; omega)
theorem eqR_up {n x : Nat} (h6 : n ≤ 6) (hx : x < n) : 2 ^ x = upB n eqR x := upB_eq h6 (p2_lt (by omega)) fun y hy => by
  rw [Nat.testBit_two_pow]
  unfold eqR
  by_cases e : x = y
  · subst e; simp [hx]
  · simp [e]
def oReset (S : St) (v k : Int32) : Int32 × St := match ix v 4 with
  | none => (m1, S)
  | some i => match rg k 1 6 with
    | none => (kE2, S)
    | some n => (nI (sP S i).1, setP S i (n, upB n eqR, fun _ => 0))
theorem oReset_n {S : St} {v k : Int32} (e : ix v 4 = none) : oReset S v k = (m1, S) := by unfold oReset; rw [e]
theorem oReset_k {S : St} {v k : Int32} {i : Nat} (e : ix v 4 = some i) (e1 : rg k 1 6 = none) : oReset S v k = (kE2, S) := by unfold oReset; rw [e, e1]
theorem oReset_s {S : St} {v k : Int32} {i n : Nat} (e : ix v 4 = some i) (e1 : rg k 1 6 = some n) : oReset S v k = (nI (sP S i).1, setP S i (n, upB n eqR, fun _ => 0)) := by unfold oReset; rw [e, e1]
theorem WS.reset {S : St} (W : WS S) {v k : Int32} : WS (oReset S v k).2 := by
  cases e : ix v 4 with
  | none => rw [oReset_n e]; exact W
  | some i =>
    cases e1 : rg k 1 6 with
    | none => rw [oReset_k e e1]; exact W
    | some n => rw [oReset_s e e1]; exact W.atP (wPT.z (eqR_wf (rg_some e1).1 (rg_some e1).2.1))
section RST
variable {d g : Nat} {h : AH} {S : St} {K : Int32 → AH → Prop}
theorem C_reset {v k : Int32} (I : InvC h S) (hK : ∀ h1, doneC (oReset S v k).2 h h1 → K (oReset S v k).1 h1) : Ev (d + 5) g g m_C_reset 0 [.ref A_x, .int v, .int k] [] h (asI K) := by
  refine w_C_reset_0 I.1 (S_posetAt I.1 (fun e => by rw [oReset_n e] at hK; exact hK h (doneC.rf I)) (fun j hj _ fp e => ⟨fp, ?_⟩))
  refine br_rg (lo := 1) (hi := 6) (fun e1 => by rw [oReset_k e e1] at hK; exact hK h (doneC.rf I)) (fun n e1 => ?_)
  rw [oReset_s e e1] at hK
  obtain ⟨n1, n6, rfl⟩ := rg_some e1
  rw [(I.2.1 j hj).1.1]
  refine for_up (σ := AH) (fun x hh => Ev (d + 5) g g m_C_reset 35 [.ref A_x, unk, .int (nI n), .ref (aP j), .int (nI (sP S j).1), .int (nI x)] [] hh (asI K)) (fun x hh => Ext h hh ∧ same (fun q => q ≠ A_dOrd) h hh ∧ ∀ y, y < x → mi hh A_dOrd y = nI (2 ^ y)) n (fun hh hi => ?_) (fun x hh hx hi ih => ?_) 0 h (Nat.zero_le _) ⟨Ext.rfl', same.rf, fun y hy => by omega⟩
  · obtain ⟨e2, sa, hr⟩ := hi
    refine w_C_reset_35 (I.1.ext e2) (fp.ext e2) (br_le n n rfl rfl (fun _ => ?_) (fun z => by omega))
    exact S_rep hj I e2 sa (eqR_wf n1 n6) (fun x hx => by rw [hr x hx, ← eqR_up n6 hx]) fun h1 dn => hK h1 dn
  · obtain ⟨e2, sa, hr⟩ := hi
    refine w_C_reset_35 (I.1.ext e2) (fp.ext e2) (br_le n x rfl rfl (fun z => by omega) (fun _ => ?_))
    rw [nI_clamp (by omega), nI_add, nm_bit1 x (by omega)]
    refine ⟨vp_in_nI (by omega) (by decide), ih _ ⟨e2.trans (ext_wi _ _ _ _), sa.wi (fun q => q rfl), fun y hy => ?_⟩⟩
    by_cases ey : y = x
    · subst ey; exact mi_eq
    · rw [mi_nj ey]; exact hr y (by omega)
theorem S_Mempties {n i : Nat} {Q : AH → Prop} (fM : is_M h) (hi : i < 4) (n1 : 1 ≤ n) (h6 : n ≤ 6) (hK : ∀ h1, Ext h h1 → sm (fun q j => ¬ (q = 74 ∧ j = i) ∧ ¬ (q = 75 ∧ 6 * i ≤ j ∧ j < 6 * i + 6) ∧ ¬ (q = 76 ∧ 3 * i ≤ j ∧ j < 3 * i + 3)) h h1 → MO h1 i n (upB n eqR) → MV h1 i (fun _ => 0) → Q h1) : Ev (d + 1) g g m_M_empties 0 [.ref A_M, .int (nI i), .int (nI n)] [] h (asV Q) := by
  refine w_M_empties_0 fM ⟨vp_in_nI (by omega) (by decide), ?_⟩
  rw [nI_clamp (n := i) (by omega)]
  refine for_up (σ := AH) (fun k hh => Ev (d + 1) g g m_M_empties 9 [.ref A_M, .int (nI i), .int (nI n), .int (nI k)] [] hh (asV Q)) (fun k hh => Ext h hh ∧ sm (fun q j => ¬ (q = 74 ∧ j = i) ∧ ¬ (q = 75 ∧ 6 * i ≤ j ∧ j < 6 * i + 6) ∧ ¬ (q = 76 ∧ 3 * i ≤ j ∧ j < 3 * i + 3)) h hh ∧ mi hh M_size i = nI n ∧ ∀ y, y < k → mi hh M_up (6 * i + y) = nI (2 ^ y)) n (fun hh hj => ?_) (fun k hh hk hj ih => ?_) 0 _ (Nat.zero_le _) ?_
  · obtain ⟨e, sa, h0, hr⟩ := hj
    refine w_M_empties_9 (fM.ext e) (br_le n n rfl rfl (fun _ => br_le 4 i rfl rfl (fun z => by omega) fun _ => ?_) (fun z => by omega))
    exact S_Munvalues (fM.ext e) hi fun h1 e1 s1 mv _ => hK h1 (e.trans e1) (sa.trans (s1.sub fun q j hq => hq.2.2)) ⟨(s1 _ _ (fun q => absurd q.1 (by decide))).1.trans h0, fun x hx => ((s1 _ _ (fun q => absurd q.1 (by decide))).1.trans (hr x hx)).trans (by rw [eqR_up h6 hx])⟩ mv
  · obtain ⟨e, sa, h0, hr⟩ := hj
    refine w_M_empties_9 (fM.ext e) (br_le n k rfl rfl (fun z => by omega) (fun _ => ?_))
    rw [nI_ix, nI_add k 1, nI_clamp (by omega), nm_bit1 k (by omega)]
    refine ⟨vp_in_nI (by omega) (by decide), ih _ ⟨e.trans (ext_wi _ _ _ _), sa.wi (fun q => q.2.1 ⟨rfl, by omega, by omega⟩), by rw [mi_ne (by decide)]; exact h0, fun y hy => ?_⟩⟩
    by_cases ey : y = k
    · subst ey; exact mi_eq
    · rw [mi_nj (fun (q : 6 * i + y = 6 * i + k) => ey (by omega))]; exact hr y (by omega)
  · exact ⟨ext_wi _ _ _ _, sm.rf.wi (fun q => q.1 ⟨rfl, rfl⟩), mi_eq, fun y hy => by omega⟩
theorem M_reset {v k : Int32} (W : WS S) (I : InvM h S) (hK : ∀ h1, doneM (oReset S v k).2 h h1 → K (oReset S v k).1 h1) : Ev (d + 2) g g m_M_reset 0 [.ref A_M, .int v, .int k] [] h (asI K) := by
  refine w_M_reset_0 I.1 ((S_isP (fun e => by rw [oReset_n e] at hK; exact hK h (doneM.rf I)) (fun j hj hv e => ?_)).mI fun x h1 _ kk e => (kk e).symm)
  subst hv
  refine S_Mrg (lo := 1) (hi := 6) fun _ => br_nb (fun e1 => ?_) (fun e1 => ?_)
  · rw [oReset_k e (rS_none e1)] at hK
    exact hK h (doneM.rf I)
  · obtain ⟨n, e2⟩ := Option.isSome_iff_exists.mp e1
    rw [oReset_s e e2] at hK
    obtain ⟨n1, n6, rfl⟩ := rg_some e2
    rw [nI_clamp (n := j) (by omega), (I.2.1 j hj).1.1]
    refine ⟨vp_in_nI (by omega) (by decide), S_Mempties I.1 hj n1 n6 fun h1 ee ss mo mv _ => hK h1 ⟨InvM.atP W I ee (ss.sub fun q z hq => ⟨hq.2.1, hq.2.2.1, hq.2.2.2⟩) mo mv, ee, ss.sub fun q z hq => ?_⟩⟩
    omega
end RST
/-! dual -/
def oDual (S : St) (v t : Int32) : Int32 × St := match ix v 4, ix t 4 with
  | some i, some j => (nI (sP S i).1, setP S j ((sP S i).1, upB (sP S i).1 (fun x y => le (sP S i).2.1 y x), fun _ => 0))
  | _, _ => (m1, S)
theorem oDual_a {S : St} {v t : Int32} (e : ix v 4 = none) : oDual S v t = (m1, S) := by unfold oDual; rw [e]
theorem oDual_b {S : St} {v t : Int32} (e : ix t 4 = none) : oDual S v t = (m1, S) := by unfold oDual; rw [e]; cases ix v 4 <;> rfl
theorem oDual_s {S : St} {v t : Int32} {i j : Nat} (e : ix v 4 = some i) (e1 : ix t 4 = some j) : oDual S v t = (nI (sP S i).1, setP S j ((sP S i).1, upB (sP S i).1 (fun x y => le (sP S i).2.1 y x), fun _ => 0)) := by unfold oDual; rw [e, e1]
theorem dual_wf {n : Nat} {up : Nat → Nat} (w : wfP n up) : wfP n (upB n fun x y => le up y x) := upB_wf w.1.1 w.1.2 (fun x hx => w.2.2.1 x hx) (fun x y z hx hy hz a b => w.2.2.2.1 z y x hz hy hx b a) (fun x y hx hy a b => w.2.2.2.2 x y hx hy b a)
theorem WS.dual {S : St} (W : WS S) {v t : Int32} : WS (oDual S v t).2 := by
  cases e : ix v 4 with
  | none => rw [oDual_a e]; exact W
  | some i =>
    cases e1 : ix t 4 with
    | none => rw [oDual_b e1]; exact W
    | some j => rw [oDual_s e e1]; exact W.atP (wPT.z (dual_wf (W.1 i (ix_some e).1).1))
section DUAL
variable {d g : Nat} {h : AH} {S : St} {K : Int32 → AH → Prop}
theorem C_dual {v t : Int32} (W : WS S) (I : InvC h S) (hK : ∀ h1, doneC (oDual S v t).2 h h1 → K (oDual S v t).1 h1) : Ev (d + 5) g g m_C_dual 0 [.ref A_x, .int v, .int t] [] h (asI K) := by
  refine w_C_dual_0 I.1 (S_posetAt I.1 (fun e => ?_) (fun i hi _ fi e => ⟨fi, ?_⟩))
  · rw [oDual_a e] at hK
    exact S_posetAt I.1 (fun _ => hK h (doneC.rf I)) (fun j _ _ fp _ => ⟨fp, hK h (doneC.rf I)⟩)
  refine S_posetAt I.1 (fun e1 => by rw [oDual_b e1] at hK; exact hK h (doneC.rf I)) (fun j hj _ fj e1 => ⟨fj, ?_⟩)
  rw [oDual_s e e1] at hK
  have w := (W.1 i hi).1
  have P := I.2.1 i hi
  have h6 := w.1.2
  rw [P.1.1]
  refine for_up (σ := AH) (fun x hh => Ev (d + 5) g g m_C_dual 33 [.ref A_x, unk, unk, .ref (aP i), .ref (aP j), .int (nI (sP S i).1), .int (nI x)] [] hh (asI K)) (fun x hh => Ext h hh ∧ same (fun q => q ≠ A_dOrd) h hh ∧ ∀ y, y < x → mi hh A_dOrd y = nI (upB (sP S i).1 (fun x y => le (sP S i).2.1 y x) y)) (sP S i).1 (fun hh hi => ?_) (fun x hh hx hi ih => ?_) 0 h (Nat.zero_le _) ⟨Ext.rfl', same.rf, fun y hy => by omega⟩
  · obtain ⟨e2, sa, hr⟩ := hi
    refine w_C_dual_33 (I.1.ext e2) (fi.ext e2) (fj.ext e2) (br_le _ _ rfl rfl (fun _ => ?_) (fun z => by omega))
    exact S_rep hj I e2 sa (dual_wf w) hr fun h1 dn => hK h1 dn
  · obtain ⟨e2, sa, hr⟩ := hi
    have hp := p2_lt (x := x) (by omega)
    have hpn : 2 ^ x < 2 ^ (sP S i).1 := Nat.pow_lt_pow_right (by decide) hx
    refine w_C_dual_33 (I.1.ext e2) (fi.ext e2) (fj.ext e2) (br_le _ x rfl rfl (fun z => by omega) (fun _ => ?_))
    rw [nI_clamp (n := x) (by omega), nI_add, nm_bit1 x (by omega), nI_clamp (n := 2 ^ x) (by omega), (sa (aP i + 2) (by simp only [aP, A_dOrd]; omega)).1, P.2.1 _ hpn]
    refine ⟨vp_in_nI (by omega) (by decide), vp_in_nI (by omega) (by decide), ih _ ⟨e2.trans (ext_wi _ _ _ _), sa.wi (fun q => q rfl), fun y hy => ?_⟩⟩
    by_cases ey : y = x
    · subst ey
      rw [mi_eq, ← upB_eq (rr := fun x y => le (sP S i).2.1 y x) (x := y) h6 (Nat.lt_of_lt_of_le (dsk_lt _ _ _ _) (p2_le h6)) fun z _ => dn_tb hx]
    · rw [mi_nj ey]; exact hr y (by omega)
theorem M_dual {v t : Int32} (W : WS S) (I : InvM h S) (hK : ∀ h1, doneM (oDual S v t).2 h h1 → K (oDual S v t).1 h1) : Ev (d + 2) g g m_M_dual 0 [.ref A_M, .int v, .int t] [] h (asI K) := by
  refine w_M_dual_0 I.1 (S_isP (fun e => by rw [oDual_a e] at hK; exact hK h (doneM.rf I)) (fun i hi hv e => ?_))
  refine (S_isP (fun e1 => by rw [oDual_b e1] at hK; exact hK h (doneM.rf I)) (fun j hj hv2 e1 => ?_)).mI fun x h1 _ kk e => (kk e).symm
  rw [oDual_s e e1] at hK
  subst hv
  subst hv2
  have w := (W.1 i hi).1
  have o := (I.2.1 i hi).1
  have h6 := w.1.2
  rw [nI_clamp (n := 4) (by decide), nI_clamp (n := i) (by omega), o.1]
  refine ⟨vp_in_nI (by omega) (by decide), vp_in_nI (by decide) (by decide), ?_⟩
  refine for_up (σ := AH) (fun x hh => Ev (d + 2) g g m_M_dual 30 [.ref A_M, .int (nI i), .int (nI j), .int (nI x)] [] hh (asI K)) (fun x hh => Ext h hh ∧ sm PD h hh ∧ mi hh M_size 4 = nI (sP S i).1 ∧ ∀ y, y < x → mi hh M_up (24 + y) = nI (upB (sP S i).1 (fun x y => le (sP S i).2.1 y x) y)) (sP S i).1 (fun hh hI => ?_) (fun x hh hx hI ih => ?_) 0 _ (Nat.zero_le _) ?_
  · obtain ⟨e2, sa, h4, hr⟩ := hI
    have o2 := ((I.kD W e2 sa).2.1 i hi).1
    refine w_M_dual_30 (I.1.ext e2) ⟨vp_in_nI (by omega) (by decide), ?_⟩
    rw [nI_clamp (n := i) (by omega), o2.1]
    refine br_le _ _ rfl rfl (fun _ => S_set W hj I e2 sa (dual_wf w) h4 hr fun h1 dn hm => ⟨vp_in_nI (by omega) (by decide), ?_⟩) (fun z => by omega)
    rw [nI_clamp (n := j) (by omega), hm]
    exact hK h1 dn
  · obtain ⟨e2, sa, h4, hr⟩ := hI
    have o2 := ((I.kD W e2 sa).2.1 i hi).1
    refine w_M_dual_30 (I.1.ext e2) ⟨vp_in_nI (by omega) (by decide), ?_⟩
    rw [nI_clamp (n := i) (by omega), o2.1]
    refine br_le _ x rfl rfl (fun z => by omega) (fun _ => ?_)
    refine for_up (σ := Unit) (fun y _ => Ev (d + 2) g g m_M_dual 46 [.ref A_M, .int (nI i), .int (nI j), .int (nI x), .int (nI (bset (fun z => le (sP S i).2.1 z x) y)), .int (nI y)] [] hh (asI K)) (fun _ _ => True) (sP S i).1 (fun _ _ => ?_) (fun y _ hy _ ih2 => ?_) 0 () (Nat.zero_le _) trivial
    · refine w_M_dual_46 (I.1.ext e2) ⟨vp_in_nI (by omega) (by decide), ?_⟩
      rw [nI_clamp (n := i) (by omega), o2.1]
      refine br_le _ _ rfl rfl (fun _ => ?_) (fun z => by omega)
      rw [nI_add 24 x, nI_add x 1, nI_clamp (by omega)]
      refine ⟨vp_in_nI (by omega) (by decide), ih _ ⟨e2.trans (ext_wi _ _ _ _), sa.wi (fun q => q.2.2 ⟨rfl, by omega⟩), by rw [mi_ne (by decide)]; exact h4, fun y hy => ?_⟩⟩
      by_cases ey : y = x
      · subst ey; exact mi_eq
      · rw [mi_nj (fun (q : 24 + y = 24 + x) => ey (by omega))]; exact hr y (by omega)
    · have i1 := ih2 () trivial
      unfold bset at i1
      refine w_M_dual_46 (I.1.ext e2) ⟨vp_in_nI (by omega) (by decide), ?_⟩
      rw [nI_clamp (n := i) (by omega), o2.1]
      have hl : bset (fun z => le (sP S i).2.1 z x) y < 64 := Nat.lt_of_lt_of_le (bset_lt _ _) (p2_le (by omega))
      refine br_le _ y rfl rfl (fun z => by omega) (fun _ => S_MisLess (I.1.ext e2) (by omega) o2 h6 (w.u64 hy) hy (by omega) fun _ => br_b (fun hz => ?_) (fun hz => ?_))
      · rw [nm_or _ hl 0 (by decide), Nat.or_zero, nI_add]
        rw [hz] at i1
        exact i1
      · rw [nm_bit1 y (by omega), nm_or _ hl _ (p2_lt (by omega)), nI_add]
        rw [hz] at i1
        exact i1
  · exact ⟨ext_wi _ _ _ _, sm.rf.wi (fun q => q.2.1 ⟨rfl, rfl⟩), mi_eq, fun y hy => by omega⟩
end DUAL

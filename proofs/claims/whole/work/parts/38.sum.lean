/-! sum -/
abbrev kE5 : Int32 := cI (.negSucc 4)
theorem PC.kd {h hh : AH} {i n : Nat} {up val : Nat → Nat} (c : PC h (aP i) n up val) (sa : same (fun q => q ≠ A_dOrd) h hh) : PC hh (aP i) n up val := c.keep sa.sm fun q j h1 h2 => by show q ≠ A_dOrd; simp only [aP, A_dOrd] at *; omega
def sumR (n1 : Nat) (u1 u2 : Nat → Nat) (b : Bool) (x y : Nat) : Bool := if x < n1 then (if y < n1 then le u1 x y else b) else if y < n1 then false else le u2 (x - n1) (y - n1)
section SUMR
variable {n1 n2 x y : Nat} {u1 u2 : Nat → Nat} {b : Bool}
theorem sumR_1 (hx : x < n1) (hy : y < n1) : sumR n1 u1 u2 b x y = le u1 x y := by unfold sumR; rw [if_pos hx, if_pos hy]
theorem sumR_2 (hx : x < n1) (hy : ¬ y < n1) : sumR n1 u1 u2 b x y = b := by unfold sumR; rw [if_pos hx, if_neg hy]
theorem sumR_3 (hx : ¬ x < n1) (hy : y < n1) : sumR n1 u1 u2 b x y = false := by unfold sumR; rw [if_neg hx, if_pos hy]
theorem sumR_4 (hx : ¬ x < n1) (hy : ¬ y < n1) : sumR n1 u1 u2 b x y = le u2 (x - n1) (y - n1) := by unfold sumR; rw [if_neg hx, if_neg hy]
theorem sum_wf (w1 : wfP n1 u1) (w2 : wfP n2 u2) (h6 : n1 + n2 ≤ 6) : wfP (n1 + n2) (upB (n1 + n2) (sumR n1 u1 u2 b)) := by
  have k1 := w1.1.1
  refine upB_wf (by omega) h6 (fun x hx => ?_) (fun x y z hx hy hz p q => ?_) (fun x y hx hy p q => ?_)
  · by_cases hx1 : x < n1
    · rw [sumR_1 hx1 hx1]; exact w1.2.2.1 x hx1
    · rw [sumR_4 hx1 hx1]; exact w2.2.2.1 _ (by omega)
  · by_cases hx1 : x < n1
    · by_cases hz1 : z < n1
      · by_cases hy1 : y < n1
        · rw [sumR_1 hx1 hy1] at p; rw [sumR_1 hy1 hz1] at q; rw [sumR_1 hx1 hz1]
          exact w1.2.2.2.1 x y z hx1 hy1 hz1 p q
        · rw [sumR_3 hy1 hz1] at q; cases q
      · rw [sumR_2 hx1 hz1]
        by_cases hy1 : y < n1
        · rw [sumR_2 hy1 hz1] at q; exact q
        · rw [sumR_2 hx1 hy1] at p; exact p
    · have hy1 : ¬ y < n1 := fun c => by rw [sumR_3 hx1 c] at p; cases p
      have hz1 : ¬ z < n1 := fun c => by rw [sumR_3 hy1 c] at q; cases q
      rw [sumR_4 hx1 hy1] at p; rw [sumR_4 hy1 hz1] at q; rw [sumR_4 hx1 hz1]
      exact w2.2.2.2.1 _ _ _ (by omega) (by omega) (by omega) p q
  · by_cases hx1 : x < n1
    · by_cases hy1 : y < n1
      · rw [sumR_1 hx1 hy1] at p; rw [sumR_1 hy1 hx1] at q
        exact w1.2.2.2.2 x y hx1 hy1 p q
      · rw [sumR_3 hy1 hx1] at q; cases q
    · have hy1 : ¬ y < n1 := fun c => by rw [sumR_3 hx1 c] at p; cases p
      rw [sumR_4 hx1 hy1] at p; rw [sumR_4 hy1 hx1] at q
      have := w2.2.2.2.2 _ _ (by omega) (by omega) p q
      omega
theorem shl64 {w : Nat} (hw : w < 2 ^ n2) (h6 : n1 + n2 ≤ 6) : w * 2 ^ n1 < 64 := by
  have h1 : w * 2 ^ n1 < 2 ^ n2 * 2 ^ n1 := (Nat.mul_lt_mul_right (p2_pos n1)).mpr hw
  rw [← Nat.pow_add] at h1
  exact Nat.lt_of_lt_of_le h1 (p2_le (by omega))
def lkS (n1 n2 : Nat) (b : Bool) : Nat := bif b then (2 ^ n2 - 1) * 2 ^ n1 else 0
theorem lkS_64 (h6 : n1 + n2 ≤ 6) : lkS n1 n2 b < 64 := by
  unfold lkS
  cases b
  · show 0 < 64; decide
  · exact shl64 (n2 := n2) (by have := p2_pos n2; omega) h6
theorem sum_lo (w1 : wfP n1 u1) (h6 : n1 + n2 ≤ 6) (hx : x < n1) : u1 x ||| lkS n1 n2 b = upB (n1 + n2) (sumR n1 u1 u2 b) x := by
  refine upB_eq h6 (or64 (w1.u64 hx) (lkS_64 h6)) fun y _ => ?_
  rw [Nat.testBit_or]
  by_cases hy1 : y < n1
  · have e : (lkS n1 n2 b).testBit y = false := by
      unfold lkS
      cases b
      · exact Nat.zero_testBit y
      · rw [cond_true, Nat.testBit_mul_two_pow, decide_eq_false (by omega)]; rfl
    rw [e, sumR_1 hx hy1, decide_eq_true (by omega), Bool.true_and, Bool.or_false]
    rfl
  · have e : (u1 x).testBit y = false := by
      cases hb : (u1 x).testBit y
      · rfl
      · exact absurd (tb_lt (w1.2.1 x hx) hb) hy1
    rw [e, sumR_2 hx hy1, Bool.false_or]
    unfold lkS
    cases b
    · rw [cond_false, Nat.zero_testBit, Bool.and_false]
    · rw [cond_true, Nat.testBit_mul_two_pow, Nat.testBit_two_pow_sub_one, decide_eq_true (by omega), Bool.true_and, Bool.and_true]
      by_cases c : y < n1 + n2
      · rw [decide_eq_true c, decide_eq_true (by omega)]
      · rw [decide_eq_false c, decide_eq_false (by omega)]
theorem sum_hi (w2 : wfP n2 u2) (h6 : n1 + n2 ≤ 6) (hx : x < n2) : u2 x * 2 ^ n1 = upB (n1 + n2) (sumR n1 u1 u2 b) (n1 + x) := by
  refine upB_eq h6 (shl64 (w2.2.1 x hx) h6) fun y _ => ?_
  rw [Nat.testBit_mul_two_pow]
  by_cases hy1 : y < n1
  · rw [sumR_3 (by omega) hy1, decide_eq_false (by omega), Bool.and_false, Bool.false_and]
  · rw [sumR_4 (by omega) hy1, decide_eq_true (by omega), Bool.true_and, Nat.add_sub_cancel_left]
    cases hb : (u2 x).testBit (y - n1)
    · rw [show le u2 x (y - n1) = false from hb, Bool.and_false]
    · have := tb_lt (w2.2.1 x hx) hb
      rw [show le u2 x (y - n1) = true from hb, decide_eq_true (by omega)]
      rfl
end SUMR
def oSum (S : St) (a b k t : Int32) : Int32 × St := match ix a 4, ix b 4, ix t 4 with
  | some i, some j, some l => (match rg k 0 1 with
    | none => (kE2, S)
    | some c => if (sP S i).1 + (sP S j).1 ≤ 6 then (nI ((sP S i).1 + (sP S j).1), setP S l ((sP S i).1 + (sP S j).1, upB ((sP S i).1 + (sP S j).1) (sumR (sP S i).1 (sP S i).2.1 (sP S j).2.1 (c == 1)), fun _ => 0)) else (kE5, S))
  | _, _, _ => (m1, S)
section OSUM
variable {S : St} {a b k t : Int32}
theorem oSum_a (e : ix a 4 = none) : oSum S a b k t = (m1, S) := by unfold oSum; rw [e]
theorem oSum_b (e : ix b 4 = none) : oSum S a b k t = (m1, S) := by unfold oSum; rw [e]; cases ix a 4 <;> rfl
theorem oSum_t (e : ix t 4 = none) : oSum S a b k t = (m1, S) := by unfold oSum; rw [e]; cases ix a 4 <;> cases ix b 4 <;> rfl
theorem oSum_k {i j l : Nat} (e1 : ix a 4 = some i) (e2 : ix b 4 = some j) (e3 : ix t 4 = some l) (e : rg k 0 1 = none) : oSum S a b k t = (kE2, S) := by unfold oSum; rw [e1, e2, e3, e]
theorem oSum_s {i j l c : Nat} (e1 : ix a 4 = some i) (e2 : ix b 4 = some j) (e3 : ix t 4 = some l) (e : rg k 0 1 = some c) : oSum S a b k t = if (sP S i).1 + (sP S j).1 ≤ 6 then (nI ((sP S i).1 + (sP S j).1), setP S l ((sP S i).1 + (sP S j).1, upB ((sP S i).1 + (sP S j).1) (sumR (sP S i).1 (sP S i).2.1 (sP S j).2.1 (c == 1)), fun _ => 0)) else (kE5, S) := by unfold oSum; rw [e1, e2, e3, e]
theorem WS.sum (W : WS S) : WS (oSum S a b k t).2 := by
  cases e1 : ix a 4 with
  | none => rw [oSum_a e1]; exact W
  | some i =>
    cases e2 : ix b 4 with
    | none => rw [oSum_b e2]; exact W
    | some j =>
      cases e3 : ix t 4 with
      | none => rw [oSum_t e3]; exact W
      | some l =>
        cases e : rg k 0 1 with
        | none => rw [oSum_k e1 e2 e3 e]; exact W
        | some c =>
          rw [oSum_s e1 e2 e3 e]
          by_cases hc : (sP S i).1 + (sP S j).1 ≤ 6
          · rw [if_pos hc]; exact W.atP (wPT.z (sum_wf (W.1 i (ix_some e1).1).1 (W.1 j (ix_some e2).1).1 hc))
          · rw [if_neg hc]; exact W
variable {d g : Nat} {h : AH} {K : Int32 → AH → Prop}
theorem C_sumL {i j l : Nat} {bb : Bool} (W : WS S) (I : InvC h S) (hi : i < 4) (hj : j < 4) (hl : l < 4) (h6 : (sP S i).1 + (sP S j).1 ≤ 6) (hK : ∀ h1, doneC (setP S l ((sP S i).1 + (sP S j).1, upB ((sP S i).1 + (sP S j).1) (sumR (sP S i).1 (sP S i).2.1 (sP S j).2.1 bb), fun _ => 0)) h h1 → K (nI ((sP S i).1 + (sP S j).1)) h1) : Ev (d + 5) g g m_C_sum 99 [.ref A_x, unk, unk, unk, unk, .ref (aP i), .ref (aP j), .ref (aP l), .int (nI ((sP S i).1 + (sP S j).1)), .int (nI (lkS (sP S i).1 (sP S j).1 bb)), .int (nI 0)] [] h (asI K) := by
  have w1 := (W.1 i hi).1
  have w2 := (W.1 j hj).1
  have fi := (I.1.ps i hi).2
  have fj := (I.1.ps j hj).2
  have fl := (I.1.ps l hl).2
  refine for_up (σ := AH) (fun x hh => Ev (d + 5) g g m_C_sum 99 [.ref A_x, unk, unk, unk, unk, .ref (aP i), .ref (aP j), .ref (aP l), .int (nI ((sP S i).1 + (sP S j).1)), .int (nI (lkS (sP S i).1 (sP S j).1 bb)), .int (nI x)] [] hh (asI K)) (fun x hh => Ext h hh ∧ same (fun q => q ≠ A_dOrd) h hh ∧ ∀ y, y < x → mi hh A_dOrd y = nI (upB ((sP S i).1 + (sP S j).1) (sumR (sP S i).1 (sP S i).2.1 (sP S j).2.1 bb) y)) (sP S i).1 (fun hh hI => ?_) (fun x hh hx hI ih => ?_) 0 h (Nat.zero_le _) ⟨Ext.rfl', same.rf, fun y hy => by omega⟩
  · obtain ⟨e, sa, hr⟩ := hI
    refine w_C_sum_99 (I.1.ext e) (fi.ext e) (fj.ext e) (fl.ext e) (br_le _ _ ((I.2.1 i hi).kd sa).1.1 rfl (fun _ => ?_) (fun z => by omega))
    refine for_up (σ := AH) (fun x hh => Ev (d + 5) g g m_C_sum 136 [.ref A_x, unk, unk, unk, unk, .ref (aP i), .ref (aP j), .ref (aP l), .int (nI ((sP S i).1 + (sP S j).1)), unk, .int (nI x)] [] hh (asI K)) (fun x hh => Ext h hh ∧ same (fun q => q ≠ A_dOrd) h hh ∧ ∀ y, y < (sP S i).1 + x → mi hh A_dOrd y = nI (upB ((sP S i).1 + (sP S j).1) (sumR (sP S i).1 (sP S i).2.1 (sP S j).2.1 bb) y)) (sP S j).1 (fun hh hI => ?_) (fun x hh hx hI ih => ?_) 0 hh (Nat.zero_le _) ⟨e, sa, fun y hy => hr y (by omega)⟩
    · obtain ⟨e, sa, hr⟩ := hI
      refine w_C_sum_136 (I.1.ext e) (fi.ext e) (fj.ext e) (fl.ext e) (br_le _ _ ((I.2.1 j hj).kd sa).1.1 rfl (fun _ => ?_) (fun z => by omega))
      exact S_rep hl I e sa (sum_wf w1 w2 h6) hr fun h1 dn => hK h1 dn
    · obtain ⟨e, sa, hr⟩ := hI
      have P1 := ((I.2.1 i hi).kd sa).1
      have P2 := ((I.2.1 j hj).kd sa).1
      refine w_C_sum_136 (I.1.ext e) (fi.ext e) (fj.ext e) (fl.ext e) (br_le _ x P2.1 rfl (fun z => by omega) (fun _ => ?_))
      rw [P1.1, nI_add _ x, nI_add x 1, nI_clamp (n := x) (by omega), nI_clamp (n := (sP S i).1 + x) (by omega), P2.2 x hx, nm_shl _ (w2.u64 hx) _ (by omega), sum_hi (b := bb) (u1 := (sP S i).2.1) w2 h6 hx]
      refine ⟨vp_in_nI (by omega) (by decide), vp_in_nI (by omega) (by decide), ih _ ⟨e.trans (ext_wi _ _ _ _), sa.wi (fun q => q rfl), fun y hy => ?_⟩⟩
      by_cases ey : y = (sP S i).1 + x
      · subst ey; exact mi_eq
      · rw [mi_nj ey]; exact hr y (by omega)
  · obtain ⟨e, sa, hr⟩ := hI
    have P1 := ((I.2.1 i hi).kd sa).1
    refine w_C_sum_99 (I.1.ext e) (fi.ext e) (fj.ext e) (fl.ext e) (br_le _ x P1.1 rfl (fun z => by omega) (fun _ => ?_))
    rw [nI_add x 1, nI_clamp (n := x) (by omega), P1.2 x hx, nm_or _ (w1.u64 hx) _ (lkS_64 h6), sum_lo (u2 := (sP S j).2.1) w1 h6 hx]
    refine ⟨vp_in_nI (by omega) (by decide), vp_in_nI (by omega) (by decide), ih _ ⟨e.trans (ext_wi _ _ _ _), sa.wi (fun q => q rfl), fun y hy => ?_⟩⟩
    by_cases ey : y = x
    · subst ey; exact mi_eq
    · rw [mi_nj ey]; exact hr y (by omega)
theorem C_sum (W : WS S) (I : InvC h S) (hK : ∀ h1, doneC (oSum S a b k t).2 h h1 → K (oSum S a b k t).1 h1) : Ev (d + 5) g g m_C_sum 0 [.ref A_x, .int a, .int b, .int k, .int t] [] h (asI K) := by
  have bad : oSum S a b k t = (m1, S) → K m1 h := fun e => by rw [e] at hK; exact hK h (doneC.rf I)
  refine w_C_sum_0 I.1 (S_posetAt I.1 (fun e => ?_) (fun i hi _ fi e1 => ⟨fi, ?_⟩))
  · have kk := bad (oSum_a e)
    exact S_posetAt I.1 (fun _ => S_posetAt I.1 (fun _ => kk) (fun l _ _ fp _ => ⟨fp, kk⟩)) (fun j _ _ fj _ => ⟨fj, S_posetAt I.1 (fun _ => kk) (fun l _ _ fp _ => ⟨fp, kk⟩)⟩)
  refine S_posetAt I.1 (fun e => ?_) (fun j hj _ fj e2 => ⟨fj, ?_⟩)
  · have kk := bad (oSum_b e)
    exact S_posetAt I.1 (fun _ => kk) (fun l _ _ fp _ => ⟨fp, kk⟩)
  refine S_posetAt I.1 (fun e => bad (oSum_t e)) (fun l hl _ fl e3 => ⟨fl, ?_⟩)
  refine br_rg (lo := 0) (hi := 1) (fun e => ?_) (fun c e => ?_)
  · rw [oSum_k e1 e2 e3 e] at hK; exact hK h (doneC.rf I)
  rw [oSum_s e1 e2 e3 e] at hK
  obtain ⟨c0, c1, rfl⟩ := rg_some e
  have w1 := (W.1 i hi).1
  have w2 := (W.1 j hj).1
  have n1 := w1.1.2
  have n2 := w2.1.2
  rw [(I.2.1 i hi).1.1, (I.2.1 j hj).1.1, nI_add]
  refine br_le ((sP S i).1 + (sP S j).1) 6 rfl rfl (fun hc => ?_) (fun hc => ?_)
  · rw [if_pos hc] at hK
    refine br_ne c 1 rfl rfl (fun z => ?_) (fun z => ?_)
    · subst z
      refine S_allPoints fj (I.2.1 j hj).1.1 n2 fun _ => ?_
      rw [(I.2.1 i hi).1.1, nm_shl _ (by have := p2_le n2; have := p2_pos (sP S j).1; omega) _ (by omega)]
      exact C_sumL (bb := true) W I hi hj hl hc hK
    · have c2 : c = 0 := by omega
      subst c2
      exact C_sumL (bb := false) W I hi hj hl hc hK
  · rw [if_neg (by omega)] at hK
    exact hK h (doneC.rf I)
theorem M_sumL {i j l c : Nat} {hh : AH} (W : WS S) (I : InvM h S) (hi : i < 4) (hj : j < 4) (hl : l < 4) (hc : c ≤ 1) (h6 : (sP S i).1 + (sP S j).1 ≤ 6) (e0 : Ext h hh) (s0 : sm PD h hh) (h4 : mi hh M_size 4 = nI ((sP S i).1 + (sP S j).1)) (hK : ∀ h1, doneM (setP S l ((sP S i).1 + (sP S j).1, upB ((sP S i).1 + (sP S j).1) (sumR (sP S i).1 (sP S i).2.1 (sP S j).2.1 (c == 1)), fun _ => 0)) h h1 → K (nI ((sP S i).1 + (sP S j).1)) h1) : Ev (d + 2) g g m_M_sum 90 [.ref A_M, .int (nI i), .int (nI j), .int (nI c), .int (nI l), .int (nI (sP S i).1), .int (nI (lkS (sP S i).1 (sP S j).1 true)), .int (nI 0)] [] hh (asI K) := by
  have w1 := (W.1 i hi).1
  have w2 := (W.1 j hj).1
  refine for_up (σ := AH) (fun x hh => Ev (d + 2) g g m_M_sum 90 [.ref A_M, .int (nI i), .int (nI j), .int (nI c), .int (nI l), .int (nI (sP S i).1), .int (nI (lkS (sP S i).1 (sP S j).1 true)), .int (nI x)] [] hh (asI K)) (fun x hh => Ext h hh ∧ sm PD h hh ∧ mi hh M_size 4 = nI ((sP S i).1 + (sP S j).1) ∧ ∀ y, y < x → mi hh M_up (24 + ((sP S i).1 + y)) = nI (upB ((sP S i).1 + (sP S j).1) (sumR (sP S i).1 (sP S i).2.1 (sP S j).2.1 (c == 1)) ((sP S i).1 + y))) (sP S j).1 (fun hh hI => ?_) (fun x hh hx hI ih => ?_) 0 hh (Nat.zero_le _) ⟨e0, s0, h4, fun y hy => by omega⟩
  · obtain ⟨e, sa, h4, hr⟩ := hI
    have o2 := ((I.kD W e sa).2.1 j hj).1
    refine w_M_sum_90 (I.1.ext e) ⟨vp_in_nI (by omega) (by decide), ?_⟩
    rw [nI_clamp (n := j) (by omega), o2.1]
    refine br_le _ _ rfl rfl (fun _ => ?_) (fun z => by omega)
    refine for_up (σ := AH) (fun x hh => Ev (d + 2) g g m_M_sum 138 [.ref A_M, .int (nI i), unk, .int (nI c), .int (nI l), .int (nI (sP S i).1), .int (nI (lkS (sP S i).1 (sP S j).1 true)), .int (nI x)] [] hh (asI K)) (fun x hh => Ext h hh ∧ sm PD h hh ∧ mi hh M_size 4 = nI ((sP S i).1 + (sP S j).1) ∧ (∀ y, y < (sP S j).1 → mi hh M_up (24 + ((sP S i).1 + y)) = nI (upB ((sP S i).1 + (sP S j).1) (sumR (sP S i).1 (sP S i).2.1 (sP S j).2.1 (c == 1)) ((sP S i).1 + y))) ∧ ∀ y, y < x → mi hh M_up (24 + y) = nI (upB ((sP S i).1 + (sP S j).1) (sumR (sP S i).1 (sP S i).2.1 (sP S j).2.1 (c == 1)) y)) (sP S i).1 (fun hh hI => ?_) (fun x hh hx hI ih => ?_) 0 hh (Nat.zero_le _) ⟨e, sa, h4, hr, fun y hy => by omega⟩
    · obtain ⟨e, sa, h4, hr, hr2⟩ := hI
      refine w_M_sum_138 (I.1.ext e) (br_le _ _ rfl rfl (fun _ => ?_) (fun z => by omega))
      refine S_set W hl I e sa (sum_wf (b := c == 1) w1 w2 h6) h4 (fun x hx => ?_) fun h1 dn hm => ⟨vp_in_nI (by omega) (by decide), ?_⟩
      · by_cases hx1 : x < (sP S i).1
        · exact hr2 x hx1
        · have ex : x = (sP S i).1 + (x - (sP S i).1) := by omega
          rw [ex]
          exact hr _ (by omega)
      · rw [nI_clamp (n := l) (by omega), hm]
        exact hK h1 dn
    · obtain ⟨e, sa, h4, hr, hr2⟩ := hI
      have o1 := ((I.kD W e sa).2.1 i hi).1
      refine w_M_sum_138 (I.1.ext e) (br_le _ x rfl rfl (fun z => by omega) (fun _ => ?_))
      have go : ∀ v : Int32, v = nI (upB ((sP S i).1 + (sP S j).1) (sumR (sP S i).1 (sP S i).2.1 (sP S j).2.1 (c == 1)) x) → Ev (d + 2) g g m_M_sum 138 [.ref A_M, .int (nI i), unk, .int (nI c), .int (nI l), .int (nI (sP S i).1), .int (nI (lkS (sP S i).1 (sP S j).1 true)), .int (nI (x + 1))] [] (wi hh M_up (24 + x) v) (asI K) := fun v hv => by
        refine ih _ ⟨e.trans (ext_wi _ _ _ _), sa.wi (fun q => q.2.2 ⟨rfl, by omega⟩), by rw [mi_ne (by decide)]; exact h4, fun y hy => ?_, fun y hy => ?_⟩
        · rw [mi_nj (fun (q : 24 + ((sP S i).1 + y) = 24 + x) => by omega)]; exact hr y hy
        · by_cases ey : y = x
          · subst ey; rw [mi_eq, hv]
          · rw [mi_nj (fun (q : 24 + y = 24 + x) => ey (by omega))]; exact hr2 y (by omega)
      rw [nI_ix, nI_add x 1, nI_add 24 x, nI_clamp (n := 6 * i + x) (by omega), nI_clamp (n := 24 + x) (by omega), o1.2 x hx]
      refine ⟨vp_in_nI (by omega) (by decide), br_ne c 1 rfl rfl (fun z => ⟨vp_in_nI (by omega) (by decide), go _ ?_⟩) (fun z => ⟨vp_in_nI (by omega) (by decide), go _ ?_⟩)⟩
      · subst z
        rw [nm_or _ (w1.u64 hx) _ (lkS_64 h6)]
        exact congrArg nI (sum_lo (u2 := (sP S j).2.1) (b := true) w1 h6 hx)
      · have c2 : c = 0 := by omega
        subst c2
        rw [nm_or _ (w1.u64 hx) 0 (by decide)]
        exact congrArg nI (sum_lo (u2 := (sP S j).2.1) (b := false) w1 h6 hx)
  · obtain ⟨e, sa, h4, hr⟩ := hI
    have o2 := ((I.kD W e sa).2.1 j hj).1
    refine w_M_sum_90 (I.1.ext e) ⟨vp_in_nI (by omega) (by decide), ?_⟩
    rw [nI_clamp (n := j) (by omega), o2.1]
    refine br_le _ x rfl rfl (fun z => by omega) (fun _ => ?_)
    rw [nI_ix, nI_add x 1, nI_add 24 _, nI_add _ x, nI_clamp (n := 6 * j + x) (by omega), nI_clamp (n := 24 + (sP S i).1 + x) (by omega), o2.2 x hx, nm_shl _ (w2.u64 hx) _ (by omega), sum_hi (b := c == 1) (u1 := (sP S i).2.1) w2 h6 hx, Nat.add_assoc]
    refine ⟨vp_in_nI (by omega) (by decide), vp_in_nI (by omega) (by decide), ih _ ⟨e.trans (ext_wi _ _ _ _), sa.wi (fun q => q.2.2 ⟨rfl, by omega⟩), by rw [mi_ne (by decide)]; exact h4, fun y hy => ?_⟩⟩
    by_cases ey : y = x
    · subst ey; exact mi_eq
    · rw [mi_nj (fun (q : 24 + ((sP S i).1 + y) = 24 + ((sP S i).1 + x)) => ey (by omega))]; exact hr y (by omega)
theorem M_sum (W : WS S) (I : InvM h S) (hK : ∀ h1, doneM (oSum S a b k t).2 h h1 → K (oSum S a b k t).1 h1) : Ev (d + 2) g g m_M_sum 0 [.ref A_M, .int a, .int b, .int k, .int t] [] h (asI K) := by
  have bad : oSum S a b k t = (m1, S) → K m1 h := fun e => by rw [e] at hK; exact hK h (doneM.rf I)
  refine w_M_sum_0 I.1 (S_isP (fun e => bad (oSum_a e)) (fun i hi hv1 e1 => S_isP (fun e => bad (oSum_b e)) (fun j hj hv2 e2 => (S_isP (fun e => bad (oSum_t e)) (fun l hl hv3 e3 => ?_)).mI fun x h1 _ kk e => (kk e).symm)))
  subst hv1 hv2 hv3
  refine S_Mrg (lo := 0) (hi := 1) fun _ => br_nb (fun e => ?_) (fun e => ?_)
  · rw [oSum_k e1 e2 e3 (rS_none e)] at hK; exact hK h (doneM.rf I)
  obtain ⟨c, ec⟩ := Option.isSome_iff_exists.mp e
  rw [oSum_s e1 e2 e3 ec] at hK
  obtain ⟨c0, c1, rfl⟩ := rg_some ec
  have w1 := (W.1 i hi).1
  have w2 := (W.1 j hj).1
  have n1 := w1.1.2
  have n2 := w2.1.2
  have o1 := (I.2.1 i hi).1
  have o2 := (I.2.1 j hj).1
  rw [nI_clamp (n := i) (by omega), nI_clamp (n := j) (by omega), o1.1, o2.1, nI_add]
  refine ⟨vp_in_nI (by omega) (by decide), vp_in_nI (by omega) (by decide), br_le ((sP S i).1 + (sP S j).1) 6 rfl rfl (fun hc => ?_) (fun hc => ?_)⟩
  · rw [if_pos hc] at hK
    refine S_MallOf I.1 (by omega) o2.1 n2 fun _ => ?_
    rw [o2.1, nI_add, nI_clamp (n := 4) (by decide), nm_shl _ (by have := p2_le n2; have := p2_pos (sP S j).1; omega) _ (by omega)]
    refine ⟨vp_in_nI (by omega) (by decide), vp_in_nI (by decide) (by decide), ?_⟩
    exact M_sumL W I hi hj hl c1 hc (ext_wi _ _ _ _) (sm.rf.wi (fun q => q.2.1 ⟨rfl, rfl⟩)) mi_eq hK
  · rw [if_neg (by omega)] at hK
    exact hK h (doneM.rf I)
end OSUM
